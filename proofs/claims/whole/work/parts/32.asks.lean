theorem hd_yX8_side : hdY yX8_side 2 := by decide +kernel
def M_side (F : Nat) (row : MRow) (bx : Bx) (mo : Mo) (a1 : Int32) (a2 : Int32) : Option (Int32 × Th × Bx × Mo) := if M_isThere row a1 = 0 then (some ((-2147483648), 0, bx, mo)) else (if M_in a2.toInt64 10 (9 + ((M_n row).toInt64)) = 0 then (z_bd (M_goNow F row bx mo) (fun u3 : Bx × Mo => if a2 = 0 then (z_gd (z_in (4 + a1) 78) (some ((row (4 + a1).toNatClampNeg), 0, u3.1, u3.2))) else (if a2 = 1 then (z_gd (z_in (6 + a1) 78) (some ((row (6 + a1).toNatClampNeg), 0, u3.1, u3.2))) else (if a2 = 2 then (z_gd (z_in a1 2) (some (((mo_goals u3.2) a1.toNatClampNeg), 0, u3.1, u3.2))) else (if a2 = 3 then (z_gd (z_in a1 2) (some (((mo_kicked u3.2) a1.toNatClampNeg), 0, u3.1, u3.2))) else (some ((-2147483648), 0, u3.1, u3.2))))))) else (z_gd (z_in (((8 + (5 * a1)) + a2) - 10) 78) (some ((row (((8 + (5 * a1)) + a2) - 10).toNatClampNeg), 0, bx, mo))))
set_option maxHeartbeats 4000000 in
set_option maxRecDepth 100000 in
theorem ctX8_side (l : Launch) (D : va_G) (ac cs : Nat → Nat) (q : Nat → Nat) (sz : Nat) (th : Th) (row : MRow) (un : Un) (kp : Kp) (mt : Mt) (ps : Ps) (bx : Bx) (mo : Mo) (su : Su) (wy : Wy) (wa : Wa) (od : Od) (py : Py) (ju : Ju) (pl : Pl) (rs : Rs) (a1 : Int32) (a2 : Int32) (F : Nat) (res : Int32 × Th × Bx × Mo) (hf : M_side F row bx mo a1 a2 = some res) : Met l yX8_side (cWW yX8_side cX8_side 3 (some .int)) { frames := 4, cells := 0, slots := 0, locals := 86 } (zM D ac cs [.ref (q 0), .int a1, .int a2] (moW ac q th row un kp mt ps bx mo su wy wa od py ju pl rs) sz) (va_Qi (fun r (_ : Unit) => r = res.1) (fun _ => zB D (va_A (moW ac q th row un kp mt ps bx mo su wy wa od py ju pl rs) sz) (moW ac q res.2.1 row un kp mt ps res.2.2.1 res.2.2.2 su wy wa od py ju pl rs)) (va_A (moW ac q th row un kp mt ps bx mo su wy wa od py ju pl rs) sz)) 0 0 (va_A (moW ac q th row un kp mt ps bx mo su wy wa od py ju pl rs) sz) := by
  refine Met.ofW (cc := cX8_side) (maxL := 3) (ret := (some .int)) (by decide) rfl ?_
  intro p e s m args below meth c s₁ B hml hv
  obtain ⟨rfl, hsz, hP, hKX, hD0, hC⟩ := hv
  have hx := B.exec
  have hb := B.bytes
  have hr := B.returns
  have hts := atoms_spec (ws := cWW yX8_side cX8_side 3 (some .int)) B.pre
  have htw : ∀ w ∈ WW, w.before _ s = true := fun w h => hts w (List.mem_cons_of_mem _ h)
  have hown : s.vm.findClass RX8 = some m.cls := findClass_of_methodNamed B.named
  have hlocks := B.notSynchronized
  clear hts B
  subst hsz
  have hD := hD0.self (sz := s.heap.size)
  generalize hAe : va_A (moW ac q th row un kp mt ps bx mo su wy wa od py ju pl rs) s.heap.size = A at hD hC ⊢
  have hA : ∀ q : Nat, s.heap.size ≤ q → A q := fun q h => by rw [← hAe]; exact Or.inr h
  have hS : va_S A s.heap s.heap [] := va_S.rf
  clear hD0 hAe
  have hP : va_P D vwCl (moW ac q th row un kp mt ps bx mo su wy wa od py ju pl rs) s.heap := hP
  have hl := lv_entry ([.ref (q 0), .int a1, .int a2]) (n := 3) (Nat.le_of_ble_eq_true rfl)
  rw [lg_entry_eq]
  generalize (lg_sl ([.ref (q 0), .int a1, .int a2]) ++ List.replicate (3 - (lg_sl ([.ref (q 0), .int a1, .int a2])).length) Slot.unset).toArray = ls at hl ⊢
  have hl : lv_has ls 3 [(0, .ref (q 0)), (1, .int a1), (2, .int a2)] := hl
  unfold M_side at hf
  show W p l e ({ frames := 4, cells := 0, slots := 0, locals := 86 } : Room) s m _ below meth c s.heap [] 0 0 _ (F0 m 0 ls [])
  refine lv_aload_n hx hb dX8_side_0 rfl (lv_at hl 0 rfl) ?_
  refine lv_iconst (v := 0) hx hb dX8_side_1 rfl ?_
  refine va_put (D := D) (ci := 8) (v := .int 0) (ty := tyX8 0) (C := RX8) (T := TX8) (N := 41) hx hb htw WW_wsX80 tyX8 tyX8_ok nmX8 hown hKX.1 hP hD hS 0 rfl rfl 0 (Nat.le_of_ble_eq_true rfl) (htw _ mF_RX8_75) (fun _ h9 => h9) rfl (tyX8_ok 0 (Nat.le_of_ble_eq_true rfl)) rfl rfl (Nat.le_of_ble_eq_true rfl) dX8_side_2 (fun H locs hP hD hS => ?_)
  have hP : va_P D vwCl (moW ac q 0 row un kp mt ps bx mo su wy wa od py ju pl rs) H := hP
  have hD : va_D A (moW ac q 0 row un kp mt ps bx mo su wy wa od py ju pl rs) := hD
  refine lv_aload_n hx hb dX8_side_5 rfl (lv_at hl 0 rfl) ?_
  refine lv_iload_n hx hb dX8_side_6 rfl (lv_at hl 1 rfl) ?_
  refine zc_RVi (As := [.int a1]) (rest := []) hx hb hml hown htw (ctX8_isThere l D ac cs q 0 row un kp mt ps bx mo su wy wa od py ju pl rs a1   _ rfl) (g_V mM_RX8_294 mI_yX8_isThere mS_RX8_yX8_isThere_yX8_isThere mN_RX8 mC_yX8_isThere) rfl (hd_yX8_isThere) ⟨rfl, rfl⟩ ⟨(Nat.le_of_ble_eq_true rfl), (Nat.le_of_ble_eq_true rfl)⟩ hKX hC hS hP 8 rfl rfl rfl hl.1 rfl (Nat.le_of_ble_eq_true rfl) ⟨Nat.zero_le _, Nat.zero_le _⟩ dX8_side_7 ?_
  refine lv_if_ne (tgt := 17) hx hb dX8_side_10 (by decide) (fun c1 => ?_) (fun c1 => ?_)
  · have hf := z_n c1 hf
    refine lv_iload_n hx hb dX8_side_17 rfl (lv_at hl 2 rfl) ?_
    refine lv_i2l hx hb dX8_side_18 rfl ?_
    refine lv_ldc2 (v := 10) hx hb hown (htw _ mG_RX8_298) dX8_side_19 ?_
    refine lv_ldc2 (v := 9) hx hb hown (htw _ mG_RX8_300) dX8_side_22 ?_
    refine lv_aload_n hx hb dX8_side_25 rfl (lv_at hl 0 rfl) ?_
    refine zc_RVi (As := []) (rest := [.long 9, .long 10, .long a2.toInt64]) hx hb hml hown htw (ctX8_n l D ac cs q 0 row un kp mt ps bx mo su wy wa od py ju pl rs    _ rfl) (g_V mM_RX8_190 mI_yX8_n mS_RX8_yX8_n_yX8_n mN_RX8 mC_yX8_n) rfl (hd_yX8_n) ⟨rfl, rfl⟩ ⟨(Nat.le_of_ble_eq_true rfl), (Nat.le_of_ble_eq_true rfl)⟩ hKX hC hS hP 8 rfl rfl rfl hl.1 rfl (Nat.le_of_ble_eq_true rfl) ⟨Nat.zero_le _, Nat.zero_le _⟩ dX8_side_26 ?_
    refine lv_i2l hx hb dX8_side_29 rfl ?_
    refine lv_ladd hx hb dX8_side_30 ?_
    refine zc_RSi (As := [.long a2.toInt64, .long 10, .long (9 + ((M_n row).toInt64))]) (rest := []) hx hb hml hown htw (ctX8_in l D ac cs   a2.toInt64 10 (9 + ((M_n row).toInt64))   _ rfl) (g_S mM_RX8_79 mT_yX8_in mN_RX8 mC_yX8_in) (hd_yX8_in) ⟨rfl, rfl⟩ ⟨(Nat.le_of_ble_eq_true rfl), (Nat.le_of_ble_eq_true rfl)⟩ hKX hC hS zP0 rfl hl.1 rfl (Nat.le_of_ble_eq_true rfl) ⟨Nat.zero_le _, Nat.zero_le _⟩ dX8_side_31 ?_
    refine lv_if_eq (tgt := 54) hx hb dX8_side_34 (by decide) (fun c2 => ?_) (fun c2 => ?_)
    · have hf := z_p c2 hf
      refine lv_aload_n hx hb dX8_side_54 rfl (lv_at hl 0 rfl) ?_
      obtain ⟨u3, hu3, hf⟩ := z_bd_u hf
      refine zc_MVv (As := []) (rest := []) (wr := []) (wsc := moW ac q 0 row un kp mt ps bx mo su wy wa od py ju pl rs) (wsc' := moW ac q 0 row un kp mt ps u3.1 u3.2 su wy wa od py ju pl rs) hx hb hml hown htw (ctX8_goNow l D ac cs q H.size 0 row un kp mt ps bx mo su wy wa od py ju pl rs    F u3 hu3) (g_V mM_RX8_302 mI_yX8_goNow mS_RX8_yX8_goNow_yX8_goNow mN_RX8 mC_yX8_goNow) rfl (hd_yX8_goNow) ⟨rfl, rfl⟩ ⟨(Nat.le_of_ble_eq_true rfl), (Nat.le_of_ble_eq_true rfl)⟩ hKX hC hS hA hP hD [0, 1, 2, 3, 4, 5, 6, 7, 8, 9, 10, 11, 12, 13, 14, 15, 16, 17, 18, 19, 20] [] rfl (by decide) rfl (by decide) (by decide) 8 rfl rfl rfl hl.1 rfl (Nat.le_of_ble_eq_true rfl) ⟨Nat.zero_le _, Nat.zero_le _⟩ dX8_side_55 (fun H locs hP hD hS => ?_)
      have hP : va_P D vwCl (moW ac q 0 row un kp mt ps u3.1 u3.2 su wy wa od py ju pl rs) H := hP
      have hD : va_D A (moW ac q 0 row un kp mt ps u3.1 u3.2 su wy wa od py ju pl rs) := hD
      refine lv_iload_n hx hb dX8_side_58 rfl (lv_at hl 2 rfl) ?_
      by_cases c4 : a2 = 0
      · have hf := z_p c4 hf
        refine lv_tableIn (tgt := 88) hx hb dX8_side_59 (by rw [c4]; decide +kernel) (by rw [c4]; decide +kernel) (by rw [c4]; rfl) (by decide +kernel) ?_
        refine lv_aload_n hx hb dX8_side_88 rfl (lv_at hl 0 rfl) ?_
        refine va_get (D := D) (ci := 8) (v := .ref (q 1)) (C := RX8) (T := TX8) (N := 41) hx hb htw WW_wsX80 hown hKX.1 hP 0 rfl rfl 1 (Nat.le_of_ble_eq_true rfl) (htw _ mF_RX8_9) (fun _ h9 => h9) rfl dX8_side_89 ?_
        refine lv_iconst (v := 4) hx hb dX8_side_92 rfl ?_
        refine lv_iload_n hx hb dX8_side_93 rfl (lv_at hl 1 rfl) ?_
        refine lv_iadd hx hb dX8_side_94 ?_
        obtain ⟨g5, hf⟩ := z_gd_u hf
        refine va_iald hx hb hKX.1 hP 1 0 rfl rfl (z_in_u g5) dX8_side_95 ?_
        obtain rfl := Option.some.inj hf
        exact zr_Mi hx hb hr hlocks hP hD hS dX8_side_96
      have hf := z_n c4 hf
      by_cases c6 : a2 = 1
      · have hf := z_p c6 hf
        refine lv_tableIn (tgt := 97) hx hb dX8_side_59 (by rw [c6]; decide +kernel) (by rw [c6]; decide +kernel) (by rw [c6]; rfl) (by decide +kernel) ?_
        refine lv_aload_n hx hb dX8_side_97 rfl (lv_at hl 0 rfl) ?_
        refine va_get (D := D) (ci := 8) (v := .ref (q 1)) (C := RX8) (T := TX8) (N := 41) hx hb htw WW_wsX80 hown hKX.1 hP 0 rfl rfl 1 (Nat.le_of_ble_eq_true rfl) (htw _ mF_RX8_9) (fun _ h9 => h9) rfl dX8_side_98 ?_
        refine lv_bipush (v := 6) hx hb dX8_side_101 rfl ?_
        refine lv_iload_n hx hb dX8_side_103 rfl (lv_at hl 1 rfl) ?_
        refine lv_iadd hx hb dX8_side_104 ?_
        obtain ⟨g7, hf⟩ := z_gd_u hf
        refine va_iald hx hb hKX.1 hP 1 0 rfl rfl (z_in_u g7) dX8_side_105 ?_
        obtain rfl := Option.some.inj hf
        exact zr_Mi hx hb hr hlocks hP hD hS dX8_side_106
      have hf := z_n c6 hf
      by_cases c8 : a2 = 2
      · have hf := z_p c8 hf
        refine lv_tableIn (tgt := 107) hx hb dX8_side_59 (by rw [c8]; decide +kernel) (by rw [c8]; decide +kernel) (by rw [c8]; rfl) (by decide +kernel) ?_
        refine lv_aload_n hx hb dX8_side_107 rfl (lv_at hl 0 rfl) ?_
        refine va_get (D := D) (ci := 8) (v := .ref (q 9)) (C := RX8) (T := TX8) (N := 41) hx hb htw WW_wsX80 hown hKX.1 hP 0 rfl rfl 17 (Nat.le_of_ble_eq_true rfl) (htw _ mF_RX8_38) (fun _ h9 => h9) rfl dX8_side_108 ?_
        refine lv_iload_n hx hb dX8_side_111 rfl (lv_at hl 1 rfl) ?_
        obtain ⟨g9, hf⟩ := z_gd_u hf
        refine va_iald hx hb hKX.1 hP 9 0 rfl rfl (z_in_u g9) dX8_side_112 ?_
        obtain rfl := Option.some.inj hf
        exact zr_Mi hx hb hr hlocks hP hD hS dX8_side_113
      have hf := z_n c8 hf
      by_cases c10 : a2 = 3
      · have hf := z_p c10 hf
        refine lv_tableIn (tgt := 114) hx hb dX8_side_59 (by rw [c10]; decide +kernel) (by rw [c10]; decide +kernel) (by rw [c10]; rfl) (by decide +kernel) ?_
        refine lv_aload_n hx hb dX8_side_114 rfl (lv_at hl 0 rfl) ?_
        refine va_get (D := D) (ci := 8) (v := .ref (q 10)) (C := RX8) (T := TX8) (N := 41) hx hb htw WW_wsX80 hown hKX.1 hP 0 rfl rfl 18 (Nat.le_of_ble_eq_true rfl) (htw _ mF_RX8_41) (fun _ h9 => h9) rfl dX8_side_115 ?_
        refine lv_iload_n hx hb dX8_side_118 rfl (lv_at hl 1 rfl) ?_
        obtain ⟨g11, hf⟩ := z_gd_u hf
        refine va_iald hx hb hKX.1 hP 10 0 rfl rfl (z_in_u g11) dX8_side_119 ?_
        obtain rfl := Option.some.inj hf
        exact zr_Mi hx hb hr hlocks hP hD hS dX8_side_120
      have hf := z_n c10 hf
      refine lv_tableOut (tgt := 121) hx hb dX8_side_59 (z_tout0_3 c4 c6 c8 c10) (by decide +kernel) ?_
      refine lv_ldcw (v := (-2147483648)) hx hb hown (htw _ mG_RX8_297) dX8_side_121 ?_
      obtain rfl := Option.some.inj hf
      exact zr_Mi hx hb hr hlocks hP hD hS dX8_side_124
    · have hf := z_n c2 hf
      refine lv_aload_n hx hb dX8_side_37 rfl (lv_at hl 0 rfl) ?_
      refine va_get (D := D) (ci := 8) (v := .ref (q 1)) (C := RX8) (T := TX8) (N := 41) hx hb htw WW_wsX80 hown hKX.1 hP 0 rfl rfl 1 (Nat.le_of_ble_eq_true rfl) (htw _ mF_RX8_9) (fun _ h9 => h9) rfl dX8_side_38 ?_
      refine lv_bipush (v := 8) hx hb dX8_side_41 rfl ?_
      refine lv_iconst (v := 5) hx hb dX8_side_43 rfl ?_
      refine lv_iload_n hx hb dX8_side_44 rfl (lv_at hl 1 rfl) ?_
      refine lv_imul hx hb dX8_side_45 ?_
      refine lv_iadd hx hb dX8_side_46 ?_
      refine lv_iload_n hx hb dX8_side_47 rfl (lv_at hl 2 rfl) ?_
      refine lv_iadd hx hb dX8_side_48 ?_
      refine lv_bipush (v := 10) hx hb dX8_side_49 rfl ?_
      refine lv_isub hx hb dX8_side_51 ?_
      obtain ⟨g12, hf⟩ := z_gd_u hf
      refine va_iald hx hb hKX.1 hP 1 0 rfl rfl (z_in_u g12) dX8_side_52 ?_
      obtain rfl := Option.some.inj hf
      exact zr_Mi hx hb hr hlocks hP hD hS dX8_side_53
  · have hf := z_p c1 hf
    refine lv_ldcw (v := (-2147483648)) hx hb hown (htw _ mG_RX8_297) dX8_side_13 ?_
    obtain rfl := Option.some.inj hf
    exact zr_Mi hx hb hr hlocks hP hD hS dX8_side_16

theorem hd_yX8_make : hdY yX8_make 1 := by decide +kernel
def M_make (F : Nat) (row : MRow) (bx : Bx) (mo : Mo) (a1 : Int32) : Option (MRow × Mo) := z_gd (z_in (18 + (row 3)) 78) (z_let (((upd row (18 + (row 3)).toNatClampNeg a1) 3) + 1) (fun x2 : Int32 => z_bd (M_go F (upd (upd row (18 + (row 3)).toNatClampNeg a1) 3 x2) bx mo a1) (fun u3 : Mo => some ((upd (upd row (18 + (row 3)).toNatClampNeg a1) 3 x2), u3))))
set_option maxHeartbeats 4000000 in
set_option maxRecDepth 100000 in
theorem ctX8_make (l : Launch) (D : va_G) (ac cs : Nat → Nat) (q : Nat → Nat) (sz : Nat) (th : Th) (row : MRow) (un : Un) (kp : Kp) (mt : Mt) (ps : Ps) (bx : Bx) (mo : Mo) (su : Su) (wy : Wy) (wa : Wa) (od : Od) (py : Py) (ju : Ju) (pl : Pl) (rs : Rs) (a1 : Int32) (F : Nat) (res : MRow × Mo) (hf : M_make F row bx mo a1 = some res) : Met l yX8_make (cWW yX8_make cX8_make 2 none) { frames := 3, cells := 0, slots := 0, locals := 65 } (zM D ac cs [.ref (q 0), .int a1] (moW ac q th row un kp mt ps bx mo su wy wa od py ju pl rs) sz) (va_Qv (fun _ : Unit => True) (fun _ => zB D (va_A (moW ac q th row un kp mt ps bx mo su wy wa od py ju pl rs) sz) (moW ac q th res.1 un kp mt ps bx res.2 su wy wa od py ju pl rs)) (va_A (moW ac q th row un kp mt ps bx mo su wy wa od py ju pl rs) sz)) 0 0 (va_A (moW ac q th row un kp mt ps bx mo su wy wa od py ju pl rs) sz) := by
  refine Met.ofW (cc := cX8_make) (maxL := 2) (ret := none) (by decide) rfl ?_
  intro p e s m args below meth c s₁ B hml hv
  obtain ⟨rfl, hsz, hP, hKX, hD0, hC⟩ := hv
  have hx := B.exec
  have hb := B.bytes
  have hr := B.returns
  have hts := atoms_spec (ws := cWW yX8_make cX8_make 2 none) B.pre
  have htw : ∀ w ∈ WW, w.before _ s = true := fun w h => hts w (List.mem_cons_of_mem _ h)
  have hown : s.vm.findClass RX8 = some m.cls := findClass_of_methodNamed B.named
  have hlocks := B.notSynchronized
  clear hts B
  subst hsz
  have hD := hD0.self (sz := s.heap.size)
  generalize hAe : va_A (moW ac q th row un kp mt ps bx mo su wy wa od py ju pl rs) s.heap.size = A at hD hC ⊢
  have hA : ∀ q : Nat, s.heap.size ≤ q → A q := fun q h => by rw [← hAe]; exact Or.inr h
  have hS : va_S A s.heap s.heap [] := va_S.rf
  clear hD0 hAe
  have hP : va_P D vwCl (moW ac q th row un kp mt ps bx mo su wy wa od py ju pl rs) s.heap := hP
  have hl := lv_entry ([.ref (q 0), .int a1]) (n := 2) (Nat.le_of_ble_eq_true rfl)
  rw [lg_entry_eq]
  generalize (lg_sl ([.ref (q 0), .int a1]) ++ List.replicate (2 - (lg_sl ([.ref (q 0), .int a1])).length) Slot.unset).toArray = ls at hl ⊢
  have hl : lv_has ls 2 [(0, .ref (q 0)), (1, .int a1)] := hl
  unfold M_make at hf
  show W p l e ({ frames := 3, cells := 0, slots := 0, locals := 65 } : Room) s m _ below meth c s.heap [] 0 0 _ (F0 m 0 ls [])
  refine lv_aload_n hx hb dX8_make_0 rfl (lv_at hl 0 rfl) ?_
  refine va_get (D := D) (ci := 8) (v := .ref (q 1)) (C := RX8) (T := TX8) (N := 41) hx hb htw WW_wsX80 hown hKX.1 hP 0 rfl rfl 1 (Nat.le_of_ble_eq_true rfl) (htw _ mF_RX8_9) (fun _ h9 => h9) rfl dX8_make_1 ?_
  refine lv_bipush (v := 18) hx hb dX8_make_4 rfl ?_
  refine lv_aload_n hx hb dX8_make_6 rfl (lv_at hl 0 rfl) ?_
  refine va_get (D := D) (ci := 8) (v := .ref (q 1)) (C := RX8) (T := TX8) (N := 41) hx hb htw WW_wsX80 hown hKX.1 hP 0 rfl rfl 1 (Nat.le_of_ble_eq_true rfl) (htw _ mF_RX8_9) (fun _ h9 => h9) rfl dX8_make_7 ?_
  refine lv_iconst (v := 3) hx hb dX8_make_10 rfl ?_
  refine zv_iald_k hx hb hKX.1 hP 1 0 rfl rfl 3 rfl (z_in_u (by decide +kernel)) dX8_make_11 ?_
  refine lv_iadd hx hb dX8_make_12 ?_
  refine lv_iload_n hx hb dX8_make_13 rfl (lv_at hl 1 rfl) ?_
  obtain ⟨g1, hf⟩ := z_gd_u hf
  refine va_iast hx hb hKX.1 hP hD hS 1 0 rfl rfl (z_in_u g1) dX8_make_14 (fun H locs hP hD hS => ?_)
  have hP : va_P D vwCl (moW ac q th (upd row (18 + (row 3)).toNatClampNeg a1) un kp mt ps bx mo su wy wa od py ju pl rs) H := hP
  have hD : va_D A (moW ac q th (upd row (18 + (row 3)).toNatClampNeg a1) un kp mt ps bx mo su wy wa od py ju pl rs) := hD
  refine lv_aload_n hx hb dX8_make_15 rfl (lv_at hl 0 rfl) ?_
  refine va_get (D := D) (ci := 8) (v := .ref (q 1)) (C := RX8) (T := TX8) (N := 41) hx hb htw WW_wsX80 hown hKX.1 hP 0 rfl rfl 1 (Nat.le_of_ble_eq_true rfl) (htw _ mF_RX8_9) (fun _ h9 => h9) rfl dX8_make_16 ?_
  refine lv_iconst (v := 3) hx hb dX8_make_19 rfl ?_
  refine lv_dup2_11 hx hb dX8_make_20 rfl rfl ?_
  refine zv_iald_k hx hb hKX.1 hP 1 0 rfl rfl 3 rfl (z_in_u (by decide +kernel)) dX8_make_21 ?_
  refine lv_iconst (v := 1) hx hb dX8_make_22 rfl ?_
  refine lv_iadd hx hb dX8_make_23 ?_
  refine lv_topi (fun x2 hx2 => ?_)
  have hf := z_let_u hx2 hf
  refine zv_iast_k hx hb hKX.1 hP hD hS 1 0 rfl rfl 3 rfl (z_in_u (by decide +kernel)) dX8_make_24 (fun H locs hP hD hS => ?_)
  have hP : va_P D vwCl (moW ac q th (upd (upd row (18 + (row 3)).toNatClampNeg a1) 3 x2) un kp mt ps bx mo su wy wa od py ju pl rs) H := hP
  have hD : va_D A (moW ac q th (upd (upd row (18 + (row 3)).toNatClampNeg a1) 3 x2) un kp mt ps bx mo su wy wa od py ju pl rs) := hD
  refine lv_aload_n hx hb dX8_make_25 rfl (lv_at hl 0 rfl) ?_
  refine lv_iload_n hx hb dX8_make_26 rfl (lv_at hl 1 rfl) ?_
  obtain ⟨u3, hu3, hf⟩ := z_bd_u hf
  refine zc_MVv (As := [.int a1]) (rest := []) (wr := []) (wsc := moW ac q th (upd (upd row (18 + (row 3)).toNatClampNeg a1) 3 x2) un kp mt ps bx mo su wy wa od py ju pl rs) (wsc' := moW ac q th (upd (upd row (18 + (row 3)).toNatClampNeg a1) 3 x2) un kp mt ps bx u3 su wy wa od py ju pl rs) hx hb hml hown htw (ctX8_go l D ac cs q H.size th (upd (upd row (18 + (row 3)).toNatClampNeg a1) 3 x2) un kp mt ps bx mo su wy wa od py ju pl rs a1   F u3 hu3) (g_V mM_RX8_214 mI_yX8_go mS_RX8_yX8_go_yX8_go mN_RX8 mC_yX8_go) rfl (hd_yX8_go) ⟨rfl, rfl⟩ ⟨(Nat.le_of_ble_eq_true rfl), (Nat.le_of_ble_eq_true rfl)⟩ hKX hC hS hA hP hD [0, 1, 2, 3, 4, 5, 6, 7, 8, 9, 10, 11, 12, 13, 14, 15, 16, 17, 18, 19, 20] [] rfl (by decide) rfl (by decide) (by decide) 8 rfl rfl rfl hl.1 rfl (Nat.le_of_ble_eq_true rfl) ⟨Nat.zero_le _, Nat.zero_le _⟩ dX8_make_27 (fun H locs hP hD hS => ?_)
  have hP : va_P D vwCl (moW ac q th (upd (upd row (18 + (row 3)).toNatClampNeg a1) 3 x2) un kp mt ps bx u3 su wy wa od py ju pl rs) H := hP
  have hD : va_D A (moW ac q th (upd (upd row (18 + (row 3)).toNatClampNeg a1) 3 x2) un kp mt ps bx u3 su wy wa od py ju pl rs) := hD
  obtain rfl := Option.some.inj hf
  exact zr_Mv hx hb hr hlocks hP hD hS dX8_make_30

theorem hd_yX8_kick : hdY yX8_kick 1 := by decide +kernel
def M_kick (F : Nat) (row : MRow) (un : Un) (bx : Bx) (mo : Mo) (a1 : Int32) : Option (Int32 × Th × MRow × Un × Bx × Mo) := if M_isTold row = 0 then (some ((-2), 0, row, un, bx, mo)) else (z_bd (M_goNow F row bx mo) (fun u2 : Bx × Mo => if (mo_isOver u2.2) = 0 then (if (mo_kicks u2.2) = 60 then (some ((-3), 0, row, un, u2.1, u2.2)) else (z_bd (M_remember F row un) (fun u5 : Un => z_let (M_turnNow u2.2) (fun x6 : Int32 => z_let (if a1 = 0 then 0 else 1) (fun v7 : Int32 => z_bd (M_make F row u2.1 u2.2 v7) (fun u11 : MRow × Mo => z_gd (z_in x6 2) (some (((mo_goals u11.2) x6.toNatClampNeg), 0, u11.1, u5, u2.1, u11.2)))))))) else (some ((-3), 0, row, un, u2.1, u2.2))))
set_option maxHeartbeats 4000000 in
set_option maxRecDepth 100000 in
theorem ctX8_kick (l : Launch) (D : va_G) (ac cs : Nat → Nat) (q : Nat → Nat) (sz : Nat) (th : Th) (row : MRow) (un : Un) (kp : Kp) (mt : Mt) (ps : Ps) (bx : Bx) (mo : Mo) (su : Su) (wy : Wy) (wa : Wa) (od : Od) (py : Py) (ju : Ju) (pl : Pl) (rs : Rs) (a1 : Int32) (F : Nat) (res : Int32 × Th × MRow × Un × Bx × Mo) (hf : M_kick F row un bx mo a1 = some res) : Met l yX8_kick (cWW yX8_kick cX8_kick 3 (some .int)) { frames := 4, cells := 0, slots := 0, locals := 86 } (zM D ac cs [.ref (q 0), .int a1] (moW ac q th row un kp mt ps bx mo su wy wa od py ju pl rs) sz) (va_Qi (fun r (_ : Unit) => r = res.1) (fun _ => zB D (va_A (moW ac q th row un kp mt ps bx mo su wy wa od py ju pl rs) sz) (moW ac q res.2.1 res.2.2.1 res.2.2.2.1 kp mt ps res.2.2.2.2.1 res.2.2.2.2.2 su wy wa od py ju pl rs)) (va_A (moW ac q th row un kp mt ps bx mo su wy wa od py ju pl rs) sz)) 0 0 (va_A (moW ac q th row un kp mt ps bx mo su wy wa od py ju pl rs) sz) := by
  refine Met.ofW (cc := cX8_kick) (maxL := 3) (ret := (some .int)) (by decide) rfl ?_
  intro p e s m args below meth c s₁ B hml hv
  obtain ⟨rfl, hsz, hP, hKX, hD0, hC⟩ := hv
  have hx := B.exec
  have hb := B.bytes
  have hr := B.returns
  have hts := atoms_spec (ws := cWW yX8_kick cX8_kick 3 (some .int)) B.pre
  have htw : ∀ w ∈ WW, w.before _ s = true := fun w h => hts w (List.mem_cons_of_mem _ h)
  have hown : s.vm.findClass RX8 = some m.cls := findClass_of_methodNamed B.named
  have hlocks := B.notSynchronized
  clear hts B
  subst hsz
  have hD := hD0.self (sz := s.heap.size)
  generalize hAe : va_A (moW ac q th row un kp mt ps bx mo su wy wa od py ju pl rs) s.heap.size = A at hD hC ⊢
  have hA : ∀ q : Nat, s.heap.size ≤ q → A q := fun q h => by rw [← hAe]; exact Or.inr h
  have hS : va_S A s.heap s.heap [] := va_S.rf
  clear hD0 hAe
  have hP : va_P D vwCl (moW ac q th row un kp mt ps bx mo su wy wa od py ju pl rs) s.heap := hP
  have hl := lv_entry ([.ref (q 0), .int a1]) (n := 3) (Nat.le_of_ble_eq_true rfl)
  rw [lg_entry_eq]
  generalize (lg_sl ([.ref (q 0), .int a1]) ++ List.replicate (3 - (lg_sl ([.ref (q 0), .int a1])).length) Slot.unset).toArray = ls at hl ⊢
  have hl : lv_has ls 3 [(0, .ref (q 0)), (1, .int a1)] := hl
  unfold M_kick at hf
  show W p l e ({ frames := 4, cells := 0, slots := 0, locals := 86 } : Room) s m _ below meth c s.heap [] 0 0 _ (F0 m 0 ls [])
  refine lv_aload_n hx hb dX8_kick_0 rfl (lv_at hl 0 rfl) ?_
  refine lv_iconst (v := 0) hx hb dX8_kick_1 rfl ?_
  refine va_put (D := D) (ci := 8) (v := .int 0) (ty := tyX8 0) (C := RX8) (T := TX8) (N := 41) hx hb htw WW_wsX80 tyX8 tyX8_ok nmX8 hown hKX.1 hP hD hS 0 rfl rfl 0 (Nat.le_of_ble_eq_true rfl) (htw _ mF_RX8_75) (fun _ h9 => h9) rfl (tyX8_ok 0 (Nat.le_of_ble_eq_true rfl)) rfl rfl (Nat.le_of_ble_eq_true rfl) dX8_kick_2 (fun H locs hP hD hS => ?_)
  have hP : va_P D vwCl (moW ac q 0 row un kp mt ps bx mo su wy wa od py ju pl rs) H := hP
  have hD : va_D A (moW ac q 0 row un kp mt ps bx mo su wy wa od py ju pl rs) := hD
  refine lv_aload_n hx hb dX8_kick_5 rfl (lv_at hl 0 rfl) ?_
  refine zc_RVi (As := []) (rest := []) hx hb hml hown htw (ctX8_isTold l D ac cs q 0 row un kp mt ps bx mo su wy wa od py ju pl rs    _ rfl) (g_V mM_RX8_83 mI_yX8_isTold mS_RX8_yX8_isTold_yX8_isTold mN_RX8 mC_yX8_isTold) rfl (hd_yX8_isTold) ⟨rfl, rfl⟩ ⟨(Nat.le_of_ble_eq_true rfl), (Nat.le_of_ble_eq_true rfl)⟩ hKX hC hS hP 8 rfl rfl rfl hl.1 rfl (Nat.le_of_ble_eq_true rfl) ⟨Nat.zero_le _, Nat.zero_le _⟩ dX8_kick_6 ?_
  refine lv_if_ne (tgt := 15) hx hb dX8_kick_9 (by decide) (fun c1 => ?_) (fun c1 => ?_)
  · have hf := z_n c1 hf
    refine lv_aload_n hx hb dX8_kick_15 rfl (lv_at hl 0 rfl) ?_
    obtain ⟨u2, hu2, hf⟩ := z_bd_u hf
    refine zc_MVv (As := []) (rest := []) (wr := []) (wsc := moW ac q 0 row un kp mt ps bx mo su wy wa od py ju pl rs) (wsc' := moW ac q 0 row un kp mt ps u2.1 u2.2 su wy wa od py ju pl rs) hx hb hml hown htw (ctX8_goNow l D ac cs q H.size 0 row un kp mt ps bx mo su wy wa od py ju pl rs    F u2 hu2) (g_V mM_RX8_302 mI_yX8_goNow mS_RX8_yX8_goNow_yX8_goNow mN_RX8 mC_yX8_goNow) rfl (hd_yX8_goNow) ⟨rfl, rfl⟩ ⟨(Nat.le_of_ble_eq_true rfl), (Nat.le_of_ble_eq_true rfl)⟩ hKX hC hS hA hP hD [0, 1, 2, 3, 4, 5, 6, 7, 8, 9, 10, 11, 12, 13, 14, 15, 16, 17, 18, 19, 20] [] rfl (by decide) rfl (by decide) (by decide) 8 rfl rfl rfl hl.1 rfl (Nat.le_of_ble_eq_true rfl) ⟨Nat.zero_le _, Nat.zero_le _⟩ dX8_kick_16 (fun H locs hP hD hS => ?_)
    have hP : va_P D vwCl (moW ac q 0 row un kp mt ps u2.1 u2.2 su wy wa od py ju pl rs) H := hP
    have hD : va_D A (moW ac q 0 row un kp mt ps u2.1 u2.2 su wy wa od py ju pl rs) := hD
    refine lv_aload_n hx hb dX8_kick_19 rfl (lv_at hl 0 rfl) ?_
    refine va_get (D := D) (ci := 8) (v := .int (mo_isOver u2.2)) (C := RX8) (T := TX8) (N := 41) hx hb htw WW_wsX80 hown hKX.1 hP 0 rfl rfl 21 (Nat.le_of_ble_eq_true rfl) (htw _ mF_RX8_208) (fun _ h9 => h9) rfl dX8_kick_20 ?_
    refine lv_if_ne (tgt := 35) hx hb dX8_kick_23 (by decide) (fun c3 => ?_) (fun c3 => ?_)
    · have hf := z_n c3 hf
      refine lv_bipush (v := (-3)) hx hb dX8_kick_35 rfl ?_
      obtain rfl := Option.some.inj hf
      exact zr_Mi hx hb hr hlocks hP hD hS dX8_kick_37
    · have hf := z_p c3 hf
      refine lv_aload_n hx hb dX8_kick_26 rfl (lv_at hl 0 rfl) ?_
      refine va_get (D := D) (ci := 8) (v := .int (mo_kicks u2.2)) (C := RX8) (T := TX8) (N := 41) hx hb htw WW_wsX80 hown hKX.1 hP 0 rfl rfl 19 (Nat.le_of_ble_eq_true rfl) (htw _ mF_RX8_202) (fun _ h9 => h9) rfl dX8_kick_27 ?_
      refine lv_bipush (v := 60) hx hb dX8_kick_30 rfl ?_
      refine lv_icmp_ne (tgt := 38) hx hb dX8_kick_32 (by decide) (fun c4 => ?_) (fun c4 => ?_)
      · have hf := z_n c4 hf
        refine lv_aload_n hx hb dX8_kick_38 rfl (lv_at hl 0 rfl) ?_
        obtain ⟨u5, hu5, hf⟩ := z_bd_u hf
        refine zc_MVv (As := []) (rest := []) (wr := []) (wsc := moW ac q 0 row un kp mt ps u2.1 u2.2 su wy wa od py ju pl rs) (wsc' := moW ac q 0 row u5 kp mt ps u2.1 u2.2 su wy wa od py ju pl rs) hx hb hml hown htw (ctX8_remember l D ac cs q H.size 0 row un kp mt ps u2.1 u2.2 su wy wa od py ju pl rs    F u5 hu5) (g_V mM_RX8_305 mI_yX8_remember mS_RX8_yX8_remember_yX8_remember mN_RX8 mC_yX8_remember) rfl (hd_yX8_remember) ⟨rfl, rfl⟩ ⟨(Nat.le_of_ble_eq_true rfl), (Nat.le_of_ble_eq_true rfl)⟩ hKX hC hS hA hP hD [0, 1, 2, 3, 4, 5, 6, 7, 8, 9, 10, 11, 12, 13, 14, 15, 16, 17, 18, 19, 20] [] rfl (by decide) rfl (by decide) (by decide) 8 rfl rfl rfl hl.1 rfl (Nat.le_of_ble_eq_true rfl) ⟨Nat.zero_le _, Nat.zero_le _⟩ dX8_kick_39 (fun H locs hP hD hS => ?_)
        have hP : va_P D vwCl (moW ac q 0 row u5 kp mt ps u2.1 u2.2 su wy wa od py ju pl rs) H := hP
        have hD : va_D A (moW ac q 0 row u5 kp mt ps u2.1 u2.2 su wy wa od py ju pl rs) := hD
        refine lv_aload_n hx hb dX8_kick_42 rfl (lv_at hl 0 rfl) ?_
        refine zc_RVi (As := []) (rest := []) hx hb hml hown htw (ctX8_turnNow l D ac cs q 0 row u5 kp mt ps u2.1 u2.2 su wy wa od py ju pl rs    _ rfl) (g_V mM_RX8_223 mI_yX8_turnNow mS_RX8_yX8_turnNow_yX8_turnNow mN_RX8 mC_yX8_turnNow) rfl (hd_yX8_turnNow) ⟨rfl, rfl⟩ ⟨(Nat.le_of_ble_eq_true rfl), (Nat.le_of_ble_eq_true rfl)⟩ hKX hC hS hP 8 rfl rfl rfl hl.1 rfl (Nat.le_of_ble_eq_true rfl) ⟨Nat.zero_le _, Nat.zero_le _⟩ dX8_kick_43 ?_
        refine lv_topi (fun x6 hx6 => ?_)
        have hf := z_let_u hx6 hf
        refine lv_istore_n (lv' := [(2, .int x6), (0, .ref (q 0)), (1, .int a1)]) hx hb dX8_kick_46 rfl hl (Nat.le_of_ble_eq_true rfl) rfl (fun ls hl => ?_)
        refine lv_aload_n hx hb dX8_kick_47 rfl (lv_at hl 1 rfl) ?_
        refine lv_iload_n hx hb dX8_kick_48 rfl (lv_at hl 2 rfl) ?_
        have hj9 : ∀ (v7 : Int32), v7 = (if a1 = 0 then 0 else 1) → z_b v7 = true → ∀ (H : Heap) (locs : List Loc) (ls : Array Slot), va_P D vwCl (moW ac q 0 row u5 kp mt ps u2.1 u2.2 su wy wa od py ju pl rs) H → va_D A (moW ac q 0 row u5 kp mt ps u2.1 u2.2 su wy wa od py ju pl rs) → va_S A s.heap H locs → lv_has ls 3 [(0, .ref (q 0)), (2, .int x6)] → W p l e ({ frames := 4, cells := 0, slots := 0, locals := 86 } : Room) s m (([.ref (q 0), .int a1] : List Value).toArray) below meth c H locs 0 0 (MQ below (va_Qi (fun r (_ : Unit) => r = res.1) (fun _ => zB D A (moW ac q res.2.1 res.2.2.1 res.2.2.2.1 kp mt ps res.2.2.2.2.1 res.2.2.2.2.2 su wy wa od py ju pl rs)) A) ([.ref (q 0), .int a1] : List Value).toArray s 0 0 A) (F0 m 57 ls [.int v7, .ref (q 0)]) := by
          intro v7 hv7 bv7 H locs ls hP hD hS hl
          have hf := z_let_u hv7 hf
          obtain ⟨u11, hu11, hf⟩ := z_bd_u hf
          refine zc_MVv (As := [.int v7]) (rest := []) (wr := []) (wsc := moW ac q 0 row u5 kp mt ps u2.1 u2.2 su wy wa od py ju pl rs) (wsc' := moW ac q 0 u11.1 u5 kp mt ps u2.1 u11.2 su wy wa od py ju pl rs) hx hb hml hown htw (ctX8_make l D ac cs q H.size 0 row u5 kp mt ps u2.1 u2.2 su wy wa od py ju pl rs v7   F u11 hu11) (g_V mM_RX8_308 mI_yX8_make mS_RX8_yX8_make_yX8_make mN_RX8 mC_yX8_make) rfl (hd_yX8_make) ⟨rfl, rfl⟩ ⟨(Nat.le_of_ble_eq_true rfl), (Nat.le_of_ble_eq_true rfl)⟩ hKX hC hS hA hP hD [0, 1, 2, 3, 4, 5, 6, 7, 8, 9, 10, 11, 12, 13, 14, 15, 16, 17, 18, 19, 20] [] rfl (by decide) rfl (by decide) (by decide) 8 rfl rfl rfl hl.1 rfl (Nat.le_of_ble_eq_true rfl) ⟨Nat.zero_le _, Nat.zero_le _⟩ dX8_kick_57 (fun H locs hP hD hS => ?_)
          have hP : va_P D vwCl (moW ac q 0 u11.1 u5 kp mt ps u2.1 u11.2 su wy wa od py ju pl rs) H := hP
          have hD : va_D A (moW ac q 0 u11.1 u5 kp mt ps u2.1 u11.2 su wy wa od py ju pl rs) := hD
          refine lv_aload_n hx hb dX8_kick_60 rfl (lv_at hl 0 rfl) ?_
          refine va_get (D := D) (ci := 8) (v := .ref (q 9)) (C := RX8) (T := TX8) (N := 41) hx hb htw WW_wsX80 hown hKX.1 hP 0 rfl rfl 17 (Nat.le_of_ble_eq_true rfl) (htw _ mF_RX8_38) (fun _ h9 => h9) rfl dX8_kick_61 ?_
          refine lv_iload_n hx hb dX8_kick_64 rfl (lv_at hl 1 rfl) ?_
          obtain ⟨g12, hf⟩ := z_gd_u hf
          refine va_iald hx hb hKX.1 hP 9 0 rfl rfl (z_in_u g12) dX8_kick_65 ?_
          obtain rfl := Option.some.inj hf
          exact zr_Mi hx hb hr hlocks hP hD hS dX8_kick_66
        refine lv_if_eq (tgt := 56) hx hb dX8_kick_49 (by decide) (fun c10 => ?_) (fun c10 => ?_)
        · skip
          refine lv_iconst (v := 0) hx hb dX8_kick_56 rfl ?_
          exact hj9 0 (if_pos c10).symm z_b0 _ _ ls hP hD hS (lv_sub hl [1, 0] rfl)
        · skip
          refine lv_iconst (v := 1) hx hb dX8_kick_52 rfl ?_
          refine lv_goto (tgt := 57) hx hb dX8_kick_53 (by decide) ?_
          exact hj9 1 (if_neg c10).symm z_b1 _ _ ls hP hD hS (lv_sub hl [1, 0] rfl)
      · have hf := z_p c4 hf
        refine lv_bipush (v := (-3)) hx hb dX8_kick_35 rfl ?_
        obtain rfl := Option.some.inj hf
        exact zr_Mi hx hb hr hlocks hP hD hS dX8_kick_37
  · have hf := z_p c1 hf
    refine lv_bipush (v := (-2)) hx hb dX8_kick_12 rfl ?_
    obtain rfl := Option.some.inj hf
    exact zr_Mi hx hb hr hlocks hP hD hS dX8_kick_14

theorem hd_yX8_strange : hdY yX8_strange 0 := by decide +kernel
def M_strange_L2 (mt : Mt) : Nat → Int32 → Option (Int32)
  | 0, _ => none
  | n3 + 1, x1 => if (mt_texted mt) ≤ x1 then (some (-1)) else (z_gd (z_in x1 200) (if ((mt_text mt) x1.toNatClampNeg) = 120 then (z_let (x1 + 1) (fun x8 : Int32 => M_strange_L2 mt n3 x8)) else (z_gd (z_in x1 200) (if ((mt_text mt) x1.toNatClampNeg) = 111 then (z_let (x1 + 1) (fun x11 : Int32 => M_strange_L2 mt n3 x11)) else (z_gd (z_in x1 200) (if ((mt_text mt) x1.toNatClampNeg) = 32 then (z_let (x1 + 1) (fun x14 : Int32 => M_strange_L2 mt n3 x14)) else (some x1)))))))
def M_strange (F : Nat) (mt : Mt) : Option (Int32) := M_strange_L2 mt F 0
set_option maxHeartbeats 4000000 in
set_option maxRecDepth 100000 in
theorem ctX8_strange (l : Launch) (D : va_G) (ac cs : Nat → Nat) (q : Nat → Nat) (th : Th) (row : MRow) (un : Un) (kp : Kp) (mt : Mt) (ps : Ps) (bx : Bx) (mo : Mo) (su : Su) (wy : Wy) (wa : Wa) (od : Od) (py : Py) (ju : Ju) (pl : Pl) (rs : Rs) (F : Nat) (res : Int32) (hf : M_strange F mt = some res) : Met l yX8_strange (cWW yX8_strange cX8_strange 2 (some .int)) { frames := 0, cells := 0, slots := 0, locals := 0 } (zR D ac cs [.ref (q 0)] (moW ac q th row un kp mt ps bx mo su wy wa od py ju pl rs)) (vp_Si (fun r => r = res)) 0 0 (fun _ => False) := by
  refine Met.ofW (cc := cX8_strange) (maxL := 2) (ret := (some .int)) (by decide) rfl ?_
  intro p e s m args below meth c s₁ B hml hv
  obtain ⟨rfl, hP, hKX, hC⟩ := hv
  have hx := B.exec
  have hb := B.bytes
  have hr := B.returns
  have hts := atoms_spec (ws := cWW yX8_strange cX8_strange 2 (some .int)) B.pre
  have htw : ∀ w ∈ WW, w.before _ s = true := fun w h => hts w (List.mem_cons_of_mem _ h)
  have hown : s.vm.findClass RX8 = some m.cls := findClass_of_methodNamed B.named
  have hlocks := B.notSynchronized
  clear hts B
  have hS : va_S (fun _ => False) s.heap s.heap [] := va_S.rf
  have hl := lv_entry ([.ref (q 0)]) (n := 2) (Nat.le_of_ble_eq_true rfl)
  rw [lg_entry_eq]
  generalize (lg_sl ([.ref (q 0)]) ++ List.replicate (2 - (lg_sl ([.ref (q 0)])).length) Slot.unset).toArray = ls at hl ⊢
  have hl : lv_has ls 2 [(0, .ref (q 0))] := hl
  unfold M_strange at hf
  show W p l e ({ frames := 0, cells := 0, slots := 0, locals := 0 } : Room) s m _ below meth c s.heap [] 0 0 _ (F0 m 0 ls [])
  refine lv_iconst (v := 0) hx hb dX8_strange_0 rfl ?_
  refine lv_istore_n (lv' := [(1, .int 0), (0, .ref (q 0))]) hx hb dX8_strange_1 rfl hl (Nat.le_of_ble_eq_true rfl) rfl (fun ls hl => ?_)
  have hL2 : ∀ (n3 : Nat) (x1 : Int32), M_strange_L2 mt n3 x1 = some res → ∀ (ls : Array Slot), lv_has ls 2 [(0, .ref (q 0)), (1, .int x1)] → W p l e ({ frames := 0, cells := 0, slots := 0, locals := 0 } : Room) s m (([.ref (q 0)] : List Value).toArray) below meth c s.heap [] 0 0 (MQ below (vp_Si (fun r => r = res)) ([.ref (q 0)] : List Value).toArray s 0 0 (fun _ => False)) (F0 m 2 ls []) := by
    intro n3
    induction n3 with
    | zero => intro x1 hf; rw [M_strange_L2] at hf; cases hf
    | succ n3 ih4 =>
      intro x1 hf ls hl
      rw [M_strange_L2] at hf
      refine lv_iload_n hx hb dX8_strange_2 rfl (lv_at hl 1 rfl) ?_
      refine lv_aload_n hx hb dX8_strange_3 rfl (lv_at hl 0 rfl) ?_
      refine va_get (D := D) (ci := 8) (v := .int (mt_texted mt)) (C := RX8) (T := TX8) (N := 41) hx hb htw WW_wsX80 hown hKX.1 hP 0 rfl rfl 7 (Nat.le_of_ble_eq_true rfl) (htw _ mF_RX8_94) (fun _ h9 => h9) rfl dX8_strange_4 ?_
      refine lv_icmp_ge (tgt := 51) hx hb dX8_strange_7 (by decide) (fun c5 => ?_) (fun c5 => ?_)
      · have hf := z_p c5 hf
        refine lv_iconst (v := (-1)) hx hb dX8_strange_51 rfl ?_
        exact zr_Ri hx hb hr hlocks (Option.some.inj hf) dX8_strange_52
      · have hf := z_n c5 hf
        refine lv_aload_n hx hb dX8_strange_10 rfl (lv_at hl 0 rfl) ?_
        refine va_get (D := D) (ci := 8) (v := .ref (q 5)) (C := RX8) (T := TX8) (N := 41) hx hb htw WW_wsX80 hown hKX.1 hP 0 rfl rfl 6 (Nat.le_of_ble_eq_true rfl) (htw _ mF_RX8_25) (fun _ h9 => h9) rfl dX8_strange_11 ?_
        refine lv_iload_n hx hb dX8_strange_14 rfl (lv_at hl 1 rfl) ?_
        obtain ⟨g6, hf⟩ := z_gd_u hf
        refine va_bald hx hb hKX.1 hP 5 3 rfl rfl (z_in_u g6) dX8_strange_15 ?_
        refine lv_bipush (v := 120) hx hb dX8_strange_16 rfl ?_
        refine lv_icmp_eq (tgt := 45) hx hb dX8_strange_18 (by decide) (fun c7 => ?_) (fun c7 => ?_)
        · have hf := z_p c7 hf
          obtain ⟨x8, hx8⟩ : ∃ y : Int32, y = (x1 + 1) := ⟨_, rfl⟩
          have hf := z_let_u hx8 hf
          refine lv_iinc (v := x8) (lv' := [(1, .int x8), (0, .ref (q 0))]) hx hb dX8_strange_45 hl (k := 1) rfl (by rw [hx8]; rfl) (Nat.le_of_ble_eq_true rfl) rfl (fun ls hl => ?_)
          refine lv_goto (tgt := 2) hx hb dX8_strange_48 (by decide) ?_
          exact ih4 x8 hf ls (lv_sub hl [1, 0] rfl)
        · have hf := z_n c7 hf
          refine lv_aload_n hx hb dX8_strange_21 rfl (lv_at hl 0 rfl) ?_
          refine va_get (D := D) (ci := 8) (v := .ref (q 5)) (C := RX8) (T := TX8) (N := 41) hx hb htw WW_wsX80 hown hKX.1 hP 0 rfl rfl 6 (Nat.le_of_ble_eq_true rfl) (htw _ mF_RX8_25) (fun _ h9 => h9) rfl dX8_strange_22 ?_
          refine lv_iload_n hx hb dX8_strange_25 rfl (lv_at hl 1 rfl) ?_
          obtain ⟨g9, hf⟩ := z_gd_u hf
          refine va_bald hx hb hKX.1 hP 5 3 rfl rfl (z_in_u g9) dX8_strange_26 ?_
          refine lv_bipush (v := 111) hx hb dX8_strange_27 rfl ?_
          refine lv_icmp_eq (tgt := 45) hx hb dX8_strange_29 (by decide) (fun c10 => ?_) (fun c10 => ?_)
          · have hf := z_p c10 hf
            obtain ⟨x11, hx11⟩ : ∃ y : Int32, y = (x1 + 1) := ⟨_, rfl⟩
            have hf := z_let_u hx11 hf
            refine lv_iinc (v := x11) (lv' := [(1, .int x11), (0, .ref (q 0))]) hx hb dX8_strange_45 hl (k := 1) rfl (by rw [hx11]; rfl) (Nat.le_of_ble_eq_true rfl) rfl (fun ls hl => ?_)
            refine lv_goto (tgt := 2) hx hb dX8_strange_48 (by decide) ?_
            exact ih4 x11 hf ls (lv_sub hl [1, 0] rfl)
          · have hf := z_n c10 hf
            refine lv_aload_n hx hb dX8_strange_32 rfl (lv_at hl 0 rfl) ?_
            refine va_get (D := D) (ci := 8) (v := .ref (q 5)) (C := RX8) (T := TX8) (N := 41) hx hb htw WW_wsX80 hown hKX.1 hP 0 rfl rfl 6 (Nat.le_of_ble_eq_true rfl) (htw _ mF_RX8_25) (fun _ h9 => h9) rfl dX8_strange_33 ?_
            refine lv_iload_n hx hb dX8_strange_36 rfl (lv_at hl 1 rfl) ?_
            obtain ⟨g12, hf⟩ := z_gd_u hf
            refine va_bald hx hb hKX.1 hP 5 3 rfl rfl (z_in_u g12) dX8_strange_37 ?_
            refine lv_bipush (v := 32) hx hb dX8_strange_38 rfl ?_
            refine lv_icmp_eq (tgt := 45) hx hb dX8_strange_40 (by decide) (fun c13 => ?_) (fun c13 => ?_)
            · have hf := z_p c13 hf
              obtain ⟨x14, hx14⟩ : ∃ y : Int32, y = (x1 + 1) := ⟨_, rfl⟩
              have hf := z_let_u hx14 hf
              refine lv_iinc (v := x14) (lv' := [(1, .int x14), (0, .ref (q 0))]) hx hb dX8_strange_45 hl (k := 1) rfl (by rw [hx14]; rfl) (Nat.le_of_ble_eq_true rfl) rfl (fun ls hl => ?_)
              refine lv_goto (tgt := 2) hx hb dX8_strange_48 (by decide) ?_
              exact ih4 x14 hf ls (lv_sub hl [1, 0] rfl)
            · have hf := z_n c13 hf
              refine lv_iload_n hx hb dX8_strange_43 rfl (lv_at hl 1 rfl) ?_
              exact zr_Ri hx hb hr hlocks (Option.some.inj hf) dX8_strange_44
  refine hL2  F 0 hf ls (lv_sub hl [1, 0] rfl)

theorem hd_yX8_goText : hdY yX8_goText 1 := by decide +kernel
def M_goText_L7 (F : Nat) (mt : Mt) (bx : Bx) (a1 : Int32) : Nat → Int32 → MRow → Un → Mo → Py → Option (Int32 × MRow × Un × Mo × Py)
  | 0, _, _, _, _, _ => none
  | n7 + 1, x1, row2, un3, mo4, py5 => if (mt_texted mt) ≤ x1 then (some ((-1), row2, un3, mo4, py5)) else (z_gd (z_in x1 200) (if ((mt_text mt) x1.toNatClampNeg) = 32 then (z_let (x1 + 1) (fun x12 : Int32 => M_goText_L7 F mt bx a1 n7 x12 row2 un3 mo4 py5)) else (if (mo_isOver mo4) = 0 then (if (mo_kicks mo4) = 60 then (some (x1, row2, un3, mo4, py5)) else (z_jn (fun un15 : Un => z_jn (fun u_k20 : MRow × Mo => z_let (py5 + 1) (fun x22 : Int32 => z_let (x1 + 1) (fun x23 : Int32 => M_goText_L7 F mt bx a1 n7 x23 u_k20.1 un15 u_k20.2 x22))) (fun k20 => if a1 = 0 then (z_gd (z_in x1 200) (z_let (if ((mt_text mt) x1.toNatClampNeg) = 120 then 1 else 0) (fun v26 : Int32 => z_bd (M_go F row2 bx mo4 v26) (fun u30 : Mo => k20 (row2, u30))))) else (z_gd (z_in x1 200) (z_let (if ((mt_text mt) x1.toNatClampNeg) = 120 then 1 else 0) (fun v32 : Int32 => z_bd (M_make F row2 bx mo4 v32) (fun u36 : MRow × Mo => k20 (u36.1, u36.2))))))) (fun k16 => if a1 = 0 then (k16 un3) else (if py5 = 0 then (z_bd (M_remember F row2 un3) (fun u39 : Un => k16 u39)) else (k16 un3))))) else (some (x1, row2, un3, mo4, py5)))))
def M_goText (F : Nat) (row : MRow) (un : Un) (mt : Mt) (bx : Bx) (mo : Mo) (a1 : Int32) : Option (Int32 × MRow × Un × Mo × Py) := M_goText_L7 F mt bx a1 F 0 row un mo 0
set_option maxHeartbeats 4000000 in
set_option maxRecDepth 100000 in
theorem ctX8_goText (l : Launch) (D : va_G) (ac cs : Nat → Nat) (q : Nat → Nat) (sz : Nat) (th : Th) (row : MRow) (un : Un) (kp : Kp) (mt : Mt) (ps : Ps) (bx : Bx) (mo : Mo) (su : Su) (wy : Wy) (wa : Wa) (od : Od) (py : Py) (ju : Ju) (pl : Pl) (rs : Rs) (a1 : Int32) (F : Nat) (res : Int32 × MRow × Un × Mo × Py) (hf : M_goText F row un mt bx mo a1 = some res) : Met l yX8_goText (cWW yX8_goText cX8_goText 3 (some .int)) { frames := 4, cells := 0, slots := 0, locals := 86 } (zM D ac cs [.ref (q 0), .int a1] (moW ac q th row un kp mt ps bx mo su wy wa od py ju pl rs) sz) (va_Qi (fun r (_ : Unit) => r = res.1) (fun _ => zB D (va_A (moW ac q th row un kp mt ps bx mo su wy wa od py ju pl rs) sz) (moW ac q th res.2.1 res.2.2.1 kp mt ps bx res.2.2.2.1 su wy wa od res.2.2.2.2 ju pl rs)) (va_A (moW ac q th row un kp mt ps bx mo su wy wa od py ju pl rs) sz)) 0 0 (va_A (moW ac q th row un kp mt ps bx mo su wy wa od py ju pl rs) sz) := by
  refine Met.ofW (cc := cX8_goText) (maxL := 3) (ret := (some .int)) (by decide) rfl ?_
  intro p e s m args below meth c s₁ B hml hv
  obtain ⟨rfl, hsz, hP, hKX, hD0, hC⟩ := hv
  have hx := B.exec
  have hb := B.bytes
  have hr := B.returns
  have hts := atoms_spec (ws := cWW yX8_goText cX8_goText 3 (some .int)) B.pre
  have htw : ∀ w ∈ WW, w.before _ s = true := fun w h => hts w (List.mem_cons_of_mem _ h)
  have hown : s.vm.findClass RX8 = some m.cls := findClass_of_methodNamed B.named
  have hlocks := B.notSynchronized
  clear hts B
  subst hsz
  have hD := hD0.self (sz := s.heap.size)
  generalize hAe : va_A (moW ac q th row un kp mt ps bx mo su wy wa od py ju pl rs) s.heap.size = A at hD hC ⊢
  have hA : ∀ q : Nat, s.heap.size ≤ q → A q := fun q h => by rw [← hAe]; exact Or.inr h
  have hS : va_S A s.heap s.heap [] := va_S.rf
  clear hD0 hAe
  have hP : va_P D vwCl (moW ac q th row un kp mt ps bx mo su wy wa od py ju pl rs) s.heap := hP
  have hl := lv_entry ([.ref (q 0), .int a1]) (n := 3) (Nat.le_of_ble_eq_true rfl)
  rw [lg_entry_eq]
  generalize (lg_sl ([.ref (q 0), .int a1]) ++ List.replicate (3 - (lg_sl ([.ref (q 0), .int a1])).length) Slot.unset).toArray = ls at hl ⊢
  have hl : lv_has ls 3 [(0, .ref (q 0)), (1, .int a1)] := hl
  unfold M_goText at hf
  show W p l e ({ frames := 4, cells := 0, slots := 0, locals := 86 } : Room) s m _ below meth c s.heap [] 0 0 _ (F0 m 0 ls [])
  refine lv_aload_n hx hb dX8_goText_0 rfl (lv_at hl 0 rfl) ?_
  refine lv_iconst (v := 0) hx hb dX8_goText_1 rfl ?_
  refine va_put (D := D) (ci := 8) (v := .int 0) (ty := tyX8 33) (C := RX8) (T := TX8) (N := 41) hx hb htw WW_wsX80 tyX8 tyX8_ok nmX8 hown hKX.1 hP hD hS 0 rfl rfl 33 (Nat.le_of_ble_eq_true rfl) (htw _ mF_RX8_311) (fun _ h9 => h9) rfl (tyX8_ok 33 (Nat.le_of_ble_eq_true rfl)) rfl rfl (Nat.le_of_ble_eq_true rfl) dX8_goText_2 (fun H locs hP hD hS => ?_)
  have hP : va_P D vwCl (moW ac q th row un kp mt ps bx mo su wy wa od 0 ju pl rs) H := hP
  have hD : va_D A (moW ac q th row un kp mt ps bx mo su wy wa od 0 ju pl rs) := hD
  refine lv_iconst (v := 0) hx hb dX8_goText_5 rfl ?_
  refine lv_istore_n (lv' := [(2, .int 0), (0, .ref (q 0)), (1, .int a1)]) hx hb dX8_goText_6 rfl hl (Nat.le_of_ble_eq_true rfl) rfl (fun ls hl => ?_)
  have hL6 : ∀ (n7 : Nat) (x1 : Int32) (row2 : MRow) (un3 : Un) (mo4 : Mo) (py5 : Py), M_goText_L7 F mt bx a1 n7 x1 row2 un3 mo4 py5 = some res → ∀ (H : Heap) (locs : List Loc) (ls : Array Slot), va_P D vwCl (moW ac q th row2 un3 kp mt ps bx mo4 su wy wa od py5 ju pl rs) H → va_D A (moW ac q th row2 un3 kp mt ps bx mo4 su wy wa od py5 ju pl rs) → va_S A s.heap H locs → lv_has ls 3 [(0, .ref (q 0)), (1, .int a1), (2, .int x1)] → W p l e ({ frames := 4, cells := 0, slots := 0, locals := 86 } : Room) s m (([.ref (q 0), .int a1] : List Value).toArray) below meth c H locs 0 0 (MQ below (va_Qi (fun r (_ : Unit) => r = res.1) (fun _ => zB D A (moW ac q th res.2.1 res.2.2.1 kp mt ps bx res.2.2.2.1 su wy wa od res.2.2.2.2 ju pl rs)) A) ([.ref (q 0), .int a1] : List Value).toArray s 0 0 A) (F0 m 7 ls []) := by
    intro n7
    induction n7 with
    | zero => intro x1 row2 un3 mo4 py5 hf; rw [M_goText_L7] at hf; cases hf
    | succ n7 ih8 =>
      intro x1 row2 un3 mo4 py5 hf H locs ls hP hD hS hl
      rw [M_goText_L7] at hf
      refine lv_iload_n hx hb dX8_goText_7 rfl (lv_at hl 2 rfl) ?_
      refine lv_aload_n hx hb dX8_goText_8 rfl (lv_at hl 0 rfl) ?_
      refine va_get (D := D) (ci := 8) (v := .int (mt_texted mt)) (C := RX8) (T := TX8) (N := 41) hx hb htw WW_wsX80 hown hKX.1 hP 0 rfl rfl 7 (Nat.le_of_ble_eq_true rfl) (htw _ mF_RX8_94) (fun _ h9 => h9) rfl dX8_goText_9 ?_
      refine lv_icmp_ge (tgt := 122) hx hb dX8_goText_12 (by decide) (fun c9 => ?_) (fun c9 => ?_)
      · have hf := z_p c9 hf
        refine lv_iconst (v := (-1)) hx hb dX8_goText_122 rfl ?_
        obtain rfl := Option.some.inj hf
        exact zr_Mi hx hb hr hlocks hP hD hS dX8_goText_123
      · have hf := z_n c9 hf
        refine lv_aload_n hx hb dX8_goText_15 rfl (lv_at hl 0 rfl) ?_
        refine va_get (D := D) (ci := 8) (v := .ref (q 5)) (C := RX8) (T := TX8) (N := 41) hx hb htw WW_wsX80 hown hKX.1 hP 0 rfl rfl 6 (Nat.le_of_ble_eq_true rfl) (htw _ mF_RX8_25) (fun _ h9 => h9) rfl dX8_goText_16 ?_
        refine lv_iload_n hx hb dX8_goText_19 rfl (lv_at hl 2 rfl) ?_
        obtain ⟨g10, hf⟩ := z_gd_u hf
        refine va_bald hx hb hKX.1 hP 5 3 rfl rfl (z_in_u g10) dX8_goText_20 ?_
        refine lv_bipush (v := 32) hx hb dX8_goText_21 rfl ?_
        refine lv_icmp_eq (tgt := 116) hx hb dX8_goText_23 (by decide) (fun c11 => ?_) (fun c11 => ?_)
        · have hf := z_p c11 hf
          obtain ⟨x12, hx12⟩ : ∃ y : Int32, y = (x1 + 1) := ⟨_, rfl⟩
          have hf := z_let_u hx12 hf
          refine lv_iinc (v := x12) (lv' := [(2, .int x12), (0, .ref (q 0)), (1, .int a1)]) hx hb dX8_goText_116 hl (k := 2) rfl (by rw [hx12]; rfl) (Nat.le_of_ble_eq_true rfl) rfl (fun ls hl => ?_)
          refine lv_goto (tgt := 7) hx hb dX8_goText_119 (by decide) ?_
          exact ih8 x12 row2 un3 mo4 py5 hf _ _ ls  hP hD hS (lv_sub hl [1, 2, 0] rfl)
        · have hf := z_n c11 hf
          refine lv_aload_n hx hb dX8_goText_26 rfl (lv_at hl 0 rfl) ?_
          refine va_get (D := D) (ci := 8) (v := .int (mo_isOver mo4)) (C := RX8) (T := TX8) (N := 41) hx hb htw WW_wsX80 hown hKX.1 hP 0 rfl rfl 21 (Nat.le_of_ble_eq_true rfl) (htw _ mF_RX8_208) (fun _ h9 => h9) rfl dX8_goText_27 ?_
          refine lv_if_ne (tgt := 42) hx hb dX8_goText_30 (by decide) (fun c13 => ?_) (fun c13 => ?_)
          · have hf := z_n c13 hf
            refine lv_iload_n hx hb dX8_goText_42 rfl (lv_at hl 2 rfl) ?_
            obtain rfl := Option.some.inj hf
            exact zr_Mi hx hb hr hlocks hP hD hS dX8_goText_43
          · have hf := z_p c13 hf
            refine lv_aload_n hx hb dX8_goText_33 rfl (lv_at hl 0 rfl) ?_
            refine va_get (D := D) (ci := 8) (v := .int (mo_kicks mo4)) (C := RX8) (T := TX8) (N := 41) hx hb htw WW_wsX80 hown hKX.1 hP 0 rfl rfl 19 (Nat.le_of_ble_eq_true rfl) (htw _ mF_RX8_202) (fun _ h9 => h9) rfl dX8_goText_34 ?_
            refine lv_bipush (v := 60) hx hb dX8_goText_37 rfl ?_
            refine lv_icmp_ne (tgt := 44) hx hb dX8_goText_39 (by decide) (fun c14 => ?_) (fun c14 => ?_)
            · have hf := z_n c14 hf
              refine lv_iload_n hx hb dX8_goText_44 rfl (lv_at hl 1 rfl) ?_
              obtain ⟨k16, hk16, hf⟩ := z_jn_u hf
              have hj17 : ∀ (un15 : Un), k16 un15 = some res → ∀ (H : Heap) (locs : List Loc) (ls : Array Slot), va_P D vwCl (moW ac q th row2 un15 kp mt ps bx mo4 su wy wa od py5 ju pl rs) H → va_D A (moW ac q th row2 un15 kp mt ps bx mo4 su wy wa od py5 ju pl rs) → va_S A s.heap H locs → lv_has ls 3 [(0, .ref (q 0)), (1, .int a1), (2, .int x1)] → W p l e ({ frames := 4, cells := 0, slots := 0, locals := 86 } : Room) s m (([.ref (q 0), .int a1] : List Value).toArray) below meth c H locs 0 0 (MQ below (va_Qi (fun r (_ : Unit) => r = res.1) (fun _ => zB D A (moW ac q th res.2.1 res.2.2.1 kp mt ps bx res.2.2.2.1 su wy wa od res.2.2.2.2 ju pl rs)) A) ([.ref (q 0), .int a1] : List Value).toArray s 0 0 A) (F0 m 59 ls []) := by
                intro un15 hf H locs ls hP hD hS hl
                have hf := hk16 _ hf
                refine lv_iload_n hx hb dX8_goText_59 rfl (lv_at hl 1 rfl) ?_
                obtain ⟨k20, hk20, hf⟩ := z_jn_u hf
                have hj21 : ∀ (row18 : MRow) (mo19 : Mo), k20 (row18, mo19) = some res → ∀ (H : Heap) (locs : List Loc) (ls : Array Slot), va_P D vwCl (moW ac q th row18 un15 kp mt ps bx mo19 su wy wa od py5 ju pl rs) H → va_D A (moW ac q th row18 un15 kp mt ps bx mo19 su wy wa od py5 ju pl rs) → va_S A s.heap H locs → lv_has ls 3 [(0, .ref (q 0)), (1, .int a1), (2, .int x1)] → W p l e ({ frames := 4, cells := 0, slots := 0, locals := 86 } : Room) s m (([.ref (q 0), .int a1] : List Value).toArray) below meth c H locs 0 0 (MQ below (va_Qi (fun r (_ : Unit) => r = res.1) (fun _ => zB D A (moW ac q th res.2.1 res.2.2.1 kp mt ps bx res.2.2.2.1 su wy wa od res.2.2.2.2 ju pl rs)) A) ([.ref (q 0), .int a1] : List Value).toArray s 0 0 A) (F0 m 106 ls []) := by
                  intro row18 mo19 hf H locs ls hP hD hS hl
                  have hf := hk20 _ hf
                  refine lv_aload_n hx hb dX8_goText_106 rfl (lv_at hl 0 rfl) ?_
                  refine lv_dup hx hb dX8_goText_107 rfl ?_
                  refine va_get (D := D) (ci := 8) (v := .int py5) (C := RX8) (T := TX8) (N := 41) hx hb htw WW_wsX80 hown hKX.1 hP 0 rfl rfl 33 (Nat.le_of_ble_eq_true rfl) (htw _ mF_RX8_311) (fun _ h9 => h9) rfl dX8_goText_108 ?_
                  refine lv_iconst (v := 1) hx hb dX8_goText_111 rfl ?_
                  refine lv_iadd hx hb dX8_goText_112 ?_
                  refine lv_topi (fun x22 hx22 => ?_)
                  have hf := z_let_u hx22 hf
                  refine va_put (D := D) (ci := 8) (v := .int x22) (ty := tyX8 33) (C := RX8) (T := TX8) (N := 41) hx hb htw WW_wsX80 tyX8 tyX8_ok nmX8 hown hKX.1 hP hD hS 0 rfl rfl 33 (Nat.le_of_ble_eq_true rfl) (htw _ mF_RX8_311) (fun _ h9 => h9) rfl (tyX8_ok 33 (Nat.le_of_ble_eq_true rfl)) rfl rfl (Nat.le_of_ble_eq_true rfl) dX8_goText_113 (fun H locs hP hD hS => ?_)
                  have hP : va_P D vwCl (moW ac q th row18 un15 kp mt ps bx mo19 su wy wa od x22 ju pl rs) H := hP
                  have hD : va_D A (moW ac q th row18 un15 kp mt ps bx mo19 su wy wa od x22 ju pl rs) := hD
                  obtain ⟨x23, hx23⟩ : ∃ y : Int32, y = (x1 + 1) := ⟨_, rfl⟩
                  have hf := z_let_u hx23 hf
                  refine lv_iinc (v := x23) (lv' := [(2, .int x23), (0, .ref (q 0)), (1, .int a1)]) hx hb dX8_goText_116 hl (k := 2) rfl (by rw [hx23]; rfl) (Nat.le_of_ble_eq_true rfl) rfl (fun ls hl => ?_)
                  refine lv_goto (tgt := 7) hx hb dX8_goText_119 (by decide) ?_
                  exact ih8 x23 row18 un15 mo19 x22 hf _ _ ls  hP hD hS (lv_sub hl [1, 2, 0] rfl)
                refine lv_if_eq (tgt := 86) hx hb dX8_goText_60 (by decide) (fun c24 => ?_) (fun c24 => ?_)
                · have hf := z_p c24 hf
                  refine lv_aload_n hx hb dX8_goText_86 rfl (lv_at hl 0 rfl) ?_
                  refine lv_aload_n hx hb dX8_goText_87 rfl (lv_at hl 0 rfl) ?_
                  refine va_get (D := D) (ci := 8) (v := .ref (q 5)) (C := RX8) (T := TX8) (N := 41) hx hb htw WW_wsX80 hown hKX.1 hP 0 rfl rfl 6 (Nat.le_of_ble_eq_true rfl) (htw _ mF_RX8_25) (fun _ h9 => h9) rfl dX8_goText_88 ?_
                  refine lv_iload_n hx hb dX8_goText_91 rfl (lv_at hl 2 rfl) ?_
                  obtain ⟨g25, hf⟩ := z_gd_u hf
                  refine va_bald hx hb hKX.1 hP 5 3 rfl rfl (z_in_u g25) dX8_goText_92 ?_
                  refine lv_bipush (v := 120) hx hb dX8_goText_93 rfl ?_
                  have hj28 : ∀ (v26 : Int32), v26 = (if ((mt_text mt) x1.toNatClampNeg) = 120 then 1 else 0) → z_b v26 = true → ∀ (H : Heap) (locs : List Loc) (ls : Array Slot), va_P D vwCl (moW ac q th row2 un15 kp mt ps bx mo4 su wy wa od py5 ju pl rs) H → va_D A (moW ac q th row2 un15 kp mt ps bx mo4 su wy wa od py5 ju pl rs) → va_S A s.heap H locs → lv_has ls 3 [(0, .ref (q 0)), (1, .int a1), (2, .int x1)] → W p l e ({ frames := 4, cells := 0, slots := 0, locals := 86 } : Room) s m (([.ref (q 0), .int a1] : List Value).toArray) below meth c H locs 0 0 (MQ below (va_Qi (fun r (_ : Unit) => r = res.1) (fun _ => zB D A (moW ac q th res.2.1 res.2.2.1 kp mt ps bx res.2.2.2.1 su wy wa od res.2.2.2.2 ju pl rs)) A) ([.ref (q 0), .int a1] : List Value).toArray s 0 0 A) (F0 m 103 ls [.int v26, .ref (q 0)]) := by
                    intro v26 hv26 bv26 H locs ls hP hD hS hl
                    have hf := z_let_u hv26 hf
                    obtain ⟨u30, hu30, hf⟩ := z_bd_u hf
                    refine zc_MVv (As := [.int v26]) (rest := []) (wr := []) (wsc := moW ac q th row2 un15 kp mt ps bx mo4 su wy wa od py5 ju pl rs) (wsc' := moW ac q th row2 un15 kp mt ps bx u30 su wy wa od py5 ju pl rs) hx hb hml hown htw (ctX8_go l D ac cs q H.size th row2 un15 kp mt ps bx mo4 su wy wa od py5 ju pl rs v26   F u30 hu30) (g_V mM_RX8_214 mI_yX8_go mS_RX8_yX8_go_yX8_go mN_RX8 mC_yX8_go) rfl (hd_yX8_go) ⟨rfl, rfl⟩ ⟨(Nat.le_of_ble_eq_true rfl), (Nat.le_of_ble_eq_true rfl)⟩ hKX hC hS hA hP hD [0, 1, 2, 3, 4, 5, 6, 7, 8, 9, 10, 11, 12, 13, 14, 15, 16, 17, 18, 19, 20] [] rfl (by decide) rfl (by decide) (by decide) 8 rfl rfl rfl hl.1 rfl (Nat.le_of_ble_eq_true rfl) ⟨Nat.zero_le _, Nat.zero_le _⟩ dX8_goText_103 (fun H locs hP hD hS => ?_)
                    have hP : va_P D vwCl (moW ac q th row2 un15 kp mt ps bx u30 su wy wa od py5 ju pl rs) H := hP
                    have hD : va_D A (moW ac q th row2 un15 kp mt ps bx u30 su wy wa od py5 ju pl rs) := hD
                    exact hj21 row2 u30 hf _ _ ls  hP hD hS (lv_sub hl [0, 1, 2] rfl)
                  refine lv_icmp_ne (tgt := 102) hx hb dX8_goText_95 (by decide) (fun c29 => ?_) (fun c29 => ?_)
                  · skip
                    refine lv_iconst (v := 0) hx hb dX8_goText_102 rfl ?_
                    exact hj28 0 (if_neg c29).symm z_b0 _ _ ls hP hD hS (lv_sub hl [0, 1, 2] rfl)
                  · skip
                    refine lv_iconst (v := 1) hx hb dX8_goText_98 rfl ?_
                    refine lv_goto (tgt := 103) hx hb dX8_goText_99 (by decide) ?_
                    exact hj28 1 (if_pos c29).symm z_b1 _ _ ls hP hD hS (lv_sub hl [0, 1, 2] rfl)
                · have hf := z_n c24 hf
                  refine lv_aload_n hx hb dX8_goText_63 rfl (lv_at hl 0 rfl) ?_
                  refine lv_aload_n hx hb dX8_goText_64 rfl (lv_at hl 0 rfl) ?_
                  refine va_get (D := D) (ci := 8) (v := .ref (q 5)) (C := RX8) (T := TX8) (N := 41) hx hb htw WW_wsX80 hown hKX.1 hP 0 rfl rfl 6 (Nat.le_of_ble_eq_true rfl) (htw _ mF_RX8_25) (fun _ h9 => h9) rfl dX8_goText_65 ?_
                  refine lv_iload_n hx hb dX8_goText_68 rfl (lv_at hl 2 rfl) ?_
                  obtain ⟨g31, hf⟩ := z_gd_u hf
                  refine va_bald hx hb hKX.1 hP 5 3 rfl rfl (z_in_u g31) dX8_goText_69 ?_
                  refine lv_bipush (v := 120) hx hb dX8_goText_70 rfl ?_
                  have hj34 : ∀ (v32 : Int32), v32 = (if ((mt_text mt) x1.toNatClampNeg) = 120 then 1 else 0) → z_b v32 = true → ∀ (H : Heap) (locs : List Loc) (ls : Array Slot), va_P D vwCl (moW ac q th row2 un15 kp mt ps bx mo4 su wy wa od py5 ju pl rs) H → va_D A (moW ac q th row2 un15 kp mt ps bx mo4 su wy wa od py5 ju pl rs) → va_S A s.heap H locs → lv_has ls 3 [(0, .ref (q 0)), (1, .int a1), (2, .int x1)] → W p l e ({ frames := 4, cells := 0, slots := 0, locals := 86 } : Room) s m (([.ref (q 0), .int a1] : List Value).toArray) below meth c H locs 0 0 (MQ below (va_Qi (fun r (_ : Unit) => r = res.1) (fun _ => zB D A (moW ac q th res.2.1 res.2.2.1 kp mt ps bx res.2.2.2.1 su wy wa od res.2.2.2.2 ju pl rs)) A) ([.ref (q 0), .int a1] : List Value).toArray s 0 0 A) (F0 m 80 ls [.int v32, .ref (q 0)]) := by
                    intro v32 hv32 bv32 H locs ls hP hD hS hl
                    have hf := z_let_u hv32 hf
                    obtain ⟨u36, hu36, hf⟩ := z_bd_u hf
                    refine zc_MVv (As := [.int v32]) (rest := []) (wr := []) (wsc := moW ac q th row2 un15 kp mt ps bx mo4 su wy wa od py5 ju pl rs) (wsc' := moW ac q th u36.1 un15 kp mt ps bx u36.2 su wy wa od py5 ju pl rs) hx hb hml hown htw (ctX8_make l D ac cs q H.size th row2 un15 kp mt ps bx mo4 su wy wa od py5 ju pl rs v32   F u36 hu36) (g_V mM_RX8_308 mI_yX8_make mS_RX8_yX8_make_yX8_make mN_RX8 mC_yX8_make) rfl (hd_yX8_make) ⟨rfl, rfl⟩ ⟨(Nat.le_of_ble_eq_true rfl), (Nat.le_of_ble_eq_true rfl)⟩ hKX hC hS hA hP hD [0, 1, 2, 3, 4, 5, 6, 7, 8, 9, 10, 11, 12, 13, 14, 15, 16, 17, 18, 19, 20] [] rfl (by decide) rfl (by decide) (by decide) 8 rfl rfl rfl hl.1 rfl (Nat.le_of_ble_eq_true rfl) ⟨Nat.zero_le _, Nat.zero_le _⟩ dX8_goText_80 (fun H locs hP hD hS => ?_)
                    have hP : va_P D vwCl (moW ac q th u36.1 un15 kp mt ps bx u36.2 su wy wa od py5 ju pl rs) H := hP
                    have hD : va_D A (moW ac q th u36.1 un15 kp mt ps bx u36.2 su wy wa od py5 ju pl rs) := hD
                    refine lv_goto (tgt := 106) hx hb dX8_goText_83 (by decide) ?_
                    exact hj21 u36.1 u36.2 hf _ _ ls  hP hD hS (lv_sub hl [0, 1, 2] rfl)
                  refine lv_icmp_ne (tgt := 79) hx hb dX8_goText_72 (by decide) (fun c35 => ?_) (fun c35 => ?_)
                  · skip
                    refine lv_iconst (v := 0) hx hb dX8_goText_79 rfl ?_
                    exact hj34 0 (if_neg c35).symm z_b0 _ _ ls hP hD hS (lv_sub hl [0, 1, 2] rfl)
                  · skip
                    refine lv_iconst (v := 1) hx hb dX8_goText_75 rfl ?_
                    refine lv_goto (tgt := 80) hx hb dX8_goText_76 (by decide) ?_
                    exact hj34 1 (if_pos c35).symm z_b1 _ _ ls hP hD hS (lv_sub hl [0, 1, 2] rfl)
              refine lv_if_eq (tgt := 59) hx hb dX8_goText_45 (by decide) (fun c37 => ?_) (fun c37 => ?_)
              · have hf := z_p c37 hf
                exact hj17 un3 hf _ _ ls  hP hD hS (lv_sub hl [0, 1, 2] rfl)
              · have hf := z_n c37 hf
                refine lv_aload_n hx hb dX8_goText_48 rfl (lv_at hl 0 rfl) ?_
                refine va_get (D := D) (ci := 8) (v := .int py5) (C := RX8) (T := TX8) (N := 41) hx hb htw WW_wsX80 hown hKX.1 hP 0 rfl rfl 33 (Nat.le_of_ble_eq_true rfl) (htw _ mF_RX8_311) (fun _ h9 => h9) rfl dX8_goText_49 ?_
                refine lv_if_ne (tgt := 59) hx hb dX8_goText_52 (by decide) (fun c38 => ?_) (fun c38 => ?_)
                · have hf := z_n c38 hf
                  exact hj17 un3 hf _ _ ls  hP hD hS (lv_sub hl [0, 1, 2] rfl)
                · have hf := z_p c38 hf
                  refine lv_aload_n hx hb dX8_goText_55 rfl (lv_at hl 0 rfl) ?_
                  obtain ⟨u39, hu39, hf⟩ := z_bd_u hf
                  refine zc_MVv (As := []) (rest := []) (wr := []) (wsc := moW ac q th row2 un3 kp mt ps bx mo4 su wy wa od py5 ju pl rs) (wsc' := moW ac q th row2 u39 kp mt ps bx mo4 su wy wa od py5 ju pl rs) hx hb hml hown htw (ctX8_remember l D ac cs q H.size th row2 un3 kp mt ps bx mo4 su wy wa od py5 ju pl rs    F u39 hu39) (g_V mM_RX8_305 mI_yX8_remember mS_RX8_yX8_remember_yX8_remember mN_RX8 mC_yX8_remember) rfl (hd_yX8_remember) ⟨rfl, rfl⟩ ⟨(Nat.le_of_ble_eq_true rfl), (Nat.le_of_ble_eq_true rfl)⟩ hKX hC hS hA hP hD [0, 1, 2, 3, 4, 5, 6, 7, 8, 9, 10, 11, 12, 13, 14, 15, 16, 17, 18, 19, 20] [] rfl (by decide) rfl (by decide) (by decide) 8 rfl rfl rfl hl.1 rfl (Nat.le_of_ble_eq_true rfl) ⟨Nat.zero_le _, Nat.zero_le _⟩ dX8_goText_56 (fun H locs hP hD hS => ?_)
                  have hP : va_P D vwCl (moW ac q th row2 u39 kp mt ps bx mo4 su wy wa od py5 ju pl rs) H := hP
                  have hD : va_D A (moW ac q th row2 u39 kp mt ps bx mo4 su wy wa od py5 ju pl rs) := hD
                  exact hj17 u39 hf _ _ ls  hP hD hS (lv_sub hl [0, 1, 2] rfl)
            · have hf := z_p c14 hf
              refine lv_iload_n hx hb dX8_goText_42 rfl (lv_at hl 2 rfl) ?_
              obtain rfl := Option.some.inj hf
              exact zr_Mi hx hb hr hlocks hP hD hS dX8_goText_43
  refine hL6  F 0 row un mo 0 hf _ _ ls  hP hD hS (lv_sub hl [1, 2, 0] rfl)

theorem hd_yX8_play : hdY yX8_play 0 := by decide +kernel
def M_play (F : Nat) (row : MRow) (un : Un) (mt : Mt) (bx : Bx) (mo : Mo) (py : Py) : Option (Int32 × Th × MRow × Un × Mt × Bx × Mo × Py) := z_jn (fun u_k7 : Int32 × MRow × Un × Bx × Mo × Py => some (u_k7.1, 0, u_k7.2.1, u_k7.2.2.1, ((mt_text mt), 0), u_k7.2.2.2.1, u_k7.2.2.2.2.1, u_k7.2.2.2.2.2)) (fun k7 => if M_isTold row = 0 then (k7 ((-2), row, un, bx, mo, py)) else (z_bd (M_strange F mt) (fun r10 : Int32 => z_jn (fun u_k17 : Int32 × MRow × Un × Bx × Mo × Py => z_let (if u_k17.1 = (-1) then u_k17.2.2.2.2.2 else ((-1000) - u_k17.1)) (fun v19 : Int32 => k7 (v19, u_k17.2.1, u_k17.2.2.1, u_k17.2.2.2.1, u_k17.2.2.2.2.1, u_k17.2.2.2.2.2))) (fun k17 => if r10 = (-1) then (z_bd (M_goNow F row bx mo) (fun u24 : Bx × Mo => z_bd (M_goText F row un mt u24.1 u24.2 1) (fun u25 : Int32 × MRow × Un × Mo × Py => z_let u25.1 (fun x26 : Int32 => k17 (x26, u25.2.1, u25.2.2.1, u24.1, u25.2.2.2.1, u25.2.2.2.2))))) else (k17 (r10, row, un, bx, mo, py))))))
set_option maxHeartbeats 4000000 in
set_option maxRecDepth 100000 in
theorem ctX8_play (l : Launch) (D : va_G) (ac cs : Nat → Nat) (q : Nat → Nat) (sz : Nat) (th : Th) (row : MRow) (un : Un) (kp : Kp) (mt : Mt) (ps : Ps) (bx : Bx) (mo : Mo) (su : Su) (wy : Wy) (wa : Wa) (od : Od) (py : Py) (ju : Ju) (pl : Pl) (rs : Rs) (F : Nat) (res : Int32 × Th × MRow × Un × Mt × Bx × Mo × Py) (hf : M_play F row un mt bx mo py = some res) : Met l yX8_play (cWW yX8_play cX8_play 3 (some .int)) { frames := 5, cells := 0, slots := 0, locals := 108 } (zM D ac cs [.ref (q 0)] (moW ac q th row un kp mt ps bx mo su wy wa od py ju pl rs) sz) (va_Qi (fun r (_ : Unit) => r = res.1) (fun _ => zB D (va_A (moW ac q th row un kp mt ps bx mo su wy wa od py ju pl rs) sz) (moW ac q res.2.1 res.2.2.1 res.2.2.2.1 kp res.2.2.2.2.1 ps res.2.2.2.2.2.1 res.2.2.2.2.2.2.1 su wy wa od res.2.2.2.2.2.2.2 ju pl rs)) (va_A (moW ac q th row un kp mt ps bx mo su wy wa od py ju pl rs) sz)) 0 0 (va_A (moW ac q th row un kp mt ps bx mo su wy wa od py ju pl rs) sz) := by
  refine Met.ofW (cc := cX8_play) (maxL := 3) (ret := (some .int)) (by decide) rfl ?_
  intro p e s m args below meth c s₁ B hml hv
  obtain ⟨rfl, hsz, hP, hKX, hD0, hC⟩ := hv
  have hx := B.exec
  have hb := B.bytes
  have hr := B.returns
  have hts := atoms_spec (ws := cWW yX8_play cX8_play 3 (some .int)) B.pre
  have htw : ∀ w ∈ WW, w.before _ s = true := fun w h => hts w (List.mem_cons_of_mem _ h)
  have hown : s.vm.findClass RX8 = some m.cls := findClass_of_methodNamed B.named
  have hlocks := B.notSynchronized
  clear hts B
  subst hsz
  have hD := hD0.self (sz := s.heap.size)
  generalize hAe : va_A (moW ac q th row un kp mt ps bx mo su wy wa od py ju pl rs) s.heap.size = A at hD hC ⊢
  have hA : ∀ q : Nat, s.heap.size ≤ q → A q := fun q h => by rw [← hAe]; exact Or.inr h
  have hS : va_S A s.heap s.heap [] := va_S.rf
  clear hD0 hAe
  have hP : va_P D vwCl (moW ac q th row un kp mt ps bx mo su wy wa od py ju pl rs) s.heap := hP
  have hl := lv_entry ([.ref (q 0)]) (n := 3) (Nat.le_of_ble_eq_true rfl)
  rw [lg_entry_eq]
  generalize (lg_sl ([.ref (q 0)]) ++ List.replicate (3 - (lg_sl ([.ref (q 0)])).length) Slot.unset).toArray = ls at hl ⊢
  have hl : lv_has ls 3 [(0, .ref (q 0))] := hl
  unfold M_play at hf
  show W p l e ({ frames := 5, cells := 0, slots := 0, locals := 108 } : Room) s m _ below meth c s.heap [] 0 0 _ (F0 m 0 ls [])
  refine lv_aload_n hx hb dX8_play_0 rfl (lv_at hl 0 rfl) ?_
  refine lv_iconst (v := 0) hx hb dX8_play_1 rfl ?_
  refine va_put (D := D) (ci := 8) (v := .int 0) (ty := tyX8 0) (C := RX8) (T := TX8) (N := 41) hx hb htw WW_wsX80 tyX8 tyX8_ok nmX8 hown hKX.1 hP hD hS 0 rfl rfl 0 (Nat.le_of_ble_eq_true rfl) (htw _ mF_RX8_75) (fun _ h9 => h9) rfl (tyX8_ok 0 (Nat.le_of_ble_eq_true rfl)) rfl rfl (Nat.le_of_ble_eq_true rfl) dX8_play_2 (fun H locs hP hD hS => ?_)
  have hP : va_P D vwCl (moW ac q 0 row un kp mt ps bx mo su wy wa od py ju pl rs) H := hP
  have hD : va_D A (moW ac q 0 row un kp mt ps bx mo su wy wa od py ju pl rs) := hD
  refine lv_bipush (v := (-2)) hx hb dX8_play_5 rfl ?_
  refine lv_istore_n (lv' := [(1, .int (-2)), (0, .ref (q 0))]) hx hb dX8_play_7 rfl hl (Nat.le_of_ble_eq_true rfl) rfl (fun ls hl => ?_)
  refine lv_aload_n hx hb dX8_play_8 rfl (lv_at hl 1 rfl) ?_
  refine zc_RVi (As := []) (rest := []) hx hb hml hown htw (ctX8_isTold l D ac cs q 0 row un kp mt ps bx mo su wy wa od py ju pl rs    _ rfl) (g_V mM_RX8_83 mI_yX8_isTold mS_RX8_yX8_isTold_yX8_isTold mN_RX8 mC_yX8_isTold) rfl (hd_yX8_isTold) ⟨rfl, rfl⟩ ⟨(Nat.le_of_ble_eq_true rfl), (Nat.le_of_ble_eq_true rfl)⟩ hKX hC hS hP 8 rfl rfl rfl hl.1 rfl (Nat.le_of_ble_eq_true rfl) ⟨Nat.zero_le _, Nat.zero_le _⟩ dX8_play_9 ?_
  obtain ⟨k7, hk7, hf⟩ := z_jn_u hf
  have hj8 : ∀ (v1 : Int32) (row2 : MRow) (un3 : Un) (bx4 : Bx) (mo5 : Mo) (py6 : Py), k7 (v1, row2, un3, bx4, mo5, py6) = some res → ∀ (H : Heap) (locs : List Loc) (ls : Array Slot), va_P D vwCl (moW ac q 0 row2 un3 kp mt ps bx4 mo5 su wy wa od py6 ju pl rs) H → va_D A (moW ac q 0 row2 un3 kp mt ps bx4 mo5 su wy wa od py6 ju pl rs) → va_S A s.heap H locs → lv_has ls 3 [(0, .ref (q 0)), (1, .int v1)] → W p l e ({ frames := 5, cells := 0, slots := 0, locals := 108 } : Room) s m (([.ref (q 0)] : List Value).toArray) below meth c H locs 0 0 (MQ below (va_Qi (fun r (_ : Unit) => r = res.1) (fun _ => zB D A (moW ac q res.2.1 res.2.2.1 res.2.2.2.1 kp res.2.2.2.2.1 ps res.2.2.2.2.2.1 res.2.2.2.2.2.2.1 su wy wa od res.2.2.2.2.2.2.2 ju pl rs)) A) ([.ref (q 0)] : List Value).toArray s 0 0 A) (F0 m 53 ls []) := by
    intro v1 row2 un3 bx4 mo5 py6 hf H locs ls hP hD hS hl
    have hf := hk7 _ hf
    refine lv_aload_n hx hb dX8_play_53 rfl (lv_at hl 0 rfl) ?_
    refine lv_iconst (v := 0) hx hb dX8_play_54 rfl ?_
    refine va_put (D := D) (ci := 8) (v := .int 0) (ty := tyX8 7) (C := RX8) (T := TX8) (N := 41) hx hb htw WW_wsX80 tyX8 tyX8_ok nmX8 hown hKX.1 hP hD hS 0 rfl rfl 7 (Nat.le_of_ble_eq_true rfl) (htw _ mF_RX8_94) (fun _ h9 => h9) rfl (tyX8_ok 7 (Nat.le_of_ble_eq_true rfl)) rfl rfl (Nat.le_of_ble_eq_true rfl) dX8_play_55 (fun H locs hP hD hS => ?_)
    have hP : va_P D vwCl (moW ac q 0 row2 un3 kp ((mt_text mt), 0) ps bx4 mo5 su wy wa od py6 ju pl rs) H := hP
    have hD : va_D A (moW ac q 0 row2 un3 kp ((mt_text mt), 0) ps bx4 mo5 su wy wa od py6 ju pl rs) := hD
    refine lv_iload_n hx hb dX8_play_58 rfl (lv_at hl 1 rfl) ?_
    obtain rfl := Option.some.inj hf
    exact zr_Mi hx hb hr hlocks hP hD hS dX8_play_59
  refine lv_if_eq (tgt := 53) hx hb dX8_play_12 (by decide) (fun c9 => ?_) (fun c9 => ?_)
  · have hf := z_p c9 hf
    exact hj8 (-2) row un bx mo py hf _ _ ls  hP hD hS (lv_sub hl [1, 0] rfl)
  · have hf := z_n c9 hf
    refine lv_aload_n hx hb dX8_play_15 rfl (lv_at hl 1 rfl) ?_
    obtain ⟨r10, hr10, hf⟩ := z_bd_u hf
    refine zc_RVi (As := []) (rest := []) hx hb hml hown htw (ctX8_strange l D ac cs q 0 row un kp mt ps bx mo su wy wa od py ju pl rs    F _ hr10) (g_V mM_RX8_314 mI_yX8_strange mS_RX8_yX8_strange_yX8_strange mN_RX8 mC_yX8_strange) rfl (hd_yX8_strange) ⟨rfl, rfl⟩ ⟨(Nat.le_of_ble_eq_true rfl), (Nat.le_of_ble_eq_true rfl)⟩ hKX hC hS hP 8 rfl rfl rfl hl.1 rfl (Nat.le_of_ble_eq_true rfl) ⟨Nat.zero_le _, Nat.zero_le _⟩ dX8_play_16 ?_
    refine lv_istore_n (lv' := [(2, .int r10), (1, .int (-2)), (0, .ref (q 0))]) hx hb dX8_play_19 rfl hl (Nat.le_of_ble_eq_true rfl) rfl (fun ls hl => ?_)
    refine lv_iload_n hx hb dX8_play_20 rfl (lv_at hl 0 rfl) ?_
    refine lv_iconst (v := (-1)) hx hb dX8_play_21 rfl ?_
    obtain ⟨k17, hk17, hf⟩ := z_jn_u hf
    have hj18 : ∀ (v11 : Int32) (row12 : MRow) (un13 : Un) (bx14 : Bx) (mo15 : Mo) (py16 : Py), k17 (v11, row12, un13, bx14, mo15, py16) = some res → ∀ (H : Heap) (locs : List Loc) (ls : Array Slot), va_P D vwCl (moW ac q 0 row12 un13 kp mt ps bx14 mo15 su wy wa od py16 ju pl rs) H → va_D A (moW ac q 0 row12 un13 kp mt ps bx14 mo15 su wy wa od py16 ju pl rs) → va_S A s.heap H locs → lv_has ls 3 [(0, .ref (q 0)), (2, .int v11)] → W p l e ({ frames := 5, cells := 0, slots := 0, locals := 108 } : Room) s m (([.ref (q 0)] : List Value).toArray) below meth c H locs 0 0 (MQ below (va_Qi (fun r (_ : Unit) => r = res.1) (fun _ => zB D A (moW ac q res.2.1 res.2.2.1 res.2.2.2.1 kp res.2.2.2.2.1 ps res.2.2.2.2.2.1 res.2.2.2.2.2.2.1 su wy wa od res.2.2.2.2.2.2.2 ju pl rs)) A) ([.ref (q 0)] : List Value).toArray s 0 0 A) (F0 m 35 ls []) := by
      intro v11 row12 un13 bx14 mo15 py16 hf H locs ls hP hD hS hl
      have hf := hk17 _ hf
      refine lv_iload_n hx hb dX8_play_35 rfl (lv_at hl 1 rfl) ?_
      refine lv_iconst (v := (-1)) hx hb dX8_play_36 rfl ?_
      have hj21 : ∀ (v19 : Int32), v19 = (if v11 = (-1) then py16 else ((-1000) - v11)) → ∀ (H : Heap) (locs : List Loc) (ls : Array Slot), va_P D vwCl (moW ac q 0 row12 un13 kp mt ps bx14 mo15 su wy wa od py16 ju pl rs) H → va_D A (moW ac q 0 row12 un13 kp mt ps bx14 mo15 su wy wa od py16 ju pl rs) → va_S A s.heap H locs → lv_has ls 3 [(0, .ref (q 0))] → W p l e ({ frames := 5, cells := 0, slots := 0, locals := 108 } : Room) s m (([.ref (q 0)] : List Value).toArray) below meth c H locs 0 0 (MQ below (va_Qi (fun r (_ : Unit) => r = res.1) (fun _ => zB D A (moW ac q res.2.1 res.2.2.1 res.2.2.2.1 kp res.2.2.2.2.1 ps res.2.2.2.2.2.1 res.2.2.2.2.2.2.1 su wy wa od res.2.2.2.2.2.2.2 ju pl rs)) A) ([.ref (q 0)] : List Value).toArray s 0 0 A) (F0 m 52 ls [.int v19]) := by
        intro v19 hv19 H locs ls hP hD hS hl
        have hf := z_let_u hv19 hf
        refine lv_istore_n (lv' := [(1, .int v19), (0, .ref (q 0))]) hx hb dX8_play_52 rfl hl (Nat.le_of_ble_eq_true rfl) rfl (fun ls hl => ?_)
        exact hj8 v19 row12 un13 bx14 mo15 py16 hf _ _ ls  hP hD hS (lv_sub hl [1, 0] rfl)
      refine lv_icmp_ne (tgt := 47) hx hb dX8_play_37 (by decide) (fun c22 => ?_) (fun c22 => ?_)
      · skip
        refine lv_sipush (v := (-1000)) hx hb dX8_play_47 rfl ?_
        refine lv_iload_n hx hb dX8_play_50 rfl (lv_at hl 1 rfl) ?_
        refine lv_isub hx hb dX8_play_51 ?_
        exact hj21 ((-1000) - v11) (if_neg c22).symm _ _ ls hP hD hS (lv_sub hl [0] rfl)
      · skip
        refine lv_aload_n hx hb dX8_play_40 rfl (lv_at hl 0 rfl) ?_
        refine va_get (D := D) (ci := 8) (v := .int py16) (C := RX8) (T := TX8) (N := 41) hx hb htw WW_wsX80 hown hKX.1 hP 0 rfl rfl 33 (Nat.le_of_ble_eq_true rfl) (htw _ mF_RX8_311) (fun _ h9 => h9) rfl dX8_play_41 ?_
        refine lv_goto (tgt := 52) hx hb dX8_play_44 (by decide) ?_
        exact hj21 py16 (if_pos c22).symm _ _ ls hP hD hS (lv_sub hl [0] rfl)
    refine lv_icmp_ne (tgt := 35) hx hb dX8_play_22 (by decide) (fun c23 => ?_) (fun c23 => ?_)
    · have hf := z_n c23 hf
      exact hj18 r10 row un bx mo py hf _ _ ls  hP hD hS (lv_sub hl [2, 0] rfl)
    · have hf := z_p c23 hf
      refine lv_aload_n hx hb dX8_play_25 rfl (lv_at hl 2 rfl) ?_
      obtain ⟨u24, hu24, hf⟩ := z_bd_u hf
      refine zc_MVv (As := []) (rest := []) (wr := []) (wsc := moW ac q 0 row un kp mt ps bx mo su wy wa od py ju pl rs) (wsc' := moW ac q 0 row un kp mt ps u24.1 u24.2 su wy wa od py ju pl rs) hx hb hml hown htw (ctX8_goNow l D ac cs q H.size 0 row un kp mt ps bx mo su wy wa od py ju pl rs    F u24 hu24) (g_V mM_RX8_302 mI_yX8_goNow mS_RX8_yX8_goNow_yX8_goNow mN_RX8 mC_yX8_goNow) rfl (hd_yX8_goNow) ⟨rfl, rfl⟩ ⟨(Nat.le_of_ble_eq_true rfl), (Nat.le_of_ble_eq_true rfl)⟩ hKX hC hS hA hP hD [0, 1, 2, 3, 4, 5, 6, 7, 8, 9, 10, 11, 12, 13, 14, 15, 16, 17, 18, 19, 20] [] rfl (by decide) rfl (by decide) (by decide) 8 rfl rfl rfl hl.1 rfl (Nat.le_of_ble_eq_true rfl) ⟨Nat.zero_le _, Nat.zero_le _⟩ dX8_play_26 (fun H locs hP hD hS => ?_)
      have hP : va_P D vwCl (moW ac q 0 row un kp mt ps u24.1 u24.2 su wy wa od py ju pl rs) H := hP
      have hD : va_D A (moW ac q 0 row un kp mt ps u24.1 u24.2 su wy wa od py ju pl rs) := hD
      refine lv_aload_n hx hb dX8_play_29 rfl (lv_at hl 2 rfl) ?_
      refine lv_iconst (v := 1) hx hb dX8_play_30 rfl ?_
      obtain ⟨u25, hu25, hf⟩ := z_bd_u hf
      refine zc_MVi (As := [.int 1]) (rest := []) (wr := []) (wsc := moW ac q 0 row un kp mt ps u24.1 u24.2 su wy wa od py ju pl rs) (wsc' := moW ac q 0 u25.2.1 u25.2.2.1 kp mt ps u24.1 u25.2.2.2.1 su wy wa od u25.2.2.2.2 ju pl rs) hx hb hml hown htw (ctX8_goText l D ac cs q H.size 0 row un kp mt ps u24.1 u24.2 su wy wa od py ju pl rs 1   F u25 hu25) (g_V mM_RX8_317 mI_yX8_goText mS_RX8_yX8_goText_yX8_goText mN_RX8 mC_yX8_goText) rfl (hd_yX8_goText) ⟨rfl, rfl⟩ ⟨(Nat.le_of_ble_eq_true rfl), (Nat.le_of_ble_eq_true rfl)⟩ hKX hC hS hA hP hD [0, 1, 2, 3, 4, 5, 6, 7, 8, 9, 10, 11, 12, 13, 14, 15, 16, 17, 18, 19, 20] [] rfl (by decide) rfl (by decide) (by decide) 8 rfl rfl rfl hl.1 rfl (Nat.le_of_ble_eq_true rfl) ⟨Nat.zero_le _, Nat.zero_le _⟩ dX8_play_31 (fun H locs hP hD hS => ?_)
      have hP : va_P D vwCl (moW ac q 0 u25.2.1 u25.2.2.1 kp mt ps u24.1 u25.2.2.2.1 su wy wa od u25.2.2.2.2 ju pl rs) H := hP
      have hD : va_D A (moW ac q 0 u25.2.1 u25.2.2.1 kp mt ps u24.1 u25.2.2.2.1 su wy wa od u25.2.2.2.2 ju pl rs) := hD
      refine lv_topi (fun x26 hx26 => ?_)
      have hf := z_let_u hx26 hf
      refine lv_istore_n (lv' := [(2, .int x26), (1, .int (-2)), (0, .ref (q 0))]) hx hb dX8_play_34 rfl hl (Nat.le_of_ble_eq_true rfl) rfl (fun ls hl => ?_)
      exact hj18 x26 u25.2.1 u25.2.2.1 u24.1 u25.2.2.2.1 u25.2.2.2.2 hf _ _ ls  hP hD hS (lv_sub hl [2, 0] rfl)

theorem hd_yX8_judge : hdY yX8_judge 0 := by decide +kernel
def M_judge (F : Nat) (row : MRow) (un : Un) (mt : Mt) (bx : Bx) (mo : Mo) (py : Py) (ju : Ju) : Option (Int32 × Th × MRow × Un × Mt × Bx × Mo × Py × Ju) := if M_isTold row = 0 then (some ((-2), 0, row, un, ((mt_text mt), 0), bx, mo, py, ju)) else (z_bd (M_strange F mt) (fun r2 : Int32 => z_jn (fun u_k9 : Int32 × MRow × Un × Bx × Mo × Py => if u_k9.1 = (-1) then (z_let ((mo_goals u_k9.2.2.2.2.1) 0) (fun x12 : Int32 => z_let ((mo_goals u_k9.2.2.2.2.1) 1) (fun x13 : Int32 => z_let (if (mo_isOver u_k9.2.2.2.2.1) = 0 then 0 else 1) (fun v14 : Int32 => z_let (if (mo_kicks u_k9.2.2.2.2.1) = 0 then (-1) else (((mo_kicks u_k9.2.2.2.2.1) - 1) / 2)) (fun v18 : Int32 => some (u_k9.2.2.2.2.2, 0, u_k9.2.1, u_k9.2.2.1, ((mt_text mt), 0), u_k9.2.2.2.1, u_k9.2.2.2.2.1, u_k9.2.2.2.2.2, ((upd (upd (upd (upd (ju_judged ju) 0 x12) 1 x13) 2 v14) 3 v18), 1))))))) else (some (((-1000) - u_k9.1), 0, u_k9.2.1, u_k9.2.2.1, ((mt_text mt), 0), u_k9.2.2.2.1, u_k9.2.2.2.2.1, u_k9.2.2.2.2.2, ju))) (fun k9 => if r2 = (-1) then (z_bd (M_begin F row bx mo) (fun u23 : Bx × Mo => z_bd (M_goText F row un mt u23.1 u23.2 0) (fun u24 : Int32 × MRow × Un × Mo × Py => z_let u24.1 (fun x25 : Int32 => k9 (x25, u24.2.1, u24.2.2.1, u23.1, u24.2.2.2.1, u24.2.2.2.2))))) else (k9 (r2, row, un, bx, mo, py)))))
set_option maxHeartbeats 4000000 in
set_option maxRecDepth 100000 in
theorem ctX8_judge (l : Launch) (D : va_G) (ac cs : Nat → Nat) (q : Nat → Nat) (sz : Nat) (th : Th) (row : MRow) (un : Un) (kp : Kp) (mt : Mt) (ps : Ps) (bx : Bx) (mo : Mo) (su : Su) (wy : Wy) (wa : Wa) (od : Od) (py : Py) (ju : Ju) (pl : Pl) (rs : Rs) (F : Nat) (res : Int32 × Th × MRow × Un × Mt × Bx × Mo × Py × Ju) (hf : M_judge F row un mt bx mo py ju = some res) : Met l yX8_judge (cWW yX8_judge cX8_judge 2 (some .int)) { frames := 5, cells := 0, slots := 0, locals := 108 } (zM D ac cs [.ref (q 0)] (moW ac q th row un kp mt ps bx mo su wy wa od py ju pl rs) sz) (va_Qi (fun r (_ : Unit) => r = res.1) (fun _ => zB D (va_A (moW ac q th row un kp mt ps bx mo su wy wa od py ju pl rs) sz) (moW ac q res.2.1 res.2.2.1 res.2.2.2.1 kp res.2.2.2.2.1 ps res.2.2.2.2.2.1 res.2.2.2.2.2.2.1 su wy wa od res.2.2.2.2.2.2.2.1 res.2.2.2.2.2.2.2.2 pl rs)) (va_A (moW ac q th row un kp mt ps bx mo su wy wa od py ju pl rs) sz)) 0 0 (va_A (moW ac q th row un kp mt ps bx mo su wy wa od py ju pl rs) sz) := by
  refine Met.ofW (cc := cX8_judge) (maxL := 2) (ret := (some .int)) (by decide) rfl ?_
  intro p e s m args below meth c s₁ B hml hv
  obtain ⟨rfl, hsz, hP, hKX, hD0, hC⟩ := hv
  have hx := B.exec
  have hb := B.bytes
  have hr := B.returns
  have hts := atoms_spec (ws := cWW yX8_judge cX8_judge 2 (some .int)) B.pre
  have htw : ∀ w ∈ WW, w.before _ s = true := fun w h => hts w (List.mem_cons_of_mem _ h)
  have hown : s.vm.findClass RX8 = some m.cls := findClass_of_methodNamed B.named
  have hlocks := B.notSynchronized
  clear hts B
  subst hsz
  have hD := hD0.self (sz := s.heap.size)
  generalize hAe : va_A (moW ac q th row un kp mt ps bx mo su wy wa od py ju pl rs) s.heap.size = A at hD hC ⊢
  have hA : ∀ q : Nat, s.heap.size ≤ q → A q := fun q h => by rw [← hAe]; exact Or.inr h
  have hS : va_S A s.heap s.heap [] := va_S.rf
  clear hD0 hAe
  have hP : va_P D vwCl (moW ac q th row un kp mt ps bx mo su wy wa od py ju pl rs) s.heap := hP
  have hl := lv_entry ([.ref (q 0)]) (n := 2) (Nat.le_of_ble_eq_true rfl)
  rw [lg_entry_eq]
  generalize (lg_sl ([.ref (q 0)]) ++ List.replicate (2 - (lg_sl ([.ref (q 0)])).length) Slot.unset).toArray = ls at hl ⊢
  have hl : lv_has ls 2 [(0, .ref (q 0))] := hl
  unfold M_judge at hf
  show W p l e ({ frames := 5, cells := 0, slots := 0, locals := 108 } : Room) s m _ below meth c s.heap [] 0 0 _ (F0 m 0 ls [])
  refine lv_aload_n hx hb dX8_judge_0 rfl (lv_at hl 0 rfl) ?_
  refine lv_iconst (v := 0) hx hb dX8_judge_1 rfl ?_
  refine va_put (D := D) (ci := 8) (v := .int 0) (ty := tyX8 0) (C := RX8) (T := TX8) (N := 41) hx hb htw WW_wsX80 tyX8 tyX8_ok nmX8 hown hKX.1 hP hD hS 0 rfl rfl 0 (Nat.le_of_ble_eq_true rfl) (htw _ mF_RX8_75) (fun _ h9 => h9) rfl (tyX8_ok 0 (Nat.le_of_ble_eq_true rfl)) rfl rfl (Nat.le_of_ble_eq_true rfl) dX8_judge_2 (fun H locs hP hD hS => ?_)
  have hP : va_P D vwCl (moW ac q 0 row un kp mt ps bx mo su wy wa od py ju pl rs) H := hP
  have hD : va_D A (moW ac q 0 row un kp mt ps bx mo su wy wa od py ju pl rs) := hD
  refine lv_aload_n hx hb dX8_judge_5 rfl (lv_at hl 0 rfl) ?_
  refine zc_RVi (As := []) (rest := []) hx hb hml hown htw (ctX8_isTold l D ac cs q 0 row un kp mt ps bx mo su wy wa od py ju pl rs    _ rfl) (g_V mM_RX8_83 mI_yX8_isTold mS_RX8_yX8_isTold_yX8_isTold mN_RX8 mC_yX8_isTold) rfl (hd_yX8_isTold) ⟨rfl, rfl⟩ ⟨(Nat.le_of_ble_eq_true rfl), (Nat.le_of_ble_eq_true rfl)⟩ hKX hC hS hP 8 rfl rfl rfl hl.1 rfl (Nat.le_of_ble_eq_true rfl) ⟨Nat.zero_le _, Nat.zero_le _⟩ dX8_judge_6 ?_
  refine lv_if_ne (tgt := 20) hx hb dX8_judge_9 (by decide) (fun c1 => ?_) (fun c1 => ?_)
  · have hf := z_n c1 hf
    refine lv_aload_n hx hb dX8_judge_20 rfl (lv_at hl 0 rfl) ?_
    obtain ⟨r2, hr2, hf⟩ := z_bd_u hf
    refine zc_RVi (As := []) (rest := []) hx hb hml hown htw (ctX8_strange l D ac cs q 0 row un kp mt ps bx mo su wy wa od py ju pl rs    F _ hr2) (g_V mM_RX8_314 mI_yX8_strange mS_RX8_yX8_strange_yX8_strange mN_RX8 mC_yX8_strange) rfl (hd_yX8_strange) ⟨rfl, rfl⟩ ⟨(Nat.le_of_ble_eq_true rfl), (Nat.le_of_ble_eq_true rfl)⟩ hKX hC hS hP 8 rfl rfl rfl hl.1 rfl (Nat.le_of_ble_eq_true rfl) ⟨Nat.zero_le _, Nat.zero_le _⟩ dX8_judge_21 ?_
    refine lv_istore_n (lv' := [(1, .int r2), (0, .ref (q 0))]) hx hb dX8_judge_24 rfl hl (Nat.le_of_ble_eq_true rfl) rfl (fun ls hl => ?_)
    refine lv_iload_n hx hb dX8_judge_25 rfl (lv_at hl 0 rfl) ?_
    refine lv_iconst (v := (-1)) hx hb dX8_judge_26 rfl ?_
    obtain ⟨k9, hk9, hf⟩ := z_jn_u hf
    have hj10 : ∀ (v3 : Int32) (row4 : MRow) (un5 : Un) (bx6 : Bx) (mo7 : Mo) (py8 : Py), k9 (v3, row4, un5, bx6, mo7, py8) = some res → ∀ (H : Heap) (locs : List Loc) (ls : Array Slot), va_P D vwCl (moW ac q 0 row4 un5 kp mt ps bx6 mo7 su wy wa od py8 ju pl rs) H → va_D A (moW ac q 0 row4 un5 kp mt ps bx6 mo7 su wy wa od py8 ju pl rs) → va_S A s.heap H locs → lv_has ls 2 [(0, .ref (q 0)), (1, .int v3)] → W p l e ({ frames := 5, cells := 0, slots := 0, locals := 108 } : Room) s m (([.ref (q 0)] : List Value).toArray) below meth c H locs 0 0 (MQ below (va_Qi (fun r (_ : Unit) => r = res.1) (fun _ => zB D A (moW ac q res.2.1 res.2.2.1 res.2.2.2.1 kp res.2.2.2.2.1 ps res.2.2.2.2.2.1 res.2.2.2.2.2.2.1 su wy wa od res.2.2.2.2.2.2.2.1 res.2.2.2.2.2.2.2.2 pl rs)) A) ([.ref (q 0)] : List Value).toArray s 0 0 A) (F0 m 40 ls []) := by
      intro v3 row4 un5 bx6 mo7 py8 hf H locs ls hP hD hS hl
      have hf := hk9 _ hf
      refine lv_aload_n hx hb dX8_judge_40 rfl (lv_at hl 0 rfl) ?_
      refine lv_iconst (v := 0) hx hb dX8_judge_41 rfl ?_
      refine va_put (D := D) (ci := 8) (v := .int 0) (ty := tyX8 7) (C := RX8) (T := TX8) (N := 41) hx hb htw WW_wsX80 tyX8 tyX8_ok nmX8 hown hKX.1 hP hD hS 0 rfl rfl 7 (Nat.le_of_ble_eq_true rfl) (htw _ mF_RX8_94) (fun _ h9 => h9) rfl (tyX8_ok 7 (Nat.le_of_ble_eq_true rfl)) rfl rfl (Nat.le_of_ble_eq_true rfl) dX8_judge_42 (fun H locs hP hD hS => ?_)
      have hP : va_P D vwCl (moW ac q 0 row4 un5 kp ((mt_text mt), 0) ps bx6 mo7 su wy wa od py8 ju pl rs) H := hP
      have hD : va_D A (moW ac q 0 row4 un5 kp ((mt_text mt), 0) ps bx6 mo7 su wy wa od py8 ju pl rs) := hD
      refine lv_iload_n hx hb dX8_judge_45 rfl (lv_at hl 1 rfl) ?_
      refine lv_iconst (v := (-1)) hx hb dX8_judge_46 rfl ?_
      refine lv_icmp_eq (tgt := 56) hx hb dX8_judge_47 (by decide) (fun c11 => ?_) (fun c11 => ?_)
      · have hf := z_p c11 hf
        refine lv_aload_n hx hb dX8_judge_56 rfl (lv_at hl 0 rfl) ?_
        refine lv_iconst (v := 1) hx hb dX8_judge_57 rfl ?_
        refine va_put (D := D) (ci := 8) (v := .int 1) (ty := tyX8 35) (C := RX8) (T := TX8) (N := 41) hx hb htw WW_wsX80 tyX8 tyX8_ok nmX8 hown hKX.1 hP hD hS 0 rfl rfl 35 (Nat.le_of_ble_eq_true rfl) (htw _ mF_RX8_321) (fun _ h9 => h9) rfl (tyX8_ok 35 (Nat.le_of_ble_eq_true rfl)) (z_b_n z_b1) (z_b_f z_b1) (Nat.le_of_ble_eq_true rfl) dX8_judge_58 (fun H locs hP hD hS => ?_)
        have hP : va_P D vwCl (moW ac q 0 row4 un5 kp ((mt_text mt), 0) ps bx6 mo7 su wy wa od py8 ((ju_judged ju), 1) pl rs) H := hP
        have hD : va_D A (moW ac q 0 row4 un5 kp ((mt_text mt), 0) ps bx6 mo7 su wy wa od py8 ((ju_judged ju), 1) pl rs) := hD
        refine lv_aload_n hx hb dX8_judge_61 rfl (lv_at hl 0 rfl) ?_
        refine va_get (D := D) (ci := 8) (v := .ref (q 16)) (C := RX8) (T := TX8) (N := 41) hx hb htw WW_wsX80 hown hKX.1 hP 0 rfl rfl 34 (Nat.le_of_ble_eq_true rfl) (htw _ mF_RX8_60) (fun _ h9 => h9) rfl dX8_judge_62 ?_
        refine lv_iconst (v := 0) hx hb dX8_judge_65 rfl ?_
        refine lv_aload_n hx hb dX8_judge_66 rfl (lv_at hl 0 rfl) ?_
        refine va_get (D := D) (ci := 8) (v := .ref (q 9)) (C := RX8) (T := TX8) (N := 41) hx hb htw WW_wsX80 hown hKX.1 hP 0 rfl rfl 17 (Nat.le_of_ble_eq_true rfl) (htw _ mF_RX8_38) (fun _ h9 => h9) rfl dX8_judge_67 ?_
        refine lv_iconst (v := 0) hx hb dX8_judge_70 rfl ?_
        refine zv_iald_k hx hb hKX.1 hP 9 0 rfl rfl 0 rfl (z_in_u (by decide +kernel)) dX8_judge_71 ?_
        refine lv_topi (fun x12 hx12 => ?_)
        have hf := z_let_u hx12 hf
        refine zv_iast_k hx hb hKX.1 hP hD hS 16 0 rfl rfl 0 rfl (z_in_u (by decide +kernel)) dX8_judge_72 (fun H locs hP hD hS => ?_)
        have hP : va_P D vwCl (moW ac q 0 row4 un5 kp ((mt_text mt), 0) ps bx6 mo7 su wy wa od py8 ((upd (ju_judged ju) 0 x12), 1) pl rs) H := hP
        have hD : va_D A (moW ac q 0 row4 un5 kp ((mt_text mt), 0) ps bx6 mo7 su wy wa od py8 ((upd (ju_judged ju) 0 x12), 1) pl rs) := hD
        refine lv_aload_n hx hb dX8_judge_73 rfl (lv_at hl 0 rfl) ?_
        refine va_get (D := D) (ci := 8) (v := .ref (q 16)) (C := RX8) (T := TX8) (N := 41) hx hb htw WW_wsX80 hown hKX.1 hP 0 rfl rfl 34 (Nat.le_of_ble_eq_true rfl) (htw _ mF_RX8_60) (fun _ h9 => h9) rfl dX8_judge_74 ?_
        refine lv_iconst (v := 1) hx hb dX8_judge_77 rfl ?_
        refine lv_aload_n hx hb dX8_judge_78 rfl (lv_at hl 0 rfl) ?_
        refine va_get (D := D) (ci := 8) (v := .ref (q 9)) (C := RX8) (T := TX8) (N := 41) hx hb htw WW_wsX80 hown hKX.1 hP 0 rfl rfl 17 (Nat.le_of_ble_eq_true rfl) (htw _ mF_RX8_38) (fun _ h9 => h9) rfl dX8_judge_79 ?_
        refine lv_iconst (v := 1) hx hb dX8_judge_82 rfl ?_
        refine zv_iald_k hx hb hKX.1 hP 9 0 rfl rfl 1 rfl (z_in_u (by decide +kernel)) dX8_judge_83 ?_
        refine lv_topi (fun x13 hx13 => ?_)
        have hf := z_let_u hx13 hf
        refine zv_iast_k hx hb hKX.1 hP hD hS 16 0 rfl rfl 1 rfl (z_in_u (by decide +kernel)) dX8_judge_84 (fun H locs hP hD hS => ?_)
        have hP : va_P D vwCl (moW ac q 0 row4 un5 kp ((mt_text mt), 0) ps bx6 mo7 su wy wa od py8 ((upd (upd (ju_judged ju) 0 x12) 1 x13), 1) pl rs) H := hP
        have hD : va_D A (moW ac q 0 row4 un5 kp ((mt_text mt), 0) ps bx6 mo7 su wy wa od py8 ((upd (upd (ju_judged ju) 0 x12) 1 x13), 1) pl rs) := hD
        refine lv_aload_n hx hb dX8_judge_85 rfl (lv_at hl 0 rfl) ?_
        refine va_get (D := D) (ci := 8) (v := .ref (q 16)) (C := RX8) (T := TX8) (N := 41) hx hb htw WW_wsX80 hown hKX.1 hP 0 rfl rfl 34 (Nat.le_of_ble_eq_true rfl) (htw _ mF_RX8_60) (fun _ h9 => h9) rfl dX8_judge_86 ?_
        refine lv_iconst (v := 2) hx hb dX8_judge_89 rfl ?_
        refine lv_aload_n hx hb dX8_judge_90 rfl (lv_at hl 0 rfl) ?_
        refine va_get (D := D) (ci := 8) (v := .int (mo_isOver mo7)) (C := RX8) (T := TX8) (N := 41) hx hb htw WW_wsX80 hown hKX.1 hP 0 rfl rfl 21 (Nat.le_of_ble_eq_true rfl) (htw _ mF_RX8_208) (fun _ h9 => h9) rfl dX8_judge_91 ?_
        have hj16 : ∀ (v14 : Int32), v14 = (if (mo_isOver mo7) = 0 then 0 else 1) → z_b v14 = true → ∀ (H : Heap) (locs : List Loc) (ls : Array Slot), va_P D vwCl (moW ac q 0 row4 un5 kp ((mt_text mt), 0) ps bx6 mo7 su wy wa od py8 ((upd (upd (ju_judged ju) 0 x12) 1 x13), 1) pl rs) H → va_D A (moW ac q 0 row4 un5 kp ((mt_text mt), 0) ps bx6 mo7 su wy wa od py8 ((upd (upd (ju_judged ju) 0 x12) 1 x13), 1) pl rs) → va_S A s.heap H locs → lv_has ls 2 [(0, .ref (q 0))] → W p l e ({ frames := 5, cells := 0, slots := 0, locals := 108 } : Room) s m (([.ref (q 0)] : List Value).toArray) below meth c H locs 0 0 (MQ below (va_Qi (fun r (_ : Unit) => r = res.1) (fun _ => zB D A (moW ac q res.2.1 res.2.2.1 res.2.2.2.1 kp res.2.2.2.2.1 ps res.2.2.2.2.2.1 res.2.2.2.2.2.2.1 su wy wa od res.2.2.2.2.2.2.2.1 res.2.2.2.2.2.2.2.2 pl rs)) A) ([.ref (q 0)] : List Value).toArray s 0 0 A) (F0 m 102 ls [.int v14, .int 2, .ref (q 16)]) := by
          intro v14 hv14 bv14 H locs ls hP hD hS hl
          have hf := z_let_u hv14 hf
          refine zv_iast_k hx hb hKX.1 hP hD hS 16 0 rfl rfl 2 rfl (z_in_u (by decide +kernel)) dX8_judge_102 (fun H locs hP hD hS => ?_)
          have hP : va_P D vwCl (moW ac q 0 row4 un5 kp ((mt_text mt), 0) ps bx6 mo7 su wy wa od py8 ((upd (upd (upd (ju_judged ju) 0 x12) 1 x13) 2 v14), 1) pl rs) H := hP
          have hD : va_D A (moW ac q 0 row4 un5 kp ((mt_text mt), 0) ps bx6 mo7 su wy wa od py8 ((upd (upd (upd (ju_judged ju) 0 x12) 1 x13) 2 v14), 1) pl rs) := hD
          refine lv_aload_n hx hb dX8_judge_103 rfl (lv_at hl 0 rfl) ?_
          refine va_get (D := D) (ci := 8) (v := .ref (q 16)) (C := RX8) (T := TX8) (N := 41) hx hb htw WW_wsX80 hown hKX.1 hP 0 rfl rfl 34 (Nat.le_of_ble_eq_true rfl) (htw _ mF_RX8_60) (fun _ h9 => h9) rfl dX8_judge_104 ?_
          refine lv_iconst (v := 3) hx hb dX8_judge_107 rfl ?_
          refine lv_aload_n hx hb dX8_judge_108 rfl (lv_at hl 0 rfl) ?_
          refine va_get (D := D) (ci := 8) (v := .int (mo_kicks mo7)) (C := RX8) (T := TX8) (N := 41) hx hb htw WW_wsX80 hown hKX.1 hP 0 rfl rfl 19 (Nat.le_of_ble_eq_true rfl) (htw _ mF_RX8_202) (fun _ h9 => h9) rfl dX8_judge_109 ?_
          have hj20 : ∀ (v18 : Int32), v18 = (if (mo_kicks mo7) = 0 then (-1) else (((mo_kicks mo7) - 1) / 2)) → ∀ (H : Heap) (locs : List Loc) (ls : Array Slot), va_P D vwCl (moW ac q 0 row4 un5 kp ((mt_text mt), 0) ps bx6 mo7 su wy wa od py8 ((upd (upd (upd (ju_judged ju) 0 x12) 1 x13) 2 v14), 1) pl rs) H → va_D A (moW ac q 0 row4 un5 kp ((mt_text mt), 0) ps bx6 mo7 su wy wa od py8 ((upd (upd (upd (ju_judged ju) 0 x12) 1 x13) 2 v14), 1) pl rs) → va_S A s.heap H locs → lv_has ls 2 [(0, .ref (q 0))] → W p l e ({ frames := 5, cells := 0, slots := 0, locals := 108 } : Room) s m (([.ref (q 0)] : List Value).toArray) below meth c H locs 0 0 (MQ below (va_Qi (fun r (_ : Unit) => r = res.1) (fun _ => zB D A (moW ac q res.2.1 res.2.2.1 res.2.2.2.1 kp res.2.2.2.2.1 ps res.2.2.2.2.2.1 res.2.2.2.2.2.2.1 su wy wa od res.2.2.2.2.2.2.2.1 res.2.2.2.2.2.2.2.2 pl rs)) A) ([.ref (q 0)] : List Value).toArray s 0 0 A) (F0 m 127 ls [.int v18, .int 3, .ref (q 16)]) := by
            intro v18 hv18 H locs ls hP hD hS hl
            have hf := z_let_u hv18 hf
            refine zv_iast_k hx hb hKX.1 hP hD hS 16 0 rfl rfl 3 rfl (z_in_u (by decide +kernel)) dX8_judge_127 (fun H locs hP hD hS => ?_)
            have hP : va_P D vwCl (moW ac q 0 row4 un5 kp ((mt_text mt), 0) ps bx6 mo7 su wy wa od py8 ((upd (upd (upd (upd (ju_judged ju) 0 x12) 1 x13) 2 v14) 3 v18), 1) pl rs) H := hP
            have hD : va_D A (moW ac q 0 row4 un5 kp ((mt_text mt), 0) ps bx6 mo7 su wy wa od py8 ((upd (upd (upd (upd (ju_judged ju) 0 x12) 1 x13) 2 v14) 3 v18), 1) pl rs) := hD
            refine lv_aload_n hx hb dX8_judge_128 rfl (lv_at hl 0 rfl) ?_
            refine va_get (D := D) (ci := 8) (v := .int py8) (C := RX8) (T := TX8) (N := 41) hx hb htw WW_wsX80 hown hKX.1 hP 0 rfl rfl 33 (Nat.le_of_ble_eq_true rfl) (htw _ mF_RX8_311) (fun _ h9 => h9) rfl dX8_judge_129 ?_
            obtain rfl := Option.some.inj hf
            exact zr_Mi hx hb hr hlocks hP hD hS dX8_judge_132
          refine lv_if_ne (tgt := 119) hx hb dX8_judge_112 (by decide) (fun c21 => ?_) (fun c21 => ?_)
          · skip
            refine lv_aload_n hx hb dX8_judge_119 rfl (lv_at hl 0 rfl) ?_
            refine va_get (D := D) (ci := 8) (v := .int (mo_kicks mo7)) (C := RX8) (T := TX8) (N := 41) hx hb htw WW_wsX80 hown hKX.1 hP 0 rfl rfl 19 (Nat.le_of_ble_eq_true rfl) (htw _ mF_RX8_202) (fun _ h9 => h9) rfl dX8_judge_120 ?_
            refine lv_iconst (v := 1) hx hb dX8_judge_123 rfl ?_
            refine lv_isub hx hb dX8_judge_124 ?_
            refine lv_iconst (v := 2) hx hb dX8_judge_125 rfl ?_
            refine lv_idiv hx hb dX8_judge_126 (by decide) ?_
            exact hj20 (((mo_kicks mo7) - 1) / 2) (if_neg c21).symm _ _ ls hP hD hS (lv_sub hl [0] rfl)
          · skip
            refine lv_iconst (v := (-1)) hx hb dX8_judge_115 rfl ?_
            refine lv_goto (tgt := 127) hx hb dX8_judge_116 (by decide) ?_
            exact hj20 (-1) (if_pos c21).symm _ _ ls hP hD hS (lv_sub hl [0] rfl)
        refine lv_if_eq (tgt := 101) hx hb dX8_judge_94 (by decide) (fun c17 => ?_) (fun c17 => ?_)
        · skip
          refine lv_iconst (v := 0) hx hb dX8_judge_101 rfl ?_
          exact hj16 0 (if_pos c17).symm z_b0 _ _ ls hP hD hS (lv_sub hl [0] rfl)
        · skip
          refine lv_iconst (v := 1) hx hb dX8_judge_97 rfl ?_
          refine lv_goto (tgt := 102) hx hb dX8_judge_98 (by decide) ?_
          exact hj16 1 (if_neg c17).symm z_b1 _ _ ls hP hD hS (lv_sub hl [0] rfl)
      · have hf := z_n c11 hf
        refine lv_sipush (v := (-1000)) hx hb dX8_judge_50 rfl ?_
        refine lv_iload_n hx hb dX8_judge_53 rfl (lv_at hl 1 rfl) ?_
        refine lv_isub hx hb dX8_judge_54 ?_
        obtain rfl := Option.some.inj hf
        exact zr_Mi hx hb hr hlocks hP hD hS dX8_judge_55
    refine lv_icmp_ne (tgt := 40) hx hb dX8_judge_27 (by decide) (fun c22 => ?_) (fun c22 => ?_)
    · have hf := z_n c22 hf
      exact hj10 r2 row un bx mo py hf _ _ ls  hP hD hS (lv_sub hl [1, 0] rfl)
    · have hf := z_p c22 hf
      refine lv_aload_n hx hb dX8_judge_30 rfl (lv_at hl 1 rfl) ?_
      obtain ⟨u23, hu23, hf⟩ := z_bd_u hf
      refine zc_MVv (As := []) (rest := []) (wr := []) (wsc := moW ac q 0 row un kp mt ps bx mo su wy wa od py ju pl rs) (wsc' := moW ac q 0 row un kp mt ps u23.1 u23.2 su wy wa od py ju pl rs) hx hb hml hown htw (ctX8_begin l D ac cs q H.size 0 row un kp mt ps bx mo su wy wa od py ju pl rs    F u23 hu23) (g_V mM_RX8_211 mI_yX8_begin mS_RX8_yX8_begin_yX8_begin mN_RX8 mC_yX8_begin) rfl (hd_yX8_begin) ⟨rfl, rfl⟩ ⟨(Nat.le_of_ble_eq_true rfl), (Nat.le_of_ble_eq_true rfl)⟩ hKX hC hS hA hP hD [0, 1, 2, 3, 4, 5, 6, 7, 8, 9, 10, 11, 12, 13, 14, 15, 16, 17, 18, 19, 20] [] rfl (by decide) rfl (by decide) (by decide) 8 rfl rfl rfl hl.1 rfl (Nat.le_of_ble_eq_true rfl) ⟨Nat.zero_le _, Nat.zero_le _⟩ dX8_judge_31 (fun H locs hP hD hS => ?_)
      have hP : va_P D vwCl (moW ac q 0 row un kp mt ps u23.1 u23.2 su wy wa od py ju pl rs) H := hP
      have hD : va_D A (moW ac q 0 row un kp mt ps u23.1 u23.2 su wy wa od py ju pl rs) := hD
      refine lv_aload_n hx hb dX8_judge_34 rfl (lv_at hl 1 rfl) ?_
      refine lv_iconst (v := 0) hx hb dX8_judge_35 rfl ?_
      obtain ⟨u24, hu24, hf⟩ := z_bd_u hf
      refine zc_MVi (As := [.int 0]) (rest := []) (wr := []) (wsc := moW ac q 0 row un kp mt ps u23.1 u23.2 su wy wa od py ju pl rs) (wsc' := moW ac q 0 u24.2.1 u24.2.2.1 kp mt ps u23.1 u24.2.2.2.1 su wy wa od u24.2.2.2.2 ju pl rs) hx hb hml hown htw (ctX8_goText l D ac cs q H.size 0 row un kp mt ps u23.1 u23.2 su wy wa od py ju pl rs 0   F u24 hu24) (g_V mM_RX8_317 mI_yX8_goText mS_RX8_yX8_goText_yX8_goText mN_RX8 mC_yX8_goText) rfl (hd_yX8_goText) ⟨rfl, rfl⟩ ⟨(Nat.le_of_ble_eq_true rfl), (Nat.le_of_ble_eq_true rfl)⟩ hKX hC hS hA hP hD [0, 1, 2, 3, 4, 5, 6, 7, 8, 9, 10, 11, 12, 13, 14, 15, 16, 17, 18, 19, 20] [] rfl (by decide) rfl (by decide) (by decide) 8 rfl rfl rfl hl.1 rfl (Nat.le_of_ble_eq_true rfl) ⟨Nat.zero_le _, Nat.zero_le _⟩ dX8_judge_36 (fun H locs hP hD hS => ?_)
      have hP : va_P D vwCl (moW ac q 0 u24.2.1 u24.2.2.1 kp mt ps u23.1 u24.2.2.2.1 su wy wa od u24.2.2.2.2 ju pl rs) H := hP
      have hD : va_D A (moW ac q 0 u24.2.1 u24.2.2.1 kp mt ps u23.1 u24.2.2.2.1 su wy wa od u24.2.2.2.2 ju pl rs) := hD
      refine lv_topi (fun x25 hx25 => ?_)
      have hf := z_let_u hx25 hf
      refine lv_istore_n (lv' := [(1, .int x25), (0, .ref (q 0))]) hx hb dX8_judge_39 rfl hl (Nat.le_of_ble_eq_true rfl) rfl (fun ls hl => ?_)
      exact hj10 x25 u24.2.1 u24.2.2.1 u23.1 u24.2.2.2.1 u24.2.2.2.2 hf _ _ ls  hP hD hS (lv_sub hl [1, 0] rfl)
  · have hf := z_p c1 hf
    refine lv_aload_n hx hb dX8_judge_12 rfl (lv_at hl 0 rfl) ?_
    refine lv_iconst (v := 0) hx hb dX8_judge_13 rfl ?_
    refine va_put (D := D) (ci := 8) (v := .int 0) (ty := tyX8 7) (C := RX8) (T := TX8) (N := 41) hx hb htw WW_wsX80 tyX8 tyX8_ok nmX8 hown hKX.1 hP hD hS 0 rfl rfl 7 (Nat.le_of_ble_eq_true rfl) (htw _ mF_RX8_94) (fun _ h9 => h9) rfl (tyX8_ok 7 (Nat.le_of_ble_eq_true rfl)) rfl rfl (Nat.le_of_ble_eq_true rfl) dX8_judge_14 (fun H locs hP hD hS => ?_)
    have hP : va_P D vwCl (moW ac q 0 row un kp ((mt_text mt), 0) ps bx mo su wy wa od py ju pl rs) H := hP
    have hD : va_D A (moW ac q 0 row un kp ((mt_text mt), 0) ps bx mo su wy wa od py ju pl rs) := hD
    refine lv_bipush (v := (-2)) hx hb dX8_judge_17 rfl ?_
    obtain rfl := Option.some.inj hf
    exact zr_Mi hx hb hr hlocks hP hD hS dX8_judge_19

theorem hd_yX8_judged : hdY yX8_judged 1 := by decide +kernel
def M_judged (ju : Ju) (a1 : Int32) : Option (Int32 × Th) := if (ju_isJudged ju) = 0 then (some ((-1), 0)) else (if M_in a1.toInt64 0 3 = 0 then (some ((-1), 0)) else (z_gd (z_in a1 4) (some (((ju_judged ju) a1.toNatClampNeg), 0))))
set_option maxHeartbeats 4000000 in
set_option maxRecDepth 100000 in
theorem ctX8_judged (l : Launch) (D : va_G) (ac cs : Nat → Nat) (q : Nat → Nat) (sz : Nat) (th : Th) (row : MRow) (un : Un) (kp : Kp) (mt : Mt) (ps : Ps) (bx : Bx) (mo : Mo) (su : Su) (wy : Wy) (wa : Wa) (od : Od) (py : Py) (ju : Ju) (pl : Pl) (rs : Rs) (a1 : Int32) (res : Int32 × Th) (hf : M_judged ju a1 = some res) : Met l yX8_judged (cWW yX8_judged cX8_judged 2 (some .int)) { frames := 1, cells := 0, slots := 0, locals := 25 } (zM D ac cs [.ref (q 0), .int a1] (moW ac q th row un kp mt ps bx mo su wy wa od py ju pl rs) sz) (va_Qi (fun r (_ : Unit) => r = res.1) (fun _ => zB D (va_A (moW ac q th row un kp mt ps bx mo su wy wa od py ju pl rs) sz) (moW ac q res.2 row un kp mt ps bx mo su wy wa od py ju pl rs)) (va_A (moW ac q th row un kp mt ps bx mo su wy wa od py ju pl rs) sz)) 0 0 (va_A (moW ac q th row un kp mt ps bx mo su wy wa od py ju pl rs) sz) := by
  refine Met.ofW (cc := cX8_judged) (maxL := 2) (ret := (some .int)) (by decide) rfl ?_
  intro p e s m args below meth c s₁ B hml hv
  obtain ⟨rfl, hsz, hP, hKX, hD0, hC⟩ := hv
  have hx := B.exec
  have hb := B.bytes
  have hr := B.returns
  have hts := atoms_spec (ws := cWW yX8_judged cX8_judged 2 (some .int)) B.pre
  have htw : ∀ w ∈ WW, w.before _ s = true := fun w h => hts w (List.mem_cons_of_mem _ h)
  have hown : s.vm.findClass RX8 = some m.cls := findClass_of_methodNamed B.named
  have hlocks := B.notSynchronized
  clear hts B
  subst hsz
  have hD := hD0.self (sz := s.heap.size)
  generalize hAe : va_A (moW ac q th row un kp mt ps bx mo su wy wa od py ju pl rs) s.heap.size = A at hD hC ⊢
  have hA : ∀ q : Nat, s.heap.size ≤ q → A q := fun q h => by rw [← hAe]; exact Or.inr h
  have hS : va_S A s.heap s.heap [] := va_S.rf
  clear hD0 hAe
  have hP : va_P D vwCl (moW ac q th row un kp mt ps bx mo su wy wa od py ju pl rs) s.heap := hP
  have hl := lv_entry ([.ref (q 0), .int a1]) (n := 2) (Nat.le_of_ble_eq_true rfl)
  rw [lg_entry_eq]
  generalize (lg_sl ([.ref (q 0), .int a1]) ++ List.replicate (2 - (lg_sl ([.ref (q 0), .int a1])).length) Slot.unset).toArray = ls at hl ⊢
  have hl : lv_has ls 2 [(0, .ref (q 0)), (1, .int a1)] := hl
  unfold M_judged at hf
  show W p l e ({ frames := 1, cells := 0, slots := 0, locals := 25 } : Room) s m _ below meth c s.heap [] 0 0 _ (F0 m 0 ls [])
  refine lv_aload_n hx hb dX8_judged_0 rfl (lv_at hl 0 rfl) ?_
  refine lv_iconst (v := 0) hx hb dX8_judged_1 rfl ?_
  refine va_put (D := D) (ci := 8) (v := .int 0) (ty := tyX8 0) (C := RX8) (T := TX8) (N := 41) hx hb htw WW_wsX80 tyX8 tyX8_ok nmX8 hown hKX.1 hP hD hS 0 rfl rfl 0 (Nat.le_of_ble_eq_true rfl) (htw _ mF_RX8_75) (fun _ h9 => h9) rfl (tyX8_ok 0 (Nat.le_of_ble_eq_true rfl)) rfl rfl (Nat.le_of_ble_eq_true rfl) dX8_judged_2 (fun H locs hP hD hS => ?_)
  have hP : va_P D vwCl (moW ac q 0 row un kp mt ps bx mo su wy wa od py ju pl rs) H := hP
  have hD : va_D A (moW ac q 0 row un kp mt ps bx mo su wy wa od py ju pl rs) := hD
  refine lv_aload_n hx hb dX8_judged_5 rfl (lv_at hl 0 rfl) ?_
  refine va_get (D := D) (ci := 8) (v := .int (ju_isJudged ju)) (C := RX8) (T := TX8) (N := 41) hx hb htw WW_wsX80 hown hKX.1 hP 0 rfl rfl 35 (Nat.le_of_ble_eq_true rfl) (htw _ mF_RX8_321) (fun _ h9 => h9) rfl dX8_judged_6 ?_
  refine lv_if_eq (tgt := 33) hx hb dX8_judged_9 (by decide) (fun c1 => ?_) (fun c1 => ?_)
  · have hf := z_p c1 hf
    refine lv_iconst (v := (-1)) hx hb dX8_judged_33 rfl ?_
    obtain rfl := Option.some.inj hf
    exact zr_Mi hx hb hr hlocks hP hD hS dX8_judged_34
  · have hf := z_n c1 hf
    refine lv_iload_n hx hb dX8_judged_12 rfl (lv_at hl 1 rfl) ?_
    refine lv_i2l hx hb dX8_judged_13 rfl ?_
    refine lv_lconst (v := 0) hx hb dX8_judged_14 rfl ?_
    refine lv_ldc2 (v := 3) hx hb hown (htw _ mG_RX8_324) dX8_judged_15 ?_
    refine zc_RSi (As := [.long a1.toInt64, .long 0, .long 3]) (rest := []) hx hb hml hown htw (ctX8_in l D ac cs   a1.toInt64 0 3   _ rfl) (g_S mM_RX8_79 mT_yX8_in mN_RX8 mC_yX8_in) (hd_yX8_in) ⟨rfl, rfl⟩ ⟨(Nat.le_of_ble_eq_true rfl), (Nat.le_of_ble_eq_true rfl)⟩ hKX hC hS zP0 rfl hl.1 rfl (Nat.le_of_ble_eq_true rfl) ⟨Nat.zero_le _, Nat.zero_le _⟩ dX8_judged_18 ?_
    refine lv_if_eq (tgt := 33) hx hb dX8_judged_21 (by decide) (fun c2 => ?_) (fun c2 => ?_)
    · have hf := z_p c2 hf
      refine lv_iconst (v := (-1)) hx hb dX8_judged_33 rfl ?_
      obtain rfl := Option.some.inj hf
      exact zr_Mi hx hb hr hlocks hP hD hS dX8_judged_34
    · have hf := z_n c2 hf
      refine lv_aload_n hx hb dX8_judged_24 rfl (lv_at hl 0 rfl) ?_
      refine va_get (D := D) (ci := 8) (v := .ref (q 16)) (C := RX8) (T := TX8) (N := 41) hx hb htw WW_wsX80 hown hKX.1 hP 0 rfl rfl 34 (Nat.le_of_ble_eq_true rfl) (htw _ mF_RX8_60) (fun _ h9 => h9) rfl dX8_judged_25 ?_
      refine lv_iload_n hx hb dX8_judged_28 rfl (lv_at hl 1 rfl) ?_
      obtain ⟨g3, hf⟩ := z_gd_u hf
      refine va_iald hx hb hKX.1 hP 16 0 rfl rfl (z_in_u g3) dX8_judged_29 ?_
      refine lv_goto (tgt := 34) hx hb dX8_judged_30 (by decide) ?_
      obtain rfl := Option.some.inj hf
      exact zr_Mi hx hb hr hlocks hP hD hS dX8_judged_34

theorem hd_yX8_isShooter : hdY yX8_isShooter 1 := by decide +kernel
def M_isShooter (row : MRow) (a1 : Int32) : Int32 := M_in a1.toInt64 0 (((M_n row).toInt64) - 1)
set_option maxHeartbeats 4000000 in
set_option maxRecDepth 100000 in
theorem ctX8_isShooter (l : Launch) (D : va_G) (ac cs : Nat → Nat) (q : Nat → Nat) (th : Th) (row : MRow) (un : Un) (kp : Kp) (mt : Mt) (ps : Ps) (bx : Bx) (mo : Mo) (su : Su) (wy : Wy) (wa : Wa) (od : Od) (py : Py) (ju : Ju) (pl : Pl) (rs : Rs) (a1 : Int32) (res : Int32) (hf : M_isShooter row a1 = res) : Met l yX8_isShooter (cWW yX8_isShooter cX8_isShooter 2 (some .boolean)) { frames := 1, cells := 0, slots := 0, locals := 25 } (zR D ac cs [.ref (q 0), .int a1] (moW ac q th row un kp mt ps bx mo su wy wa od py ju pl rs)) (vp_Si (fun r => r = res)) 0 0 (fun _ => False) := by
  refine Met.ofW (cc := cX8_isShooter) (maxL := 2) (ret := (some .boolean)) (by decide) rfl ?_
  intro p e s m args below meth c s₁ B hml hv
  obtain ⟨rfl, hP, hKX, hC⟩ := hv
  have hx := B.exec
  have hb := B.bytes
  have hr := B.returns
  have hts := atoms_spec (ws := cWW yX8_isShooter cX8_isShooter 2 (some .boolean)) B.pre
  have htw : ∀ w ∈ WW, w.before _ s = true := fun w h => hts w (List.mem_cons_of_mem _ h)
  have hown : s.vm.findClass RX8 = some m.cls := findClass_of_methodNamed B.named
  have hlocks := B.notSynchronized
  clear hts B
  have hS : va_S (fun _ => False) s.heap s.heap [] := va_S.rf
  have hl := lv_entry ([.ref (q 0), .int a1]) (n := 2) (Nat.le_of_ble_eq_true rfl)
  rw [lg_entry_eq]
  generalize (lg_sl ([.ref (q 0), .int a1]) ++ List.replicate (2 - (lg_sl ([.ref (q 0), .int a1])).length) Slot.unset).toArray = ls at hl ⊢
  have hl : lv_has ls 2 [(0, .ref (q 0)), (1, .int a1)] := hl
  unfold M_isShooter at hf
  show W p l e ({ frames := 1, cells := 0, slots := 0, locals := 25 } : Room) s m _ below meth c s.heap [] 0 0 _ (F0 m 0 ls [])
  refine lv_iload_n hx hb dX8_isShooter_0 rfl (lv_at hl 1 rfl) ?_
  refine lv_i2l hx hb dX8_isShooter_1 rfl ?_
  refine lv_lconst (v := 0) hx hb dX8_isShooter_2 rfl ?_
  refine lv_aload_n hx hb dX8_isShooter_3 rfl (lv_at hl 0 rfl) ?_
  refine zc_RVi (As := []) (rest := [.long 0, .long a1.toInt64]) hx hb hml hown htw (ctX8_n l D ac cs q th row un kp mt ps bx mo su wy wa od py ju pl rs    _ rfl) (g_V mM_RX8_190 mI_yX8_n mS_RX8_yX8_n_yX8_n mN_RX8 mC_yX8_n) rfl (hd_yX8_n) ⟨rfl, rfl⟩ ⟨(Nat.le_of_ble_eq_true rfl), (Nat.le_of_ble_eq_true rfl)⟩ hKX hC hS hP 8 rfl rfl rfl hl.1 rfl (Nat.le_of_ble_eq_true rfl) ⟨Nat.zero_le _, Nat.zero_le _⟩ dX8_isShooter_4 ?_
  refine lv_i2l hx hb dX8_isShooter_7 rfl ?_
  refine lv_lconst (v := 1) hx hb dX8_isShooter_8 rfl ?_
  refine lv_lsub hx hb dX8_isShooter_9 ?_
  refine zc_RSi (As := [.long a1.toInt64, .long 0, .long (((M_n row).toInt64) - 1)]) (rest := []) hx hb hml hown htw (ctX8_in l D ac cs   a1.toInt64 0 (((M_n row).toInt64) - 1)   _ rfl) (g_S mM_RX8_79 mT_yX8_in mN_RX8 mC_yX8_in) (hd_yX8_in) ⟨rfl, rfl⟩ ⟨(Nat.le_of_ble_eq_true rfl), (Nat.le_of_ble_eq_true rfl)⟩ hKX hC hS zP0 rfl hl.1 rfl (Nat.le_of_ble_eq_true rfl) ⟨Nat.zero_le _, Nat.zero_le _⟩ dX8_isShooter_10 ?_
  exact zr_Rz hx hb hr hlocks (z_b_n (b_M_in a1.toInt64 0 (((M_n row).toInt64) - 1))) hf dX8_isShooter_13
theorem b_M_isShooter (row : MRow) (a1 : Int32) : z_b (M_isShooter row a1) = true := by
  unfold M_isShooter
  (repeat' (first | split | (unfold z_let; dsimp only) | (unfold z_jn; dsimp only))) <;> first | decide +kernel | apply b_M_in

theorem hd_yX8_exchange : hdY yX8_exchange 3 := by decide +kernel
def M_exchange (F : Nat) (row : MRow) (un : Un) (a1 : Int32) (a2 : Int32) (a3 : Int32) : Option (Int32 × Th × MRow × Un) := if a2 = a3 then (some ((-1), 0, row, un)) else (if M_isThere row a1 = 0 then (some ((-2), 0, row, un)) else (if M_isShooter row a2 = 0 then (some ((-2), 0, row, un)) else (if M_isShooter row a3 = 0 then (some ((-2), 0, row, un)) else (if (row 3) ≤ 0 then (z_bd (M_remember F row un) (fun u6 : Un => z_let ((8 + (5 * a1)) + a2) (fun x7 : Int32 => z_let ((8 + (5 * a1)) + a3) (fun x8 : Int32 => z_gd (z_in x7 78) (z_let (row x7.toNatClampNeg) (fun x10 : Int32 => z_gd (z_in x8 78) (z_let (row x8.toNatClampNeg) (fun x12 : Int32 => z_gd (z_in x7 78) (z_gd (z_in x8 78) (z_gd (z_in x7 78) (some (((upd (upd row x7.toNatClampNeg x12) x8.toNatClampNeg x10) x7.toNatClampNeg), 0, (upd (upd row x7.toNatClampNeg x12) x8.toNatClampNeg x10), u6)))))))))))) else (some ((-3), 0, row, un))))))
set_option maxHeartbeats 4000000 in
set_option maxRecDepth 100000 in
theorem ctX8_exchange (l : Launch) (D : va_G) (ac cs : Nat → Nat) (q : Nat → Nat) (sz : Nat) (th : Th) (row : MRow) (un : Un) (kp : Kp) (mt : Mt) (ps : Ps) (bx : Bx) (mo : Mo) (su : Su) (wy : Wy) (wa : Wa) (od : Od) (py : Py) (ju : Ju) (pl : Pl) (rs : Rs) (a1 : Int32) (a2 : Int32) (a3 : Int32) (F : Nat) (res : Int32 × Th × MRow × Un) (hf : M_exchange F row un a1 a2 a3 = some res) : Met l yX8_exchange (cWW yX8_exchange cX8_exchange 7 (some .int)) { frames := 3, cells := 0, slots := 0, locals := 66 } (zM D ac cs [.ref (q 0), .int a1, .int a2, .int a3] (moW ac q th row un kp mt ps bx mo su wy wa od py ju pl rs) sz) (va_Qi (fun r (_ : Unit) => r = res.1) (fun _ => zB D (va_A (moW ac q th row un kp mt ps bx mo su wy wa od py ju pl rs) sz) (moW ac q res.2.1 res.2.2.1 res.2.2.2 kp mt ps bx mo su wy wa od py ju pl rs)) (va_A (moW ac q th row un kp mt ps bx mo su wy wa od py ju pl rs) sz)) 0 0 (va_A (moW ac q th row un kp mt ps bx mo su wy wa od py ju pl rs) sz) := by
  refine Met.ofW (cc := cX8_exchange) (maxL := 7) (ret := (some .int)) (by decide) rfl ?_
  intro p e s m args below meth c s₁ B hml hv
  obtain ⟨rfl, hsz, hP, hKX, hD0, hC⟩ := hv
  have hx := B.exec
  have hb := B.bytes
  have hr := B.returns
  have hts := atoms_spec (ws := cWW yX8_exchange cX8_exchange 7 (some .int)) B.pre
  have htw : ∀ w ∈ WW, w.before _ s = true := fun w h => hts w (List.mem_cons_of_mem _ h)
  have hown : s.vm.findClass RX8 = some m.cls := findClass_of_methodNamed B.named
  have hlocks := B.notSynchronized
  clear hts B
  subst hsz
  have hD := hD0.self (sz := s.heap.size)
  generalize hAe : va_A (moW ac q th row un kp mt ps bx mo su wy wa od py ju pl rs) s.heap.size = A at hD hC ⊢
  have hA : ∀ q : Nat, s.heap.size ≤ q → A q := fun q h => by rw [← hAe]; exact Or.inr h
  have hS : va_S A s.heap s.heap [] := va_S.rf
  clear hD0 hAe
  have hP : va_P D vwCl (moW ac q th row un kp mt ps bx mo su wy wa od py ju pl rs) s.heap := hP
  have hl := lv_entry ([.ref (q 0), .int a1, .int a2, .int a3]) (n := 7) (Nat.le_of_ble_eq_true rfl)
  rw [lg_entry_eq]
  generalize (lg_sl ([.ref (q 0), .int a1, .int a2, .int a3]) ++ List.replicate (7 - (lg_sl ([.ref (q 0), .int a1, .int a2, .int a3])).length) Slot.unset).toArray = ls at hl ⊢
  have hl : lv_has ls 7 [(0, .ref (q 0)), (1, .int a1), (2, .int a2), (3, .int a3)] := hl
  unfold M_exchange at hf
  show W p l e ({ frames := 3, cells := 0, slots := 0, locals := 66 } : Room) s m _ below meth c s.heap [] 0 0 _ (F0 m 0 ls [])
  refine lv_aload_n hx hb dX8_exchange_0 rfl (lv_at hl 0 rfl) ?_
  refine lv_iconst (v := 0) hx hb dX8_exchange_1 rfl ?_
  refine va_put (D := D) (ci := 8) (v := .int 0) (ty := tyX8 0) (C := RX8) (T := TX8) (N := 41) hx hb htw WW_wsX80 tyX8 tyX8_ok nmX8 hown hKX.1 hP hD hS 0 rfl rfl 0 (Nat.le_of_ble_eq_true rfl) (htw _ mF_RX8_75) (fun _ h9 => h9) rfl (tyX8_ok 0 (Nat.le_of_ble_eq_true rfl)) rfl rfl (Nat.le_of_ble_eq_true rfl) dX8_exchange_2 (fun H locs hP hD hS => ?_)
  have hP : va_P D vwCl (moW ac q 0 row un kp mt ps bx mo su wy wa od py ju pl rs) H := hP
  have hD : va_D A (moW ac q 0 row un kp mt ps bx mo su wy wa od py ju pl rs) := hD
  refine lv_iload_n hx hb dX8_exchange_5 rfl (lv_at hl 2 rfl) ?_
  refine lv_iload_n hx hb dX8_exchange_6 rfl (lv_at hl 3 rfl) ?_
  refine lv_icmp_ne (tgt := 12) hx hb dX8_exchange_7 (by decide) (fun c1 => ?_) (fun c1 => ?_)
  · have hf := z_n c1 hf
    refine lv_aload_n hx hb dX8_exchange_12 rfl (lv_at hl 0 rfl) ?_
    refine lv_iload_n hx hb dX8_exchange_13 rfl (lv_at hl 1 rfl) ?_
    refine zc_RVi (As := [.int a1]) (rest := []) hx hb hml hown htw (ctX8_isThere l D ac cs q 0 row un kp mt ps bx mo su wy wa od py ju pl rs a1   _ rfl) (g_V mM_RX8_294 mI_yX8_isThere mS_RX8_yX8_isThere_yX8_isThere mN_RX8 mC_yX8_isThere) rfl (hd_yX8_isThere) ⟨rfl, rfl⟩ ⟨(Nat.le_of_ble_eq_true rfl), (Nat.le_of_ble_eq_true rfl)⟩ hKX hC hS hP 8 rfl rfl rfl hl.1 rfl (Nat.le_of_ble_eq_true rfl) ⟨Nat.zero_le _, Nat.zero_le _⟩ dX8_exchange_14 ?_
    refine lv_if_eq (tgt := 36) hx hb dX8_exchange_17 (by decide) (fun c2 => ?_) (fun c2 => ?_)
    · have hf := z_p c2 hf
      refine lv_bipush (v := (-2)) hx hb dX8_exchange_36 rfl ?_
      obtain rfl := Option.some.inj hf
      exact zr_Mi hx hb hr hlocks hP hD hS dX8_exchange_38
    · have hf := z_n c2 hf
      refine lv_aload_n hx hb dX8_exchange_20 rfl (lv_at hl 0 rfl) ?_
      refine lv_iload_n hx hb dX8_exchange_21 rfl (lv_at hl 2 rfl) ?_
      refine zc_RVi (As := [.int a2]) (rest := []) hx hb hml hown htw (ctX8_isShooter l D ac cs q 0 row un kp mt ps bx mo su wy wa od py ju pl rs a2   _ rfl) (g_V mM_RX8_326 mI_yX8_isShooter mS_RX8_yX8_isShooter_yX8_isShooter mN_RX8 mC_yX8_isShooter) rfl (hd_yX8_isShooter) ⟨rfl, rfl⟩ ⟨(Nat.le_of_ble_eq_true rfl), (Nat.le_of_ble_eq_true rfl)⟩ hKX hC hS hP 8 rfl rfl rfl hl.1 rfl (Nat.le_of_ble_eq_true rfl) ⟨Nat.zero_le _, Nat.zero_le _⟩ dX8_exchange_22 ?_
      refine lv_if_eq (tgt := 36) hx hb dX8_exchange_25 (by decide) (fun c3 => ?_) (fun c3 => ?_)
      · have hf := z_p c3 hf
        refine lv_bipush (v := (-2)) hx hb dX8_exchange_36 rfl ?_
        obtain rfl := Option.some.inj hf
        exact zr_Mi hx hb hr hlocks hP hD hS dX8_exchange_38
      · have hf := z_n c3 hf
        refine lv_aload_n hx hb dX8_exchange_28 rfl (lv_at hl 0 rfl) ?_
        refine lv_iload_n hx hb dX8_exchange_29 rfl (lv_at hl 3 rfl) ?_
        refine zc_RVi (As := [.int a3]) (rest := []) hx hb hml hown htw (ctX8_isShooter l D ac cs q 0 row un kp mt ps bx mo su wy wa od py ju pl rs a3   _ rfl) (g_V mM_RX8_326 mI_yX8_isShooter mS_RX8_yX8_isShooter_yX8_isShooter mN_RX8 mC_yX8_isShooter) rfl (hd_yX8_isShooter) ⟨rfl, rfl⟩ ⟨(Nat.le_of_ble_eq_true rfl), (Nat.le_of_ble_eq_true rfl)⟩ hKX hC hS hP 8 rfl rfl rfl hl.1 rfl (Nat.le_of_ble_eq_true rfl) ⟨Nat.zero_le _, Nat.zero_le _⟩ dX8_exchange_30 ?_
        refine lv_if_ne (tgt := 39) hx hb dX8_exchange_33 (by decide) (fun c4 => ?_) (fun c4 => ?_)
        · have hf := z_n c4 hf
          refine lv_aload_n hx hb dX8_exchange_39 rfl (lv_at hl 0 rfl) ?_
          refine va_get (D := D) (ci := 8) (v := .ref (q 1)) (C := RX8) (T := TX8) (N := 41) hx hb htw WW_wsX80 hown hKX.1 hP 0 rfl rfl 1 (Nat.le_of_ble_eq_true rfl) (htw _ mF_RX8_9) (fun _ h9 => h9) rfl dX8_exchange_40 ?_
          refine lv_iconst (v := 3) hx hb dX8_exchange_43 rfl ?_
          refine zv_iald_k hx hb hKX.1 hP 1 0 rfl rfl 3 rfl (z_in_u (by decide +kernel)) dX8_exchange_44 ?_
          refine lv_if_le (tgt := 51) hx hb dX8_exchange_45 (by decide) (fun c5 => ?_) (fun c5 => ?_)
          · have hf := z_p c5 hf
            refine lv_aload_n hx hb dX8_exchange_51 rfl (lv_at hl 0 rfl) ?_
            obtain ⟨u6, hu6, hf⟩ := z_bd_u hf
            refine zc_MVv (As := []) (rest := []) (wr := []) (wsc := moW ac q 0 row un kp mt ps bx mo su wy wa od py ju pl rs) (wsc' := moW ac q 0 row u6 kp mt ps bx mo su wy wa od py ju pl rs) hx hb hml hown htw (ctX8_remember l D ac cs q H.size 0 row un kp mt ps bx mo su wy wa od py ju pl rs    F u6 hu6) (g_V mM_RX8_305 mI_yX8_remember mS_RX8_yX8_remember_yX8_remember mN_RX8 mC_yX8_remember) rfl (hd_yX8_remember) ⟨rfl, rfl⟩ ⟨(Nat.le_of_ble_eq_true rfl), (Nat.le_of_ble_eq_true rfl)⟩ hKX hC hS hA hP hD [0, 1, 2, 3, 4, 5, 6, 7, 8, 9, 10, 11, 12, 13, 14, 15, 16, 17, 18, 19, 20] [] rfl (by decide) rfl (by decide) (by decide) 8 rfl rfl rfl hl.1 rfl (Nat.le_of_ble_eq_true rfl) ⟨Nat.zero_le _, Nat.zero_le _⟩ dX8_exchange_52 (fun H locs hP hD hS => ?_)
            have hP : va_P D vwCl (moW ac q 0 row u6 kp mt ps bx mo su wy wa od py ju pl rs) H := hP
            have hD : va_D A (moW ac q 0 row u6 kp mt ps bx mo su wy wa od py ju pl rs) := hD
            refine lv_bipush (v := 8) hx hb dX8_exchange_55 rfl ?_
            refine lv_iconst (v := 5) hx hb dX8_exchange_57 rfl ?_
            refine lv_iload_n hx hb dX8_exchange_58 rfl (lv_at hl 1 rfl) ?_
            refine lv_imul hx hb dX8_exchange_59 ?_
            refine lv_iadd hx hb dX8_exchange_60 ?_
            refine lv_iload_n hx hb dX8_exchange_61 rfl (lv_at hl 2 rfl) ?_
            refine lv_iadd hx hb dX8_exchange_62 ?_
            refine lv_topi (fun x7 hx7 => ?_)
            have hf := z_let_u hx7 hf
            refine lv_istore (lv' := [(4, .int x7), (0, .ref (q 0)), (1, .int a1), (2, .int a2), (3, .int a3)]) hx hb dX8_exchange_63 hl (Nat.le_of_ble_eq_true rfl) rfl (fun ls hl => ?_)
            refine lv_bipush (v := 8) hx hb dX8_exchange_65 rfl ?_
            refine lv_iconst (v := 5) hx hb dX8_exchange_67 rfl ?_
            refine lv_iload_n hx hb dX8_exchange_68 rfl (lv_at hl 2 rfl) ?_
            refine lv_imul hx hb dX8_exchange_69 ?_
            refine lv_iadd hx hb dX8_exchange_70 ?_
            refine lv_iload_n hx hb dX8_exchange_71 rfl (lv_at hl 4 rfl) ?_
            refine lv_iadd hx hb dX8_exchange_72 ?_
            refine lv_topi (fun x8 hx8 => ?_)
            have hf := z_let_u hx8 hf
            refine lv_istore (lv' := [(5, .int x8), (4, .int x7), (0, .ref (q 0)), (1, .int a1), (2, .int a2), (3, .int a3)]) hx hb dX8_exchange_73 hl (Nat.le_of_ble_eq_true rfl) rfl (fun ls hl => ?_)
            refine lv_aload_n hx hb dX8_exchange_75 rfl (lv_at hl 2 rfl) ?_
            refine va_get (D := D) (ci := 8) (v := .ref (q 1)) (C := RX8) (T := TX8) (N := 41) hx hb htw WW_wsX80 hown hKX.1 hP 0 rfl rfl 1 (Nat.le_of_ble_eq_true rfl) (htw _ mF_RX8_9) (fun _ h9 => h9) rfl dX8_exchange_76 ?_
            refine lv_iload hx hb dX8_exchange_79 (lv_at hl 1 rfl) ?_
            obtain ⟨g9, hf⟩ := z_gd_u hf
            refine va_iald hx hb hKX.1 hP 1 0 rfl rfl (z_in_u g9) dX8_exchange_81 ?_
            refine lv_topi (fun x10 hx10 => ?_)
            have hf := z_let_u hx10 hf
            refine lv_istore (lv' := [(6, .int x10), (5, .int x8), (4, .int x7), (0, .ref (q 0)), (1, .int a1), (2, .int a2), (3, .int a3)]) hx hb dX8_exchange_82 hl (Nat.le_of_ble_eq_true rfl) rfl (fun ls hl => ?_)
            refine lv_aload_n hx hb dX8_exchange_84 rfl (lv_at hl 3 rfl) ?_
            refine va_get (D := D) (ci := 8) (v := .ref (q 1)) (C := RX8) (T := TX8) (N := 41) hx hb htw WW_wsX80 hown hKX.1 hP 0 rfl rfl 1 (Nat.le_of_ble_eq_true rfl) (htw _ mF_RX8_9) (fun _ h9 => h9) rfl dX8_exchange_85 ?_
            refine lv_iload hx hb dX8_exchange_88 (lv_at hl 2 rfl) ?_
            refine lv_aload_n hx hb dX8_exchange_90 rfl (lv_at hl 3 rfl) ?_
            refine va_get (D := D) (ci := 8) (v := .ref (q 1)) (C := RX8) (T := TX8) (N := 41) hx hb htw WW_wsX80 hown hKX.1 hP 0 rfl rfl 1 (Nat.le_of_ble_eq_true rfl) (htw _ mF_RX8_9) (fun _ h9 => h9) rfl dX8_exchange_91 ?_
            refine lv_iload hx hb dX8_exchange_94 (lv_at hl 1 rfl) ?_
            obtain ⟨g11, hf⟩ := z_gd_u hf
            refine va_iald hx hb hKX.1 hP 1 0 rfl rfl (z_in_u g11) dX8_exchange_96 ?_
            refine lv_topi (fun x12 hx12 => ?_)
            have hf := z_let_u hx12 hf
            obtain ⟨g13, hf⟩ := z_gd_u hf
            refine va_iast hx hb hKX.1 hP hD hS 1 0 rfl rfl (z_in_u g13) dX8_exchange_97 (fun H locs hP hD hS => ?_)
            have hP : va_P D vwCl (moW ac q 0 (upd row x7.toNatClampNeg x12) u6 kp mt ps bx mo su wy wa od py ju pl rs) H := hP
            have hD : va_D A (moW ac q 0 (upd row x7.toNatClampNeg x12) u6 kp mt ps bx mo su wy wa od py ju pl rs) := hD
            refine lv_aload_n hx hb dX8_exchange_98 rfl (lv_at hl 3 rfl) ?_
            refine va_get (D := D) (ci := 8) (v := .ref (q 1)) (C := RX8) (T := TX8) (N := 41) hx hb htw WW_wsX80 hown hKX.1 hP 0 rfl rfl 1 (Nat.le_of_ble_eq_true rfl) (htw _ mF_RX8_9) (fun _ h9 => h9) rfl dX8_exchange_99 ?_
            refine lv_iload hx hb dX8_exchange_102 (lv_at hl 1 rfl) ?_
            refine lv_iload hx hb dX8_exchange_104 (lv_at hl 0 rfl) ?_
            obtain ⟨g14, hf⟩ := z_gd_u hf
            refine va_iast hx hb hKX.1 hP hD hS 1 0 rfl rfl (z_in_u g14) dX8_exchange_106 (fun H locs hP hD hS => ?_)
            have hP : va_P D vwCl (moW ac q 0 (upd (upd row x7.toNatClampNeg x12) x8.toNatClampNeg x10) u6 kp mt ps bx mo su wy wa od py ju pl rs) H := hP
            have hD : va_D A (moW ac q 0 (upd (upd row x7.toNatClampNeg x12) x8.toNatClampNeg x10) u6 kp mt ps bx mo su wy wa od py ju pl rs) := hD
            refine lv_aload_n hx hb dX8_exchange_107 rfl (lv_at hl 3 rfl) ?_
            refine va_get (D := D) (ci := 8) (v := .ref (q 1)) (C := RX8) (T := TX8) (N := 41) hx hb htw WW_wsX80 hown hKX.1 hP 0 rfl rfl 1 (Nat.le_of_ble_eq_true rfl) (htw _ mF_RX8_9) (fun _ h9 => h9) rfl dX8_exchange_108 ?_
            refine lv_iload hx hb dX8_exchange_111 (lv_at hl 2 rfl) ?_
            obtain ⟨g15, hf⟩ := z_gd_u hf
            refine va_iald hx hb hKX.1 hP 1 0 rfl rfl (z_in_u g15) dX8_exchange_113 ?_
            obtain rfl := Option.some.inj hf
            exact zr_Mi hx hb hr hlocks hP hD hS dX8_exchange_114
          · have hf := z_n c5 hf
            refine lv_bipush (v := (-3)) hx hb dX8_exchange_48 rfl ?_
            obtain rfl := Option.some.inj hf
            exact zr_Mi hx hb hr hlocks hP hD hS dX8_exchange_50
        · have hf := z_p c4 hf
          refine lv_bipush (v := (-2)) hx hb dX8_exchange_36 rfl ?_
          obtain rfl := Option.some.inj hf
          exact zr_Mi hx hb hr hlocks hP hD hS dX8_exchange_38
  · have hf := z_p c1 hf
    refine lv_iconst (v := (-1)) hx hb dX8_exchange_10 rfl ?_
    obtain rfl := Option.some.inj hf
    exact zr_Mi hx hb hr hlocks hP hD hS dX8_exchange_11

theorem hd_yX8_change : hdY yX8_change 2 := by decide +kernel
def M_change (F : Nat) (row : MRow) (un : Un) (a1 : Int32) (a2 : Int32) : Option (Int32 × MRow × Un) := if (row 3) ≤ 0 then (z_bd (M_remember F row un) (fun u2 : Un => z_gd (z_in a1 78) (z_let (row a1.toNatClampNeg) (fun x4 : Int32 => z_gd (z_in a1 78) (some (x4, (upd row a1.toNatClampNeg a2), u2)))))) else (some ((-3), row, un))
set_option maxHeartbeats 4000000 in
set_option maxRecDepth 100000 in
theorem ctX8_change (l : Launch) (D : va_G) (ac cs : Nat → Nat) (q : Nat → Nat) (sz : Nat) (th : Th) (row : MRow) (un : Un) (kp : Kp) (mt : Mt) (ps : Ps) (bx : Bx) (mo : Mo) (su : Su) (wy : Wy) (wa : Wa) (od : Od) (py : Py) (ju : Ju) (pl : Pl) (rs : Rs) (a1 : Int32) (a2 : Int32) (F : Nat) (res : Int32 × MRow × Un) (hf : M_change F row un a1 a2 = some res) : Met l yX8_change (cWW yX8_change cX8_change 4 (some .int)) { frames := 1, cells := 0, slots := 0, locals := 21 } (zM D ac cs [.ref (q 0), .int a1, .int a2] (moW ac q th row un kp mt ps bx mo su wy wa od py ju pl rs) sz) (va_Qi (fun r (_ : Unit) => r = res.1) (fun _ => zB D (va_A (moW ac q th row un kp mt ps bx mo su wy wa od py ju pl rs) sz) (moW ac q th res.2.1 res.2.2 kp mt ps bx mo su wy wa od py ju pl rs)) (va_A (moW ac q th row un kp mt ps bx mo su wy wa od py ju pl rs) sz)) 0 0 (va_A (moW ac q th row un kp mt ps bx mo su wy wa od py ju pl rs) sz) := by
  refine Met.ofW (cc := cX8_change) (maxL := 4) (ret := (some .int)) (by decide) rfl ?_
  intro p e s m args below meth c s₁ B hml hv
  obtain ⟨rfl, hsz, hP, hKX, hD0, hC⟩ := hv
  have hx := B.exec
  have hb := B.bytes
  have hr := B.returns
  have hts := atoms_spec (ws := cWW yX8_change cX8_change 4 (some .int)) B.pre
  have htw : ∀ w ∈ WW, w.before _ s = true := fun w h => hts w (List.mem_cons_of_mem _ h)
  have hown : s.vm.findClass RX8 = some m.cls := findClass_of_methodNamed B.named
  have hlocks := B.notSynchronized
  clear hts B
  subst hsz
  have hD := hD0.self (sz := s.heap.size)
  generalize hAe : va_A (moW ac q th row un kp mt ps bx mo su wy wa od py ju pl rs) s.heap.size = A at hD hC ⊢
  have hA : ∀ q : Nat, s.heap.size ≤ q → A q := fun q h => by rw [← hAe]; exact Or.inr h
  have hS : va_S A s.heap s.heap [] := va_S.rf
  clear hD0 hAe
  have hP : va_P D vwCl (moW ac q th row un kp mt ps bx mo su wy wa od py ju pl rs) s.heap := hP
  have hl := lv_entry ([.ref (q 0), .int a1, .int a2]) (n := 4) (Nat.le_of_ble_eq_true rfl)
  rw [lg_entry_eq]
  generalize (lg_sl ([.ref (q 0), .int a1, .int a2]) ++ List.replicate (4 - (lg_sl ([.ref (q 0), .int a1, .int a2])).length) Slot.unset).toArray = ls at hl ⊢
  have hl : lv_has ls 4 [(0, .ref (q 0)), (1, .int a1), (2, .int a2)] := hl
  unfold M_change at hf
  show W p l e ({ frames := 1, cells := 0, slots := 0, locals := 21 } : Room) s m _ below meth c s.heap [] 0 0 _ (F0 m 0 ls [])
  refine lv_aload_n hx hb dX8_change_0 rfl (lv_at hl 0 rfl) ?_
  refine va_get (D := D) (ci := 8) (v := .ref (q 1)) (C := RX8) (T := TX8) (N := 41) hx hb htw WW_wsX80 hown hKX.1 hP 0 rfl rfl 1 (Nat.le_of_ble_eq_true rfl) (htw _ mF_RX8_9) (fun _ h9 => h9) rfl dX8_change_1 ?_
  refine lv_iconst (v := 3) hx hb dX8_change_4 rfl ?_
  refine zv_iald_k hx hb hKX.1 hP 1 0 rfl rfl 3 rfl (z_in_u (by decide +kernel)) dX8_change_5 ?_
  refine lv_if_le (tgt := 12) hx hb dX8_change_6 (by decide) (fun c1 => ?_) (fun c1 => ?_)
  · have hf := z_p c1 hf
    refine lv_aload_n hx hb dX8_change_12 rfl (lv_at hl 0 rfl) ?_
    obtain ⟨u2, hu2, hf⟩ := z_bd_u hf
    refine zc_MVv (As := []) (rest := []) (wr := []) (wsc := moW ac q th row un kp mt ps bx mo su wy wa od py ju pl rs) (wsc' := moW ac q th row u2 kp mt ps bx mo su wy wa od py ju pl rs) hx hb hml hown htw (ctX8_remember l D ac cs q s.heap.size th row un kp mt ps bx mo su wy wa od py ju pl rs    F u2 hu2) (g_V mM_RX8_305 mI_yX8_remember mS_RX8_yX8_remember_yX8_remember mN_RX8 mC_yX8_remember) rfl (hd_yX8_remember) ⟨rfl, rfl⟩ ⟨(Nat.le_of_ble_eq_true rfl), (Nat.le_of_ble_eq_true rfl)⟩ hKX hC hS hA hP hD [0, 1, 2, 3, 4, 5, 6, 7, 8, 9, 10, 11, 12, 13, 14, 15, 16, 17, 18, 19, 20] [] rfl (by decide) rfl (by decide) (by decide) 8 rfl rfl rfl hl.1 rfl (Nat.le_of_ble_eq_true rfl) ⟨Nat.zero_le _, Nat.zero_le _⟩ dX8_change_13 (fun H locs hP hD hS => ?_)
    have hP : va_P D vwCl (moW ac q th row u2 kp mt ps bx mo su wy wa od py ju pl rs) H := hP
    have hD : va_D A (moW ac q th row u2 kp mt ps bx mo su wy wa od py ju pl rs) := hD
    refine lv_aload_n hx hb dX8_change_16 rfl (lv_at hl 0 rfl) ?_
    refine va_get (D := D) (ci := 8) (v := .ref (q 1)) (C := RX8) (T := TX8) (N := 41) hx hb htw WW_wsX80 hown hKX.1 hP 0 rfl rfl 1 (Nat.le_of_ble_eq_true rfl) (htw _ mF_RX8_9) (fun _ h9 => h9) rfl dX8_change_17 ?_
    refine lv_iload_n hx hb dX8_change_20 rfl (lv_at hl 1 rfl) ?_
    obtain ⟨g3, hf⟩ := z_gd_u hf
    refine va_iald hx hb hKX.1 hP 1 0 rfl rfl (z_in_u g3) dX8_change_21 ?_
    refine lv_topi (fun x4 hx4 => ?_)
    have hf := z_let_u hx4 hf
    refine lv_istore_n (lv' := [(3, .int x4), (0, .ref (q 0)), (1, .int a1), (2, .int a2)]) hx hb dX8_change_22 rfl hl (Nat.le_of_ble_eq_true rfl) rfl (fun ls hl => ?_)
    refine lv_aload_n hx hb dX8_change_23 rfl (lv_at hl 1 rfl) ?_
    refine va_get (D := D) (ci := 8) (v := .ref (q 1)) (C := RX8) (T := TX8) (N := 41) hx hb htw WW_wsX80 hown hKX.1 hP 0 rfl rfl 1 (Nat.le_of_ble_eq_true rfl) (htw _ mF_RX8_9) (fun _ h9 => h9) rfl dX8_change_24 ?_
    refine lv_iload_n hx hb dX8_change_27 rfl (lv_at hl 2 rfl) ?_
    refine lv_iload_n hx hb dX8_change_28 rfl (lv_at hl 3 rfl) ?_
    obtain ⟨g5, hf⟩ := z_gd_u hf
    refine va_iast hx hb hKX.1 hP hD hS 1 0 rfl rfl (z_in_u g5) dX8_change_29 (fun H locs hP hD hS => ?_)
    have hP : va_P D vwCl (moW ac q th (upd row a1.toNatClampNeg a2) u2 kp mt ps bx mo su wy wa od py ju pl rs) H := hP
    have hD : va_D A (moW ac q th (upd row a1.toNatClampNeg a2) u2 kp mt ps bx mo su wy wa od py ju pl rs) := hD
    refine lv_iload_n hx hb dX8_change_30 rfl (lv_at hl 0 rfl) ?_
    obtain rfl := Option.some.inj hf
    exact zr_Mi hx hb hr hlocks hP hD hS dX8_change_31
  · have hf := z_n c1 hf
    refine lv_bipush (v := (-3)) hx hb dX8_change_9 rfl ?_
    obtain rfl := Option.some.inj hf
    exact zr_Mi hx hb hr hlocks hP hD hS dX8_change_11

theorem hd_yX8_order : hdY yX8_order 1 := by decide +kernel
def M_order (F : Nat) (row : MRow) (un : Un) (a1 : Int32) : Option (Int32 × Th × MRow × Un) := if M_in a1.toInt64 0 3 = 0 then (some ((-1), 0, row, un)) else (if M_isTold row = 0 then (some ((-2), 0, row, un)) else (z_bd (M_change F row un 1 a1) (fun u3 : Int32 × MRow × Un => some (u3.1, 0, u3.2.1, u3.2.2))))
set_option maxHeartbeats 4000000 in
set_option maxRecDepth 100000 in
theorem ctX8_order (l : Launch) (D : va_G) (ac cs : Nat → Nat) (q : Nat → Nat) (sz : Nat) (th : Th) (row : MRow) (un : Un) (kp : Kp) (mt : Mt) (ps : Ps) (bx : Bx) (mo : Mo) (su : Su) (wy : Wy) (wa : Wa) (od : Od) (py : Py) (ju : Ju) (pl : Pl) (rs : Rs) (a1 : Int32) (F : Nat) (res : Int32 × Th × MRow × Un) (hf : M_order F row un a1 = some res) : Met l yX8_order (cWW yX8_order cX8_order 2 (some .int)) { frames := 2, cells := 0, slots := 0, locals := 44 } (zM D ac cs [.ref (q 0), .int a1] (moW ac q th row un kp mt ps bx mo su wy wa od py ju pl rs) sz) (va_Qi (fun r (_ : Unit) => r = res.1) (fun _ => zB D (va_A (moW ac q th row un kp mt ps bx mo su wy wa od py ju pl rs) sz) (moW ac q res.2.1 res.2.2.1 res.2.2.2 kp mt ps bx mo su wy wa od py ju pl rs)) (va_A (moW ac q th row un kp mt ps bx mo su wy wa od py ju pl rs) sz)) 0 0 (va_A (moW ac q th row un kp mt ps bx mo su wy wa od py ju pl rs) sz) := by
  refine Met.ofW (cc := cX8_order) (maxL := 2) (ret := (some .int)) (by decide) rfl ?_
  intro p e s m args below meth c s₁ B hml hv
  obtain ⟨rfl, hsz, hP, hKX, hD0, hC⟩ := hv
  have hx := B.exec
  have hb := B.bytes
  have hr := B.returns
  have hts := atoms_spec (ws := cWW yX8_order cX8_order 2 (some .int)) B.pre
  have htw : ∀ w ∈ WW, w.before _ s = true := fun w h => hts w (List.mem_cons_of_mem _ h)
  have hown : s.vm.findClass RX8 = some m.cls := findClass_of_methodNamed B.named
  have hlocks := B.notSynchronized
  clear hts B
  subst hsz
  have hD := hD0.self (sz := s.heap.size)
  generalize hAe : va_A (moW ac q th row un kp mt ps bx mo su wy wa od py ju pl rs) s.heap.size = A at hD hC ⊢
  have hA : ∀ q : Nat, s.heap.size ≤ q → A q := fun q h => by rw [← hAe]; exact Or.inr h
  have hS : va_S A s.heap s.heap [] := va_S.rf
  clear hD0 hAe
  have hP : va_P D vwCl (moW ac q th row un kp mt ps bx mo su wy wa od py ju pl rs) s.heap := hP
  have hl := lv_entry ([.ref (q 0), .int a1]) (n := 2) (Nat.le_of_ble_eq_true rfl)
  rw [lg_entry_eq]
  generalize (lg_sl ([.ref (q 0), .int a1]) ++ List.replicate (2 - (lg_sl ([.ref (q 0), .int a1])).length) Slot.unset).toArray = ls at hl ⊢
  have hl : lv_has ls 2 [(0, .ref (q 0)), (1, .int a1)] := hl
  unfold M_order at hf
  show W p l e ({ frames := 2, cells := 0, slots := 0, locals := 44 } : Room) s m _ below meth c s.heap [] 0 0 _ (F0 m 0 ls [])
  refine lv_aload_n hx hb dX8_order_0 rfl (lv_at hl 0 rfl) ?_
  refine lv_iconst (v := 0) hx hb dX8_order_1 rfl ?_
  refine va_put (D := D) (ci := 8) (v := .int 0) (ty := tyX8 0) (C := RX8) (T := TX8) (N := 41) hx hb htw WW_wsX80 tyX8 tyX8_ok nmX8 hown hKX.1 hP hD hS 0 rfl rfl 0 (Nat.le_of_ble_eq_true rfl) (htw _ mF_RX8_75) (fun _ h9 => h9) rfl (tyX8_ok 0 (Nat.le_of_ble_eq_true rfl)) rfl rfl (Nat.le_of_ble_eq_true rfl) dX8_order_2 (fun H locs hP hD hS => ?_)
  have hP : va_P D vwCl (moW ac q 0 row un kp mt ps bx mo su wy wa od py ju pl rs) H := hP
  have hD : va_D A (moW ac q 0 row un kp mt ps bx mo su wy wa od py ju pl rs) := hD
  refine lv_iload_n hx hb dX8_order_5 rfl (lv_at hl 1 rfl) ?_
  refine lv_i2l hx hb dX8_order_6 rfl ?_
  refine lv_lconst (v := 0) hx hb dX8_order_7 rfl ?_
  refine lv_ldc2 (v := 3) hx hb hown (htw _ mG_RX8_324) dX8_order_8 ?_
  refine zc_RSi (As := [.long a1.toInt64, .long 0, .long 3]) (rest := []) hx hb hml hown htw (ctX8_in l D ac cs   a1.toInt64 0 3   _ rfl) (g_S mM_RX8_79 mT_yX8_in mN_RX8 mC_yX8_in) (hd_yX8_in) ⟨rfl, rfl⟩ ⟨(Nat.le_of_ble_eq_true rfl), (Nat.le_of_ble_eq_true rfl)⟩ hKX hC hS zP0 rfl hl.1 rfl (Nat.le_of_ble_eq_true rfl) ⟨Nat.zero_le _, Nat.zero_le _⟩ dX8_order_11 ?_
  refine lv_if_ne (tgt := 21) hx hb dX8_order_14 (by decide) (fun c1 => ?_) (fun c1 => ?_)
  · have hf := z_n c1 hf
    refine lv_aload_n hx hb dX8_order_21 rfl (lv_at hl 0 rfl) ?_
    refine zc_RVi (As := []) (rest := []) hx hb hml hown htw (ctX8_isTold l D ac cs q 0 row un kp mt ps bx mo su wy wa od py ju pl rs    _ rfl) (g_V mM_RX8_83 mI_yX8_isTold mS_RX8_yX8_isTold_yX8_isTold mN_RX8 mC_yX8_isTold) rfl (hd_yX8_isTold) ⟨rfl, rfl⟩ ⟨(Nat.le_of_ble_eq_true rfl), (Nat.le_of_ble_eq_true rfl)⟩ hKX hC hS hP 8 rfl rfl rfl hl.1 rfl (Nat.le_of_ble_eq_true rfl) ⟨Nat.zero_le _, Nat.zero_le _⟩ dX8_order_22 ?_
    refine lv_if_ne (tgt := 33) hx hb dX8_order_25 (by decide) (fun c2 => ?_) (fun c2 => ?_)
    · have hf := z_n c2 hf
      refine lv_aload_n hx hb dX8_order_33 rfl (lv_at hl 0 rfl) ?_
      refine lv_iconst (v := 1) hx hb dX8_order_34 rfl ?_
      refine lv_iload_n hx hb dX8_order_35 rfl (lv_at hl 1 rfl) ?_
      obtain ⟨u3, hu3, hf⟩ := z_bd_u hf
      refine zc_MVi (As := [.int 1, .int a1]) (rest := []) (wr := []) (wsc := moW ac q 0 row un kp mt ps bx mo su wy wa od py ju pl rs) (wsc' := moW ac q 0 u3.2.1 u3.2.2 kp mt ps bx mo su wy wa od py ju pl rs) hx hb hml hown htw (ctX8_change l D ac cs q H.size 0 row un kp mt ps bx mo su wy wa od py ju pl rs 1 a1   F u3 hu3) (g_V mM_RX8_329 mI_yX8_change mS_RX8_yX8_change_yX8_change mN_RX8 mC_yX8_change) rfl (hd_yX8_change) ⟨rfl, rfl⟩ ⟨(Nat.le_of_ble_eq_true rfl), (Nat.le_of_ble_eq_true rfl)⟩ hKX hC hS hA hP hD [0, 1, 2, 3, 4, 5, 6, 7, 8, 9, 10, 11, 12, 13, 14, 15, 16, 17, 18, 19, 20] [] rfl (by decide) rfl (by decide) (by decide) 8 rfl rfl rfl hl.1 rfl (Nat.le_of_ble_eq_true rfl) ⟨Nat.zero_le _, Nat.zero_le _⟩ dX8_order_36 (fun H locs hP hD hS => ?_)
      have hP : va_P D vwCl (moW ac q 0 u3.2.1 u3.2.2 kp mt ps bx mo su wy wa od py ju pl rs) H := hP
      have hD : va_D A (moW ac q 0 u3.2.1 u3.2.2 kp mt ps bx mo su wy wa od py ju pl rs) := hD
      obtain rfl := Option.some.inj hf
      exact zr_Mi hx hb hr hlocks hP hD hS dX8_order_39
    · have hf := z_p c2 hf
      refine lv_bipush (v := (-2)) hx hb dX8_order_28 rfl ?_
      refine lv_goto (tgt := 39) hx hb dX8_order_30 (by decide) ?_
      obtain rfl := Option.some.inj hf
      exact zr_Mi hx hb hr hlocks hP hD hS dX8_order_39
  · have hf := z_p c1 hf
    refine lv_iconst (v := (-1)) hx hb dX8_order_17 rfl ?_
    refine lv_goto (tgt := 39) hx hb dX8_order_18 (by decide) ?_
    obtain rfl := Option.some.inj hf
    exact zr_Mi hx hb hr hlocks hP hD hS dX8_order_39

theorem hd_yX8_first : hdY yX8_first 1 := by decide +kernel
def M_first (F : Nat) (row : MRow) (un : Un) (a1 : Int32) : Option (Int32 × Th × MRow × Un) := if M_isThere row a1 = 0 then (some ((-2), 0, row, un)) else (z_bd (M_change F row un 2 a1) (fun u2 : Int32 × MRow × Un => some (u2.1, 0, u2.2.1, u2.2.2)))
set_option maxHeartbeats 4000000 in
set_option maxRecDepth 100000 in
theorem ctX8_first (l : Launch) (D : va_G) (ac cs : Nat → Nat) (q : Nat → Nat) (sz : Nat) (th : Th) (row : MRow) (un : Un) (kp : Kp) (mt : Mt) (ps : Ps) (bx : Bx) (mo : Mo) (su : Su) (wy : Wy) (wa : Wa) (od : Od) (py : Py) (ju : Ju) (pl : Pl) (rs : Rs) (a1 : Int32) (F : Nat) (res : Int32 × Th × MRow × Un) (hf : M_first F row un a1 = some res) : Met l yX8_first (cWW yX8_first cX8_first 2 (some .int)) { frames := 3, cells := 0, slots := 0, locals := 66 } (zM D ac cs [.ref (q 0), .int a1] (moW ac q th row un kp mt ps bx mo su wy wa od py ju pl rs) sz) (va_Qi (fun r (_ : Unit) => r = res.1) (fun _ => zB D (va_A (moW ac q th row un kp mt ps bx mo su wy wa od py ju pl rs) sz) (moW ac q res.2.1 res.2.2.1 res.2.2.2 kp mt ps bx mo su wy wa od py ju pl rs)) (va_A (moW ac q th row un kp mt ps bx mo su wy wa od py ju pl rs) sz)) 0 0 (va_A (moW ac q th row un kp mt ps bx mo su wy wa od py ju pl rs) sz) := by
  refine Met.ofW (cc := cX8_first) (maxL := 2) (ret := (some .int)) (by decide) rfl ?_
  intro p e s m args below meth c s₁ B hml hv
  obtain ⟨rfl, hsz, hP, hKX, hD0, hC⟩ := hv
  have hx := B.exec
  have hb := B.bytes
  have hr := B.returns
  have hts := atoms_spec (ws := cWW yX8_first cX8_first 2 (some .int)) B.pre
  have htw : ∀ w ∈ WW, w.before _ s = true := fun w h => hts w (List.mem_cons_of_mem _ h)
  have hown : s.vm.findClass RX8 = some m.cls := findClass_of_methodNamed B.named
  have hlocks := B.notSynchronized
  clear hts B
  subst hsz
  have hD := hD0.self (sz := s.heap.size)
  generalize hAe : va_A (moW ac q th row un kp mt ps bx mo su wy wa od py ju pl rs) s.heap.size = A at hD hC ⊢
  have hA : ∀ q : Nat, s.heap.size ≤ q → A q := fun q h => by rw [← hAe]; exact Or.inr h
  have hS : va_S A s.heap s.heap [] := va_S.rf
  clear hD0 hAe
  have hP : va_P D vwCl (moW ac q th row un kp mt ps bx mo su wy wa od py ju pl rs) s.heap := hP
  have hl := lv_entry ([.ref (q 0), .int a1]) (n := 2) (Nat.le_of_ble_eq_true rfl)
  rw [lg_entry_eq]
  generalize (lg_sl ([.ref (q 0), .int a1]) ++ List.replicate (2 - (lg_sl ([.ref (q 0), .int a1])).length) Slot.unset).toArray = ls at hl ⊢
  have hl : lv_has ls 2 [(0, .ref (q 0)), (1, .int a1)] := hl
  unfold M_first at hf
  show W p l e ({ frames := 3, cells := 0, slots := 0, locals := 66 } : Room) s m _ below meth c s.heap [] 0 0 _ (F0 m 0 ls [])
  refine lv_aload_n hx hb dX8_first_0 rfl (lv_at hl 0 rfl) ?_
  refine lv_iconst (v := 0) hx hb dX8_first_1 rfl ?_
  refine va_put (D := D) (ci := 8) (v := .int 0) (ty := tyX8 0) (C := RX8) (T := TX8) (N := 41) hx hb htw WW_wsX80 tyX8 tyX8_ok nmX8 hown hKX.1 hP hD hS 0 rfl rfl 0 (Nat.le_of_ble_eq_true rfl) (htw _ mF_RX8_75) (fun _ h9 => h9) rfl (tyX8_ok 0 (Nat.le_of_ble_eq_true rfl)) rfl rfl (Nat.le_of_ble_eq_true rfl) dX8_first_2 (fun H locs hP hD hS => ?_)
  have hP : va_P D vwCl (moW ac q 0 row un kp mt ps bx mo su wy wa od py ju pl rs) H := hP
  have hD : va_D A (moW ac q 0 row un kp mt ps bx mo su wy wa od py ju pl rs) := hD
  refine lv_aload_n hx hb dX8_first_5 rfl (lv_at hl 0 rfl) ?_
  refine lv_iload_n hx hb dX8_first_6 rfl (lv_at hl 1 rfl) ?_
  refine zc_RVi (As := [.int a1]) (rest := []) hx hb hml hown htw (ctX8_isThere l D ac cs q 0 row un kp mt ps bx mo su wy wa od py ju pl rs a1   _ rfl) (g_V mM_RX8_294 mI_yX8_isThere mS_RX8_yX8_isThere_yX8_isThere mN_RX8 mC_yX8_isThere) rfl (hd_yX8_isThere) ⟨rfl, rfl⟩ ⟨(Nat.le_of_ble_eq_true rfl), (Nat.le_of_ble_eq_true rfl)⟩ hKX hC hS hP 8 rfl rfl rfl hl.1 rfl (Nat.le_of_ble_eq_true rfl) ⟨Nat.zero_le _, Nat.zero_le _⟩ dX8_first_7 ?_
  refine lv_if_ne (tgt := 18) hx hb dX8_first_10 (by decide) (fun c1 => ?_) (fun c1 => ?_)
  · have hf := z_n c1 hf
    refine lv_aload_n hx hb dX8_first_18 rfl (lv_at hl 0 rfl) ?_
    refine lv_iconst (v := 2) hx hb dX8_first_19 rfl ?_
    refine lv_iload_n hx hb dX8_first_20 rfl (lv_at hl 1 rfl) ?_
    obtain ⟨u2, hu2, hf⟩ := z_bd_u hf
    refine zc_MVi (As := [.int 2, .int a1]) (rest := []) (wr := []) (wsc := moW ac q 0 row un kp mt ps bx mo su wy wa od py ju pl rs) (wsc' := moW ac q 0 u2.2.1 u2.2.2 kp mt ps bx mo su wy wa od py ju pl rs) hx hb hml hown htw (ctX8_change l D ac cs q H.size 0 row un kp mt ps bx mo su wy wa od py ju pl rs 2 a1   F u2 hu2) (g_V mM_RX8_329 mI_yX8_change mS_RX8_yX8_change_yX8_change mN_RX8 mC_yX8_change) rfl (hd_yX8_change) ⟨rfl, rfl⟩ ⟨(Nat.le_of_ble_eq_true rfl), (Nat.le_of_ble_eq_true rfl)⟩ hKX hC hS hA hP hD [0, 1, 2, 3, 4, 5, 6, 7, 8, 9, 10, 11, 12, 13, 14, 15, 16, 17, 18, 19, 20] [] rfl (by decide) rfl (by decide) (by decide) 8 rfl rfl rfl hl.1 rfl (Nat.le_of_ble_eq_true rfl) ⟨Nat.zero_le _, Nat.zero_le _⟩ dX8_first_21 (fun H locs hP hD hS => ?_)
    have hP : va_P D vwCl (moW ac q 0 u2.2.1 u2.2.2 kp mt ps bx mo su wy wa od py ju pl rs) H := hP
    have hD : va_D A (moW ac q 0 u2.2.1 u2.2.2 kp mt ps bx mo su wy wa od py ju pl rs) := hD
    obtain rfl := Option.some.inj hf
    exact zr_Mi hx hb hr hlocks hP hD hS dX8_first_24
  · have hf := z_p c1 hf
    refine lv_bipush (v := (-2)) hx hb dX8_first_13 rfl ?_
    refine lv_goto (tgt := 24) hx hb dX8_first_15 (by decide) ?_
    obtain rfl := Option.some.inj hf
    exact zr_Mi hx hb hr hlocks hP hD hS dX8_first_24

theorem hd_yX8_turn : hdY yX8_turn 1 := by decide +kernel
def M_turn (F : Nat) (row : MRow) (bx : Bx) (mo : Mo) (a1 : Int32) : Option (Int32 × Th × Bx × Mo) := if M_isTold row = 0 then (some ((-1), 0, bx, mo)) else (if M_in a1.toInt64 0 3 = 0 then (some ((-1), 0, bx, mo)) else (z_bd (M_goNow F row bx mo) (fun u3 : Bx × Mo => if (mo_isOver u3.2) = 0 then (if a1 = 0 then (some (M_turnNow u3.2, 0, u3.1, u3.2)) else (if a1 = 1 then (some (((mo_kicks u3.2) / 2), 0, u3.1, u3.2)) else (if a1 = 2 then (z_bd (M_shooterNow row u3.2) (fun r9 : Int32 => some (r9, 0, u3.1, u3.2))) else (z_bd (M_chanceNow row u3.1 u3.2) (fun r8 : Int32 => some (r8, 0, u3.1, u3.2)))))) else (some ((-2), 0, u3.1, u3.2)))))
set_option maxHeartbeats 4000000 in
set_option maxRecDepth 100000 in
theorem ctX8_turn (l : Launch) (D : va_G) (ac cs : Nat → Nat) (q : Nat → Nat) (sz : Nat) (th : Th) (row : MRow) (un : Un) (kp : Kp) (mt : Mt) (ps : Ps) (bx : Bx) (mo : Mo) (su : Su) (wy : Wy) (wa : Wa) (od : Od) (py : Py) (ju : Ju) (pl : Pl) (rs : Rs) (a1 : Int32) (F : Nat) (res : Int32 × Th × Bx × Mo) (hf : M_turn F row bx mo a1 = some res) : Met l yX8_turn (cWW yX8_turn cX8_turn 2 (some .int)) { frames := 4, cells := 0, slots := 0, locals := 86 } (zM D ac cs [.ref (q 0), .int a1] (moW ac q th row un kp mt ps bx mo su wy wa od py ju pl rs) sz) (va_Qi (fun r (_ : Unit) => r = res.1) (fun _ => zB D (va_A (moW ac q th row un kp mt ps bx mo su wy wa od py ju pl rs) sz) (moW ac q res.2.1 row un kp mt ps res.2.2.1 res.2.2.2 su wy wa od py ju pl rs)) (va_A (moW ac q th row un kp mt ps bx mo su wy wa od py ju pl rs) sz)) 0 0 (va_A (moW ac q th row un kp mt ps bx mo su wy wa od py ju pl rs) sz) := by
  refine Met.ofW (cc := cX8_turn) (maxL := 2) (ret := (some .int)) (by decide) rfl ?_
  intro p e s m args below meth c s₁ B hml hv
  obtain ⟨rfl, hsz, hP, hKX, hD0, hC⟩ := hv
  have hx := B.exec
  have hb := B.bytes
  have hr := B.returns
  have hts := atoms_spec (ws := cWW yX8_turn cX8_turn 2 (some .int)) B.pre
  have htw : ∀ w ∈ WW, w.before _ s = true := fun w h => hts w (List.mem_cons_of_mem _ h)
  have hown : s.vm.findClass RX8 = some m.cls := findClass_of_methodNamed B.named
  have hlocks := B.notSynchronized
  clear hts B
  subst hsz
  have hD := hD0.self (sz := s.heap.size)
  generalize hAe : va_A (moW ac q th row un kp mt ps bx mo su wy wa od py ju pl rs) s.heap.size = A at hD hC ⊢
  have hA : ∀ q : Nat, s.heap.size ≤ q → A q := fun q h => by rw [← hAe]; exact Or.inr h
  have hS : va_S A s.heap s.heap [] := va_S.rf
  clear hD0 hAe
  have hP : va_P D vwCl (moW ac q th row un kp mt ps bx mo su wy wa od py ju pl rs) s.heap := hP
  have hl := lv_entry ([.ref (q 0), .int a1]) (n := 2) (Nat.le_of_ble_eq_true rfl)
  rw [lg_entry_eq]
  generalize (lg_sl ([.ref (q 0), .int a1]) ++ List.replicate (2 - (lg_sl ([.ref (q 0), .int a1])).length) Slot.unset).toArray = ls at hl ⊢
  have hl : lv_has ls 2 [(0, .ref (q 0)), (1, .int a1)] := hl
  unfold M_turn at hf
  show W p l e ({ frames := 4, cells := 0, slots := 0, locals := 86 } : Room) s m _ below meth c s.heap [] 0 0 _ (F0 m 0 ls [])
  refine lv_aload_n hx hb dX8_turn_0 rfl (lv_at hl 0 rfl) ?_
  refine lv_iconst (v := 0) hx hb dX8_turn_1 rfl ?_
  refine va_put (D := D) (ci := 8) (v := .int 0) (ty := tyX8 0) (C := RX8) (T := TX8) (N := 41) hx hb htw WW_wsX80 tyX8 tyX8_ok nmX8 hown hKX.1 hP hD hS 0 rfl rfl 0 (Nat.le_of_ble_eq_true rfl) (htw _ mF_RX8_75) (fun _ h9 => h9) rfl (tyX8_ok 0 (Nat.le_of_ble_eq_true rfl)) rfl rfl (Nat.le_of_ble_eq_true rfl) dX8_turn_2 (fun H locs hP hD hS => ?_)
  have hP : va_P D vwCl (moW ac q 0 row un kp mt ps bx mo su wy wa od py ju pl rs) H := hP
  have hD : va_D A (moW ac q 0 row un kp mt ps bx mo su wy wa od py ju pl rs) := hD
  refine lv_aload_n hx hb dX8_turn_5 rfl (lv_at hl 0 rfl) ?_
  refine zc_RVi (As := []) (rest := []) hx hb hml hown htw (ctX8_isTold l D ac cs q 0 row un kp mt ps bx mo su wy wa od py ju pl rs    _ rfl) (g_V mM_RX8_83 mI_yX8_isTold mS_RX8_yX8_isTold_yX8_isTold mN_RX8 mC_yX8_isTold) rfl (hd_yX8_isTold) ⟨rfl, rfl⟩ ⟨(Nat.le_of_ble_eq_true rfl), (Nat.le_of_ble_eq_true rfl)⟩ hKX hC hS hP 8 rfl rfl rfl hl.1 rfl (Nat.le_of_ble_eq_true rfl) ⟨Nat.zero_le _, Nat.zero_le _⟩ dX8_turn_6 ?_
  refine lv_if_eq (tgt := 24) hx hb dX8_turn_9 (by decide) (fun c1 => ?_) (fun c1 => ?_)
  · have hf := z_p c1 hf
    refine lv_iconst (v := (-1)) hx hb dX8_turn_24 rfl ?_
    obtain rfl := Option.some.inj hf
    exact zr_Mi hx hb hr hlocks hP hD hS dX8_turn_25
  · have hf := z_n c1 hf
    refine lv_iload_n hx hb dX8_turn_12 rfl (lv_at hl 1 rfl) ?_
    refine lv_i2l hx hb dX8_turn_13 rfl ?_
    refine lv_lconst (v := 0) hx hb dX8_turn_14 rfl ?_
    refine lv_ldc2 (v := 3) hx hb hown (htw _ mG_RX8_324) dX8_turn_15 ?_
    refine zc_RSi (As := [.long a1.toInt64, .long 0, .long 3]) (rest := []) hx hb hml hown htw (ctX8_in l D ac cs   a1.toInt64 0 3   _ rfl) (g_S mM_RX8_79 mT_yX8_in mN_RX8 mC_yX8_in) (hd_yX8_in) ⟨rfl, rfl⟩ ⟨(Nat.le_of_ble_eq_true rfl), (Nat.le_of_ble_eq_true rfl)⟩ hKX hC hS zP0 rfl hl.1 rfl (Nat.le_of_ble_eq_true rfl) ⟨Nat.zero_le _, Nat.zero_le _⟩ dX8_turn_18 ?_
    refine lv_if_ne (tgt := 26) hx hb dX8_turn_21 (by decide) (fun c2 => ?_) (fun c2 => ?_)
    · have hf := z_n c2 hf
      refine lv_aload_n hx hb dX8_turn_26 rfl (lv_at hl 0 rfl) ?_
      obtain ⟨u3, hu3, hf⟩ := z_bd_u hf
      refine zc_MVv (As := []) (rest := []) (wr := []) (wsc := moW ac q 0 row un kp mt ps bx mo su wy wa od py ju pl rs) (wsc' := moW ac q 0 row un kp mt ps u3.1 u3.2 su wy wa od py ju pl rs) hx hb hml hown htw (ctX8_goNow l D ac cs q H.size 0 row un kp mt ps bx mo su wy wa od py ju pl rs    F u3 hu3) (g_V mM_RX8_302 mI_yX8_goNow mS_RX8_yX8_goNow_yX8_goNow mN_RX8 mC_yX8_goNow) rfl (hd_yX8_goNow) ⟨rfl, rfl⟩ ⟨(Nat.le_of_ble_eq_true rfl), (Nat.le_of_ble_eq_true rfl)⟩ hKX hC hS hA hP hD [0, 1, 2, 3, 4, 5, 6, 7, 8, 9, 10, 11, 12, 13, 14, 15, 16, 17, 18, 19, 20] [] rfl (by decide) rfl (by decide) (by decide) 8 rfl rfl rfl hl.1 rfl (Nat.le_of_ble_eq_true rfl) ⟨Nat.zero_le _, Nat.zero_le _⟩ dX8_turn_27 (fun H locs hP hD hS => ?_)
      have hP : va_P D vwCl (moW ac q 0 row un kp mt ps u3.1 u3.2 su wy wa od py ju pl rs) H := hP
      have hD : va_D A (moW ac q 0 row un kp mt ps u3.1 u3.2 su wy wa od py ju pl rs) := hD
      refine lv_aload_n hx hb dX8_turn_30 rfl (lv_at hl 0 rfl) ?_
      refine va_get (D := D) (ci := 8) (v := .int (mo_isOver u3.2)) (C := RX8) (T := TX8) (N := 41) hx hb htw WW_wsX80 hown hKX.1 hP 0 rfl rfl 21 (Nat.le_of_ble_eq_true rfl) (htw _ mF_RX8_208) (fun _ h9 => h9) rfl dX8_turn_31 ?_
      refine lv_if_eq (tgt := 40) hx hb dX8_turn_34 (by decide) (fun c4 => ?_) (fun c4 => ?_)
      · have hf := z_p c4 hf
        refine lv_iload_n hx hb dX8_turn_40 rfl (lv_at hl 1 rfl) ?_
        refine lv_if_ne (tgt := 51) hx hb dX8_turn_41 (by decide) (fun c5 => ?_) (fun c5 => ?_)
        · have hf := z_n c5 hf
          refine lv_iload_n hx hb dX8_turn_51 rfl (lv_at hl 1 rfl) ?_
          refine lv_iconst (v := 1) hx hb dX8_turn_52 rfl ?_
          refine lv_icmp_ne (tgt := 65) hx hb dX8_turn_53 (by decide) (fun c6 => ?_) (fun c6 => ?_)
          · have hf := z_n c6 hf
            refine lv_iload_n hx hb dX8_turn_65 rfl (lv_at hl 1 rfl) ?_
            refine lv_iconst (v := 2) hx hb dX8_turn_66 rfl ?_
            refine lv_icmp_ne (tgt := 77) hx hb dX8_turn_67 (by decide) (fun c7 => ?_) (fun c7 => ?_)
            · have hf := z_n c7 hf
              refine lv_aload_n hx hb dX8_turn_77 rfl (lv_at hl 0 rfl) ?_
              obtain ⟨r8, hr8, hf⟩ := z_bd_u hf
              refine zc_RVi (As := []) (rest := []) hx hb hml hown htw (ctX8_chanceNow l D ac cs q 0 row un kp mt ps u3.1 u3.2 su wy wa od py ju pl rs    _ hr8) (g_V mM_RX8_257 mI_yX8_chanceNow mS_RX8_yX8_chanceNow_yX8_chanceNow mN_RX8 mC_yX8_chanceNow) rfl (hd_yX8_chanceNow) ⟨rfl, rfl⟩ ⟨(Nat.le_of_ble_eq_true rfl), (Nat.le_of_ble_eq_true rfl)⟩ hKX hC hS hP 8 rfl rfl rfl hl.1 rfl (Nat.le_of_ble_eq_true rfl) ⟨Nat.zero_le _, Nat.zero_le _⟩ dX8_turn_78 ?_
              obtain rfl := Option.some.inj hf
              exact zr_Mi hx hb hr hlocks hP hD hS dX8_turn_81
            · have hf := z_p c7 hf
              refine lv_aload_n hx hb dX8_turn_70 rfl (lv_at hl 0 rfl) ?_
              obtain ⟨r9, hr9, hf⟩ := z_bd_u hf
              refine zc_RVi (As := []) (rest := []) hx hb hml hown htw (ctX8_shooterNow l D ac cs q 0 row un kp mt ps u3.1 u3.2 su wy wa od py ju pl rs    _ hr9) (g_V mM_RX8_226 mI_yX8_shooterNow mS_RX8_yX8_shooterNow_yX8_shooterNow mN_RX8 mC_yX8_shooterNow) rfl (hd_yX8_shooterNow) ⟨rfl, rfl⟩ ⟨(Nat.le_of_ble_eq_true rfl), (Nat.le_of_ble_eq_true rfl)⟩ hKX hC hS hP 8 rfl rfl rfl hl.1 rfl (Nat.le_of_ble_eq_true rfl) ⟨Nat.zero_le _, Nat.zero_le _⟩ dX8_turn_71 ?_
              refine lv_goto (tgt := 81) hx hb dX8_turn_74 (by decide) ?_
              obtain rfl := Option.some.inj hf
              exact zr_Mi hx hb hr hlocks hP hD hS dX8_turn_81
          · have hf := z_p c6 hf
            refine lv_aload_n hx hb dX8_turn_56 rfl (lv_at hl 0 rfl) ?_
            refine va_get (D := D) (ci := 8) (v := .int (mo_kicks u3.2)) (C := RX8) (T := TX8) (N := 41) hx hb htw WW_wsX80 hown hKX.1 hP 0 rfl rfl 19 (Nat.le_of_ble_eq_true rfl) (htw _ mF_RX8_202) (fun _ h9 => h9) rfl dX8_turn_57 ?_
            refine lv_iconst (v := 2) hx hb dX8_turn_60 rfl ?_
            refine lv_idiv hx hb dX8_turn_61 (by decide) ?_
            refine lv_goto (tgt := 81) hx hb dX8_turn_62 (by decide) ?_
            obtain rfl := Option.some.inj hf
            exact zr_Mi hx hb hr hlocks hP hD hS dX8_turn_81
        · have hf := z_p c5 hf
          refine lv_aload_n hx hb dX8_turn_44 rfl (lv_at hl 0 rfl) ?_
          refine zc_RVi (As := []) (rest := []) hx hb hml hown htw (ctX8_turnNow l D ac cs q 0 row un kp mt ps u3.1 u3.2 su wy wa od py ju pl rs    _ rfl) (g_V mM_RX8_223 mI_yX8_turnNow mS_RX8_yX8_turnNow_yX8_turnNow mN_RX8 mC_yX8_turnNow) rfl (hd_yX8_turnNow) ⟨rfl, rfl⟩ ⟨(Nat.le_of_ble_eq_true rfl), (Nat.le_of_ble_eq_true rfl)⟩ hKX hC hS hP 8 rfl rfl rfl hl.1 rfl (Nat.le_of_ble_eq_true rfl) ⟨Nat.zero_le _, Nat.zero_le _⟩ dX8_turn_45 ?_
          refine lv_goto (tgt := 81) hx hb dX8_turn_48 (by decide) ?_
          obtain rfl := Option.some.inj hf
          exact zr_Mi hx hb hr hlocks hP hD hS dX8_turn_81
      · have hf := z_n c4 hf
        refine lv_bipush (v := (-2)) hx hb dX8_turn_37 rfl ?_
        obtain rfl := Option.some.inj hf
        exact zr_Mi hx hb hr hlocks hP hD hS dX8_turn_39
    · have hf := z_p c2 hf
      refine lv_iconst (v := (-1)) hx hb dX8_turn_24 rfl ?_
      obtain rfl := Option.some.inj hf
      exact zr_Mi hx hb hr hlocks hP hD hS dX8_turn_25

theorem hd_yX8_odds : hdY yX8_odds 2 := by decide +kernel
def M_odds (F : Nat) (row : MRow) (bx : Bx) (mo : Mo) (su : Su) (wy : Wy) (wa : Wa) (od : Od) (a1 : Int32) (a2 : Int32) : Option (Int64 × Th × Bx × Mo × Su × Wy × Wa × Od) := if M_isThere row a1 = 0 then (some ((-1), 0, bx, mo, su, wy, wa, od)) else (if M_in a2.toInt64 0 1 = 0 then (some ((-1), 0, bx, mo, su, wy, wa, od)) else (z_bd (M_goNow F row bx mo) (fun u3 : Bx × Mo => z_bd (M_layOdds F row u3.1 u3.2 su wy wa a1) (fun u4 : Mo × Su × Wy × Wa × Od => z_bd (M_told F (od_upper u4.2.2.2.2) (od_under u4.2.2.2.2) a2) (fun r5 : Int64 => some (r5, 0, u3.1, u4.1, u4.2.1, u4.2.2.1, u4.2.2.2.1, u4.2.2.2.2))))))
set_option maxHeartbeats 4000000 in
set_option maxRecDepth 100000 in
theorem ctX8_odds (l : Launch) (D : va_G) (ac cs : Nat → Nat) (q : Nat → Nat) (sz : Nat) (th : Th) (row : MRow) (un : Un) (kp : Kp) (mt : Mt) (ps : Ps) (bx : Bx) (mo : Mo) (su : Su) (wy : Wy) (wa : Wa) (od : Od) (py : Py) (ju : Ju) (pl : Pl) (rs : Rs) (a1 : Int32) (a2 : Int32) (F : Nat) (res : Int64 × Th × Bx × Mo × Su × Wy × Wa × Od) (hf : M_odds F row bx mo su wy wa od a1 a2 = some res) : Met l yX8_odds (cWW yX8_odds cX8_odds 3 (some .long)) { frames := 6, cells := 0, slots := 0, locals := 142 } (zM D ac cs [.ref (q 0), .int a1, .int a2] (moW ac q th row un kp mt ps bx mo su wy wa od py ju pl rs) sz) (va_Ql (fun r (_ : Unit) => r = res.1) (fun _ => zB D (va_A (moW ac q th row un kp mt ps bx mo su wy wa od py ju pl rs) sz) (moW ac q res.2.1 row un kp mt ps res.2.2.1 res.2.2.2.1 res.2.2.2.2.1 res.2.2.2.2.2.1 res.2.2.2.2.2.2.1 res.2.2.2.2.2.2.2 py ju pl rs)) (va_A (moW ac q th row un kp mt ps bx mo su wy wa od py ju pl rs) sz)) 0 0 (va_A (moW ac q th row un kp mt ps bx mo su wy wa od py ju pl rs) sz) := by
  refine Met.ofW (cc := cX8_odds) (maxL := 3) (ret := (some .long)) (by decide) rfl ?_
  intro p e s m args below meth c s₁ B hml hv
  obtain ⟨rfl, hsz, hP, hKX, hD0, hC⟩ := hv
  have hx := B.exec
  have hb := B.bytes
  have hr := B.returns
  have hts := atoms_spec (ws := cWW yX8_odds cX8_odds 3 (some .long)) B.pre
  have htw : ∀ w ∈ WW, w.before _ s = true := fun w h => hts w (List.mem_cons_of_mem _ h)
  have hown : s.vm.findClass RX8 = some m.cls := findClass_of_methodNamed B.named
  have hlocks := B.notSynchronized
  clear hts B
  subst hsz
  have hD := hD0.self (sz := s.heap.size)
  generalize hAe : va_A (moW ac q th row un kp mt ps bx mo su wy wa od py ju pl rs) s.heap.size = A at hD hC ⊢
  have hA : ∀ q : Nat, s.heap.size ≤ q → A q := fun q h => by rw [← hAe]; exact Or.inr h
  have hS : va_S A s.heap s.heap [] := va_S.rf
  clear hD0 hAe
  have hP : va_P D vwCl (moW ac q th row un kp mt ps bx mo su wy wa od py ju pl rs) s.heap := hP
  have hl := lv_entry ([.ref (q 0), .int a1, .int a2]) (n := 3) (Nat.le_of_ble_eq_true rfl)
  rw [lg_entry_eq]
  generalize (lg_sl ([.ref (q 0), .int a1, .int a2]) ++ List.replicate (3 - (lg_sl ([.ref (q 0), .int a1, .int a2])).length) Slot.unset).toArray = ls at hl ⊢
  have hl : lv_has ls 3 [(0, .ref (q 0)), (1, .int a1), (2, .int a2)] := hl
  unfold M_odds at hf
  show W p l e ({ frames := 6, cells := 0, slots := 0, locals := 142 } : Room) s m _ below meth c s.heap [] 0 0 _ (F0 m 0 ls [])
  refine lv_aload_n hx hb dX8_odds_0 rfl (lv_at hl 0 rfl) ?_
  refine lv_iconst (v := 0) hx hb dX8_odds_1 rfl ?_
  refine va_put (D := D) (ci := 8) (v := .int 0) (ty := tyX8 0) (C := RX8) (T := TX8) (N := 41) hx hb htw WW_wsX80 tyX8 tyX8_ok nmX8 hown hKX.1 hP hD hS 0 rfl rfl 0 (Nat.le_of_ble_eq_true rfl) (htw _ mF_RX8_75) (fun _ h9 => h9) rfl (tyX8_ok 0 (Nat.le_of_ble_eq_true rfl)) rfl rfl (Nat.le_of_ble_eq_true rfl) dX8_odds_2 (fun H locs hP hD hS => ?_)
  have hP : va_P D vwCl (moW ac q 0 row un kp mt ps bx mo su wy wa od py ju pl rs) H := hP
  have hD : va_D A (moW ac q 0 row un kp mt ps bx mo su wy wa od py ju pl rs) := hD
  refine lv_aload_n hx hb dX8_odds_5 rfl (lv_at hl 0 rfl) ?_
  refine lv_iload_n hx hb dX8_odds_6 rfl (lv_at hl 1 rfl) ?_
  refine zc_RVi (As := [.int a1]) (rest := []) hx hb hml hown htw (ctX8_isThere l D ac cs q 0 row un kp mt ps bx mo su wy wa od py ju pl rs a1   _ rfl) (g_V mM_RX8_294 mI_yX8_isThere mS_RX8_yX8_isThere_yX8_isThere mN_RX8 mC_yX8_isThere) rfl (hd_yX8_isThere) ⟨rfl, rfl⟩ ⟨(Nat.le_of_ble_eq_true rfl), (Nat.le_of_ble_eq_true rfl)⟩ hKX hC hS hP 8 rfl rfl rfl hl.1 rfl (Nat.le_of_ble_eq_true rfl) ⟨Nat.zero_le _, Nat.zero_le _⟩ dX8_odds_7 ?_
  refine lv_if_eq (tgt := 23) hx hb dX8_odds_10 (by decide) (fun c1 => ?_) (fun c1 => ?_)
  · have hf := z_p c1 hf
    refine lv_ldc2 (v := (-1)) hx hb hown (htw _ mG_RX8_332) dX8_odds_23 ?_
    obtain rfl := Option.some.inj hf
    exact zr_Ml hx hb hr hlocks hP hD hS dX8_odds_26
  · have hf := z_n c1 hf
    refine lv_iload_n hx hb dX8_odds_13 rfl (lv_at hl 2 rfl) ?_
    refine lv_i2l hx hb dX8_odds_14 rfl ?_
    refine lv_lconst (v := 0) hx hb dX8_odds_15 rfl ?_
    refine lv_lconst (v := 1) hx hb dX8_odds_16 rfl ?_
    refine zc_RSi (As := [.long a2.toInt64, .long 0, .long 1]) (rest := []) hx hb hml hown htw (ctX8_in l D ac cs   a2.toInt64 0 1   _ rfl) (g_S mM_RX8_79 mT_yX8_in mN_RX8 mC_yX8_in) (hd_yX8_in) ⟨rfl, rfl⟩ ⟨(Nat.le_of_ble_eq_true rfl), (Nat.le_of_ble_eq_true rfl)⟩ hKX hC hS zP0 rfl hl.1 rfl (Nat.le_of_ble_eq_true rfl) ⟨Nat.zero_le _, Nat.zero_le _⟩ dX8_odds_17 ?_
    refine lv_if_ne (tgt := 27) hx hb dX8_odds_20 (by decide) (fun c2 => ?_) (fun c2 => ?_)
    · have hf := z_n c2 hf
      refine lv_aload_n hx hb dX8_odds_27 rfl (lv_at hl 0 rfl) ?_
      obtain ⟨u3, hu3, hf⟩ := z_bd_u hf
      refine zc_MVv (As := []) (rest := []) (wr := []) (wsc := moW ac q 0 row un kp mt ps bx mo su wy wa od py ju pl rs) (wsc' := moW ac q 0 row un kp mt ps u3.1 u3.2 su wy wa od py ju pl rs) hx hb hml hown htw (ctX8_goNow l D ac cs q H.size 0 row un kp mt ps bx mo su wy wa od py ju pl rs    F u3 hu3) (g_V mM_RX8_302 mI_yX8_goNow mS_RX8_yX8_goNow_yX8_goNow mN_RX8 mC_yX8_goNow) rfl (hd_yX8_goNow) ⟨rfl, rfl⟩ ⟨(Nat.le_of_ble_eq_true rfl), (Nat.le_of_ble_eq_true rfl)⟩ hKX hC hS hA hP hD [0, 1, 2, 3, 4, 5, 6, 7, 8, 9, 10, 11, 12, 13, 14, 15, 16, 17, 18, 19, 20] [] rfl (by decide) rfl (by decide) (by decide) 8 rfl rfl rfl hl.1 rfl (Nat.le_of_ble_eq_true rfl) ⟨Nat.zero_le _, Nat.zero_le _⟩ dX8_odds_28 (fun H locs hP hD hS => ?_)
      have hP : va_P D vwCl (moW ac q 0 row un kp mt ps u3.1 u3.2 su wy wa od py ju pl rs) H := hP
      have hD : va_D A (moW ac q 0 row un kp mt ps u3.1 u3.2 su wy wa od py ju pl rs) := hD
      refine lv_aload_n hx hb dX8_odds_31 rfl (lv_at hl 0 rfl) ?_
      refine lv_iload_n hx hb dX8_odds_32 rfl (lv_at hl 1 rfl) ?_
      obtain ⟨u4, hu4, hf⟩ := z_bd_u hf
      refine zc_MVv (As := [.int a1]) (rest := []) (wr := []) (wsc := moW ac q 0 row un kp mt ps u3.1 u3.2 su wy wa od py ju pl rs) (wsc' := moW ac q 0 row un kp mt ps u3.1 u4.1 u4.2.1 u4.2.2.1 u4.2.2.2.1 u4.2.2.2.2 py ju pl rs) hx hb hml hown htw (ctX8_layOdds l D ac cs q H.size 0 row un kp mt ps u3.1 u3.2 su wy wa od py ju pl rs a1   F u4 hu4) (g_V mM_RX8_334 mI_yX8_layOdds mS_RX8_yX8_layOdds_yX8_layOdds mN_RX8 mC_yX8_layOdds) rfl (hd_yX8_layOdds) ⟨rfl, rfl⟩ ⟨(Nat.le_of_ble_eq_true rfl), (Nat.le_of_ble_eq_true rfl)⟩ hKX hC hS hA hP hD [0, 1, 2, 3, 4, 5, 6, 7, 8, 9, 10, 11, 12, 13, 14, 15, 16, 17, 18, 19, 20] [] rfl (by decide) rfl (by decide) (by decide) 8 rfl rfl rfl hl.1 rfl (Nat.le_of_ble_eq_true rfl) ⟨Nat.zero_le _, Nat.zero_le _⟩ dX8_odds_33 (fun H locs hP hD hS => ?_)
      have hP : va_P D vwCl (moW ac q 0 row un kp mt ps u3.1 u4.1 u4.2.1 u4.2.2.1 u4.2.2.2.1 u4.2.2.2.2 py ju pl rs) H := hP
      have hD : va_D A (moW ac q 0 row un kp mt ps u3.1 u4.1 u4.2.1 u4.2.2.1 u4.2.2.2.1 u4.2.2.2.2 py ju pl rs) := hD
      refine lv_aload_n hx hb dX8_odds_36 rfl (lv_at hl 0 rfl) ?_
      refine va_get (D := D) (ci := 8) (v := .long (od_upper u4.2.2.2.2)) (C := RX8) (T := TX8) (N := 41) hx hb htw WW_wsX80 hown hKX.1 hP 0 rfl rfl 31 (Nat.le_of_ble_eq_true rfl) (htw _ mF_RX8_278) (fun _ h9 => h9) rfl dX8_odds_37 ?_
      refine lv_aload_n hx hb dX8_odds_40 rfl (lv_at hl 0 rfl) ?_
      refine va_get (D := D) (ci := 8) (v := .long (od_under u4.2.2.2.2)) (C := RX8) (T := TX8) (N := 41) hx hb htw WW_wsX80 hown hKX.1 hP 0 rfl rfl 32 (Nat.le_of_ble_eq_true rfl) (htw _ mF_RX8_281) (fun _ h9 => h9) rfl dX8_odds_41 ?_
      refine lv_iload_n hx hb dX8_odds_44 rfl (lv_at hl 2 rfl) ?_
      obtain ⟨r5, hr5, hf⟩ := z_bd_u hf
      refine zc_RSl (As := [.long (od_upper u4.2.2.2.2), .long (od_under u4.2.2.2.2), .int a2]) (rest := []) hx hb hml hown htw (ctX8_told l D ac cs   (od_upper u4.2.2.2.2) (od_under u4.2.2.2.2) a2   F _ hr5) (g_S mM_RX8_337 mT_yX8_told mN_RX8 mC_yX8_told) (hd_yX8_told) ⟨rfl, rfl⟩ ⟨(Nat.le_of_ble_eq_true rfl), (Nat.le_of_ble_eq_true rfl)⟩ hKX hC hS zP0 rfl hl.1 rfl (Nat.le_of_ble_eq_true rfl) ⟨Nat.zero_le _, Nat.zero_le _⟩ dX8_odds_45 ?_
      obtain rfl := Option.some.inj hf
      exact zr_Ml hx hb hr hlocks hP hD hS dX8_odds_48
    · have hf := z_p c2 hf
      refine lv_ldc2 (v := (-1)) hx hb hown (htw _ mG_RX8_332) dX8_odds_23 ?_
      obtain rfl := Option.some.inj hf
      exact zr_Ml hx hb hr hlocks hP hD hS dX8_odds_26

theorem hd_yX8_matters : hdY yX8_matters 1 := by decide +kernel
def M_matters (F : Nat) (row : MRow) (bx : Bx) (mo : Mo) (su : Su) (wy : Wy) (wa : Wa) (od : Od) (a1 : Int32) : Option (Int64 × Th × Bx × Mo × Su × Wy × Wa × Od) := if M_isTold row = 0 then (some ((-2147483648), 0, bx, mo, su, wy, wa, od)) else (if M_in a1.toInt64 0 1 = 0 then (some ((-2147483648), 0, bx, mo, su, wy, wa, od)) else (z_bd (M_goNow F row bx mo) (fun u3 : Bx × Mo => if (mo_isOver u3.2) = 0 then (z_let (M_turnNow u3.2) (fun x5 : Int32 => z_bd (M_go F row u3.1 u3.2 1) (fun u6 : Mo => z_bd (M_layOdds F row u3.1 u6 su wy wa x5) (fun u7 : Mo × Su × Wy × Wa × Od => z_let (od_upper u7.2.2.2.2) (fun x8 : Int64 => z_let (od_under u7.2.2.2.2) (fun x9 : Int64 => z_bd (M_goNow F row u3.1 u7.1) (fun u10 : Bx × Mo => z_bd (M_go F row u10.1 u10.2 0) (fun u11 : Mo => z_bd (M_layOdds F row u10.1 u11 u7.2.1 u7.2.2.1 u7.2.2.2.1 x5) (fun u12 : Mo × Su × Wy × Wa × Od => if (lg_cmp x9 (od_under u12.2.2.2.2)) = 0 then (z_bd (M_told F (x8 - (od_upper u12.2.2.2.2)) x9 a1) (fun r15 : Int64 => some (r15, 0, u10.1, u12.1, u12.2.1, u12.2.2.1, u12.2.2.2.1, u12.2.2.2.2))) else (z_bd (M_told F ((x8 * (od_under u12.2.2.2.2)) - ((od_upper u12.2.2.2.2) * x9)) (x9 * (od_under u12.2.2.2.2)) a1) (fun r14 : Int64 => some (r14, 0, u10.1, u12.1, u12.2.1, u12.2.2.1, u12.2.2.2.1, u12.2.2.2.2)))))))))))) else (some ((-2147483648), 0, u3.1, u3.2, su, wy, wa, od)))))
set_option maxHeartbeats 4000000 in
set_option maxRecDepth 100000 in
theorem ctX8_matters (l : Launch) (D : va_G) (ac cs : Nat → Nat) (q : Nat → Nat) (sz : Nat) (th : Th) (row : MRow) (un : Un) (kp : Kp) (mt : Mt) (ps : Ps) (bx : Bx) (mo : Mo) (su : Su) (wy : Wy) (wa : Wa) (od : Od) (py : Py) (ju : Ju) (pl : Pl) (rs : Rs) (a1 : Int32) (F : Nat) (res : Int64 × Th × Bx × Mo × Su × Wy × Wa × Od) (hf : M_matters F row bx mo su wy wa od a1 = some res) : Met l yX8_matters (cWW yX8_matters cX8_matters 7 (some .long)) { frames := 6, cells := 0, slots := 0, locals := 142 } (zM D ac cs [.ref (q 0), .int a1] (moW ac q th row un kp mt ps bx mo su wy wa od py ju pl rs) sz) (va_Ql (fun r (_ : Unit) => r = res.1) (fun _ => zB D (va_A (moW ac q th row un kp mt ps bx mo su wy wa od py ju pl rs) sz) (moW ac q res.2.1 row un kp mt ps res.2.2.1 res.2.2.2.1 res.2.2.2.2.1 res.2.2.2.2.2.1 res.2.2.2.2.2.2.1 res.2.2.2.2.2.2.2 py ju pl rs)) (va_A (moW ac q th row un kp mt ps bx mo su wy wa od py ju pl rs) sz)) 0 0 (va_A (moW ac q th row un kp mt ps bx mo su wy wa od py ju pl rs) sz) := by
  refine Met.ofW (cc := cX8_matters) (maxL := 7) (ret := (some .long)) (by decide) rfl ?_
  intro p e s m args below meth c s₁ B hml hv
  obtain ⟨rfl, hsz, hP, hKX, hD0, hC⟩ := hv
  have hx := B.exec
  have hb := B.bytes
  have hr := B.returns
  have hts := atoms_spec (ws := cWW yX8_matters cX8_matters 7 (some .long)) B.pre
  have htw : ∀ w ∈ WW, w.before _ s = true := fun w h => hts w (List.mem_cons_of_mem _ h)
  have hown : s.vm.findClass RX8 = some m.cls := findClass_of_methodNamed B.named
  have hlocks := B.notSynchronized
  clear hts B
  subst hsz
  have hD := hD0.self (sz := s.heap.size)
  generalize hAe : va_A (moW ac q th row un kp mt ps bx mo su wy wa od py ju pl rs) s.heap.size = A at hD hC ⊢
  have hA : ∀ q : Nat, s.heap.size ≤ q → A q := fun q h => by rw [← hAe]; exact Or.inr h
  have hS : va_S A s.heap s.heap [] := va_S.rf
  clear hD0 hAe
  have hP : va_P D vwCl (moW ac q th row un kp mt ps bx mo su wy wa od py ju pl rs) s.heap := hP
  have hl := lv_entry ([.ref (q 0), .int a1]) (n := 7) (Nat.le_of_ble_eq_true rfl)
  rw [lg_entry_eq]
  generalize (lg_sl ([.ref (q 0), .int a1]) ++ List.replicate (7 - (lg_sl ([.ref (q 0), .int a1])).length) Slot.unset).toArray = ls at hl ⊢
  have hl : lv_has ls 7 [(0, .ref (q 0)), (1, .int a1)] := hl
  unfold M_matters at hf
  show W p l e ({ frames := 6, cells := 0, slots := 0, locals := 142 } : Room) s m _ below meth c s.heap [] 0 0 _ (F0 m 0 ls [])
  refine lv_aload_n hx hb dX8_matters_0 rfl (lv_at hl 0 rfl) ?_
  refine lv_iconst (v := 0) hx hb dX8_matters_1 rfl ?_
  refine va_put (D := D) (ci := 8) (v := .int 0) (ty := tyX8 0) (C := RX8) (T := TX8) (N := 41) hx hb htw WW_wsX80 tyX8 tyX8_ok nmX8 hown hKX.1 hP hD hS 0 rfl rfl 0 (Nat.le_of_ble_eq_true rfl) (htw _ mF_RX8_75) (fun _ h9 => h9) rfl (tyX8_ok 0 (Nat.le_of_ble_eq_true rfl)) rfl rfl (Nat.le_of_ble_eq_true rfl) dX8_matters_2 (fun H locs hP hD hS => ?_)
  have hP : va_P D vwCl (moW ac q 0 row un kp mt ps bx mo su wy wa od py ju pl rs) H := hP
  have hD : va_D A (moW ac q 0 row un kp mt ps bx mo su wy wa od py ju pl rs) := hD
  refine lv_aload_n hx hb dX8_matters_5 rfl (lv_at hl 0 rfl) ?_
  refine zc_RVi (As := []) (rest := []) hx hb hml hown htw (ctX8_isTold l D ac cs q 0 row un kp mt ps bx mo su wy wa od py ju pl rs    _ rfl) (g_V mM_RX8_83 mI_yX8_isTold mS_RX8_yX8_isTold_yX8_isTold mN_RX8 mC_yX8_isTold) rfl (hd_yX8_isTold) ⟨rfl, rfl⟩ ⟨(Nat.le_of_ble_eq_true rfl), (Nat.le_of_ble_eq_true rfl)⟩ hKX hC hS hP 8 rfl rfl rfl hl.1 rfl (Nat.le_of_ble_eq_true rfl) ⟨Nat.zero_le _, Nat.zero_le _⟩ dX8_matters_6 ?_
  refine lv_if_eq (tgt := 22) hx hb dX8_matters_9 (by decide) (fun c1 => ?_) (fun c1 => ?_)
  · have hf := z_p c1 hf
    refine lv_ldc2 (v := (-2147483648)) hx hb hown (htw _ mG_RX8_341) dX8_matters_22 ?_
    obtain rfl := Option.some.inj hf
    exact zr_Ml hx hb hr hlocks hP hD hS dX8_matters_25
  · have hf := z_n c1 hf
    refine lv_iload_n hx hb dX8_matters_12 rfl (lv_at hl 1 rfl) ?_
    refine lv_i2l hx hb dX8_matters_13 rfl ?_
    refine lv_lconst (v := 0) hx hb dX8_matters_14 rfl ?_
    refine lv_lconst (v := 1) hx hb dX8_matters_15 rfl ?_
    refine zc_RSi (As := [.long a1.toInt64, .long 0, .long 1]) (rest := []) hx hb hml hown htw (ctX8_in l D ac cs   a1.toInt64 0 1   _ rfl) (g_S mM_RX8_79 mT_yX8_in mN_RX8 mC_yX8_in) (hd_yX8_in) ⟨rfl, rfl⟩ ⟨(Nat.le_of_ble_eq_true rfl), (Nat.le_of_ble_eq_true rfl)⟩ hKX hC hS zP0 rfl hl.1 rfl (Nat.le_of_ble_eq_true rfl) ⟨Nat.zero_le _, Nat.zero_le _⟩ dX8_matters_16 ?_
    refine lv_if_ne (tgt := 26) hx hb dX8_matters_19 (by decide) (fun c2 => ?_) (fun c2 => ?_)
    · have hf := z_n c2 hf
      refine lv_aload_n hx hb dX8_matters_26 rfl (lv_at hl 0 rfl) ?_
      obtain ⟨u3, hu3, hf⟩ := z_bd_u hf
      refine zc_MVv (As := []) (rest := []) (wr := []) (wsc := moW ac q 0 row un kp mt ps bx mo su wy wa od py ju pl rs) (wsc' := moW ac q 0 row un kp mt ps u3.1 u3.2 su wy wa od py ju pl rs) hx hb hml hown htw (ctX8_goNow l D ac cs q H.size 0 row un kp mt ps bx mo su wy wa od py ju pl rs    F u3 hu3) (g_V mM_RX8_302 mI_yX8_goNow mS_RX8_yX8_goNow_yX8_goNow mN_RX8 mC_yX8_goNow) rfl (hd_yX8_goNow) ⟨rfl, rfl⟩ ⟨(Nat.le_of_ble_eq_true rfl), (Nat.le_of_ble_eq_true rfl)⟩ hKX hC hS hA hP hD [0, 1, 2, 3, 4, 5, 6, 7, 8, 9, 10, 11, 12, 13, 14, 15, 16, 17, 18, 19, 20] [] rfl (by decide) rfl (by decide) (by decide) 8 rfl rfl rfl hl.1 rfl (Nat.le_of_ble_eq_true rfl) ⟨Nat.zero_le _, Nat.zero_le _⟩ dX8_matters_27 (fun H locs hP hD hS => ?_)
      have hP : va_P D vwCl (moW ac q 0 row un kp mt ps u3.1 u3.2 su wy wa od py ju pl rs) H := hP
      have hD : va_D A (moW ac q 0 row un kp mt ps u3.1 u3.2 su wy wa od py ju pl rs) := hD
      refine lv_aload_n hx hb dX8_matters_30 rfl (lv_at hl 0 rfl) ?_
      refine va_get (D := D) (ci := 8) (v := .int (mo_isOver u3.2)) (C := RX8) (T := TX8) (N := 41) hx hb htw WW_wsX80 hown hKX.1 hP 0 rfl rfl 21 (Nat.le_of_ble_eq_true rfl) (htw _ mF_RX8_208) (fun _ h9 => h9) rfl dX8_matters_31 ?_
      refine lv_if_eq (tgt := 41) hx hb dX8_matters_34 (by decide) (fun c4 => ?_) (fun c4 => ?_)
      · have hf := z_p c4 hf
        refine lv_aload_n hx hb dX8_matters_41 rfl (lv_at hl 0 rfl) ?_
        refine zc_RVi (As := []) (rest := []) hx hb hml hown htw (ctX8_turnNow l D ac cs q 0 row un kp mt ps u3.1 u3.2 su wy wa od py ju pl rs    _ rfl) (g_V mM_RX8_223 mI_yX8_turnNow mS_RX8_yX8_turnNow_yX8_turnNow mN_RX8 mC_yX8_turnNow) rfl (hd_yX8_turnNow) ⟨rfl, rfl⟩ ⟨(Nat.le_of_ble_eq_true rfl), (Nat.le_of_ble_eq_true rfl)⟩ hKX hC hS hP 8 rfl rfl rfl hl.1 rfl (Nat.le_of_ble_eq_true rfl) ⟨Nat.zero_le _, Nat.zero_le _⟩ dX8_matters_42 ?_
        refine lv_topi (fun x5 hx5 => ?_)
        have hf := z_let_u hx5 hf
        refine lv_istore_n (lv' := [(2, .int x5), (0, .ref (q 0)), (1, .int a1)]) hx hb dX8_matters_45 rfl hl (Nat.le_of_ble_eq_true rfl) rfl (fun ls hl => ?_)
        refine lv_aload_n hx hb dX8_matters_46 rfl (lv_at hl 1 rfl) ?_
        refine lv_iconst (v := 1) hx hb dX8_matters_47 rfl ?_
        obtain ⟨u6, hu6, hf⟩ := z_bd_u hf
        refine zc_MVv (As := [.int 1]) (rest := []) (wr := []) (wsc := moW ac q 0 row un kp mt ps u3.1 u3.2 su wy wa od py ju pl rs) (wsc' := moW ac q 0 row un kp mt ps u3.1 u6 su wy wa od py ju pl rs) hx hb hml hown htw (ctX8_go l D ac cs q H.size 0 row un kp mt ps u3.1 u3.2 su wy wa od py ju pl rs 1   F u6 hu6) (g_V mM_RX8_214 mI_yX8_go mS_RX8_yX8_go_yX8_go mN_RX8 mC_yX8_go) rfl (hd_yX8_go) ⟨rfl, rfl⟩ ⟨(Nat.le_of_ble_eq_true rfl), (Nat.le_of_ble_eq_true rfl)⟩ hKX hC hS hA hP hD [0, 1, 2, 3, 4, 5, 6, 7, 8, 9, 10, 11, 12, 13, 14, 15, 16, 17, 18, 19, 20] [] rfl (by decide) rfl (by decide) (by decide) 8 rfl rfl rfl hl.1 rfl (Nat.le_of_ble_eq_true rfl) ⟨Nat.zero_le _, Nat.zero_le _⟩ dX8_matters_48 (fun H locs hP hD hS => ?_)
        have hP : va_P D vwCl (moW ac q 0 row un kp mt ps u3.1 u6 su wy wa od py ju pl rs) H := hP
        have hD : va_D A (moW ac q 0 row un kp mt ps u3.1 u6 su wy wa od py ju pl rs) := hD
        refine lv_aload_n hx hb dX8_matters_51 rfl (lv_at hl 1 rfl) ?_
        refine lv_iload_n hx hb dX8_matters_52 rfl (lv_at hl 0 rfl) ?_
        obtain ⟨u7, hu7, hf⟩ := z_bd_u hf
        refine zc_MVv (As := [.int x5]) (rest := []) (wr := []) (wsc := moW ac q 0 row un kp mt ps u3.1 u6 su wy wa od py ju pl rs) (wsc' := moW ac q 0 row un kp mt ps u3.1 u7.1 u7.2.1 u7.2.2.1 u7.2.2.2.1 u7.2.2.2.2 py ju pl rs) hx hb hml hown htw (ctX8_layOdds l D ac cs q H.size 0 row un kp mt ps u3.1 u6 su wy wa od py ju pl rs x5   F u7 hu7) (g_V mM_RX8_334 mI_yX8_layOdds mS_RX8_yX8_layOdds_yX8_layOdds mN_RX8 mC_yX8_layOdds) rfl (hd_yX8_layOdds) ⟨rfl, rfl⟩ ⟨(Nat.le_of_ble_eq_true rfl), (Nat.le_of_ble_eq_true rfl)⟩ hKX hC hS hA hP hD [0, 1, 2, 3, 4, 5, 6, 7, 8, 9, 10, 11, 12, 13, 14, 15, 16, 17, 18, 19, 20] [] rfl (by decide) rfl (by decide) (by decide) 8 rfl rfl rfl hl.1 rfl (Nat.le_of_ble_eq_true rfl) ⟨Nat.zero_le _, Nat.zero_le _⟩ dX8_matters_53 (fun H locs hP hD hS => ?_)
        have hP : va_P D vwCl (moW ac q 0 row un kp mt ps u3.1 u7.1 u7.2.1 u7.2.2.1 u7.2.2.2.1 u7.2.2.2.2 py ju pl rs) H := hP
        have hD : va_D A (moW ac q 0 row un kp mt ps u3.1 u7.1 u7.2.1 u7.2.2.1 u7.2.2.2.1 u7.2.2.2.2 py ju pl rs) := hD
        refine lv_aload_n hx hb dX8_matters_56 rfl (lv_at hl 1 rfl) ?_
        refine va_get (D := D) (ci := 8) (v := .long (od_upper u7.2.2.2.2)) (C := RX8) (T := TX8) (N := 41) hx hb htw WW_wsX80 hown hKX.1 hP 0 rfl rfl 31 (Nat.le_of_ble_eq_true rfl) (htw _ mF_RX8_278) (fun _ h9 => h9) rfl dX8_matters_57 ?_
        refine lv_topl (fun x8 hx8 => ?_)
        have hf := z_let_u hx8 hf
        refine lv_lstore_n (lv' := [(3, .long x8), (2, .int x5), (0, .ref (q 0)), (1, .int a1)]) hx hb dX8_matters_60 rfl hl (Nat.le_of_ble_eq_true rfl) rfl (fun ls hl => ?_)
        refine lv_aload_n hx hb dX8_matters_61 rfl (lv_at hl 2 rfl) ?_
        refine va_get (D := D) (ci := 8) (v := .long (od_under u7.2.2.2.2)) (C := RX8) (T := TX8) (N := 41) hx hb htw WW_wsX80 hown hKX.1 hP 0 rfl rfl 32 (Nat.le_of_ble_eq_true rfl) (htw _ mF_RX8_281) (fun _ h9 => h9) rfl dX8_matters_62 ?_
        refine lv_topl (fun x9 hx9 => ?_)
        have hf := z_let_u hx9 hf
        refine lv_lstore (lv' := [(5, .long x9), (3, .long x8), (2, .int x5), (0, .ref (q 0)), (1, .int a1)]) hx hb dX8_matters_65 hl (Nat.le_of_ble_eq_true rfl) rfl (fun ls hl => ?_)
        refine lv_aload_n hx hb dX8_matters_67 rfl (lv_at hl 3 rfl) ?_
        obtain ⟨u10, hu10, hf⟩ := z_bd_u hf
        refine zc_MVv (As := []) (rest := []) (wr := []) (wsc := moW ac q 0 row un kp mt ps u3.1 u7.1 u7.2.1 u7.2.2.1 u7.2.2.2.1 u7.2.2.2.2 py ju pl rs) (wsc' := moW ac q 0 row un kp mt ps u10.1 u10.2 u7.2.1 u7.2.2.1 u7.2.2.2.1 u7.2.2.2.2 py ju pl rs) hx hb hml hown htw (ctX8_goNow l D ac cs q H.size 0 row un kp mt ps u3.1 u7.1 u7.2.1 u7.2.2.1 u7.2.2.2.1 u7.2.2.2.2 py ju pl rs    F u10 hu10) (g_V mM_RX8_302 mI_yX8_goNow mS_RX8_yX8_goNow_yX8_goNow mN_RX8 mC_yX8_goNow) rfl (hd_yX8_goNow) ⟨rfl, rfl⟩ ⟨(Nat.le_of_ble_eq_true rfl), (Nat.le_of_ble_eq_true rfl)⟩ hKX hC hS hA hP hD [0, 1, 2, 3, 4, 5, 6, 7, 8, 9, 10, 11, 12, 13, 14, 15, 16, 17, 18, 19, 20] [] rfl (by decide) rfl (by decide) (by decide) 8 rfl rfl rfl hl.1 rfl (Nat.le_of_ble_eq_true rfl) ⟨Nat.zero_le _, Nat.zero_le _⟩ dX8_matters_68 (fun H locs hP hD hS => ?_)
        have hP : va_P D vwCl (moW ac q 0 row un kp mt ps u10.1 u10.2 u7.2.1 u7.2.2.1 u7.2.2.2.1 u7.2.2.2.2 py ju pl rs) H := hP
        have hD : va_D A (moW ac q 0 row un kp mt ps u10.1 u10.2 u7.2.1 u7.2.2.1 u7.2.2.2.1 u7.2.2.2.2 py ju pl rs) := hD
        refine lv_aload_n hx hb dX8_matters_71 rfl (lv_at hl 3 rfl) ?_
        refine lv_iconst (v := 0) hx hb dX8_matters_72 rfl ?_
        obtain ⟨u11, hu11, hf⟩ := z_bd_u hf
        refine zc_MVv (As := [.int 0]) (rest := []) (wr := []) (wsc := moW ac q 0 row un kp mt ps u10.1 u10.2 u7.2.1 u7.2.2.1 u7.2.2.2.1 u7.2.2.2.2 py ju pl rs) (wsc' := moW ac q 0 row un kp mt ps u10.1 u11 u7.2.1 u7.2.2.1 u7.2.2.2.1 u7.2.2.2.2 py ju pl rs) hx hb hml hown htw (ctX8_go l D ac cs q H.size 0 row un kp mt ps u10.1 u10.2 u7.2.1 u7.2.2.1 u7.2.2.2.1 u7.2.2.2.2 py ju pl rs 0   F u11 hu11) (g_V mM_RX8_214 mI_yX8_go mS_RX8_yX8_go_yX8_go mN_RX8 mC_yX8_go) rfl (hd_yX8_go) ⟨rfl, rfl⟩ ⟨(Nat.le_of_ble_eq_true rfl), (Nat.le_of_ble_eq_true rfl)⟩ hKX hC hS hA hP hD [0, 1, 2, 3, 4, 5, 6, 7, 8, 9, 10, 11, 12, 13, 14, 15, 16, 17, 18, 19, 20] [] rfl (by decide) rfl (by decide) (by decide) 8 rfl rfl rfl hl.1 rfl (Nat.le_of_ble_eq_true rfl) ⟨Nat.zero_le _, Nat.zero_le _⟩ dX8_matters_73 (fun H locs hP hD hS => ?_)
        have hP : va_P D vwCl (moW ac q 0 row un kp mt ps u10.1 u11 u7.2.1 u7.2.2.1 u7.2.2.2.1 u7.2.2.2.2 py ju pl rs) H := hP
        have hD : va_D A (moW ac q 0 row un kp mt ps u10.1 u11 u7.2.1 u7.2.2.1 u7.2.2.2.1 u7.2.2.2.2 py ju pl rs) := hD
        refine lv_aload_n hx hb dX8_matters_76 rfl (lv_at hl 3 rfl) ?_
        refine lv_iload_n hx hb dX8_matters_77 rfl (lv_at hl 2 rfl) ?_
        obtain ⟨u12, hu12, hf⟩ := z_bd_u hf
        refine zc_MVv (As := [.int x5]) (rest := []) (wr := []) (wsc := moW ac q 0 row un kp mt ps u10.1 u11 u7.2.1 u7.2.2.1 u7.2.2.2.1 u7.2.2.2.2 py ju pl rs) (wsc' := moW ac q 0 row un kp mt ps u10.1 u12.1 u12.2.1 u12.2.2.1 u12.2.2.2.1 u12.2.2.2.2 py ju pl rs) hx hb hml hown htw (ctX8_layOdds l D ac cs q H.size 0 row un kp mt ps u10.1 u11 u7.2.1 u7.2.2.1 u7.2.2.2.1 u7.2.2.2.2 py ju pl rs x5   F u12 hu12) (g_V mM_RX8_334 mI_yX8_layOdds mS_RX8_yX8_layOdds_yX8_layOdds mN_RX8 mC_yX8_layOdds) rfl (hd_yX8_layOdds) ⟨rfl, rfl⟩ ⟨(Nat.le_of_ble_eq_true rfl), (Nat.le_of_ble_eq_true rfl)⟩ hKX hC hS hA hP hD [0, 1, 2, 3, 4, 5, 6, 7, 8, 9, 10, 11, 12, 13, 14, 15, 16, 17, 18, 19, 20] [] rfl (by decide) rfl (by decide) (by decide) 8 rfl rfl rfl hl.1 rfl (Nat.le_of_ble_eq_true rfl) ⟨Nat.zero_le _, Nat.zero_le _⟩ dX8_matters_78 (fun H locs hP hD hS => ?_)
        have hP : va_P D vwCl (moW ac q 0 row un kp mt ps u10.1 u12.1 u12.2.1 u12.2.2.1 u12.2.2.2.1 u12.2.2.2.2 py ju pl rs) H := hP
        have hD : va_D A (moW ac q 0 row un kp mt ps u10.1 u12.1 u12.2.1 u12.2.2.1 u12.2.2.2.1 u12.2.2.2.2 py ju pl rs) := hD
        refine lv_lload hx hb dX8_matters_81 (lv_at hl 0 rfl) ?_
        refine lv_aload_n hx hb dX8_matters_83 rfl (lv_at hl 3 rfl) ?_
        refine va_get (D := D) (ci := 8) (v := .long (od_under u12.2.2.2.2)) (C := RX8) (T := TX8) (N := 41) hx hb htw WW_wsX80 hown hKX.1 hP 0 rfl rfl 32 (Nat.le_of_ble_eq_true rfl) (htw _ mF_RX8_281) (fun _ h9 => h9) rfl dX8_matters_84 ?_
        refine W.lcmp hx hb dX8_matters_87 ?_
        refine lv_if_ne (tgt := 106) hx hb dX8_matters_88 (by decide) (fun c13 => ?_) (fun c13 => ?_)
        · have hf := z_n c13 hf
          refine lv_lload_n hx hb dX8_matters_106 rfl (lv_at hl 1 rfl) ?_
          refine lv_aload_n hx hb dX8_matters_107 rfl (lv_at hl 3 rfl) ?_
          refine va_get (D := D) (ci := 8) (v := .long (od_under u12.2.2.2.2)) (C := RX8) (T := TX8) (N := 41) hx hb htw WW_wsX80 hown hKX.1 hP 0 rfl rfl 32 (Nat.le_of_ble_eq_true rfl) (htw _ mF_RX8_281) (fun _ h9 => h9) rfl dX8_matters_108 ?_
          refine lv_lmul hx hb dX8_matters_111 ?_
          refine lv_aload_n hx hb dX8_matters_112 rfl (lv_at hl 3 rfl) ?_
          refine va_get (D := D) (ci := 8) (v := .long (od_upper u12.2.2.2.2)) (C := RX8) (T := TX8) (N := 41) hx hb htw WW_wsX80 hown hKX.1 hP 0 rfl rfl 31 (Nat.le_of_ble_eq_true rfl) (htw _ mF_RX8_278) (fun _ h9 => h9) rfl dX8_matters_113 ?_
          refine lv_lload hx hb dX8_matters_116 (lv_at hl 0 rfl) ?_
          refine lv_lmul hx hb dX8_matters_118 ?_
          refine lv_lsub hx hb dX8_matters_119 ?_
          refine lv_lload hx hb dX8_matters_120 (lv_at hl 0 rfl) ?_
          refine lv_aload_n hx hb dX8_matters_122 rfl (lv_at hl 3 rfl) ?_
          refine va_get (D := D) (ci := 8) (v := .long (od_under u12.2.2.2.2)) (C := RX8) (T := TX8) (N := 41) hx hb htw WW_wsX80 hown hKX.1 hP 0 rfl rfl 32 (Nat.le_of_ble_eq_true rfl) (htw _ mF_RX8_281) (fun _ h9 => h9) rfl dX8_matters_123 ?_
          refine lv_lmul hx hb dX8_matters_126 ?_
          refine lv_iload_n hx hb dX8_matters_127 rfl (lv_at hl 4 rfl) ?_
          obtain ⟨r14, hr14, hf⟩ := z_bd_u hf
          refine zc_RSl (As := [.long ((x8 * (od_under u12.2.2.2.2)) - ((od_upper u12.2.2.2.2) * x9)), .long (x9 * (od_under u12.2.2.2.2)), .int a1]) (rest := []) hx hb hml hown htw (ctX8_told l D ac cs   ((x8 * (od_under u12.2.2.2.2)) - ((od_upper u12.2.2.2.2) * x9)) (x9 * (od_under u12.2.2.2.2)) a1   F _ hr14) (g_S mM_RX8_337 mT_yX8_told mN_RX8 mC_yX8_told) (hd_yX8_told) ⟨rfl, rfl⟩ ⟨(Nat.le_of_ble_eq_true rfl), (Nat.le_of_ble_eq_true rfl)⟩ hKX hC hS zP0 rfl hl.1 rfl (Nat.le_of_ble_eq_true rfl) ⟨Nat.zero_le _, Nat.zero_le _⟩ dX8_matters_128 ?_
          obtain rfl := Option.some.inj hf
          exact zr_Ml hx hb hr hlocks hP hD hS dX8_matters_131
        · have hf := z_p c13 hf
          refine lv_lload_n hx hb dX8_matters_91 rfl (lv_at hl 1 rfl) ?_
          refine lv_aload_n hx hb dX8_matters_92 rfl (lv_at hl 3 rfl) ?_
          refine va_get (D := D) (ci := 8) (v := .long (od_upper u12.2.2.2.2)) (C := RX8) (T := TX8) (N := 41) hx hb htw WW_wsX80 hown hKX.1 hP 0 rfl rfl 31 (Nat.le_of_ble_eq_true rfl) (htw _ mF_RX8_278) (fun _ h9 => h9) rfl dX8_matters_93 ?_
          refine lv_lsub hx hb dX8_matters_96 ?_
          refine lv_lload hx hb dX8_matters_97 (lv_at hl 0 rfl) ?_
          refine lv_iload_n hx hb dX8_matters_99 rfl (lv_at hl 4 rfl) ?_
          obtain ⟨r15, hr15, hf⟩ := z_bd_u hf
          refine zc_RSl (As := [.long (x8 - (od_upper u12.2.2.2.2)), .long x9, .int a1]) (rest := []) hx hb hml hown htw (ctX8_told l D ac cs   (x8 - (od_upper u12.2.2.2.2)) x9 a1   F _ hr15) (g_S mM_RX8_337 mT_yX8_told mN_RX8 mC_yX8_told) (hd_yX8_told) ⟨rfl, rfl⟩ ⟨(Nat.le_of_ble_eq_true rfl), (Nat.le_of_ble_eq_true rfl)⟩ hKX hC hS zP0 rfl hl.1 rfl (Nat.le_of_ble_eq_true rfl) ⟨Nat.zero_le _, Nat.zero_le _⟩ dX8_matters_100 ?_
          refine lv_goto (tgt := 131) hx hb dX8_matters_103 (by decide) ?_
          obtain rfl := Option.some.inj hf
          exact zr_Ml hx hb hr hlocks hP hD hS dX8_matters_131
      · have hf := z_n c4 hf
        refine lv_ldc2 (v := (-2147483648)) hx hb hown (htw _ mG_RX8_341) dX8_matters_37 ?_
        obtain rfl := Option.some.inj hf
        exact zr_Ml hx hb hr hlocks hP hD hS dX8_matters_40
    · have hf := z_p c2 hf
      refine lv_ldc2 (v := (-2147483648)) hx hb hown (htw _ mG_RX8_341) dX8_matters_22 ?_
      obtain rfl := Option.some.inj hf
      exact zr_Ml hx hb hr hlocks hP hD hS dX8_matters_25

theorem hd_yX8_startBy : hdY yX8_startBy 2 := by decide +kernel
def M_startBy (F : Nat) (row : MRow) (bx : Bx) (mo : Mo) (a1 : Int32) (a2 : Int32) : Option (Bx × Mo) := z_bd (M_begin F row bx mo) (fun u1 : Bx × Mo => z_let (M_start (a1, a2, (bx_skill u1.1)) u1.2) (fun u2 : Mo => some ((a1, a2, (bx_skill u1.1)), u2)))
set_option maxHeartbeats 4000000 in
set_option maxRecDepth 100000 in
theorem ctX8_startBy (l : Launch) (D : va_G) (ac cs : Nat → Nat) (q : Nat → Nat) (sz : Nat) (th : Th) (row : MRow) (un : Un) (kp : Kp) (mt : Mt) (ps : Ps) (bx : Bx) (mo : Mo) (su : Su) (wy : Wy) (wa : Wa) (od : Od) (py : Py) (ju : Ju) (pl : Pl) (rs : Rs) (a1 : Int32) (a2 : Int32) (F : Nat) (res : Bx × Mo) (hf : M_startBy F row bx mo a1 a2 = some res) : Met l yX8_startBy (cWW yX8_startBy cX8_startBy 3 none) { frames := 2, cells := 0, slots := 0, locals := 41 } (zM D ac cs [.ref (q 0), .int a1, .int a2] (moW ac q th row un kp mt ps bx mo su wy wa od py ju pl rs) sz) (va_Qv (fun _ : Unit => True) (fun _ => zB D (va_A (moW ac q th row un kp mt ps bx mo su wy wa od py ju pl rs) sz) (moW ac q th row un kp mt ps res.1 res.2 su wy wa od py ju pl rs)) (va_A (moW ac q th row un kp mt ps bx mo su wy wa od py ju pl rs) sz)) 0 0 (va_A (moW ac q th row un kp mt ps bx mo su wy wa od py ju pl rs) sz) := by
  refine Met.ofW (cc := cX8_startBy) (maxL := 3) (ret := none) (by decide) rfl ?_
  intro p e s m args below meth c s₁ B hml hv
  obtain ⟨rfl, hsz, hP, hKX, hD0, hC⟩ := hv
  have hx := B.exec
  have hb := B.bytes
  have hr := B.returns
  have hts := atoms_spec (ws := cWW yX8_startBy cX8_startBy 3 none) B.pre
  have htw : ∀ w ∈ WW, w.before _ s = true := fun w h => hts w (List.mem_cons_of_mem _ h)
  have hown : s.vm.findClass RX8 = some m.cls := findClass_of_methodNamed B.named
  have hlocks := B.notSynchronized
  clear hts B
  subst hsz
  have hD := hD0.self (sz := s.heap.size)
  generalize hAe : va_A (moW ac q th row un kp mt ps bx mo su wy wa od py ju pl rs) s.heap.size = A at hD hC ⊢
  have hA : ∀ q : Nat, s.heap.size ≤ q → A q := fun q h => by rw [← hAe]; exact Or.inr h
  have hS : va_S A s.heap s.heap [] := va_S.rf
  clear hD0 hAe
  have hP : va_P D vwCl (moW ac q th row un kp mt ps bx mo su wy wa od py ju pl rs) s.heap := hP
  have hl := lv_entry ([.ref (q 0), .int a1, .int a2]) (n := 3) (Nat.le_of_ble_eq_true rfl)
  rw [lg_entry_eq]
  generalize (lg_sl ([.ref (q 0), .int a1, .int a2]) ++ List.replicate (3 - (lg_sl ([.ref (q 0), .int a1, .int a2])).length) Slot.unset).toArray = ls at hl ⊢
  have hl : lv_has ls 3 [(0, .ref (q 0)), (1, .int a1), (2, .int a2)] := hl
  unfold M_startBy at hf
  show W p l e ({ frames := 2, cells := 0, slots := 0, locals := 41 } : Room) s m _ below meth c s.heap [] 0 0 _ (F0 m 0 ls [])
  refine lv_aload_n hx hb dX8_startBy_0 rfl (lv_at hl 0 rfl) ?_
  obtain ⟨u1, hu1, hf⟩ := z_bd_u hf
  refine zc_MVv (As := []) (rest := []) (wr := []) (wsc := moW ac q th row un kp mt ps bx mo su wy wa od py ju pl rs) (wsc' := moW ac q th row un kp mt ps u1.1 u1.2 su wy wa od py ju pl rs) hx hb hml hown htw (ctX8_begin l D ac cs q s.heap.size th row un kp mt ps bx mo su wy wa od py ju pl rs    F u1 hu1) (g_V mM_RX8_211 mI_yX8_begin mS_RX8_yX8_begin_yX8_begin mN_RX8 mC_yX8_begin) rfl (hd_yX8_begin) ⟨rfl, rfl⟩ ⟨(Nat.le_of_ble_eq_true rfl), (Nat.le_of_ble_eq_true rfl)⟩ hKX hC hS hA hP hD [0, 1, 2, 3, 4, 5, 6, 7, 8, 9, 10, 11, 12, 13, 14, 15, 16, 17, 18, 19, 20] [] rfl (by decide) rfl (by decide) (by decide) 8 rfl rfl rfl hl.1 rfl (Nat.le_of_ble_eq_true rfl) ⟨Nat.zero_le _, Nat.zero_le _⟩ dX8_startBy_1 (fun H locs hP hD hS => ?_)
  have hP : va_P D vwCl (moW ac q th row un kp mt ps u1.1 u1.2 su wy wa od py ju pl rs) H := hP
  have hD : va_D A (moW ac q th row un kp mt ps u1.1 u1.2 su wy wa od py ju pl rs) := hD
  refine lv_aload_n hx hb dX8_startBy_4 rfl (lv_at hl 0 rfl) ?_
  refine lv_iload_n hx hb dX8_startBy_5 rfl (lv_at hl 1 rfl) ?_
  refine va_put (D := D) (ci := 8) (v := .int a1) (ty := tyX8 14) (C := RX8) (T := TX8) (N := 41) hx hb htw WW_wsX80 tyX8 tyX8_ok nmX8 hown hKX.1 hP hD hS 0 rfl rfl 14 (Nat.le_of_ble_eq_true rfl) (htw _ mF_RX8_193) (fun _ h9 => h9) rfl (tyX8_ok 14 (Nat.le_of_ble_eq_true rfl)) rfl rfl (Nat.le_of_ble_eq_true rfl) dX8_startBy_6 (fun H locs hP hD hS => ?_)
  have hP : va_P D vwCl (moW ac q th row un kp mt ps (a1, (bx_byFirst u1.1), (bx_skill u1.1)) u1.2 su wy wa od py ju pl rs) H := hP
  have hD : va_D A (moW ac q th row un kp mt ps (a1, (bx_byFirst u1.1), (bx_skill u1.1)) u1.2 su wy wa od py ju pl rs) := hD
  refine lv_aload_n hx hb dX8_startBy_9 rfl (lv_at hl 0 rfl) ?_
  refine lv_iload_n hx hb dX8_startBy_10 rfl (lv_at hl 2 rfl) ?_
  refine va_put (D := D) (ci := 8) (v := .int a2) (ty := tyX8 15) (C := RX8) (T := TX8) (N := 41) hx hb htw WW_wsX80 tyX8 tyX8_ok nmX8 hown hKX.1 hP hD hS 0 rfl rfl 15 (Nat.le_of_ble_eq_true rfl) (htw _ mF_RX8_196) (fun _ h9 => h9) rfl (tyX8_ok 15 (Nat.le_of_ble_eq_true rfl)) rfl rfl (Nat.le_of_ble_eq_true rfl) dX8_startBy_11 (fun H locs hP hD hS => ?_)
  have hP : va_P D vwCl (moW ac q th row un kp mt ps (a1, a2, (bx_skill u1.1)) u1.2 su wy wa od py ju pl rs) H := hP
  have hD : va_D A (moW ac q th row un kp mt ps (a1, a2, (bx_skill u1.1)) u1.2 su wy wa od py ju pl rs) := hD
  refine lv_aload_n hx hb dX8_startBy_14 rfl (lv_at hl 0 rfl) ?_
  obtain ⟨u2, hu2⟩ : ∃ y : Mo, y = M_start (a1, a2, (bx_skill u1.1)) u1.2 := ⟨_, rfl⟩
  have hf := z_let_u hu2 hf
  refine zc_MVv (As := []) (rest := []) (wr := []) (wsc := moW ac q th row un kp mt ps (a1, a2, (bx_skill u1.1)) u1.2 su wy wa od py ju pl rs) (wsc' := moW ac q th row un kp mt ps (a1, a2, (bx_skill u1.1)) u2 su wy wa od py ju pl rs) hx hb hml hown htw (ctX8_start l D ac cs q H.size th row un kp mt ps (a1, a2, (bx_skill u1.1)) u1.2 su wy wa od py ju pl rs    u2 hu2.symm) (g_V mM_RX8_199 mI_yX8_start mS_RX8_yX8_start_yX8_start mN_RX8 mC_yX8_start) rfl (hd_yX8_start) ⟨rfl, rfl⟩ ⟨(Nat.le_of_ble_eq_true rfl), (Nat.le_of_ble_eq_true rfl)⟩ hKX hC hS hA hP hD [0, 1, 2, 3, 4, 5, 6, 7, 8, 9, 10, 11, 12, 13, 14, 15, 16, 17, 18, 19, 20] [] rfl (by decide) rfl (by decide) (by decide) 8 rfl rfl rfl hl.1 rfl (Nat.le_of_ble_eq_true rfl) ⟨Nat.zero_le _, Nat.zero_le _⟩ dX8_startBy_15 (fun H locs hP hD hS => ?_)
  have hP : va_P D vwCl (moW ac q th row un kp mt ps (a1, a2, (bx_skill u1.1)) u2 su wy wa od py ju pl rs) H := hP
  have hD : va_D A (moW ac q th row un kp mt ps (a1, a2, (bx_skill u1.1)) u2 su wy wa od py ju pl rs) := hD
  obtain rfl := Option.some.inj hf
  exact zr_Mv hx hb hr hlocks hP hD hS dX8_startBy_18

theorem hd_yX8_oddsBy : hdY yX8_oddsBy 4 := by decide +kernel
def M_oddsBy (F : Nat) (row : MRow) (bx : Bx) (mo : Mo) (su : Su) (wy : Wy) (wa : Wa) (od : Od) (a1 : Int32) (a2 : Int32) (a3 : Int32) (a4 : Int32) : Option (Int64 × Th × Bx × Mo × Su × Wy × Wa × Od) := if M_isThere row a1 = 0 then (some ((-1), 0, bx, mo, su, wy, wa, od)) else (if M_in a2.toInt64 0 3 = 0 then (some ((-1), 0, bx, mo, su, wy, wa, od)) else (if M_isSide a3 = 0 then (some ((-1), 0, bx, mo, su, wy, wa, od)) else (if M_in a4.toInt64 0 1 = 0 then (some ((-1), 0, bx, mo, su, wy, wa, od)) else (z_bd (M_startBy F row bx mo a2 a3) (fun u5 : Bx × Mo => z_bd (M_layOdds F row u5.1 u5.2 su wy wa a1) (fun u6 : Mo × Su × Wy × Wa × Od => z_bd (M_told F (od_upper u6.2.2.2.2) (od_under u6.2.2.2.2) a4) (fun r7 : Int64 => some (r7, 0, u5.1, u6.1, u6.2.1, u6.2.2.1, u6.2.2.2.1, u6.2.2.2.2))))))))
set_option maxHeartbeats 4000000 in
set_option maxRecDepth 100000 in
theorem ctX8_oddsBy (l : Launch) (D : va_G) (ac cs : Nat → Nat) (q : Nat → Nat) (sz : Nat) (th : Th) (row : MRow) (un : Un) (kp : Kp) (mt : Mt) (ps : Ps) (bx : Bx) (mo : Mo) (su : Su) (wy : Wy) (wa : Wa) (od : Od) (py : Py) (ju : Ju) (pl : Pl) (rs : Rs) (a1 : Int32) (a2 : Int32) (a3 : Int32) (a4 : Int32) (F : Nat) (res : Int64 × Th × Bx × Mo × Su × Wy × Wa × Od) (hf : M_oddsBy F row bx mo su wy wa od a1 a2 a3 a4 = some res) : Met l yX8_oddsBy (cWW yX8_oddsBy cX8_oddsBy 5 (some .long)) { frames := 6, cells := 0, slots := 0, locals := 142 } (zM D ac cs [.ref (q 0), .int a1, .int a2, .int a3, .int a4] (moW ac q th row un kp mt ps bx mo su wy wa od py ju pl rs) sz) (va_Ql (fun r (_ : Unit) => r = res.1) (fun _ => zB D (va_A (moW ac q th row un kp mt ps bx mo su wy wa od py ju pl rs) sz) (moW ac q res.2.1 row un kp mt ps res.2.2.1 res.2.2.2.1 res.2.2.2.2.1 res.2.2.2.2.2.1 res.2.2.2.2.2.2.1 res.2.2.2.2.2.2.2 py ju pl rs)) (va_A (moW ac q th row un kp mt ps bx mo su wy wa od py ju pl rs) sz)) 0 0 (va_A (moW ac q th row un kp mt ps bx mo su wy wa od py ju pl rs) sz) := by
  refine Met.ofW (cc := cX8_oddsBy) (maxL := 5) (ret := (some .long)) (by decide) rfl ?_
  intro p e s m args below meth c s₁ B hml hv
  obtain ⟨rfl, hsz, hP, hKX, hD0, hC⟩ := hv
  have hx := B.exec
  have hb := B.bytes
  have hr := B.returns
  have hts := atoms_spec (ws := cWW yX8_oddsBy cX8_oddsBy 5 (some .long)) B.pre
  have htw : ∀ w ∈ WW, w.before _ s = true := fun w h => hts w (List.mem_cons_of_mem _ h)
  have hown : s.vm.findClass RX8 = some m.cls := findClass_of_methodNamed B.named
  have hlocks := B.notSynchronized
  clear hts B
  subst hsz
  have hD := hD0.self (sz := s.heap.size)
  generalize hAe : va_A (moW ac q th row un kp mt ps bx mo su wy wa od py ju pl rs) s.heap.size = A at hD hC ⊢
  have hA : ∀ q : Nat, s.heap.size ≤ q → A q := fun q h => by rw [← hAe]; exact Or.inr h
  have hS : va_S A s.heap s.heap [] := va_S.rf
  clear hD0 hAe
  have hP : va_P D vwCl (moW ac q th row un kp mt ps bx mo su wy wa od py ju pl rs) s.heap := hP
  have hl := lv_entry ([.ref (q 0), .int a1, .int a2, .int a3, .int a4]) (n := 5) (Nat.le_of_ble_eq_true rfl)
  rw [lg_entry_eq]
  generalize (lg_sl ([.ref (q 0), .int a1, .int a2, .int a3, .int a4]) ++ List.replicate (5 - (lg_sl ([.ref (q 0), .int a1, .int a2, .int a3, .int a4])).length) Slot.unset).toArray = ls at hl ⊢
  have hl : lv_has ls 5 [(0, .ref (q 0)), (1, .int a1), (2, .int a2), (3, .int a3), (4, .int a4)] := hl
  unfold M_oddsBy at hf
  show W p l e ({ frames := 6, cells := 0, slots := 0, locals := 142 } : Room) s m _ below meth c s.heap [] 0 0 _ (F0 m 0 ls [])
  refine lv_aload_n hx hb dX8_oddsBy_0 rfl (lv_at hl 0 rfl) ?_
  refine lv_iconst (v := 0) hx hb dX8_oddsBy_1 rfl ?_
  refine va_put (D := D) (ci := 8) (v := .int 0) (ty := tyX8 0) (C := RX8) (T := TX8) (N := 41) hx hb htw WW_wsX80 tyX8 tyX8_ok nmX8 hown hKX.1 hP hD hS 0 rfl rfl 0 (Nat.le_of_ble_eq_true rfl) (htw _ mF_RX8_75) (fun _ h9 => h9) rfl (tyX8_ok 0 (Nat.le_of_ble_eq_true rfl)) rfl rfl (Nat.le_of_ble_eq_true rfl) dX8_oddsBy_2 (fun H locs hP hD hS => ?_)
  have hP : va_P D vwCl (moW ac q 0 row un kp mt ps bx mo su wy wa od py ju pl rs) H := hP
  have hD : va_D A (moW ac q 0 row un kp mt ps bx mo su wy wa od py ju pl rs) := hD
  refine lv_aload_n hx hb dX8_oddsBy_5 rfl (lv_at hl 0 rfl) ?_
  refine lv_iload_n hx hb dX8_oddsBy_6 rfl (lv_at hl 1 rfl) ?_
  refine zc_RVi (As := [.int a1]) (rest := []) hx hb hml hown htw (ctX8_isThere l D ac cs q 0 row un kp mt ps bx mo su wy wa od py ju pl rs a1   _ rfl) (g_V mM_RX8_294 mI_yX8_isThere mS_RX8_yX8_isThere_yX8_isThere mN_RX8 mC_yX8_isThere) rfl (hd_yX8_isThere) ⟨rfl, rfl⟩ ⟨(Nat.le_of_ble_eq_true rfl), (Nat.le_of_ble_eq_true rfl)⟩ hKX hC hS hP 8 rfl rfl rfl hl.1 rfl (Nat.le_of_ble_eq_true rfl) ⟨Nat.zero_le _, Nat.zero_le _⟩ dX8_oddsBy_7 ?_
  refine lv_if_eq (tgt := 43) hx hb dX8_oddsBy_10 (by decide) (fun c1 => ?_) (fun c1 => ?_)
  · have hf := z_p c1 hf
    refine lv_ldc2 (v := (-1)) hx hb hown (htw _ mG_RX8_332) dX8_oddsBy_43 ?_
    obtain rfl := Option.some.inj hf
    exact zr_Ml hx hb hr hlocks hP hD hS dX8_oddsBy_46
  · have hf := z_n c1 hf
    refine lv_iload_n hx hb dX8_oddsBy_13 rfl (lv_at hl 2 rfl) ?_
    refine lv_i2l hx hb dX8_oddsBy_14 rfl ?_
    refine lv_lconst (v := 0) hx hb dX8_oddsBy_15 rfl ?_
    refine lv_ldc2 (v := 3) hx hb hown (htw _ mG_RX8_324) dX8_oddsBy_16 ?_
    refine zc_RSi (As := [.long a2.toInt64, .long 0, .long 3]) (rest := []) hx hb hml hown htw (ctX8_in l D ac cs   a2.toInt64 0 3   _ rfl) (g_S mM_RX8_79 mT_yX8_in mN_RX8 mC_yX8_in) (hd_yX8_in) ⟨rfl, rfl⟩ ⟨(Nat.le_of_ble_eq_true rfl), (Nat.le_of_ble_eq_true rfl)⟩ hKX hC hS zP0 rfl hl.1 rfl (Nat.le_of_ble_eq_true rfl) ⟨Nat.zero_le _, Nat.zero_le _⟩ dX8_oddsBy_19 ?_
    refine lv_if_eq (tgt := 43) hx hb dX8_oddsBy_22 (by decide) (fun c2 => ?_) (fun c2 => ?_)
    · have hf := z_p c2 hf
      refine lv_ldc2 (v := (-1)) hx hb hown (htw _ mG_RX8_332) dX8_oddsBy_43 ?_
      obtain rfl := Option.some.inj hf
      exact zr_Ml hx hb hr hlocks hP hD hS dX8_oddsBy_46
    · have hf := z_n c2 hf
      refine lv_iload_n hx hb dX8_oddsBy_25 rfl (lv_at hl 3 rfl) ?_
      refine zc_RSi (As := [.int a3]) (rest := []) hx hb hml hown htw (ctX8_isSide l D ac cs   a3   _ rfl) (g_S mM_RX8_87 mT_yX8_isSide mN_RX8 mC_yX8_isSide) (hd_yX8_isSide) ⟨rfl, rfl⟩ ⟨(Nat.le_of_ble_eq_true rfl), (Nat.le_of_ble_eq_true rfl)⟩ hKX hC hS zP0 rfl hl.1 rfl (Nat.le_of_ble_eq_true rfl) ⟨Nat.zero_le _, Nat.zero_le _⟩ dX8_oddsBy_26 ?_
      refine lv_if_eq (tgt := 43) hx hb dX8_oddsBy_29 (by decide) (fun c3 => ?_) (fun c3 => ?_)
      · have hf := z_p c3 hf
        refine lv_ldc2 (v := (-1)) hx hb hown (htw _ mG_RX8_332) dX8_oddsBy_43 ?_
        obtain rfl := Option.some.inj hf
        exact zr_Ml hx hb hr hlocks hP hD hS dX8_oddsBy_46
      · have hf := z_n c3 hf
        refine lv_iload hx hb dX8_oddsBy_32 (lv_at hl 4 rfl) ?_
        refine lv_i2l hx hb dX8_oddsBy_34 rfl ?_
        refine lv_lconst (v := 0) hx hb dX8_oddsBy_35 rfl ?_
        refine lv_lconst (v := 1) hx hb dX8_oddsBy_36 rfl ?_
        refine zc_RSi (As := [.long a4.toInt64, .long 0, .long 1]) (rest := []) hx hb hml hown htw (ctX8_in l D ac cs   a4.toInt64 0 1   _ rfl) (g_S mM_RX8_79 mT_yX8_in mN_RX8 mC_yX8_in) (hd_yX8_in) ⟨rfl, rfl⟩ ⟨(Nat.le_of_ble_eq_true rfl), (Nat.le_of_ble_eq_true rfl)⟩ hKX hC hS zP0 rfl hl.1 rfl (Nat.le_of_ble_eq_true rfl) ⟨Nat.zero_le _, Nat.zero_le _⟩ dX8_oddsBy_37 ?_
        refine lv_if_ne (tgt := 47) hx hb dX8_oddsBy_40 (by decide) (fun c4 => ?_) (fun c4 => ?_)
        · have hf := z_n c4 hf
          refine lv_aload_n hx hb dX8_oddsBy_47 rfl (lv_at hl 0 rfl) ?_
          refine lv_iload_n hx hb dX8_oddsBy_48 rfl (lv_at hl 2 rfl) ?_
          refine lv_iload_n hx hb dX8_oddsBy_49 rfl (lv_at hl 3 rfl) ?_
          obtain ⟨u5, hu5, hf⟩ := z_bd_u hf
          refine zc_MVv (As := [.int a2, .int a3]) (rest := []) (wr := []) (wsc := moW ac q 0 row un kp mt ps bx mo su wy wa od py ju pl rs) (wsc' := moW ac q 0 row un kp mt ps u5.1 u5.2 su wy wa od py ju pl rs) hx hb hml hown htw (ctX8_startBy l D ac cs q H.size 0 row un kp mt ps bx mo su wy wa od py ju pl rs a2 a3   F u5 hu5) (g_V mM_RX8_343 mI_yX8_startBy mS_RX8_yX8_startBy_yX8_startBy mN_RX8 mC_yX8_startBy) rfl (hd_yX8_startBy) ⟨rfl, rfl⟩ ⟨(Nat.le_of_ble_eq_true rfl), (Nat.le_of_ble_eq_true rfl)⟩ hKX hC hS hA hP hD [0, 1, 2, 3, 4, 5, 6, 7, 8, 9, 10, 11, 12, 13, 14, 15, 16, 17, 18, 19, 20] [] rfl (by decide) rfl (by decide) (by decide) 8 rfl rfl rfl hl.1 rfl (Nat.le_of_ble_eq_true rfl) ⟨Nat.zero_le _, Nat.zero_le _⟩ dX8_oddsBy_50 (fun H locs hP hD hS => ?_)
          have hP : va_P D vwCl (moW ac q 0 row un kp mt ps u5.1 u5.2 su wy wa od py ju pl rs) H := hP
          have hD : va_D A (moW ac q 0 row un kp mt ps u5.1 u5.2 su wy wa od py ju pl rs) := hD
          refine lv_aload_n hx hb dX8_oddsBy_53 rfl (lv_at hl 0 rfl) ?_
          refine lv_iload_n hx hb dX8_oddsBy_54 rfl (lv_at hl 1 rfl) ?_
          obtain ⟨u6, hu6, hf⟩ := z_bd_u hf
          refine zc_MVv (As := [.int a1]) (rest := []) (wr := []) (wsc := moW ac q 0 row un kp mt ps u5.1 u5.2 su wy wa od py ju pl rs) (wsc' := moW ac q 0 row un kp mt ps u5.1 u6.1 u6.2.1 u6.2.2.1 u6.2.2.2.1 u6.2.2.2.2 py ju pl rs) hx hb hml hown htw (ctX8_layOdds l D ac cs q H.size 0 row un kp mt ps u5.1 u5.2 su wy wa od py ju pl rs a1   F u6 hu6) (g_V mM_RX8_334 mI_yX8_layOdds mS_RX8_yX8_layOdds_yX8_layOdds mN_RX8 mC_yX8_layOdds) rfl (hd_yX8_layOdds) ⟨rfl, rfl⟩ ⟨(Nat.le_of_ble_eq_true rfl), (Nat.le_of_ble_eq_true rfl)⟩ hKX hC hS hA hP hD [0, 1, 2, 3, 4, 5, 6, 7, 8, 9, 10, 11, 12, 13, 14, 15, 16, 17, 18, 19, 20] [] rfl (by decide) rfl (by decide) (by decide) 8 rfl rfl rfl hl.1 rfl (Nat.le_of_ble_eq_true rfl) ⟨Nat.zero_le _, Nat.zero_le _⟩ dX8_oddsBy_55 (fun H locs hP hD hS => ?_)
          have hP : va_P D vwCl (moW ac q 0 row un kp mt ps u5.1 u6.1 u6.2.1 u6.2.2.1 u6.2.2.2.1 u6.2.2.2.2 py ju pl rs) H := hP
          have hD : va_D A (moW ac q 0 row un kp mt ps u5.1 u6.1 u6.2.1 u6.2.2.1 u6.2.2.2.1 u6.2.2.2.2 py ju pl rs) := hD
          refine lv_aload_n hx hb dX8_oddsBy_58 rfl (lv_at hl 0 rfl) ?_
          refine va_get (D := D) (ci := 8) (v := .long (od_upper u6.2.2.2.2)) (C := RX8) (T := TX8) (N := 41) hx hb htw WW_wsX80 hown hKX.1 hP 0 rfl rfl 31 (Nat.le_of_ble_eq_true rfl) (htw _ mF_RX8_278) (fun _ h9 => h9) rfl dX8_oddsBy_59 ?_
          refine lv_aload_n hx hb dX8_oddsBy_62 rfl (lv_at hl 0 rfl) ?_
          refine va_get (D := D) (ci := 8) (v := .long (od_under u6.2.2.2.2)) (C := RX8) (T := TX8) (N := 41) hx hb htw WW_wsX80 hown hKX.1 hP 0 rfl rfl 32 (Nat.le_of_ble_eq_true rfl) (htw _ mF_RX8_281) (fun _ h9 => h9) rfl dX8_oddsBy_63 ?_
          refine lv_iload hx hb dX8_oddsBy_66 (lv_at hl 4 rfl) ?_
          obtain ⟨r7, hr7, hf⟩ := z_bd_u hf
          refine zc_RSl (As := [.long (od_upper u6.2.2.2.2), .long (od_under u6.2.2.2.2), .int a4]) (rest := []) hx hb hml hown htw (ctX8_told l D ac cs   (od_upper u6.2.2.2.2) (od_under u6.2.2.2.2) a4   F _ hr7) (g_S mM_RX8_337 mT_yX8_told mN_RX8 mC_yX8_told) (hd_yX8_told) ⟨rfl, rfl⟩ ⟨(Nat.le_of_ble_eq_true rfl), (Nat.le_of_ble_eq_true rfl)⟩ hKX hC hS zP0 rfl hl.1 rfl (Nat.le_of_ble_eq_true rfl) ⟨Nat.zero_le _, Nat.zero_le _⟩ dX8_oddsBy_68 ?_
          obtain rfl := Option.some.inj hf
          exact zr_Ml hx hb hr hlocks hP hD hS dX8_oddsBy_71
        · have hf := z_p c4 hf
          refine lv_ldc2 (v := (-1)) hx hb hown (htw _ mG_RX8_332) dX8_oddsBy_43 ?_
          obtain rfl := Option.some.inj hf
          exact zr_Ml hx hb hr hlocks hP hD hS dX8_oddsBy_46

theorem hd_yX8_layUnfair : hdY yX8_layUnfair 1 := by decide +kernel
def M_layUnfair (F : Nat) (row : MRow) (bx : Bx) (mo : Mo) (su : Su) (wy : Wy) (wa : Wa) (a1 : Int32) : Option (Bx × Mo × Su × Wy × Wa × Od) := z_bd (M_startBy F row bx mo a1 (row 2)) (fun u1 : Bx × Mo => z_bd (M_layOdds F row u1.1 u1.2 su wy wa 0) (fun u2 : Mo × Su × Wy × Wa × Od => z_let (od_upper u2.2.2.2.2) (fun x3 : Int64 => z_bd (M_layOdds F row u1.1 u2.1 u2.2.1 u2.2.2.1 u2.2.2.2.1 1) (fun u4 : Mo × Su × Wy × Wa × Od => z_let (if 0 ≤ (lg_cmp x3 (od_upper u4.2.2.2.2)) then (x3 - (od_upper u4.2.2.2.2)) else ((od_upper u4.2.2.2.2) - x3)) (fun v5 : Int64 => some (u1.1, u4.1, u4.2.1, u4.2.2.1, u4.2.2.2.1, (v5, (od_under u4.2.2.2.2))))))))
set_option maxHeartbeats 4000000 in
set_option maxRecDepth 100000 in
theorem ctX8_layUnfair (l : Launch) (D : va_G) (ac cs : Nat → Nat) (q : Nat → Nat) (sz : Nat) (th : Th) (row : MRow) (un : Un) (kp : Kp) (mt : Mt) (ps : Ps) (bx : Bx) (mo : Mo) (su : Su) (wy : Wy) (wa : Wa) (od : Od) (py : Py) (ju : Ju) (pl : Pl) (rs : Rs) (a1 : Int32) (F : Nat) (res : Bx × Mo × Su × Wy × Wa × Od) (hf : M_layUnfair F row bx mo su wy wa a1 = some res) : Met l yX8_layUnfair (cWW yX8_layUnfair cX8_layUnfair 4 none) { frames := 6, cells := 0, slots := 0, locals := 142 } (zM D ac cs [.ref (q 0), .int a1] (moW ac q th row un kp mt ps bx mo su wy wa od py ju pl rs) sz) (va_Qv (fun _ : Unit => True) (fun _ => zB D (va_A (moW ac q th row un kp mt ps bx mo su wy wa od py ju pl rs) sz) (moW ac q th row un kp mt ps res.1 res.2.1 res.2.2.1 res.2.2.2.1 res.2.2.2.2.1 res.2.2.2.2.2 py ju pl rs)) (va_A (moW ac q th row un kp mt ps bx mo su wy wa od py ju pl rs) sz)) 0 0 (va_A (moW ac q th row un kp mt ps bx mo su wy wa od py ju pl rs) sz) := by
  refine Met.ofW (cc := cX8_layUnfair) (maxL := 4) (ret := none) (by decide) rfl ?_
  intro p e s m args below meth c s₁ B hml hv
  obtain ⟨rfl, hsz, hP, hKX, hD0, hC⟩ := hv
  have hx := B.exec
  have hb := B.bytes
  have hr := B.returns
  have hts := atoms_spec (ws := cWW yX8_layUnfair cX8_layUnfair 4 none) B.pre
  have htw : ∀ w ∈ WW, w.before _ s = true := fun w h => hts w (List.mem_cons_of_mem _ h)
  have hown : s.vm.findClass RX8 = some m.cls := findClass_of_methodNamed B.named
  have hlocks := B.notSynchronized
  clear hts B
  subst hsz
  have hD := hD0.self (sz := s.heap.size)
  generalize hAe : va_A (moW ac q th row un kp mt ps bx mo su wy wa od py ju pl rs) s.heap.size = A at hD hC ⊢
  have hA : ∀ q : Nat, s.heap.size ≤ q → A q := fun q h => by rw [← hAe]; exact Or.inr h
  have hS : va_S A s.heap s.heap [] := va_S.rf
  clear hD0 hAe
  have hP : va_P D vwCl (moW ac q th row un kp mt ps bx mo su wy wa od py ju pl rs) s.heap := hP
  have hl := lv_entry ([.ref (q 0), .int a1]) (n := 4) (Nat.le_of_ble_eq_true rfl)
  rw [lg_entry_eq]
  generalize (lg_sl ([.ref (q 0), .int a1]) ++ List.replicate (4 - (lg_sl ([.ref (q 0), .int a1])).length) Slot.unset).toArray = ls at hl ⊢
  have hl : lv_has ls 4 [(0, .ref (q 0)), (1, .int a1)] := hl
  unfold M_layUnfair at hf
  show W p l e ({ frames := 6, cells := 0, slots := 0, locals := 142 } : Room) s m _ below meth c s.heap [] 0 0 _ (F0 m 0 ls [])
  refine lv_aload_n hx hb dX8_layUnfair_0 rfl (lv_at hl 0 rfl) ?_
  refine lv_iload_n hx hb dX8_layUnfair_1 rfl (lv_at hl 1 rfl) ?_
  refine lv_aload_n hx hb dX8_layUnfair_2 rfl (lv_at hl 0 rfl) ?_
  refine va_get (D := D) (ci := 8) (v := .ref (q 1)) (C := RX8) (T := TX8) (N := 41) hx hb htw WW_wsX80 hown hKX.1 hP 0 rfl rfl 1 (Nat.le_of_ble_eq_true rfl) (htw _ mF_RX8_9) (fun _ h9 => h9) rfl dX8_layUnfair_3 ?_
  refine lv_iconst (v := 2) hx hb dX8_layUnfair_6 rfl ?_
  refine zv_iald_k hx hb hKX.1 hP 1 0 rfl rfl 2 rfl (z_in_u (by decide +kernel)) dX8_layUnfair_7 ?_
  obtain ⟨u1, hu1, hf⟩ := z_bd_u hf
  refine zc_MVv (As := [.int a1, .int (row 2)]) (rest := []) (wr := []) (wsc := moW ac q th row un kp mt ps bx mo su wy wa od py ju pl rs) (wsc' := moW ac q th row un kp mt ps u1.1 u1.2 su wy wa od py ju pl rs) hx hb hml hown htw (ctX8_startBy l D ac cs q s.heap.size th row un kp mt ps bx mo su wy wa od py ju pl rs a1 (row 2)   F u1 hu1) (g_V mM_RX8_343 mI_yX8_startBy mS_RX8_yX8_startBy_yX8_startBy mN_RX8 mC_yX8_startBy) rfl (hd_yX8_startBy) ⟨rfl, rfl⟩ ⟨(Nat.le_of_ble_eq_true rfl), (Nat.le_of_ble_eq_true rfl)⟩ hKX hC hS hA hP hD [0, 1, 2, 3, 4, 5, 6, 7, 8, 9, 10, 11, 12, 13, 14, 15, 16, 17, 18, 19, 20] [] rfl (by decide) rfl (by decide) (by decide) 8 rfl rfl rfl hl.1 rfl (Nat.le_of_ble_eq_true rfl) ⟨Nat.zero_le _, Nat.zero_le _⟩ dX8_layUnfair_8 (fun H locs hP hD hS => ?_)
  have hP : va_P D vwCl (moW ac q th row un kp mt ps u1.1 u1.2 su wy wa od py ju pl rs) H := hP
  have hD : va_D A (moW ac q th row un kp mt ps u1.1 u1.2 su wy wa od py ju pl rs) := hD
  refine lv_aload_n hx hb dX8_layUnfair_11 rfl (lv_at hl 0 rfl) ?_
  refine lv_iconst (v := 0) hx hb dX8_layUnfair_12 rfl ?_
  obtain ⟨u2, hu2, hf⟩ := z_bd_u hf
  refine zc_MVv (As := [.int 0]) (rest := []) (wr := []) (wsc := moW ac q th row un kp mt ps u1.1 u1.2 su wy wa od py ju pl rs) (wsc' := moW ac q th row un kp mt ps u1.1 u2.1 u2.2.1 u2.2.2.1 u2.2.2.2.1 u2.2.2.2.2 py ju pl rs) hx hb hml hown htw (ctX8_layOdds l D ac cs q H.size th row un kp mt ps u1.1 u1.2 su wy wa od py ju pl rs 0   F u2 hu2) (g_V mM_RX8_334 mI_yX8_layOdds mS_RX8_yX8_layOdds_yX8_layOdds mN_RX8 mC_yX8_layOdds) rfl (hd_yX8_layOdds) ⟨rfl, rfl⟩ ⟨(Nat.le_of_ble_eq_true rfl), (Nat.le_of_ble_eq_true rfl)⟩ hKX hC hS hA hP hD [0, 1, 2, 3, 4, 5, 6, 7, 8, 9, 10, 11, 12, 13, 14, 15, 16, 17, 18, 19, 20] [] rfl (by decide) rfl (by decide) (by decide) 8 rfl rfl rfl hl.1 rfl (Nat.le_of_ble_eq_true rfl) ⟨Nat.zero_le _, Nat.zero_le _⟩ dX8_layUnfair_13 (fun H locs hP hD hS => ?_)
  have hP : va_P D vwCl (moW ac q th row un kp mt ps u1.1 u2.1 u2.2.1 u2.2.2.1 u2.2.2.2.1 u2.2.2.2.2 py ju pl rs) H := hP
  have hD : va_D A (moW ac q th row un kp mt ps u1.1 u2.1 u2.2.1 u2.2.2.1 u2.2.2.2.1 u2.2.2.2.2 py ju pl rs) := hD
  refine lv_aload_n hx hb dX8_layUnfair_16 rfl (lv_at hl 0 rfl) ?_
  refine va_get (D := D) (ci := 8) (v := .long (od_upper u2.2.2.2.2)) (C := RX8) (T := TX8) (N := 41) hx hb htw WW_wsX80 hown hKX.1 hP 0 rfl rfl 31 (Nat.le_of_ble_eq_true rfl) (htw _ mF_RX8_278) (fun _ h9 => h9) rfl dX8_layUnfair_17 ?_
  refine lv_topl (fun x3 hx3 => ?_)
  have hf := z_let_u hx3 hf
  refine lv_lstore_n (lv' := [(2, .long x3), (0, .ref (q 0)), (1, .int a1)]) hx hb dX8_layUnfair_20 rfl hl (Nat.le_of_ble_eq_true rfl) rfl (fun ls hl => ?_)
  refine lv_aload_n hx hb dX8_layUnfair_21 rfl (lv_at hl 1 rfl) ?_
  refine lv_iconst (v := 1) hx hb dX8_layUnfair_22 rfl ?_
  obtain ⟨u4, hu4, hf⟩ := z_bd_u hf
  refine zc_MVv (As := [.int 1]) (rest := []) (wr := []) (wsc := moW ac q th row un kp mt ps u1.1 u2.1 u2.2.1 u2.2.2.1 u2.2.2.2.1 u2.2.2.2.2 py ju pl rs) (wsc' := moW ac q th row un kp mt ps u1.1 u4.1 u4.2.1 u4.2.2.1 u4.2.2.2.1 u4.2.2.2.2 py ju pl rs) hx hb hml hown htw (ctX8_layOdds l D ac cs q H.size th row un kp mt ps u1.1 u2.1 u2.2.1 u2.2.2.1 u2.2.2.2.1 u2.2.2.2.2 py ju pl rs 1   F u4 hu4) (g_V mM_RX8_334 mI_yX8_layOdds mS_RX8_yX8_layOdds_yX8_layOdds mN_RX8 mC_yX8_layOdds) rfl (hd_yX8_layOdds) ⟨rfl, rfl⟩ ⟨(Nat.le_of_ble_eq_true rfl), (Nat.le_of_ble_eq_true rfl)⟩ hKX hC hS hA hP hD [0, 1, 2, 3, 4, 5, 6, 7, 8, 9, 10, 11, 12, 13, 14, 15, 16, 17, 18, 19, 20] [] rfl (by decide) rfl (by decide) (by decide) 8 rfl rfl rfl hl.1 rfl (Nat.le_of_ble_eq_true rfl) ⟨Nat.zero_le _, Nat.zero_le _⟩ dX8_layUnfair_23 (fun H locs hP hD hS => ?_)
  have hP : va_P D vwCl (moW ac q th row un kp mt ps u1.1 u4.1 u4.2.1 u4.2.2.1 u4.2.2.2.1 u4.2.2.2.2 py ju pl rs) H := hP
  have hD : va_D A (moW ac q th row un kp mt ps u1.1 u4.1 u4.2.1 u4.2.2.1 u4.2.2.2.1 u4.2.2.2.2 py ju pl rs) := hD
  refine lv_aload_n hx hb dX8_layUnfair_26 rfl (lv_at hl 1 rfl) ?_
  refine lv_lload_n hx hb dX8_layUnfair_27 rfl (lv_at hl 0 rfl) ?_
  refine lv_aload_n hx hb dX8_layUnfair_28 rfl (lv_at hl 1 rfl) ?_
  refine va_get (D := D) (ci := 8) (v := .long (od_upper u4.2.2.2.2)) (C := RX8) (T := TX8) (N := 41) hx hb htw WW_wsX80 hown hKX.1 hP 0 rfl rfl 31 (Nat.le_of_ble_eq_true rfl) (htw _ mF_RX8_278) (fun _ h9 => h9) rfl dX8_layUnfair_29 ?_
  refine W.lcmp hx hb dX8_layUnfair_32 ?_
  have hj7 : ∀ (v5 : Int64), v5 = (if 0 ≤ (lg_cmp x3 (od_upper u4.2.2.2.2)) then (x3 - (od_upper u4.2.2.2.2)) else ((od_upper u4.2.2.2.2) - x3)) → ∀ (H : Heap) (locs : List Loc) (ls : Array Slot), va_P D vwCl (moW ac q th row un kp mt ps u1.1 u4.1 u4.2.1 u4.2.2.1 u4.2.2.2.1 u4.2.2.2.2 py ju pl rs) H → va_D A (moW ac q th row un kp mt ps u1.1 u4.1 u4.2.1 u4.2.2.1 u4.2.2.2.1 u4.2.2.2.2 py ju pl rs) → va_S A s.heap H locs → lv_has ls 4 [] → W p l e ({ frames := 6, cells := 0, slots := 0, locals := 142 } : Room) s m (([.ref (q 0), .int a1] : List Value).toArray) below meth c H locs 0 0 (MQ below (va_Qv (fun _ : Unit => True) (fun _ => zB D A (moW ac q th row un kp mt ps res.1 res.2.1 res.2.2.1 res.2.2.2.1 res.2.2.2.2.1 res.2.2.2.2.2 py ju pl rs)) A) ([.ref (q 0), .int a1] : List Value).toArray s 0 0 A) (F0 m 51 ls [.long v5, .ref (q 0)]) := by
    intro v5 hv5 H locs ls hP hD hS hl
    have hf := z_let_u hv5 hf
    refine va_put (D := D) (ci := 8) (v := .long v5) (ty := tyX8 31) (C := RX8) (T := TX8) (N := 41) hx hb htw WW_wsX80 tyX8 tyX8_ok nmX8 hown hKX.1 hP hD hS 0 rfl rfl 31 (Nat.le_of_ble_eq_true rfl) (htw _ mF_RX8_278) (fun _ h9 => h9) rfl (tyX8_ok 31 (Nat.le_of_ble_eq_true rfl)) rfl rfl (Nat.le_of_ble_eq_true rfl) dX8_layUnfair_51 (fun H locs hP hD hS => ?_)
    have hP : va_P D vwCl (moW ac q th row un kp mt ps u1.1 u4.1 u4.2.1 u4.2.2.1 u4.2.2.2.1 (v5, (od_under u4.2.2.2.2)) py ju pl rs) H := hP
    have hD : va_D A (moW ac q th row un kp mt ps u1.1 u4.1 u4.2.1 u4.2.2.1 u4.2.2.2.1 (v5, (od_under u4.2.2.2.2)) py ju pl rs) := hD
    obtain rfl := Option.some.inj hf
    exact zr_Mv hx hb hr hlocks hP hD hS dX8_layUnfair_54
  refine lv_if_ge (tgt := 45) hx hb dX8_layUnfair_33 (by decide) (fun c8 => ?_) (fun c8 => ?_)
  · skip
    refine lv_lload_n hx hb dX8_layUnfair_45 rfl (lv_at hl 0 rfl) ?_
    refine lv_aload_n hx hb dX8_layUnfair_46 rfl (lv_at hl 1 rfl) ?_
    refine va_get (D := D) (ci := 8) (v := .long (od_upper u4.2.2.2.2)) (C := RX8) (T := TX8) (N := 41) hx hb htw WW_wsX80 hown hKX.1 hP 0 rfl rfl 31 (Nat.le_of_ble_eq_true rfl) (htw _ mF_RX8_278) (fun _ h9 => h9) rfl dX8_layUnfair_47 ?_
    refine lv_lsub hx hb dX8_layUnfair_50 ?_
    exact hj7 (x3 - (od_upper u4.2.2.2.2)) (if_pos c8).symm _ _ ls hP hD hS (lv_sub hl [] rfl)
  · skip
    refine lv_aload_n hx hb dX8_layUnfair_36 rfl (lv_at hl 1 rfl) ?_
    refine va_get (D := D) (ci := 8) (v := .long (od_upper u4.2.2.2.2)) (C := RX8) (T := TX8) (N := 41) hx hb htw WW_wsX80 hown hKX.1 hP 0 rfl rfl 31 (Nat.le_of_ble_eq_true rfl) (htw _ mF_RX8_278) (fun _ h9 => h9) rfl dX8_layUnfair_37 ?_
    refine lv_lload_n hx hb dX8_layUnfair_40 rfl (lv_at hl 0 rfl) ?_
    refine lv_lsub hx hb dX8_layUnfair_41 ?_
    refine lv_goto (tgt := 51) hx hb dX8_layUnfair_42 (by decide) ?_
    exact hj7 ((od_upper u4.2.2.2.2) - x3) (if_neg c8).symm _ _ ls hP hD hS (lv_sub hl [] rfl)

theorem hd_yX8_unfair : hdY yX8_unfair 2 := by decide +kernel
def M_unfair (F : Nat) (row : MRow) (bx : Bx) (mo : Mo) (su : Su) (wy : Wy) (wa : Wa) (od : Od) (a1 : Int32) (a2 : Int32) : Option (Int64 × Th × Bx × Mo × Su × Wy × Wa × Od) := if M_isTold row = 0 then (some ((-1), 0, bx, mo, su, wy, wa, od)) else (if M_in a1.toInt64 0 3 = 0 then (some ((-1), 0, bx, mo, su, wy, wa, od)) else (if M_in a2.toInt64 0 1 = 0 then (some ((-1), 0, bx, mo, su, wy, wa, od)) else (z_bd (M_layUnfair F row bx mo su wy wa a1) (fun u4 : Bx × Mo × Su × Wy × Wa × Od => z_bd (M_told F (od_upper u4.2.2.2.2.2) (od_under u4.2.2.2.2.2) a2) (fun r5 : Int64 => some (r5, 0, u4.1, u4.2.1, u4.2.2.1, u4.2.2.2.1, u4.2.2.2.2.1, u4.2.2.2.2.2))))))
set_option maxHeartbeats 4000000 in
set_option maxRecDepth 100000 in
theorem ctX8_unfair (l : Launch) (D : va_G) (ac cs : Nat → Nat) (q : Nat → Nat) (sz : Nat) (th : Th) (row : MRow) (un : Un) (kp : Kp) (mt : Mt) (ps : Ps) (bx : Bx) (mo : Mo) (su : Su) (wy : Wy) (wa : Wa) (od : Od) (py : Py) (ju : Ju) (pl : Pl) (rs : Rs) (a1 : Int32) (a2 : Int32) (F : Nat) (res : Int64 × Th × Bx × Mo × Su × Wy × Wa × Od) (hf : M_unfair F row bx mo su wy wa od a1 a2 = some res) : Met l yX8_unfair (cWW yX8_unfair cX8_unfair 3 (some .long)) { frames := 7, cells := 0, slots := 0, locals := 165 } (zM D ac cs [.ref (q 0), .int a1, .int a2] (moW ac q th row un kp mt ps bx mo su wy wa od py ju pl rs) sz) (va_Ql (fun r (_ : Unit) => r = res.1) (fun _ => zB D (va_A (moW ac q th row un kp mt ps bx mo su wy wa od py ju pl rs) sz) (moW ac q res.2.1 row un kp mt ps res.2.2.1 res.2.2.2.1 res.2.2.2.2.1 res.2.2.2.2.2.1 res.2.2.2.2.2.2.1 res.2.2.2.2.2.2.2 py ju pl rs)) (va_A (moW ac q th row un kp mt ps bx mo su wy wa od py ju pl rs) sz)) 0 0 (va_A (moW ac q th row un kp mt ps bx mo su wy wa od py ju pl rs) sz) := by
  refine Met.ofW (cc := cX8_unfair) (maxL := 3) (ret := (some .long)) (by decide) rfl ?_
  intro p e s m args below meth c s₁ B hml hv
  obtain ⟨rfl, hsz, hP, hKX, hD0, hC⟩ := hv
  have hx := B.exec
  have hb := B.bytes
  have hr := B.returns
  have hts := atoms_spec (ws := cWW yX8_unfair cX8_unfair 3 (some .long)) B.pre
  have htw : ∀ w ∈ WW, w.before _ s = true := fun w h => hts w (List.mem_cons_of_mem _ h)
  have hown : s.vm.findClass RX8 = some m.cls := findClass_of_methodNamed B.named
  have hlocks := B.notSynchronized
  clear hts B
  subst hsz
  have hD := hD0.self (sz := s.heap.size)
  generalize hAe : va_A (moW ac q th row un kp mt ps bx mo su wy wa od py ju pl rs) s.heap.size = A at hD hC ⊢
  have hA : ∀ q : Nat, s.heap.size ≤ q → A q := fun q h => by rw [← hAe]; exact Or.inr h
  have hS : va_S A s.heap s.heap [] := va_S.rf
  clear hD0 hAe
  have hP : va_P D vwCl (moW ac q th row un kp mt ps bx mo su wy wa od py ju pl rs) s.heap := hP
  have hl := lv_entry ([.ref (q 0), .int a1, .int a2]) (n := 3) (Nat.le_of_ble_eq_true rfl)
  rw [lg_entry_eq]
  generalize (lg_sl ([.ref (q 0), .int a1, .int a2]) ++ List.replicate (3 - (lg_sl ([.ref (q 0), .int a1, .int a2])).length) Slot.unset).toArray = ls at hl ⊢
  have hl : lv_has ls 3 [(0, .ref (q 0)), (1, .int a1), (2, .int a2)] := hl
  unfold M_unfair at hf
  show W p l e ({ frames := 7, cells := 0, slots := 0, locals := 165 } : Room) s m _ below meth c s.heap [] 0 0 _ (F0 m 0 ls [])
  refine lv_aload_n hx hb dX8_unfair_0 rfl (lv_at hl 0 rfl) ?_
  refine lv_iconst (v := 0) hx hb dX8_unfair_1 rfl ?_
  refine va_put (D := D) (ci := 8) (v := .int 0) (ty := tyX8 0) (C := RX8) (T := TX8) (N := 41) hx hb htw WW_wsX80 tyX8 tyX8_ok nmX8 hown hKX.1 hP hD hS 0 rfl rfl 0 (Nat.le_of_ble_eq_true rfl) (htw _ mF_RX8_75) (fun _ h9 => h9) rfl (tyX8_ok 0 (Nat.le_of_ble_eq_true rfl)) rfl rfl (Nat.le_of_ble_eq_true rfl) dX8_unfair_2 (fun H locs hP hD hS => ?_)
  have hP : va_P D vwCl (moW ac q 0 row un kp mt ps bx mo su wy wa od py ju pl rs) H := hP
  have hD : va_D A (moW ac q 0 row un kp mt ps bx mo su wy wa od py ju pl rs) := hD
  refine lv_aload_n hx hb dX8_unfair_5 rfl (lv_at hl 0 rfl) ?_
  refine zc_RVi (As := []) (rest := []) hx hb hml hown htw (ctX8_isTold l D ac cs q 0 row un kp mt ps bx mo su wy wa od py ju pl rs    _ rfl) (g_V mM_RX8_83 mI_yX8_isTold mS_RX8_yX8_isTold_yX8_isTold mN_RX8 mC_yX8_isTold) rfl (hd_yX8_isTold) ⟨rfl, rfl⟩ ⟨(Nat.le_of_ble_eq_true rfl), (Nat.le_of_ble_eq_true rfl)⟩ hKX hC hS hP 8 rfl rfl rfl hl.1 rfl (Nat.le_of_ble_eq_true rfl) ⟨Nat.zero_le _, Nat.zero_le _⟩ dX8_unfair_6 ?_
  refine lv_if_eq (tgt := 34) hx hb dX8_unfair_9 (by decide) (fun c1 => ?_) (fun c1 => ?_)
  · have hf := z_p c1 hf
    refine lv_ldc2 (v := (-1)) hx hb hown (htw _ mG_RX8_332) dX8_unfair_34 ?_
    obtain rfl := Option.some.inj hf
    exact zr_Ml hx hb hr hlocks hP hD hS dX8_unfair_37
  · have hf := z_n c1 hf
    refine lv_iload_n hx hb dX8_unfair_12 rfl (lv_at hl 1 rfl) ?_
    refine lv_i2l hx hb dX8_unfair_13 rfl ?_
    refine lv_lconst (v := 0) hx hb dX8_unfair_14 rfl ?_
    refine lv_ldc2 (v := 3) hx hb hown (htw _ mG_RX8_324) dX8_unfair_15 ?_
    refine zc_RSi (As := [.long a1.toInt64, .long 0, .long 3]) (rest := []) hx hb hml hown htw (ctX8_in l D ac cs   a1.toInt64 0 3   _ rfl) (g_S mM_RX8_79 mT_yX8_in mN_RX8 mC_yX8_in) (hd_yX8_in) ⟨rfl, rfl⟩ ⟨(Nat.le_of_ble_eq_true rfl), (Nat.le_of_ble_eq_true rfl)⟩ hKX hC hS zP0 rfl hl.1 rfl (Nat.le_of_ble_eq_true rfl) ⟨Nat.zero_le _, Nat.zero_le _⟩ dX8_unfair_18 ?_
    refine lv_if_eq (tgt := 34) hx hb dX8_unfair_21 (by decide) (fun c2 => ?_) (fun c2 => ?_)
    · have hf := z_p c2 hf
      refine lv_ldc2 (v := (-1)) hx hb hown (htw _ mG_RX8_332) dX8_unfair_34 ?_
      obtain rfl := Option.some.inj hf
      exact zr_Ml hx hb hr hlocks hP hD hS dX8_unfair_37
    · have hf := z_n c2 hf
      refine lv_iload_n hx hb dX8_unfair_24 rfl (lv_at hl 2 rfl) ?_
      refine lv_i2l hx hb dX8_unfair_25 rfl ?_
      refine lv_lconst (v := 0) hx hb dX8_unfair_26 rfl ?_
      refine lv_lconst (v := 1) hx hb dX8_unfair_27 rfl ?_
      refine zc_RSi (As := [.long a2.toInt64, .long 0, .long 1]) (rest := []) hx hb hml hown htw (ctX8_in l D ac cs   a2.toInt64 0 1   _ rfl) (g_S mM_RX8_79 mT_yX8_in mN_RX8 mC_yX8_in) (hd_yX8_in) ⟨rfl, rfl⟩ ⟨(Nat.le_of_ble_eq_true rfl), (Nat.le_of_ble_eq_true rfl)⟩ hKX hC hS zP0 rfl hl.1 rfl (Nat.le_of_ble_eq_true rfl) ⟨Nat.zero_le _, Nat.zero_le _⟩ dX8_unfair_28 ?_
      refine lv_if_ne (tgt := 38) hx hb dX8_unfair_31 (by decide) (fun c3 => ?_) (fun c3 => ?_)
      · have hf := z_n c3 hf
        refine lv_aload_n hx hb dX8_unfair_38 rfl (lv_at hl 0 rfl) ?_
        refine lv_iload_n hx hb dX8_unfair_39 rfl (lv_at hl 1 rfl) ?_
        obtain ⟨u4, hu4, hf⟩ := z_bd_u hf
        refine zc_MVv (As := [.int a1]) (rest := []) (wr := []) (wsc := moW ac q 0 row un kp mt ps bx mo su wy wa od py ju pl rs) (wsc' := moW ac q 0 row un kp mt ps u4.1 u4.2.1 u4.2.2.1 u4.2.2.2.1 u4.2.2.2.2.1 u4.2.2.2.2.2 py ju pl rs) hx hb hml hown htw (ctX8_layUnfair l D ac cs q H.size 0 row un kp mt ps bx mo su wy wa od py ju pl rs a1   F u4 hu4) (g_V mM_RX8_346 mI_yX8_layUnfair mS_RX8_yX8_layUnfair_yX8_layUnfair mN_RX8 mC_yX8_layUnfair) rfl (hd_yX8_layUnfair) ⟨rfl, rfl⟩ ⟨(Nat.le_of_ble_eq_true rfl), (Nat.le_of_ble_eq_true rfl)⟩ hKX hC hS hA hP hD [0, 1, 2, 3, 4, 5, 6, 7, 8, 9, 10, 11, 12, 13, 14, 15, 16, 17, 18, 19, 20] [] rfl (by decide) rfl (by decide) (by decide) 8 rfl rfl rfl hl.1 rfl (Nat.le_of_ble_eq_true rfl) ⟨Nat.zero_le _, Nat.zero_le _⟩ dX8_unfair_40 (fun H locs hP hD hS => ?_)
        have hP : va_P D vwCl (moW ac q 0 row un kp mt ps u4.1 u4.2.1 u4.2.2.1 u4.2.2.2.1 u4.2.2.2.2.1 u4.2.2.2.2.2 py ju pl rs) H := hP
        have hD : va_D A (moW ac q 0 row un kp mt ps u4.1 u4.2.1 u4.2.2.1 u4.2.2.2.1 u4.2.2.2.2.1 u4.2.2.2.2.2 py ju pl rs) := hD
        refine lv_aload_n hx hb dX8_unfair_43 rfl (lv_at hl 0 rfl) ?_
        refine va_get (D := D) (ci := 8) (v := .long (od_upper u4.2.2.2.2.2)) (C := RX8) (T := TX8) (N := 41) hx hb htw WW_wsX80 hown hKX.1 hP 0 rfl rfl 31 (Nat.le_of_ble_eq_true rfl) (htw _ mF_RX8_278) (fun _ h9 => h9) rfl dX8_unfair_44 ?_
        refine lv_aload_n hx hb dX8_unfair_47 rfl (lv_at hl 0 rfl) ?_
        refine va_get (D := D) (ci := 8) (v := .long (od_under u4.2.2.2.2.2)) (C := RX8) (T := TX8) (N := 41) hx hb htw WW_wsX80 hown hKX.1 hP 0 rfl rfl 32 (Nat.le_of_ble_eq_true rfl) (htw _ mF_RX8_281) (fun _ h9 => h9) rfl dX8_unfair_48 ?_
        refine lv_iload_n hx hb dX8_unfair_51 rfl (lv_at hl 2 rfl) ?_
        obtain ⟨r5, hr5, hf⟩ := z_bd_u hf
        refine zc_RSl (As := [.long (od_upper u4.2.2.2.2.2), .long (od_under u4.2.2.2.2.2), .int a2]) (rest := []) hx hb hml hown htw (ctX8_told l D ac cs   (od_upper u4.2.2.2.2.2) (od_under u4.2.2.2.2.2) a2   F _ hr5) (g_S mM_RX8_337 mT_yX8_told mN_RX8 mC_yX8_told) (hd_yX8_told) ⟨rfl, rfl⟩ ⟨(Nat.le_of_ble_eq_true rfl), (Nat.le_of_ble_eq_true rfl)⟩ hKX hC hS zP0 rfl hl.1 rfl (Nat.le_of_ble_eq_true rfl) ⟨Nat.zero_le _, Nat.zero_le _⟩ dX8_unfair_52 ?_
        obtain rfl := Option.some.inj hf
        exact zr_Ml hx hb hr hlocks hP hD hS dX8_unfair_55
      · have hf := z_p c3 hf
        refine lv_ldc2 (v := (-1)) hx hb hown (htw _ mG_RX8_332) dX8_unfair_34 ?_
        obtain rfl := Option.some.inj hf
        exact zr_Ml hx hb hr hlocks hP hD hS dX8_unfair_37

theorem hd_yX8_fairest : hdY yX8_fairest 0 := by decide +kernel
def M_fairest_L24 (F : Nat) (row : MRow) : Nat → Int32 → Int64 → Int64 → Int32 → Bx → Mo → Su → Wy → Wa → Od → Option (Int32 × Th × Bx × Mo × Su × Wy × Wa × Od)
  | 0, _, _, _, _, _, _, _, _, _, _ => none
  | n13 + 1, x2, x3, x4, x5, bx6, mo7, su8, wy9, wa10, od11 => if 4 ≤ x5 then (some (x2, 0, bx6, mo7, su8, wy9, wa10, od11)) else (z_bd (M_layUnfair F row bx6 mo7 su8 wy9 wa10 x5) (fun u16 : Bx × Mo × Su × Wy × Wa × Od => z_jn (fun _ : Unit => z_let (od_upper u16.2.2.2.2.2) (fun x19 : Int64 => z_let (od_under u16.2.2.2.2.2) (fun x20 : Int64 => z_let (x5 + 1) (fun x21 : Int32 => M_fairest_L24 F row n13 x5 x19 x20 x21 u16.1 u16.2.1 u16.2.2.1 u16.2.2.2.1 u16.2.2.2.2.1 u16.2.2.2.2.2)))) (fun k17 => if x2 = (-1) then (k17 ()) else (z_bd (M_against F (od_upper u16.2.2.2.2.2) (od_under u16.2.2.2.2.2) x3 x4) (fun r23 : Int32 => if 0 ≤ r23 then (z_let (x5 + 1) (fun x25 : Int32 => M_fairest_L24 F row n13 x2 x3 x4 x25 u16.1 u16.2.1 u16.2.2.1 u16.2.2.2.1 u16.2.2.2.2.1 u16.2.2.2.2.2)) else (k17 ()))))))
def M_fairest (F : Nat) (row : MRow) (bx : Bx) (mo : Mo) (su : Su) (wy : Wy) (wa : Wa) (od : Od) : Option (Int32 × Th × Bx × Mo × Su × Wy × Wa × Od) := if M_isTold row = 0 then (some ((-1), 0, bx, mo, su, wy, wa, od)) else (M_fairest_L24 F row F (-1) 1 1 0 bx mo su wy wa od)
set_option maxHeartbeats 4000000 in
set_option maxRecDepth 100000 in
theorem ctX8_fairest (l : Launch) (D : va_G) (ac cs : Nat → Nat) (q : Nat → Nat) (sz : Nat) (th : Th) (row : MRow) (un : Un) (kp : Kp) (mt : Mt) (ps : Ps) (bx : Bx) (mo : Mo) (su : Su) (wy : Wy) (wa : Wa) (od : Od) (py : Py) (ju : Ju) (pl : Pl) (rs : Rs) (F : Nat) (res : Int32 × Th × Bx × Mo × Su × Wy × Wa × Od) (hf : M_fairest F row bx mo su wy wa od = some res) : Met l yX8_fairest (cWW yX8_fairest cX8_fairest 7 (some .int)) { frames := 7, cells := 0, slots := 0, locals := 165 } (zM D ac cs [.ref (q 0)] (moW ac q th row un kp mt ps bx mo su wy wa od py ju pl rs) sz) (va_Qi (fun r (_ : Unit) => r = res.1) (fun _ => zB D (va_A (moW ac q th row un kp mt ps bx mo su wy wa od py ju pl rs) sz) (moW ac q res.2.1 row un kp mt ps res.2.2.1 res.2.2.2.1 res.2.2.2.2.1 res.2.2.2.2.2.1 res.2.2.2.2.2.2.1 res.2.2.2.2.2.2.2 py ju pl rs)) (va_A (moW ac q th row un kp mt ps bx mo su wy wa od py ju pl rs) sz)) 0 0 (va_A (moW ac q th row un kp mt ps bx mo su wy wa od py ju pl rs) sz) := by
  refine Met.ofW (cc := cX8_fairest) (maxL := 7) (ret := (some .int)) (by decide) rfl ?_
  intro p e s m args below meth c s₁ B hml hv
  obtain ⟨rfl, hsz, hP, hKX, hD0, hC⟩ := hv
  have hx := B.exec
  have hb := B.bytes
  have hr := B.returns
  have hts := atoms_spec (ws := cWW yX8_fairest cX8_fairest 7 (some .int)) B.pre
  have htw : ∀ w ∈ WW, w.before _ s = true := fun w h => hts w (List.mem_cons_of_mem _ h)
  have hown : s.vm.findClass RX8 = some m.cls := findClass_of_methodNamed B.named
  have hlocks := B.notSynchronized
  clear hts B
  subst hsz
  have hD := hD0.self (sz := s.heap.size)
  generalize hAe : va_A (moW ac q th row un kp mt ps bx mo su wy wa od py ju pl rs) s.heap.size = A at hD hC ⊢
  have hA : ∀ q : Nat, s.heap.size ≤ q → A q := fun q h => by rw [← hAe]; exact Or.inr h
  have hS : va_S A s.heap s.heap [] := va_S.rf
  clear hD0 hAe
  have hP : va_P D vwCl (moW ac q th row un kp mt ps bx mo su wy wa od py ju pl rs) s.heap := hP
  have hl := lv_entry ([.ref (q 0)]) (n := 7) (Nat.le_of_ble_eq_true rfl)
  rw [lg_entry_eq]
  generalize (lg_sl ([.ref (q 0)]) ++ List.replicate (7 - (lg_sl ([.ref (q 0)])).length) Slot.unset).toArray = ls at hl ⊢
  have hl : lv_has ls 7 [(0, .ref (q 0))] := hl
  unfold M_fairest at hf
  show W p l e ({ frames := 7, cells := 0, slots := 0, locals := 165 } : Room) s m _ below meth c s.heap [] 0 0 _ (F0 m 0 ls [])
  refine lv_aload_n hx hb dX8_fairest_0 rfl (lv_at hl 0 rfl) ?_
  refine lv_iconst (v := 0) hx hb dX8_fairest_1 rfl ?_
  refine va_put (D := D) (ci := 8) (v := .int 0) (ty := tyX8 0) (C := RX8) (T := TX8) (N := 41) hx hb htw WW_wsX80 tyX8 tyX8_ok nmX8 hown hKX.1 hP hD hS 0 rfl rfl 0 (Nat.le_of_ble_eq_true rfl) (htw _ mF_RX8_75) (fun _ h9 => h9) rfl (tyX8_ok 0 (Nat.le_of_ble_eq_true rfl)) rfl rfl (Nat.le_of_ble_eq_true rfl) dX8_fairest_2 (fun H locs hP hD hS => ?_)
  have hP : va_P D vwCl (moW ac q 0 row un kp mt ps bx mo su wy wa od py ju pl rs) H := hP
  have hD : va_D A (moW ac q 0 row un kp mt ps bx mo su wy wa od py ju pl rs) := hD
  refine lv_aload_n hx hb dX8_fairest_5 rfl (lv_at hl 0 rfl) ?_
  refine zc_RVi (As := []) (rest := []) hx hb hml hown htw (ctX8_isTold l D ac cs q 0 row un kp mt ps bx mo su wy wa od py ju pl rs    _ rfl) (g_V mM_RX8_83 mI_yX8_isTold mS_RX8_yX8_isTold_yX8_isTold mN_RX8 mC_yX8_isTold) rfl (hd_yX8_isTold) ⟨rfl, rfl⟩ ⟨(Nat.le_of_ble_eq_true rfl), (Nat.le_of_ble_eq_true rfl)⟩ hKX hC hS hP 8 rfl rfl rfl hl.1 rfl (Nat.le_of_ble_eq_true rfl) ⟨Nat.zero_le _, Nat.zero_le _⟩ dX8_fairest_6 ?_
  refine lv_if_ne (tgt := 14) hx hb dX8_fairest_9 (by decide) (fun c1 => ?_) (fun c1 => ?_)
  · have hf := z_n c1 hf
    refine lv_iconst (v := (-1)) hx hb dX8_fairest_14 rfl ?_
    refine lv_istore_n (lv' := [(1, .int (-1)), (0, .ref (q 0))]) hx hb dX8_fairest_15 rfl hl (Nat.le_of_ble_eq_true rfl) rfl (fun ls hl => ?_)
    refine lv_lconst (v := 1) hx hb dX8_fairest_16 rfl ?_
    refine lv_lstore_n (lv' := [(2, .long 1), (1, .int (-1)), (0, .ref (q 0))]) hx hb dX8_fairest_17 rfl hl (Nat.le_of_ble_eq_true rfl) rfl (fun ls hl => ?_)
    refine lv_lconst (v := 1) hx hb dX8_fairest_18 rfl ?_
    refine lv_lstore (lv' := [(4, .long 1), (2, .long 1), (1, .int (-1)), (0, .ref (q 0))]) hx hb dX8_fairest_19 hl (Nat.le_of_ble_eq_true rfl) rfl (fun ls hl => ?_)
    refine lv_iconst (v := 0) hx hb dX8_fairest_21 rfl ?_
    refine lv_istore (lv' := [(6, .int 0), (4, .long 1), (2, .long 1), (1, .int (-1)), (0, .ref (q 0))]) hx hb dX8_fairest_22 hl (Nat.le_of_ble_eq_true rfl) rfl (fun ls hl => ?_)
    have hL12 : ∀ (n13 : Nat) (x2 : Int32) (x3 : Int64) (x4 : Int64) (x5 : Int32) (bx6 : Bx) (mo7 : Mo) (su8 : Su) (wy9 : Wy) (wa10 : Wa) (od11 : Od), M_fairest_L24 F row n13 x2 x3 x4 x5 bx6 mo7 su8 wy9 wa10 od11 = some res → ∀ (H : Heap) (locs : List Loc) (ls : Array Slot), va_P D vwCl (moW ac q 0 row un kp mt ps bx6 mo7 su8 wy9 wa10 od11 py ju pl rs) H → va_D A (moW ac q 0 row un kp mt ps bx6 mo7 su8 wy9 wa10 od11 py ju pl rs) → va_S A s.heap H locs → lv_has ls 7 [(0, .ref (q 0)), (1, .int x2), (2, .long x3), (4, .long x4), (6, .int x5)] → W p l e ({ frames := 7, cells := 0, slots := 0, locals := 165 } : Room) s m (([.ref (q 0)] : List Value).toArray) below meth c H locs 0 0 (MQ below (va_Qi (fun r (_ : Unit) => r = res.1) (fun _ => zB D A (moW ac q res.2.1 row un kp mt ps res.2.2.1 res.2.2.2.1 res.2.2.2.2.1 res.2.2.2.2.2.1 res.2.2.2.2.2.2.1 res.2.2.2.2.2.2.2 py ju pl rs)) A) ([.ref (q 0)] : List Value).toArray s 0 0 A) (F0 m 24 ls []) := by
      intro n13
      induction n13 with
      | zero => intro x2 x3 x4 x5 bx6 mo7 su8 wy9 wa10 od11 hf; rw [M_fairest_L24] at hf; cases hf
      | succ n13 ih14 =>
        intro x2 x3 x4 x5 bx6 mo7 su8 wy9 wa10 od11 hf H locs ls hP hD hS hl
        rw [M_fairest_L24] at hf
        refine lv_iload hx hb dX8_fairest_24 (lv_at hl 4 rfl) ?_
        refine lv_iconst (v := 4) hx hb dX8_fairest_26 rfl ?_
        refine lv_icmp_ge (tgt := 78) hx hb dX8_fairest_27 (by decide) (fun c15 => ?_) (fun c15 => ?_)
        · have hf := z_p c15 hf
          refine lv_iload_n hx hb dX8_fairest_78 rfl (lv_at hl 1 rfl) ?_
          obtain rfl := Option.some.inj hf
          exact zr_Mi hx hb hr hlocks hP hD hS dX8_fairest_79
        · have hf := z_n c15 hf
          refine lv_aload_n hx hb dX8_fairest_30 rfl (lv_at hl 0 rfl) ?_
          refine lv_iload hx hb dX8_fairest_31 (lv_at hl 4 rfl) ?_
          obtain ⟨u16, hu16, hf⟩ := z_bd_u hf
          refine zc_MVv (As := [.int x5]) (rest := []) (wr := []) (wsc := moW ac q 0 row un kp mt ps bx6 mo7 su8 wy9 wa10 od11 py ju pl rs) (wsc' := moW ac q 0 row un kp mt ps u16.1 u16.2.1 u16.2.2.1 u16.2.2.2.1 u16.2.2.2.2.1 u16.2.2.2.2.2 py ju pl rs) hx hb hml hown htw (ctX8_layUnfair l D ac cs q H.size 0 row un kp mt ps bx6 mo7 su8 wy9 wa10 od11 py ju pl rs x5   F u16 hu16) (g_V mM_RX8_346 mI_yX8_layUnfair mS_RX8_yX8_layUnfair_yX8_layUnfair mN_RX8 mC_yX8_layUnfair) rfl (hd_yX8_layUnfair) ⟨rfl, rfl⟩ ⟨(Nat.le_of_ble_eq_true rfl), (Nat.le_of_ble_eq_true rfl)⟩ hKX hC hS hA hP hD [0, 1, 2, 3, 4, 5, 6, 7, 8, 9, 10, 11, 12, 13, 14, 15, 16, 17, 18, 19, 20] [] rfl (by decide) rfl (by decide) (by decide) 8 rfl rfl rfl hl.1 rfl (Nat.le_of_ble_eq_true rfl) ⟨Nat.zero_le _, Nat.zero_le _⟩ dX8_fairest_33 (fun H locs hP hD hS => ?_)
          have hP : va_P D vwCl (moW ac q 0 row un kp mt ps u16.1 u16.2.1 u16.2.2.1 u16.2.2.2.1 u16.2.2.2.2.1 u16.2.2.2.2.2 py ju pl rs) H := hP
          have hD : va_D A (moW ac q 0 row un kp mt ps u16.1 u16.2.1 u16.2.2.1 u16.2.2.2.1 u16.2.2.2.2.1 u16.2.2.2.2.2 py ju pl rs) := hD
          refine lv_iload_n hx hb dX8_fairest_36 rfl (lv_at hl 1 rfl) ?_
          refine lv_iconst (v := (-1)) hx hb dX8_fairest_37 rfl ?_
          obtain ⟨k17, hk17, hf⟩ := z_jn_u hf
          have hj18 : k17 () = some res → ∀ (H : Heap) (locs : List Loc) (ls : Array Slot), va_P D vwCl (moW ac q 0 row un kp mt ps u16.1 u16.2.1 u16.2.2.1 u16.2.2.2.1 u16.2.2.2.2.1 u16.2.2.2.2.2 py ju pl rs) H → va_D A (moW ac q 0 row un kp mt ps u16.1 u16.2.1 u16.2.2.1 u16.2.2.2.1 u16.2.2.2.2.1 u16.2.2.2.2.2 py ju pl rs) → va_S A s.heap H locs → lv_has ls 7 [(0, .ref (q 0)), (6, .int x5)] → W p l e ({ frames := 7, cells := 0, slots := 0, locals := 165 } : Room) s m (([.ref (q 0)] : List Value).toArray) below meth c H locs 0 0 (MQ below (va_Qi (fun r (_ : Unit) => r = res.1) (fun _ => zB D A (moW ac q res.2.1 row un kp mt ps res.2.2.1 res.2.2.2.1 res.2.2.2.2.1 res.2.2.2.2.2.1 res.2.2.2.2.2.2.1 res.2.2.2.2.2.2.2 py ju pl rs)) A) ([.ref (q 0)] : List Value).toArray s 0 0 A) (F0 m 58 ls []) := by
            intro hf H locs ls hP hD hS hl
            have hf := hk17 _ hf
            refine lv_iload hx hb dX8_fairest_58 (lv_at hl 1 rfl) ?_
            refine lv_istore_n (lv' := [(1, .int x5), (0, .ref (q 0)), (6, .int x5)]) hx hb dX8_fairest_60 rfl hl (Nat.le_of_ble_eq_true rfl) rfl (fun ls hl => ?_)
            refine lv_aload_n hx hb dX8_fairest_61 rfl (lv_at hl 1 rfl) ?_
            refine va_get (D := D) (ci := 8) (v := .long (od_upper u16.2.2.2.2.2)) (C := RX8) (T := TX8) (N := 41) hx hb htw WW_wsX80 hown hKX.1 hP 0 rfl rfl 31 (Nat.le_of_ble_eq_true rfl) (htw _ mF_RX8_278) (fun _ h9 => h9) rfl dX8_fairest_62 ?_
            refine lv_topl (fun x19 hx19 => ?_)
            have hf := z_let_u hx19 hf
            refine lv_lstore_n (lv' := [(2, .long x19), (1, .int x5), (0, .ref (q 0)), (6, .int x5)]) hx hb dX8_fairest_65 rfl hl (Nat.le_of_ble_eq_true rfl) rfl (fun ls hl => ?_)
            refine lv_aload_n hx hb dX8_fairest_66 rfl (lv_at hl 2 rfl) ?_
            refine va_get (D := D) (ci := 8) (v := .long (od_under u16.2.2.2.2.2)) (C := RX8) (T := TX8) (N := 41) hx hb htw WW_wsX80 hown hKX.1 hP 0 rfl rfl 32 (Nat.le_of_ble_eq_true rfl) (htw _ mF_RX8_281) (fun _ h9 => h9) rfl dX8_fairest_67 ?_
            refine lv_topl (fun x20 hx20 => ?_)
            have hf := z_let_u hx20 hf
            refine lv_lstore (lv' := [(4, .long x20), (2, .long x19), (1, .int x5), (0, .ref (q 0)), (6, .int x5)]) hx hb dX8_fairest_70 hl (Nat.le_of_ble_eq_true rfl) rfl (fun ls hl => ?_)
            obtain ⟨x21, hx21⟩ : ∃ y : Int32, y = (x5 + 1) := ⟨_, rfl⟩
            have hf := z_let_u hx21 hf
            refine lv_iinc (v := x21) (lv' := [(6, .int x21), (4, .long x20), (2, .long x19), (1, .int x5), (0, .ref (q 0))]) hx hb dX8_fairest_72 hl (k := 4) rfl (by rw [hx21]; rfl) (Nat.le_of_ble_eq_true rfl) rfl (fun ls hl => ?_)
            refine lv_goto (tgt := 24) hx hb dX8_fairest_75 (by decide) ?_
            exact ih14 x5 x19 x20 x21 u16.1 u16.2.1 u16.2.2.1 u16.2.2.2.1 u16.2.2.2.2.1 u16.2.2.2.2.2 hf _ _ ls  hP hD hS (lv_sub hl [4, 3, 2, 1, 0] rfl)
          refine lv_icmp_eq (tgt := 58) hx hb dX8_fairest_38 (by decide) (fun c22 => ?_) (fun c22 => ?_)
          · have hf := z_p c22 hf
            exact hj18  hf _ _ ls  hP hD hS (lv_sub hl [0, 4] rfl)
          · have hf := z_n c22 hf
            refine lv_aload_n hx hb dX8_fairest_41 rfl (lv_at hl 0 rfl) ?_
            refine va_get (D := D) (ci := 8) (v := .long (od_upper u16.2.2.2.2.2)) (C := RX8) (T := TX8) (N := 41) hx hb htw WW_wsX80 hown hKX.1 hP 0 rfl rfl 31 (Nat.le_of_ble_eq_true rfl) (htw _ mF_RX8_278) (fun _ h9 => h9) rfl dX8_fairest_42 ?_
            refine lv_aload_n hx hb dX8_fairest_45 rfl (lv_at hl 0 rfl) ?_
            refine va_get (D := D) (ci := 8) (v := .long (od_under u16.2.2.2.2.2)) (C := RX8) (T := TX8) (N := 41) hx hb htw WW_wsX80 hown hKX.1 hP 0 rfl rfl 32 (Nat.le_of_ble_eq_true rfl) (htw _ mF_RX8_281) (fun _ h9 => h9) rfl dX8_fairest_46 ?_
            refine lv_lload_n hx hb dX8_fairest_49 rfl (lv_at hl 2 rfl) ?_
            refine lv_lload hx hb dX8_fairest_50 (lv_at hl 3 rfl) ?_
            obtain ⟨r23, hr23, hf⟩ := z_bd_u hf
            refine zc_RSi (As := [.long (od_upper u16.2.2.2.2.2), .long (od_under u16.2.2.2.2.2), .long x3, .long x4]) (rest := []) hx hb hml hown htw (ctX8_against l D ac cs   (od_upper u16.2.2.2.2.2) (od_under u16.2.2.2.2.2) x3 x4   F _ hr23) (g_S mM_RX8_349 mT_yX8_against mN_RX8 mC_yX8_against) (hd_yX8_against) ⟨rfl, rfl⟩ ⟨(Nat.le_of_ble_eq_true rfl), (Nat.le_of_ble_eq_true rfl)⟩ hKX hC hS zP0 rfl hl.1 rfl (Nat.le_of_ble_eq_true rfl) ⟨Nat.zero_le _, Nat.zero_le _⟩ dX8_fairest_52 ?_
            refine lv_if_ge (tgt := 72) hx hb dX8_fairest_55 (by decide) (fun c24 => ?_) (fun c24 => ?_)
            · have hf := z_p c24 hf
              obtain ⟨x25, hx25⟩ : ∃ y : Int32, y = (x5 + 1) := ⟨_, rfl⟩
              have hf := z_let_u hx25 hf
              refine lv_iinc (v := x25) (lv' := [(6, .int x25), (0, .ref (q 0)), (1, .int x2), (2, .long x3), (4, .long x4)]) hx hb dX8_fairest_72 hl (k := 4) rfl (by rw [hx25]; rfl) (Nat.le_of_ble_eq_true rfl) rfl (fun ls hl => ?_)
              refine lv_goto (tgt := 24) hx hb dX8_fairest_75 (by decide) ?_
              exact ih14 x2 x3 x4 x25 u16.1 u16.2.1 u16.2.2.1 u16.2.2.2.1 u16.2.2.2.2.1 u16.2.2.2.2.2 hf _ _ ls  hP hD hS (lv_sub hl [1, 2, 3, 4, 0] rfl)
            · have hf := z_n c24 hf
              exact hj18  hf _ _ ls  hP hD hS (lv_sub hl [0, 4] rfl)
    refine hL12  F (-1) 1 1 0 bx mo su wy wa od hf _ _ ls  hP hD hS (lv_sub hl [4, 3, 2, 1, 0] rfl)
  · have hf := z_p c1 hf
    refine lv_iconst (v := (-1)) hx hb dX8_fairest_12 rfl ?_
    obtain rfl := Option.some.inj hf
    exact zr_Mi hx hb hr hlocks hP hD hS dX8_fairest_13

theorem hd_yX8_toss : hdY yX8_toss 2 := by decide +kernel
def M_toss (F : Nat) (row : MRow) (bx : Bx) (mo : Mo) (su : Su) (wy : Wy) (wa : Wa) (od : Od) (a1 : Int32) (a2 : Int32) : Option (Int32 × Th × Bx × Mo × Su × Wy × Wa × Od) := if M_isThere row a1 = 0 then (some ((-1), 0, bx, mo, su, wy, wa, od)) else (if M_in a2.toInt64 0 3 = 0 then (some ((-1), 0, bx, mo, su, wy, wa, od)) else (z_bd (M_startBy F row bx mo a2 a1) (fun u3 : Bx × Mo => z_bd (M_layOdds F row u3.1 u3.2 su wy wa a1) (fun u4 : Mo × Su × Wy × Wa × Od => z_let (od_upper u4.2.2.2.2) (fun x5 : Int64 => z_let (od_under u4.2.2.2.2) (fun x6 : Int64 => z_bd (M_startBy F row u3.1 u4.1 a2 (1 - a1)) (fun u7 : Bx × Mo => z_bd (M_layOdds F row u7.1 u7.2 u4.2.1 u4.2.2.1 u4.2.2.2.1 a1) (fun u8 : Mo × Su × Wy × Wa × Od => z_bd (M_against F x5 x6 (od_upper u8.2.2.2.2) (od_under u8.2.2.2.2)) (fun r9 : Int32 => if r9 ≤ 0 then (if 0 ≤ r9 then (some (2, 0, u7.1, u8.1, u8.2.1, u8.2.2.1, u8.2.2.2.1, u8.2.2.2.2)) else (some (1, 0, u7.1, u8.1, u8.2.1, u8.2.2.1, u8.2.2.2.1, u8.2.2.2.2))) else (some (0, 0, u7.1, u8.1, u8.2.1, u8.2.2.1, u8.2.2.2.1, u8.2.2.2.2)))))))))))
set_option maxHeartbeats 4000000 in
set_option maxRecDepth 100000 in
theorem ctX8_toss (l : Launch) (D : va_G) (ac cs : Nat → Nat) (q : Nat → Nat) (sz : Nat) (th : Th) (row : MRow) (un : Un) (kp : Kp) (mt : Mt) (ps : Ps) (bx : Bx) (mo : Mo) (su : Su) (wy : Wy) (wa : Wa) (od : Od) (py : Py) (ju : Ju) (pl : Pl) (rs : Rs) (a1 : Int32) (a2 : Int32) (F : Nat) (res : Int32 × Th × Bx × Mo × Su × Wy × Wa × Od) (hf : M_toss F row bx mo su wy wa od a1 a2 = some res) : Met l yX8_toss (cWW yX8_toss cX8_toss 8 (some .int)) { frames := 6, cells := 0, slots := 0, locals := 142 } (zM D ac cs [.ref (q 0), .int a1, .int a2] (moW ac q th row un kp mt ps bx mo su wy wa od py ju pl rs) sz) (va_Qi (fun r (_ : Unit) => r = res.1) (fun _ => zB D (va_A (moW ac q th row un kp mt ps bx mo su wy wa od py ju pl rs) sz) (moW ac q res.2.1 row un kp mt ps res.2.2.1 res.2.2.2.1 res.2.2.2.2.1 res.2.2.2.2.2.1 res.2.2.2.2.2.2.1 res.2.2.2.2.2.2.2 py ju pl rs)) (va_A (moW ac q th row un kp mt ps bx mo su wy wa od py ju pl rs) sz)) 0 0 (va_A (moW ac q th row un kp mt ps bx mo su wy wa od py ju pl rs) sz) := by
  refine Met.ofW (cc := cX8_toss) (maxL := 8) (ret := (some .int)) (by decide) rfl ?_
  intro p e s m args below meth c s₁ B hml hv
  obtain ⟨rfl, hsz, hP, hKX, hD0, hC⟩ := hv
  have hx := B.exec
  have hb := B.bytes
  have hr := B.returns
  have hts := atoms_spec (ws := cWW yX8_toss cX8_toss 8 (some .int)) B.pre
  have htw : ∀ w ∈ WW, w.before _ s = true := fun w h => hts w (List.mem_cons_of_mem _ h)
  have hown : s.vm.findClass RX8 = some m.cls := findClass_of_methodNamed B.named
  have hlocks := B.notSynchronized
  clear hts B
  subst hsz
  have hD := hD0.self (sz := s.heap.size)
  generalize hAe : va_A (moW ac q th row un kp mt ps bx mo su wy wa od py ju pl rs) s.heap.size = A at hD hC ⊢
  have hA : ∀ q : Nat, s.heap.size ≤ q → A q := fun q h => by rw [← hAe]; exact Or.inr h
  have hS : va_S A s.heap s.heap [] := va_S.rf
  clear hD0 hAe
  have hP : va_P D vwCl (moW ac q th row un kp mt ps bx mo su wy wa od py ju pl rs) s.heap := hP
  have hl := lv_entry ([.ref (q 0), .int a1, .int a2]) (n := 8) (Nat.le_of_ble_eq_true rfl)
  rw [lg_entry_eq]
  generalize (lg_sl ([.ref (q 0), .int a1, .int a2]) ++ List.replicate (8 - (lg_sl ([.ref (q 0), .int a1, .int a2])).length) Slot.unset).toArray = ls at hl ⊢
  have hl : lv_has ls 8 [(0, .ref (q 0)), (1, .int a1), (2, .int a2)] := hl
  unfold M_toss at hf
  show W p l e ({ frames := 6, cells := 0, slots := 0, locals := 142 } : Room) s m _ below meth c s.heap [] 0 0 _ (F0 m 0 ls [])
  refine lv_aload_n hx hb dX8_toss_0 rfl (lv_at hl 0 rfl) ?_
  refine lv_iconst (v := 0) hx hb dX8_toss_1 rfl ?_
  refine va_put (D := D) (ci := 8) (v := .int 0) (ty := tyX8 0) (C := RX8) (T := TX8) (N := 41) hx hb htw WW_wsX80 tyX8 tyX8_ok nmX8 hown hKX.1 hP hD hS 0 rfl rfl 0 (Nat.le_of_ble_eq_true rfl) (htw _ mF_RX8_75) (fun _ h9 => h9) rfl (tyX8_ok 0 (Nat.le_of_ble_eq_true rfl)) rfl rfl (Nat.le_of_ble_eq_true rfl) dX8_toss_2 (fun H locs hP hD hS => ?_)
  have hP : va_P D vwCl (moW ac q 0 row un kp mt ps bx mo su wy wa od py ju pl rs) H := hP
  have hD : va_D A (moW ac q 0 row un kp mt ps bx mo su wy wa od py ju pl rs) := hD
  refine lv_aload_n hx hb dX8_toss_5 rfl (lv_at hl 0 rfl) ?_
  refine lv_iload_n hx hb dX8_toss_6 rfl (lv_at hl 1 rfl) ?_
  refine zc_RVi (As := [.int a1]) (rest := []) hx hb hml hown htw (ctX8_isThere l D ac cs q 0 row un kp mt ps bx mo su wy wa od py ju pl rs a1   _ rfl) (g_V mM_RX8_294 mI_yX8_isThere mS_RX8_yX8_isThere_yX8_isThere mN_RX8 mC_yX8_isThere) rfl (hd_yX8_isThere) ⟨rfl, rfl⟩ ⟨(Nat.le_of_ble_eq_true rfl), (Nat.le_of_ble_eq_true rfl)⟩ hKX hC hS hP 8 rfl rfl rfl hl.1 rfl (Nat.le_of_ble_eq_true rfl) ⟨Nat.zero_le _, Nat.zero_le _⟩ dX8_toss_7 ?_
  refine lv_if_eq (tgt := 25) hx hb dX8_toss_10 (by decide) (fun c1 => ?_) (fun c1 => ?_)
  · have hf := z_p c1 hf
    refine lv_iconst (v := (-1)) hx hb dX8_toss_25 rfl ?_
    obtain rfl := Option.some.inj hf
    exact zr_Mi hx hb hr hlocks hP hD hS dX8_toss_26
  · have hf := z_n c1 hf
    refine lv_iload_n hx hb dX8_toss_13 rfl (lv_at hl 2 rfl) ?_
    refine lv_i2l hx hb dX8_toss_14 rfl ?_
    refine lv_lconst (v := 0) hx hb dX8_toss_15 rfl ?_
    refine lv_ldc2 (v := 3) hx hb hown (htw _ mG_RX8_324) dX8_toss_16 ?_
    refine zc_RSi (As := [.long a2.toInt64, .long 0, .long 3]) (rest := []) hx hb hml hown htw (ctX8_in l D ac cs   a2.toInt64 0 3   _ rfl) (g_S mM_RX8_79 mT_yX8_in mN_RX8 mC_yX8_in) (hd_yX8_in) ⟨rfl, rfl⟩ ⟨(Nat.le_of_ble_eq_true rfl), (Nat.le_of_ble_eq_true rfl)⟩ hKX hC hS zP0 rfl hl.1 rfl (Nat.le_of_ble_eq_true rfl) ⟨Nat.zero_le _, Nat.zero_le _⟩ dX8_toss_19 ?_
    refine lv_if_ne (tgt := 27) hx hb dX8_toss_22 (by decide) (fun c2 => ?_) (fun c2 => ?_)
    · have hf := z_n c2 hf
      refine lv_aload_n hx hb dX8_toss_27 rfl (lv_at hl 0 rfl) ?_
      refine lv_iload_n hx hb dX8_toss_28 rfl (lv_at hl 2 rfl) ?_
      refine lv_iload_n hx hb dX8_toss_29 rfl (lv_at hl 1 rfl) ?_
      obtain ⟨u3, hu3, hf⟩ := z_bd_u hf
      refine zc_MVv (As := [.int a2, .int a1]) (rest := []) (wr := []) (wsc := moW ac q 0 row un kp mt ps bx mo su wy wa od py ju pl rs) (wsc' := moW ac q 0 row un kp mt ps u3.1 u3.2 su wy wa od py ju pl rs) hx hb hml hown htw (ctX8_startBy l D ac cs q H.size 0 row un kp mt ps bx mo su wy wa od py ju pl rs a2 a1   F u3 hu3) (g_V mM_RX8_343 mI_yX8_startBy mS_RX8_yX8_startBy_yX8_startBy mN_RX8 mC_yX8_startBy) rfl (hd_yX8_startBy) ⟨rfl, rfl⟩ ⟨(Nat.le_of_ble_eq_true rfl), (Nat.le_of_ble_eq_true rfl)⟩ hKX hC hS hA hP hD [0, 1, 2, 3, 4, 5, 6, 7, 8, 9, 10, 11, 12, 13, 14, 15, 16, 17, 18, 19, 20] [] rfl (by decide) rfl (by decide) (by decide) 8 rfl rfl rfl hl.1 rfl (Nat.le_of_ble_eq_true rfl) ⟨Nat.zero_le _, Nat.zero_le _⟩ dX8_toss_30 (fun H locs hP hD hS => ?_)
      have hP : va_P D vwCl (moW ac q 0 row un kp mt ps u3.1 u3.2 su wy wa od py ju pl rs) H := hP
      have hD : va_D A (moW ac q 0 row un kp mt ps u3.1 u3.2 su wy wa od py ju pl rs) := hD
      refine lv_aload_n hx hb dX8_toss_33 rfl (lv_at hl 0 rfl) ?_
      refine lv_iload_n hx hb dX8_toss_34 rfl (lv_at hl 1 rfl) ?_
      obtain ⟨u4, hu4, hf⟩ := z_bd_u hf
      refine zc_MVv (As := [.int a1]) (rest := []) (wr := []) (wsc := moW ac q 0 row un kp mt ps u3.1 u3.2 su wy wa od py ju pl rs) (wsc' := moW ac q 0 row un kp mt ps u3.1 u4.1 u4.2.1 u4.2.2.1 u4.2.2.2.1 u4.2.2.2.2 py ju pl rs) hx hb hml hown htw (ctX8_layOdds l D ac cs q H.size 0 row un kp mt ps u3.1 u3.2 su wy wa od py ju pl rs a1   F u4 hu4) (g_V mM_RX8_334 mI_yX8_layOdds mS_RX8_yX8_layOdds_yX8_layOdds mN_RX8 mC_yX8_layOdds) rfl (hd_yX8_layOdds) ⟨rfl, rfl⟩ ⟨(Nat.le_of_ble_eq_true rfl), (Nat.le_of_ble_eq_true rfl)⟩ hKX hC hS hA hP hD [0, 1, 2, 3, 4, 5, 6, 7, 8, 9, 10, 11, 12, 13, 14, 15, 16, 17, 18, 19, 20] [] rfl (by decide) rfl (by decide) (by decide) 8 rfl rfl rfl hl.1 rfl (Nat.le_of_ble_eq_true rfl) ⟨Nat.zero_le _, Nat.zero_le _⟩ dX8_toss_35 (fun H locs hP hD hS => ?_)
      have hP : va_P D vwCl (moW ac q 0 row un kp mt ps u3.1 u4.1 u4.2.1 u4.2.2.1 u4.2.2.2.1 u4.2.2.2.2 py ju pl rs) H := hP
      have hD : va_D A (moW ac q 0 row un kp mt ps u3.1 u4.1 u4.2.1 u4.2.2.1 u4.2.2.2.1 u4.2.2.2.2 py ju pl rs) := hD
      refine lv_aload_n hx hb dX8_toss_38 rfl (lv_at hl 0 rfl) ?_
      refine va_get (D := D) (ci := 8) (v := .long (od_upper u4.2.2.2.2)) (C := RX8) (T := TX8) (N := 41) hx hb htw WW_wsX80 hown hKX.1 hP 0 rfl rfl 31 (Nat.le_of_ble_eq_true rfl) (htw _ mF_RX8_278) (fun _ h9 => h9) rfl dX8_toss_39 ?_
      refine lv_topl (fun x5 hx5 => ?_)
      have hf := z_let_u hx5 hf
      refine lv_lstore_n (lv' := [(3, .long x5), (0, .ref (q 0)), (1, .int a1), (2, .int a2)]) hx hb dX8_toss_42 rfl hl (Nat.le_of_ble_eq_true rfl) rfl (fun ls hl => ?_)
      refine lv_aload_n hx hb dX8_toss_43 rfl (lv_at hl 1 rfl) ?_
      refine va_get (D := D) (ci := 8) (v := .long (od_under u4.2.2.2.2)) (C := RX8) (T := TX8) (N := 41) hx hb htw WW_wsX80 hown hKX.1 hP 0 rfl rfl 32 (Nat.le_of_ble_eq_true rfl) (htw _ mF_RX8_281) (fun _ h9 => h9) rfl dX8_toss_44 ?_
      refine lv_topl (fun x6 hx6 => ?_)
      have hf := z_let_u hx6 hf
      refine lv_lstore (lv' := [(5, .long x6), (3, .long x5), (0, .ref (q 0)), (1, .int a1), (2, .int a2)]) hx hb dX8_toss_47 hl (Nat.le_of_ble_eq_true rfl) rfl (fun ls hl => ?_)
      refine lv_aload_n hx hb dX8_toss_49 rfl (lv_at hl 2 rfl) ?_
      refine lv_iload_n hx hb dX8_toss_50 rfl (lv_at hl 4 rfl) ?_
      refine lv_iconst (v := 1) hx hb dX8_toss_51 rfl ?_
      refine lv_iload_n hx hb dX8_toss_52 rfl (lv_at hl 3 rfl) ?_
      refine lv_isub hx hb dX8_toss_53 ?_
      obtain ⟨u7, hu7, hf⟩ := z_bd_u hf
      refine zc_MVv (As := [.int a2, .int (1 - a1)]) (rest := []) (wr := []) (wsc := moW ac q 0 row un kp mt ps u3.1 u4.1 u4.2.1 u4.2.2.1 u4.2.2.2.1 u4.2.2.2.2 py ju pl rs) (wsc' := moW ac q 0 row un kp mt ps u7.1 u7.2 u4.2.1 u4.2.2.1 u4.2.2.2.1 u4.2.2.2.2 py ju pl rs) hx hb hml hown htw (ctX8_startBy l D ac cs q H.size 0 row un kp mt ps u3.1 u4.1 u4.2.1 u4.2.2.1 u4.2.2.2.1 u4.2.2.2.2 py ju pl rs a2 (1 - a1)   F u7 hu7) (g_V mM_RX8_343 mI_yX8_startBy mS_RX8_yX8_startBy_yX8_startBy mN_RX8 mC_yX8_startBy) rfl (hd_yX8_startBy) ⟨rfl, rfl⟩ ⟨(Nat.le_of_ble_eq_true rfl), (Nat.le_of_ble_eq_true rfl)⟩ hKX hC hS hA hP hD [0, 1, 2, 3, 4, 5, 6, 7, 8, 9, 10, 11, 12, 13, 14, 15, 16, 17, 18, 19, 20] [] rfl (by decide) rfl (by decide) (by decide) 8 rfl rfl rfl hl.1 rfl (Nat.le_of_ble_eq_true rfl) ⟨Nat.zero_le _, Nat.zero_le _⟩ dX8_toss_54 (fun H locs hP hD hS => ?_)
      have hP : va_P D vwCl (moW ac q 0 row un kp mt ps u7.1 u7.2 u4.2.1 u4.2.2.1 u4.2.2.2.1 u4.2.2.2.2 py ju pl rs) H := hP
      have hD : va_D A (moW ac q 0 row un kp mt ps u7.1 u7.2 u4.2.1 u4.2.2.1 u4.2.2.2.1 u4.2.2.2.2 py ju pl rs) := hD
      refine lv_aload_n hx hb dX8_toss_57 rfl (lv_at hl 2 rfl) ?_
      refine lv_iload_n hx hb dX8_toss_58 rfl (lv_at hl 3 rfl) ?_
      obtain ⟨u8, hu8, hf⟩ := z_bd_u hf
      refine zc_MVv (As := [.int a1]) (rest := []) (wr := []) (wsc := moW ac q 0 row un kp mt ps u7.1 u7.2 u4.2.1 u4.2.2.1 u4.2.2.2.1 u4.2.2.2.2 py ju pl rs) (wsc' := moW ac q 0 row un kp mt ps u7.1 u8.1 u8.2.1 u8.2.2.1 u8.2.2.2.1 u8.2.2.2.2 py ju pl rs) hx hb hml hown htw (ctX8_layOdds l D ac cs q H.size 0 row un kp mt ps u7.1 u7.2 u4.2.1 u4.2.2.1 u4.2.2.2.1 u4.2.2.2.2 py ju pl rs a1   F u8 hu8) (g_V mM_RX8_334 mI_yX8_layOdds mS_RX8_yX8_layOdds_yX8_layOdds mN_RX8 mC_yX8_layOdds) rfl (hd_yX8_layOdds) ⟨rfl, rfl⟩ ⟨(Nat.le_of_ble_eq_true rfl), (Nat.le_of_ble_eq_true rfl)⟩ hKX hC hS hA hP hD [0, 1, 2, 3, 4, 5, 6, 7, 8, 9, 10, 11, 12, 13, 14, 15, 16, 17, 18, 19, 20] [] rfl (by decide) rfl (by decide) (by decide) 8 rfl rfl rfl hl.1 rfl (Nat.le_of_ble_eq_true rfl) ⟨Nat.zero_le _, Nat.zero_le _⟩ dX8_toss_59 (fun H locs hP hD hS => ?_)
      have hP : va_P D vwCl (moW ac q 0 row un kp mt ps u7.1 u8.1 u8.2.1 u8.2.2.1 u8.2.2.2.1 u8.2.2.2.2 py ju pl rs) H := hP
      have hD : va_D A (moW ac q 0 row un kp mt ps u7.1 u8.1 u8.2.1 u8.2.2.1 u8.2.2.2.1 u8.2.2.2.2 py ju pl rs) := hD
      refine lv_lload_n hx hb dX8_toss_62 rfl (lv_at hl 1 rfl) ?_
      refine lv_lload hx hb dX8_toss_63 (lv_at hl 0 rfl) ?_
      refine lv_aload_n hx hb dX8_toss_65 rfl (lv_at hl 2 rfl) ?_
      refine va_get (D := D) (ci := 8) (v := .long (od_upper u8.2.2.2.2)) (C := RX8) (T := TX8) (N := 41) hx hb htw WW_wsX80 hown hKX.1 hP 0 rfl rfl 31 (Nat.le_of_ble_eq_true rfl) (htw _ mF_RX8_278) (fun _ h9 => h9) rfl dX8_toss_66 ?_
      refine lv_aload_n hx hb dX8_toss_69 rfl (lv_at hl 2 rfl) ?_
      refine va_get (D := D) (ci := 8) (v := .long (od_under u8.2.2.2.2)) (C := RX8) (T := TX8) (N := 41) hx hb htw WW_wsX80 hown hKX.1 hP 0 rfl rfl 32 (Nat.le_of_ble_eq_true rfl) (htw _ mF_RX8_281) (fun _ h9 => h9) rfl dX8_toss_70 ?_
      obtain ⟨r9, hr9, hf⟩ := z_bd_u hf
      refine zc_RSi (As := [.long x5, .long x6, .long (od_upper u8.2.2.2.2), .long (od_under u8.2.2.2.2)]) (rest := []) hx hb hml hown htw (ctX8_against l D ac cs   x5 x6 (od_upper u8.2.2.2.2) (od_under u8.2.2.2.2)   F _ hr9) (g_S mM_RX8_349 mT_yX8_against mN_RX8 mC_yX8_against) (hd_yX8_against) ⟨rfl, rfl⟩ ⟨(Nat.le_of_ble_eq_true rfl), (Nat.le_of_ble_eq_true rfl)⟩ hKX hC hS zP0 rfl hl.1 rfl (Nat.le_of_ble_eq_true rfl) ⟨Nat.zero_le _, Nat.zero_le _⟩ dX8_toss_73 ?_
      refine lv_istore (lv' := [(7, .int r9), (5, .long x6), (3, .long x5), (0, .ref (q 0)), (1, .int a1), (2, .int a2)]) hx hb dX8_toss_76 hl (Nat.le_of_ble_eq_true rfl) rfl (fun ls hl => ?_)
      refine lv_iload hx hb dX8_toss_78 (lv_at hl 0 rfl) ?_
      refine lv_if_le (tgt := 87) hx hb dX8_toss_80 (by decide) (fun c10 => ?_) (fun c10 => ?_)
      · have hf := z_p c10 hf
        refine lv_iload hx hb dX8_toss_87 (lv_at hl 0 rfl) ?_
        refine lv_if_ge (tgt := 96) hx hb dX8_toss_89 (by decide) (fun c11 => ?_) (fun c11 => ?_)
        · have hf := z_p c11 hf
          refine lv_iconst (v := 2) hx hb dX8_toss_96 rfl ?_
          obtain rfl := Option.some.inj hf
          exact zr_Mi hx hb hr hlocks hP hD hS dX8_toss_97
        · have hf := z_n c11 hf
          refine lv_iconst (v := 1) hx hb dX8_toss_92 rfl ?_
          refine lv_goto (tgt := 97) hx hb dX8_toss_93 (by decide) ?_
          obtain rfl := Option.some.inj hf
          exact zr_Mi hx hb hr hlocks hP hD hS dX8_toss_97
      · have hf := z_n c10 hf
        refine lv_iconst (v := 0) hx hb dX8_toss_83 rfl ?_
        refine lv_goto (tgt := 97) hx hb dX8_toss_84 (by decide) ?_
        obtain rfl := Option.some.inj hf
        exact zr_Mi hx hb hr hlocks hP hD hS dX8_toss_97
    · have hf := z_p c2 hf
      refine lv_iconst (v := (-1)) hx hb dX8_toss_25 rfl ?_
      obtain rfl := Option.some.inj hf
      exact zr_Mi hx hb hr hlocks hP hD hS dX8_toss_26

theorem hd_yX8_layStart : hdY yX8_layStart 0 := by decide +kernel
def M_layStart (F : Nat) (row : MRow) (bx : Bx) (mo : Mo) (wy : Wy) (wa : Wa) : Option (Bx × Mo × Wy × Wa) := z_bd (M_begin F row bx mo) (fun u1 : Bx × Mo => z_bd (M_layWays F row u1.1 u1.2 wy wa) (fun u2 : Mo × Wy × Wa => some (u1.1, u2.1, u2.2.1, u2.2.2)))
set_option maxHeartbeats 4000000 in
set_option maxRecDepth 100000 in
theorem ctX8_layStart (l : Launch) (D : va_G) (ac cs : Nat → Nat) (q : Nat → Nat) (sz : Nat) (th : Th) (row : MRow) (un : Un) (kp : Kp) (mt : Mt) (ps : Ps) (bx : Bx) (mo : Mo) (su : Su) (wy : Wy) (wa : Wa) (od : Od) (py : Py) (ju : Ju) (pl : Pl) (rs : Rs) (F : Nat) (res : Bx × Mo × Wy × Wa) (hf : M_layStart F row bx mo wy wa = some res) : Met l yX8_layStart (cWW yX8_layStart cX8_layStart 1 none) { frames := 5, cells := 0, slots := 0, locals := 114 } (zM D ac cs [.ref (q 0)] (moW ac q th row un kp mt ps bx mo su wy wa od py ju pl rs) sz) (va_Qv (fun _ : Unit => True) (fun _ => zB D (va_A (moW ac q th row un kp mt ps bx mo su wy wa od py ju pl rs) sz) (moW ac q th row un kp mt ps res.1 res.2.1 su res.2.2.1 res.2.2.2 od py ju pl rs)) (va_A (moW ac q th row un kp mt ps bx mo su wy wa od py ju pl rs) sz)) 0 0 (va_A (moW ac q th row un kp mt ps bx mo su wy wa od py ju pl rs) sz) := by
  refine Met.ofW (cc := cX8_layStart) (maxL := 1) (ret := none) (by decide) rfl ?_
  intro p e s m args below meth c s₁ B hml hv
  obtain ⟨rfl, hsz, hP, hKX, hD0, hC⟩ := hv
  have hx := B.exec
  have hb := B.bytes
  have hr := B.returns
  have hts := atoms_spec (ws := cWW yX8_layStart cX8_layStart 1 none) B.pre
  have htw : ∀ w ∈ WW, w.before _ s = true := fun w h => hts w (List.mem_cons_of_mem _ h)
  have hown : s.vm.findClass RX8 = some m.cls := findClass_of_methodNamed B.named
  have hlocks := B.notSynchronized
  clear hts B
  subst hsz
  have hD := hD0.self (sz := s.heap.size)
  generalize hAe : va_A (moW ac q th row un kp mt ps bx mo su wy wa od py ju pl rs) s.heap.size = A at hD hC ⊢
  have hA : ∀ q : Nat, s.heap.size ≤ q → A q := fun q h => by rw [← hAe]; exact Or.inr h
  have hS : va_S A s.heap s.heap [] := va_S.rf
  clear hD0 hAe
  have hP : va_P D vwCl (moW ac q th row un kp mt ps bx mo su wy wa od py ju pl rs) s.heap := hP
  have hl := lv_entry ([.ref (q 0)]) (n := 1) (Nat.le_of_ble_eq_true rfl)
  rw [lg_entry_eq]
  generalize (lg_sl ([.ref (q 0)]) ++ List.replicate (1 - (lg_sl ([.ref (q 0)])).length) Slot.unset).toArray = ls at hl ⊢
  have hl : lv_has ls 1 [(0, .ref (q 0))] := hl
  unfold M_layStart at hf
  show W p l e ({ frames := 5, cells := 0, slots := 0, locals := 114 } : Room) s m _ below meth c s.heap [] 0 0 _ (F0 m 0 ls [])
  refine lv_aload_n hx hb dX8_layStart_0 rfl (lv_at hl 0 rfl) ?_
  obtain ⟨u1, hu1, hf⟩ := z_bd_u hf
  refine zc_MVv (As := []) (rest := []) (wr := []) (wsc := moW ac q th row un kp mt ps bx mo su wy wa od py ju pl rs) (wsc' := moW ac q th row un kp mt ps u1.1 u1.2 su wy wa od py ju pl rs) hx hb hml hown htw (ctX8_begin l D ac cs q s.heap.size th row un kp mt ps bx mo su wy wa od py ju pl rs    F u1 hu1) (g_V mM_RX8_211 mI_yX8_begin mS_RX8_yX8_begin_yX8_begin mN_RX8 mC_yX8_begin) rfl (hd_yX8_begin) ⟨rfl, rfl⟩ ⟨(Nat.le_of_ble_eq_true rfl), (Nat.le_of_ble_eq_true rfl)⟩ hKX hC hS hA hP hD [0, 1, 2, 3, 4, 5, 6, 7, 8, 9, 10, 11, 12, 13, 14, 15, 16, 17, 18, 19, 20] [] rfl (by decide) rfl (by decide) (by decide) 8 rfl rfl rfl hl.1 rfl (Nat.le_of_ble_eq_true rfl) ⟨Nat.zero_le _, Nat.zero_le _⟩ dX8_layStart_1 (fun H locs hP hD hS => ?_)
  have hP : va_P D vwCl (moW ac q th row un kp mt ps u1.1 u1.2 su wy wa od py ju pl rs) H := hP
  have hD : va_D A (moW ac q th row un kp mt ps u1.1 u1.2 su wy wa od py ju pl rs) := hD
  refine lv_aload_n hx hb dX8_layStart_4 rfl (lv_at hl 0 rfl) ?_
  obtain ⟨u2, hu2, hf⟩ := z_bd_u hf
  refine zc_MVv (As := []) (rest := []) (wr := []) (wsc := moW ac q th row un kp mt ps u1.1 u1.2 su wy wa od py ju pl rs) (wsc' := moW ac q th row un kp mt ps u1.1 u2.1 su u2.2.1 u2.2.2 od py ju pl rs) hx hb hml hown htw (ctX8_layWays l D ac cs q H.size th row un kp mt ps u1.1 u1.2 su wy wa od py ju pl rs    F u2 hu2) (g_V mM_RX8_287 mI_yX8_layWays mS_RX8_yX8_layWays_yX8_layWays mN_RX8 mC_yX8_layWays) rfl (hd_yX8_layWays) ⟨rfl, rfl⟩ ⟨(Nat.le_of_ble_eq_true rfl), (Nat.le_of_ble_eq_true rfl)⟩ hKX hC hS hA hP hD [0, 1, 2, 3, 4, 5, 6, 7, 8, 9, 10, 11, 12, 13, 14, 15, 16, 17, 18, 19, 20] [] rfl (by decide) rfl (by decide) (by decide) 8 rfl rfl rfl hl.1 rfl (Nat.le_of_ble_eq_true rfl) ⟨Nat.zero_le _, Nat.zero_le _⟩ dX8_layStart_5 (fun H locs hP hD hS => ?_)
  have hP : va_P D vwCl (moW ac q th row un kp mt ps u1.1 u2.1 su u2.2.1 u2.2.2 od py ju pl rs) H := hP
  have hD : va_D A (moW ac q th row un kp mt ps u1.1 u2.1 su u2.2.1 u2.2.2 od py ju pl rs) := hD
  obtain rfl := Option.some.inj hf
  exact zr_Mv hx hb hr hlocks hP hD hS dX8_layStart_8

theorem hd_yX8_ends : hdY yX8_ends 1 := by decide +kernel
def M_ends (F : Nat) (row : MRow) (bx : Bx) (mo : Mo) (wy : Wy) (wa : Wa) (a1 : Int32) : Option (Int64 × Th × Bx × Mo × Wy × Wa) := if M_isTold row = 0 then (some ((-1), 0, bx, mo, wy, wa)) else (if M_in a1.toInt64 0 (2 * ((M_n row).toInt64)) = 0 then (some ((-1), 0, bx, mo, wy, wa)) else (z_bd (M_layStart F row bx mo wy wa) (fun u3 : Bx × Mo × Wy × Wa => z_gd (z_in a1 11) (some (((wy_endWays u3.2.2.1) a1.toNatClampNeg), 0, u3.1, u3.2.1, u3.2.2.1, u3.2.2.2)))))
set_option maxHeartbeats 4000000 in
set_option maxRecDepth 100000 in
theorem ctX8_ends (l : Launch) (D : va_G) (ac cs : Nat → Nat) (q : Nat → Nat) (sz : Nat) (th : Th) (row : MRow) (un : Un) (kp : Kp) (mt : Mt) (ps : Ps) (bx : Bx) (mo : Mo) (su : Su) (wy : Wy) (wa : Wa) (od : Od) (py : Py) (ju : Ju) (pl : Pl) (rs : Rs) (a1 : Int32) (F : Nat) (res : Int64 × Th × Bx × Mo × Wy × Wa) (hf : M_ends F row bx mo wy wa a1 = some res) : Met l yX8_ends (cWW yX8_ends cX8_ends 2 (some .long)) { frames := 6, cells := 0, slots := 0, locals := 134 } (zM D ac cs [.ref (q 0), .int a1] (moW ac q th row un kp mt ps bx mo su wy wa od py ju pl rs) sz) (va_Ql (fun r (_ : Unit) => r = res.1) (fun _ => zB D (va_A (moW ac q th row un kp mt ps bx mo su wy wa od py ju pl rs) sz) (moW ac q res.2.1 row un kp mt ps res.2.2.1 res.2.2.2.1 su res.2.2.2.2.1 res.2.2.2.2.2 od py ju pl rs)) (va_A (moW ac q th row un kp mt ps bx mo su wy wa od py ju pl rs) sz)) 0 0 (va_A (moW ac q th row un kp mt ps bx mo su wy wa od py ju pl rs) sz) := by
  refine Met.ofW (cc := cX8_ends) (maxL := 2) (ret := (some .long)) (by decide) rfl ?_
  intro p e s m args below meth c s₁ B hml hv
  obtain ⟨rfl, hsz, hP, hKX, hD0, hC⟩ := hv
  have hx := B.exec
  have hb := B.bytes
  have hr := B.returns
  have hts := atoms_spec (ws := cWW yX8_ends cX8_ends 2 (some .long)) B.pre
  have htw : ∀ w ∈ WW, w.before _ s = true := fun w h => hts w (List.mem_cons_of_mem _ h)
  have hown : s.vm.findClass RX8 = some m.cls := findClass_of_methodNamed B.named
  have hlocks := B.notSynchronized
  clear hts B
  subst hsz
  have hD := hD0.self (sz := s.heap.size)
  generalize hAe : va_A (moW ac q th row un kp mt ps bx mo su wy wa od py ju pl rs) s.heap.size = A at hD hC ⊢
  have hA : ∀ q : Nat, s.heap.size ≤ q → A q := fun q h => by rw [← hAe]; exact Or.inr h
  have hS : va_S A s.heap s.heap [] := va_S.rf
  clear hD0 hAe
  have hP : va_P D vwCl (moW ac q th row un kp mt ps bx mo su wy wa od py ju pl rs) s.heap := hP
  have hl := lv_entry ([.ref (q 0), .int a1]) (n := 2) (Nat.le_of_ble_eq_true rfl)
  rw [lg_entry_eq]
  generalize (lg_sl ([.ref (q 0), .int a1]) ++ List.replicate (2 - (lg_sl ([.ref (q 0), .int a1])).length) Slot.unset).toArray = ls at hl ⊢
  have hl : lv_has ls 2 [(0, .ref (q 0)), (1, .int a1)] := hl
  unfold M_ends at hf
  show W p l e ({ frames := 6, cells := 0, slots := 0, locals := 134 } : Room) s m _ below meth c s.heap [] 0 0 _ (F0 m 0 ls [])
  refine lv_aload_n hx hb dX8_ends_0 rfl (lv_at hl 0 rfl) ?_
  refine lv_iconst (v := 0) hx hb dX8_ends_1 rfl ?_
  refine va_put (D := D) (ci := 8) (v := .int 0) (ty := tyX8 0) (C := RX8) (T := TX8) (N := 41) hx hb htw WW_wsX80 tyX8 tyX8_ok nmX8 hown hKX.1 hP hD hS 0 rfl rfl 0 (Nat.le_of_ble_eq_true rfl) (htw _ mF_RX8_75) (fun _ h9 => h9) rfl (tyX8_ok 0 (Nat.le_of_ble_eq_true rfl)) rfl rfl (Nat.le_of_ble_eq_true rfl) dX8_ends_2 (fun H locs hP hD hS => ?_)
  have hP : va_P D vwCl (moW ac q 0 row un kp mt ps bx mo su wy wa od py ju pl rs) H := hP
  have hD : va_D A (moW ac q 0 row un kp mt ps bx mo su wy wa od py ju pl rs) := hD
  refine lv_aload_n hx hb dX8_ends_5 rfl (lv_at hl 0 rfl) ?_
  refine zc_RVi (As := []) (rest := []) hx hb hml hown htw (ctX8_isTold l D ac cs q 0 row un kp mt ps bx mo su wy wa od py ju pl rs    _ rfl) (g_V mM_RX8_83 mI_yX8_isTold mS_RX8_yX8_isTold_yX8_isTold mN_RX8 mC_yX8_isTold) rfl (hd_yX8_isTold) ⟨rfl, rfl⟩ ⟨(Nat.le_of_ble_eq_true rfl), (Nat.le_of_ble_eq_true rfl)⟩ hKX hC hS hP 8 rfl rfl rfl hl.1 rfl (Nat.le_of_ble_eq_true rfl) ⟨Nat.zero_le _, Nat.zero_le _⟩ dX8_ends_6 ?_
  refine lv_if_eq (tgt := 30) hx hb dX8_ends_9 (by decide) (fun c1 => ?_) (fun c1 => ?_)
  · have hf := z_p c1 hf
    refine lv_ldc2 (v := (-1)) hx hb hown (htw _ mG_RX8_332) dX8_ends_30 ?_
    obtain rfl := Option.some.inj hf
    exact zr_Ml hx hb hr hlocks hP hD hS dX8_ends_33
  · have hf := z_n c1 hf
    refine lv_iload_n hx hb dX8_ends_12 rfl (lv_at hl 1 rfl) ?_
    refine lv_i2l hx hb dX8_ends_13 rfl ?_
    refine lv_lconst (v := 0) hx hb dX8_ends_14 rfl ?_
    refine lv_ldc2 (v := 2) hx hb hown (htw _ mG_RX8_353) dX8_ends_15 ?_
    refine lv_aload_n hx hb dX8_ends_18 rfl (lv_at hl 0 rfl) ?_
    refine zc_RVi (As := []) (rest := [.long 2, .long 0, .long a1.toInt64]) hx hb hml hown htw (ctX8_n l D ac cs q 0 row un kp mt ps bx mo su wy wa od py ju pl rs    _ rfl) (g_V mM_RX8_190 mI_yX8_n mS_RX8_yX8_n_yX8_n mN_RX8 mC_yX8_n) rfl (hd_yX8_n) ⟨rfl, rfl⟩ ⟨(Nat.le_of_ble_eq_true rfl), (Nat.le_of_ble_eq_true rfl)⟩ hKX hC hS hP 8 rfl rfl rfl hl.1 rfl (Nat.le_of_ble_eq_true rfl) ⟨Nat.zero_le _, Nat.zero_le _⟩ dX8_ends_19 ?_
    refine lv_i2l hx hb dX8_ends_22 rfl ?_
    refine lv_lmul hx hb dX8_ends_23 ?_
    refine zc_RSi (As := [.long a1.toInt64, .long 0, .long (2 * ((M_n row).toInt64))]) (rest := []) hx hb hml hown htw (ctX8_in l D ac cs   a1.toInt64 0 (2 * ((M_n row).toInt64))   _ rfl) (g_S mM_RX8_79 mT_yX8_in mN_RX8 mC_yX8_in) (hd_yX8_in) ⟨rfl, rfl⟩ ⟨(Nat.le_of_ble_eq_true rfl), (Nat.le_of_ble_eq_true rfl)⟩ hKX hC hS zP0 rfl hl.1 rfl (Nat.le_of_ble_eq_true rfl) ⟨Nat.zero_le _, Nat.zero_le _⟩ dX8_ends_24 ?_
    refine lv_if_ne (tgt := 34) hx hb dX8_ends_27 (by decide) (fun c2 => ?_) (fun c2 => ?_)
    · have hf := z_n c2 hf
      refine lv_aload_n hx hb dX8_ends_34 rfl (lv_at hl 0 rfl) ?_
      obtain ⟨u3, hu3, hf⟩ := z_bd_u hf
      refine zc_MVv (As := []) (rest := []) (wr := []) (wsc := moW ac q 0 row un kp mt ps bx mo su wy wa od py ju pl rs) (wsc' := moW ac q 0 row un kp mt ps u3.1 u3.2.1 su u3.2.2.1 u3.2.2.2 od py ju pl rs) hx hb hml hown htw (ctX8_layStart l D ac cs q H.size 0 row un kp mt ps bx mo su wy wa od py ju pl rs    F u3 hu3) (g_V mM_RX8_355 mI_yX8_layStart mS_RX8_yX8_layStart_yX8_layStart mN_RX8 mC_yX8_layStart) rfl (hd_yX8_layStart) ⟨rfl, rfl⟩ ⟨(Nat.le_of_ble_eq_true rfl), (Nat.le_of_ble_eq_true rfl)⟩ hKX hC hS hA hP hD [0, 1, 2, 3, 4, 5, 6, 7, 8, 9, 10, 11, 12, 13, 14, 15, 16, 17, 18, 19, 20] [] rfl (by decide) rfl (by decide) (by decide) 8 rfl rfl rfl hl.1 rfl (Nat.le_of_ble_eq_true rfl) ⟨Nat.zero_le _, Nat.zero_le _⟩ dX8_ends_35 (fun H locs hP hD hS => ?_)
      have hP : va_P D vwCl (moW ac q 0 row un kp mt ps u3.1 u3.2.1 su u3.2.2.1 u3.2.2.2 od py ju pl rs) H := hP
      have hD : va_D A (moW ac q 0 row un kp mt ps u3.1 u3.2.1 su u3.2.2.1 u3.2.2.2 od py ju pl rs) := hD
      refine lv_aload_n hx hb dX8_ends_38 rfl (lv_at hl 0 rfl) ?_
      refine va_get (D := D) (ci := 8) (v := .ref (q 13)) (C := RX8) (T := TX8) (N := 41) hx hb htw WW_wsX80 hown hKX.1 hP 0 rfl rfl 27 (Nat.le_of_ble_eq_true rfl) (htw _ mF_RX8_51) (fun _ h9 => h9) rfl dX8_ends_39 ?_
      refine lv_iload_n hx hb dX8_ends_42 rfl (lv_at hl 1 rfl) ?_
      obtain ⟨g4, hf⟩ := z_gd_u hf
      refine va_lald hx hb hKX.1 hP 13 1 rfl rfl (z_in_u g4) dX8_ends_43 ?_
      obtain rfl := Option.some.inj hf
      exact zr_Ml hx hb hr hlocks hP hD hS dX8_ends_44
    · have hf := z_p c2 hf
      refine lv_ldc2 (v := (-1)) hx hb hown (htw _ mG_RX8_332) dX8_ends_30 ?_
      obtain rfl := Option.some.inj hf
      exact zr_Ml hx hb hr hlocks hP hD hS dX8_ends_33

theorem hd_yX8_score : hdY yX8_score 2 := by decide +kernel
def M_score (F : Nat) (row : MRow) (bx : Bx) (mo : Mo) (wy : Wy) (wa : Wa) (a1 : Int32) (a2 : Int32) : Option (Int64 × Th × Bx × Mo × Wy × Wa) := if M_isTold row = 0 then (some ((-1), 0, bx, mo, wy, wa)) else (if M_in a1.toInt64 0 ((M_n row).toInt64) = 0 then (some ((-1), 0, bx, mo, wy, wa)) else (if M_in a2.toInt64 0 ((M_n row).toInt64) = 0 then (some ((-1), 0, bx, mo, wy, wa)) else (z_bd (M_layStart F row bx mo wy wa) (fun u4 : Bx × Mo × Wy × Wa => z_gd (z_in ((6 * a1) + a2) 36) (some (((wy_scoreWays u4.2.2.1) ((6 * a1) + a2).toNatClampNeg), 0, u4.1, u4.2.1, u4.2.2.1, u4.2.2.2))))))
set_option maxHeartbeats 4000000 in
set_option maxRecDepth 100000 in
theorem ctX8_score (l : Launch) (D : va_G) (ac cs : Nat → Nat) (q : Nat → Nat) (sz : Nat) (th : Th) (row : MRow) (un : Un) (kp : Kp) (mt : Mt) (ps : Ps) (bx : Bx) (mo : Mo) (su : Su) (wy : Wy) (wa : Wa) (od : Od) (py : Py) (ju : Ju) (pl : Pl) (rs : Rs) (a1 : Int32) (a2 : Int32) (F : Nat) (res : Int64 × Th × Bx × Mo × Wy × Wa) (hf : M_score F row bx mo wy wa a1 a2 = some res) : Met l yX8_score (cWW yX8_score cX8_score 3 (some .long)) { frames := 6, cells := 0, slots := 0, locals := 134 } (zM D ac cs [.ref (q 0), .int a1, .int a2] (moW ac q th row un kp mt ps bx mo su wy wa od py ju pl rs) sz) (va_Ql (fun r (_ : Unit) => r = res.1) (fun _ => zB D (va_A (moW ac q th row un kp mt ps bx mo su wy wa od py ju pl rs) sz) (moW ac q res.2.1 row un kp mt ps res.2.2.1 res.2.2.2.1 su res.2.2.2.2.1 res.2.2.2.2.2 od py ju pl rs)) (va_A (moW ac q th row un kp mt ps bx mo su wy wa od py ju pl rs) sz)) 0 0 (va_A (moW ac q th row un kp mt ps bx mo su wy wa od py ju pl rs) sz) := by
  refine Met.ofW (cc := cX8_score) (maxL := 3) (ret := (some .long)) (by decide) rfl ?_
  intro p e s m args below meth c s₁ B hml hv
  obtain ⟨rfl, hsz, hP, hKX, hD0, hC⟩ := hv
  have hx := B.exec
  have hb := B.bytes
  have hr := B.returns
  have hts := atoms_spec (ws := cWW yX8_score cX8_score 3 (some .long)) B.pre
  have htw : ∀ w ∈ WW, w.before _ s = true := fun w h => hts w (List.mem_cons_of_mem _ h)
  have hown : s.vm.findClass RX8 = some m.cls := findClass_of_methodNamed B.named
  have hlocks := B.notSynchronized
  clear hts B
  subst hsz
  have hD := hD0.self (sz := s.heap.size)
  generalize hAe : va_A (moW ac q th row un kp mt ps bx mo su wy wa od py ju pl rs) s.heap.size = A at hD hC ⊢
  have hA : ∀ q : Nat, s.heap.size ≤ q → A q := fun q h => by rw [← hAe]; exact Or.inr h
  have hS : va_S A s.heap s.heap [] := va_S.rf
  clear hD0 hAe
  have hP : va_P D vwCl (moW ac q th row un kp mt ps bx mo su wy wa od py ju pl rs) s.heap := hP
  have hl := lv_entry ([.ref (q 0), .int a1, .int a2]) (n := 3) (Nat.le_of_ble_eq_true rfl)
  rw [lg_entry_eq]
  generalize (lg_sl ([.ref (q 0), .int a1, .int a2]) ++ List.replicate (3 - (lg_sl ([.ref (q 0), .int a1, .int a2])).length) Slot.unset).toArray = ls at hl ⊢
  have hl : lv_has ls 3 [(0, .ref (q 0)), (1, .int a1), (2, .int a2)] := hl
  unfold M_score at hf
  show W p l e ({ frames := 6, cells := 0, slots := 0, locals := 134 } : Room) s m _ below meth c s.heap [] 0 0 _ (F0 m 0 ls [])
  refine lv_aload_n hx hb dX8_score_0 rfl (lv_at hl 0 rfl) ?_
  refine lv_iconst (v := 0) hx hb dX8_score_1 rfl ?_
  refine va_put (D := D) (ci := 8) (v := .int 0) (ty := tyX8 0) (C := RX8) (T := TX8) (N := 41) hx hb htw WW_wsX80 tyX8 tyX8_ok nmX8 hown hKX.1 hP hD hS 0 rfl rfl 0 (Nat.le_of_ble_eq_true rfl) (htw _ mF_RX8_75) (fun _ h9 => h9) rfl (tyX8_ok 0 (Nat.le_of_ble_eq_true rfl)) rfl rfl (Nat.le_of_ble_eq_true rfl) dX8_score_2 (fun H locs hP hD hS => ?_)
  have hP : va_P D vwCl (moW ac q 0 row un kp mt ps bx mo su wy wa od py ju pl rs) H := hP
  have hD : va_D A (moW ac q 0 row un kp mt ps bx mo su wy wa od py ju pl rs) := hD
  refine lv_aload_n hx hb dX8_score_5 rfl (lv_at hl 0 rfl) ?_
  refine zc_RVi (As := []) (rest := []) hx hb hml hown htw (ctX8_isTold l D ac cs q 0 row un kp mt ps bx mo su wy wa od py ju pl rs    _ rfl) (g_V mM_RX8_83 mI_yX8_isTold mS_RX8_yX8_isTold_yX8_isTold mN_RX8 mC_yX8_isTold) rfl (hd_yX8_isTold) ⟨rfl, rfl⟩ ⟨(Nat.le_of_ble_eq_true rfl), (Nat.le_of_ble_eq_true rfl)⟩ hKX hC hS hP 8 rfl rfl rfl hl.1 rfl (Nat.le_of_ble_eq_true rfl) ⟨Nat.zero_le _, Nat.zero_le _⟩ dX8_score_6 ?_
  refine lv_if_eq (tgt := 40) hx hb dX8_score_9 (by decide) (fun c1 => ?_) (fun c1 => ?_)
  · have hf := z_p c1 hf
    refine lv_ldc2 (v := (-1)) hx hb hown (htw _ mG_RX8_332) dX8_score_40 ?_
    obtain rfl := Option.some.inj hf
    exact zr_Ml hx hb hr hlocks hP hD hS dX8_score_43
  · have hf := z_n c1 hf
    refine lv_iload_n hx hb dX8_score_12 rfl (lv_at hl 1 rfl) ?_
    refine lv_i2l hx hb dX8_score_13 rfl ?_
    refine lv_lconst (v := 0) hx hb dX8_score_14 rfl ?_
    refine lv_aload_n hx hb dX8_score_15 rfl (lv_at hl 0 rfl) ?_
    refine zc_RVi (As := []) (rest := [.long 0, .long a1.toInt64]) hx hb hml hown htw (ctX8_n l D ac cs q 0 row un kp mt ps bx mo su wy wa od py ju pl rs    _ rfl) (g_V mM_RX8_190 mI_yX8_n mS_RX8_yX8_n_yX8_n mN_RX8 mC_yX8_n) rfl (hd_yX8_n) ⟨rfl, rfl⟩ ⟨(Nat.le_of_ble_eq_true rfl), (Nat.le_of_ble_eq_true rfl)⟩ hKX hC hS hP 8 rfl rfl rfl hl.1 rfl (Nat.le_of_ble_eq_true rfl) ⟨Nat.zero_le _, Nat.zero_le _⟩ dX8_score_16 ?_
    refine lv_i2l hx hb dX8_score_19 rfl ?_
    refine zc_RSi (As := [.long a1.toInt64, .long 0, .long ((M_n row).toInt64)]) (rest := []) hx hb hml hown htw (ctX8_in l D ac cs   a1.toInt64 0 ((M_n row).toInt64)   _ rfl) (g_S mM_RX8_79 mT_yX8_in mN_RX8 mC_yX8_in) (hd_yX8_in) ⟨rfl, rfl⟩ ⟨(Nat.le_of_ble_eq_true rfl), (Nat.le_of_ble_eq_true rfl)⟩ hKX hC hS zP0 rfl hl.1 rfl (Nat.le_of_ble_eq_true rfl) ⟨Nat.zero_le _, Nat.zero_le _⟩ dX8_score_20 ?_
    refine lv_if_eq (tgt := 40) hx hb dX8_score_23 (by decide) (fun c2 => ?_) (fun c2 => ?_)
    · have hf := z_p c2 hf
      refine lv_ldc2 (v := (-1)) hx hb hown (htw _ mG_RX8_332) dX8_score_40 ?_
      obtain rfl := Option.some.inj hf
      exact zr_Ml hx hb hr hlocks hP hD hS dX8_score_43
    · have hf := z_n c2 hf
      refine lv_iload_n hx hb dX8_score_26 rfl (lv_at hl 2 rfl) ?_
      refine lv_i2l hx hb dX8_score_27 rfl ?_
      refine lv_lconst (v := 0) hx hb dX8_score_28 rfl ?_
      refine lv_aload_n hx hb dX8_score_29 rfl (lv_at hl 0 rfl) ?_
      refine zc_RVi (As := []) (rest := [.long 0, .long a2.toInt64]) hx hb hml hown htw (ctX8_n l D ac cs q 0 row un kp mt ps bx mo su wy wa od py ju pl rs    _ rfl) (g_V mM_RX8_190 mI_yX8_n mS_RX8_yX8_n_yX8_n mN_RX8 mC_yX8_n) rfl (hd_yX8_n) ⟨rfl, rfl⟩ ⟨(Nat.le_of_ble_eq_true rfl), (Nat.le_of_ble_eq_true rfl)⟩ hKX hC hS hP 8 rfl rfl rfl hl.1 rfl (Nat.le_of_ble_eq_true rfl) ⟨Nat.zero_le _, Nat.zero_le _⟩ dX8_score_30 ?_
      refine lv_i2l hx hb dX8_score_33 rfl ?_
      refine zc_RSi (As := [.long a2.toInt64, .long 0, .long ((M_n row).toInt64)]) (rest := []) hx hb hml hown htw (ctX8_in l D ac cs   a2.toInt64 0 ((M_n row).toInt64)   _ rfl) (g_S mM_RX8_79 mT_yX8_in mN_RX8 mC_yX8_in) (hd_yX8_in) ⟨rfl, rfl⟩ ⟨(Nat.le_of_ble_eq_true rfl), (Nat.le_of_ble_eq_true rfl)⟩ hKX hC hS zP0 rfl hl.1 rfl (Nat.le_of_ble_eq_true rfl) ⟨Nat.zero_le _, Nat.zero_le _⟩ dX8_score_34 ?_
      refine lv_if_ne (tgt := 44) hx hb dX8_score_37 (by decide) (fun c3 => ?_) (fun c3 => ?_)
      · have hf := z_n c3 hf
        refine lv_aload_n hx hb dX8_score_44 rfl (lv_at hl 0 rfl) ?_
        obtain ⟨u4, hu4, hf⟩ := z_bd_u hf
        refine zc_MVv (As := []) (rest := []) (wr := []) (wsc := moW ac q 0 row un kp mt ps bx mo su wy wa od py ju pl rs) (wsc' := moW ac q 0 row un kp mt ps u4.1 u4.2.1 su u4.2.2.1 u4.2.2.2 od py ju pl rs) hx hb hml hown htw (ctX8_layStart l D ac cs q H.size 0 row un kp mt ps bx mo su wy wa od py ju pl rs    F u4 hu4) (g_V mM_RX8_355 mI_yX8_layStart mS_RX8_yX8_layStart_yX8_layStart mN_RX8 mC_yX8_layStart) rfl (hd_yX8_layStart) ⟨rfl, rfl⟩ ⟨(Nat.le_of_ble_eq_true rfl), (Nat.le_of_ble_eq_true rfl)⟩ hKX hC hS hA hP hD [0, 1, 2, 3, 4, 5, 6, 7, 8, 9, 10, 11, 12, 13, 14, 15, 16, 17, 18, 19, 20] [] rfl (by decide) rfl (by decide) (by decide) 8 rfl rfl rfl hl.1 rfl (Nat.le_of_ble_eq_true rfl) ⟨Nat.zero_le _, Nat.zero_le _⟩ dX8_score_45 (fun H locs hP hD hS => ?_)
        have hP : va_P D vwCl (moW ac q 0 row un kp mt ps u4.1 u4.2.1 su u4.2.2.1 u4.2.2.2 od py ju pl rs) H := hP
        have hD : va_D A (moW ac q 0 row un kp mt ps u4.1 u4.2.1 su u4.2.2.1 u4.2.2.2 od py ju pl rs) := hD
        refine lv_aload_n hx hb dX8_score_48 rfl (lv_at hl 0 rfl) ?_
        refine va_get (D := D) (ci := 8) (v := .ref (q 14)) (C := RX8) (T := TX8) (N := 41) hx hb htw WW_wsX80 hown hKX.1 hP 0 rfl rfl 28 (Nat.le_of_ble_eq_true rfl) (htw _ mF_RX8_54) (fun _ h9 => h9) rfl dX8_score_49 ?_
        refine lv_bipush (v := 6) hx hb dX8_score_52 rfl ?_
        refine lv_iload_n hx hb dX8_score_54 rfl (lv_at hl 1 rfl) ?_
        refine lv_imul hx hb dX8_score_55 ?_
        refine lv_iload_n hx hb dX8_score_56 rfl (lv_at hl 2 rfl) ?_
        refine lv_iadd hx hb dX8_score_57 ?_
        obtain ⟨g5, hf⟩ := z_gd_u hf
        refine va_lald hx hb hKX.1 hP 14 1 rfl rfl (z_in_u g5) dX8_score_58 ?_
        obtain rfl := Option.some.inj hf
        exact zr_Ml hx hb hr hlocks hP hD hS dX8_score_59
      · have hf := z_p c3 hf
        refine lv_ldc2 (v := (-1)) hx hb hown (htw _ mG_RX8_332) dX8_score_40 ?_
        obtain rfl := Option.some.inj hf
        exact zr_Ml hx hb hr hlocks hP hD hS dX8_score_43

theorem hd_yX8_likely : hdY yX8_likely 0 := by decide +kernel
def M_likely_L22 (u2 : Bx × Mo × Wy × Wa) (kx8 : Int32 → Option (Int32 × Th × Bx × Mo × Wy × Wa)) : Nat → Int32 → Int32 → Option (Int32 × Th × Bx × Mo × Wy × Wa)
  | 0, _, _ => none
  | n6 + 1, x3, x4 => if 36 ≤ x4 then (kx8 x3) else (z_gd (z_in x4 36) (z_gd (z_in x3 36) (if (lg_cmp ((wy_scoreWays u2.2.2.1) x4.toNatClampNeg) ((wy_scoreWays u2.2.2.1) x3.toNatClampNeg)) ≤ 0 then (z_let (x4 + 1) (fun x14 : Int32 => M_likely_L22 u2 kx8 n6 x3 x14)) else (z_let (x4 + 1) (fun x15 : Int32 => M_likely_L22 u2 kx8 n6 x4 x15)))))
def M_likely (F : Nat) (row : MRow) (bx : Bx) (mo : Mo) (wy : Wy) (wa : Wa) : Option (Int32 × Th × Bx × Mo × Wy × Wa) := if M_isTold row = 0 then (some ((-1), 0, bx, mo, wy, wa)) else (z_bd (M_layStart F row bx mo wy wa) (fun u2 : Bx × Mo × Wy × Wa => M_likely_L22 u2 (fun (x9 : Int32) => some ((((x9 / 6) * 10) + (z_rem x9 6)), 0, u2.1, u2.2.1, u2.2.2.1, u2.2.2.2)) F 0 1))
set_option maxHeartbeats 4000000 in
set_option maxRecDepth 100000 in
theorem ctX8_likely (l : Launch) (D : va_G) (ac cs : Nat → Nat) (q : Nat → Nat) (sz : Nat) (th : Th) (row : MRow) (un : Un) (kp : Kp) (mt : Mt) (ps : Ps) (bx : Bx) (mo : Mo) (su : Su) (wy : Wy) (wa : Wa) (od : Od) (py : Py) (ju : Ju) (pl : Pl) (rs : Rs) (F : Nat) (res : Int32 × Th × Bx × Mo × Wy × Wa) (hf : M_likely F row bx mo wy wa = some res) : Met l yX8_likely (cWW yX8_likely cX8_likely 3 (some .int)) { frames := 6, cells := 0, slots := 0, locals := 134 } (zM D ac cs [.ref (q 0)] (moW ac q th row un kp mt ps bx mo su wy wa od py ju pl rs) sz) (va_Qi (fun r (_ : Unit) => r = res.1) (fun _ => zB D (va_A (moW ac q th row un kp mt ps bx mo su wy wa od py ju pl rs) sz) (moW ac q res.2.1 row un kp mt ps res.2.2.1 res.2.2.2.1 su res.2.2.2.2.1 res.2.2.2.2.2 od py ju pl rs)) (va_A (moW ac q th row un kp mt ps bx mo su wy wa od py ju pl rs) sz)) 0 0 (va_A (moW ac q th row un kp mt ps bx mo su wy wa od py ju pl rs) sz) := by
  refine Met.ofW (cc := cX8_likely) (maxL := 3) (ret := (some .int)) (by decide) rfl ?_
  intro p e s m args below meth c s₁ B hml hv
  obtain ⟨rfl, hsz, hP, hKX, hD0, hC⟩ := hv
  have hx := B.exec
  have hb := B.bytes
  have hr := B.returns
  have hts := atoms_spec (ws := cWW yX8_likely cX8_likely 3 (some .int)) B.pre
  have htw : ∀ w ∈ WW, w.before _ s = true := fun w h => hts w (List.mem_cons_of_mem _ h)
  have hown : s.vm.findClass RX8 = some m.cls := findClass_of_methodNamed B.named
  have hlocks := B.notSynchronized
  clear hts B
  subst hsz
  have hD := hD0.self (sz := s.heap.size)
  generalize hAe : va_A (moW ac q th row un kp mt ps bx mo su wy wa od py ju pl rs) s.heap.size = A at hD hC ⊢
  have hA : ∀ q : Nat, s.heap.size ≤ q → A q := fun q h => by rw [← hAe]; exact Or.inr h
  have hS : va_S A s.heap s.heap [] := va_S.rf
  clear hD0 hAe
  have hP : va_P D vwCl (moW ac q th row un kp mt ps bx mo su wy wa od py ju pl rs) s.heap := hP
  have hl := lv_entry ([.ref (q 0)]) (n := 3) (Nat.le_of_ble_eq_true rfl)
  rw [lg_entry_eq]
  generalize (lg_sl ([.ref (q 0)]) ++ List.replicate (3 - (lg_sl ([.ref (q 0)])).length) Slot.unset).toArray = ls at hl ⊢
  have hl : lv_has ls 3 [(0, .ref (q 0))] := hl
  unfold M_likely at hf
  show W p l e ({ frames := 6, cells := 0, slots := 0, locals := 134 } : Room) s m _ below meth c s.heap [] 0 0 _ (F0 m 0 ls [])
  refine lv_aload_n hx hb dX8_likely_0 rfl (lv_at hl 0 rfl) ?_
  refine lv_iconst (v := 0) hx hb dX8_likely_1 rfl ?_
  refine va_put (D := D) (ci := 8) (v := .int 0) (ty := tyX8 0) (C := RX8) (T := TX8) (N := 41) hx hb htw WW_wsX80 tyX8 tyX8_ok nmX8 hown hKX.1 hP hD hS 0 rfl rfl 0 (Nat.le_of_ble_eq_true rfl) (htw _ mF_RX8_75) (fun _ h9 => h9) rfl (tyX8_ok 0 (Nat.le_of_ble_eq_true rfl)) rfl rfl (Nat.le_of_ble_eq_true rfl) dX8_likely_2 (fun H locs hP hD hS => ?_)
  have hP : va_P D vwCl (moW ac q 0 row un kp mt ps bx mo su wy wa od py ju pl rs) H := hP
  have hD : va_D A (moW ac q 0 row un kp mt ps bx mo su wy wa od py ju pl rs) := hD
  refine lv_aload_n hx hb dX8_likely_5 rfl (lv_at hl 0 rfl) ?_
  refine zc_RVi (As := []) (rest := []) hx hb hml hown htw (ctX8_isTold l D ac cs q 0 row un kp mt ps bx mo su wy wa od py ju pl rs    _ rfl) (g_V mM_RX8_83 mI_yX8_isTold mS_RX8_yX8_isTold_yX8_isTold mN_RX8 mC_yX8_isTold) rfl (hd_yX8_isTold) ⟨rfl, rfl⟩ ⟨(Nat.le_of_ble_eq_true rfl), (Nat.le_of_ble_eq_true rfl)⟩ hKX hC hS hP 8 rfl rfl rfl hl.1 rfl (Nat.le_of_ble_eq_true rfl) ⟨Nat.zero_le _, Nat.zero_le _⟩ dX8_likely_6 ?_
  refine lv_if_ne (tgt := 14) hx hb dX8_likely_9 (by decide) (fun c1 => ?_) (fun c1 => ?_)
  · have hf := z_n c1 hf
    refine lv_aload_n hx hb dX8_likely_14 rfl (lv_at hl 0 rfl) ?_
    obtain ⟨u2, hu2, hf⟩ := z_bd_u hf
    refine zc_MVv (As := []) (rest := []) (wr := []) (wsc := moW ac q 0 row un kp mt ps bx mo su wy wa od py ju pl rs) (wsc' := moW ac q 0 row un kp mt ps u2.1 u2.2.1 su u2.2.2.1 u2.2.2.2 od py ju pl rs) hx hb hml hown htw (ctX8_layStart l D ac cs q H.size 0 row un kp mt ps bx mo su wy wa od py ju pl rs    F u2 hu2) (g_V mM_RX8_355 mI_yX8_layStart mS_RX8_yX8_layStart_yX8_layStart mN_RX8 mC_yX8_layStart) rfl (hd_yX8_layStart) ⟨rfl, rfl⟩ ⟨(Nat.le_of_ble_eq_true rfl), (Nat.le_of_ble_eq_true rfl)⟩ hKX hC hS hA hP hD [0, 1, 2, 3, 4, 5, 6, 7, 8, 9, 10, 11, 12, 13, 14, 15, 16, 17, 18, 19, 20] [] rfl (by decide) rfl (by decide) (by decide) 8 rfl rfl rfl hl.1 rfl (Nat.le_of_ble_eq_true rfl) ⟨Nat.zero_le _, Nat.zero_le _⟩ dX8_likely_15 (fun H locs hP hD hS => ?_)
    have hP : va_P D vwCl (moW ac q 0 row un kp mt ps u2.1 u2.2.1 su u2.2.2.1 u2.2.2.2 od py ju pl rs) H := hP
    have hD : va_D A (moW ac q 0 row un kp mt ps u2.1 u2.2.1 su u2.2.2.1 u2.2.2.2 od py ju pl rs) := hD
    refine lv_iconst (v := 0) hx hb dX8_likely_18 rfl ?_
    refine lv_istore_n (lv' := [(1, .int 0), (0, .ref (q 0))]) hx hb dX8_likely_19 rfl hl (Nat.le_of_ble_eq_true rfl) rfl (fun ls hl => ?_)
    refine lv_iconst (v := 1) hx hb dX8_likely_20 rfl ?_
    refine lv_istore_n (lv' := [(2, .int 1), (1, .int 0), (0, .ref (q 0))]) hx hb dX8_likely_21 rfl hl (Nat.le_of_ble_eq_true rfl) rfl (fun ls hl => ?_)
    have hL5 : ∀ (kx8 : Int32 → Option (Int32 × Th × Bx × Mo × Wy × Wa)) (hkx8 : ∀ (x9 : Int32), kx8 x9 = some res → ∀ (H : Heap) (locs : List Loc) (ls : Array Slot), va_P D vwCl (moW ac q 0 row un kp mt ps u2.1 u2.2.1 su u2.2.2.1 u2.2.2.2 od py ju pl rs) H → va_D A (moW ac q 0 row un kp mt ps u2.1 u2.2.1 su u2.2.2.1 u2.2.2.2 od py ju pl rs) → va_S A s.heap H locs → lv_has ls 3 [(1, .int x9)] → W p l e ({ frames := 6, cells := 0, slots := 0, locals := 134 } : Room) s m (([.ref (q 0)] : List Value).toArray) below meth c H locs 0 0 (MQ below (va_Qi (fun r (_ : Unit) => r = res.1) (fun _ => zB D A (moW ac q res.2.1 row un kp mt ps res.2.2.1 res.2.2.2.1 su res.2.2.2.2.1 res.2.2.2.2.2 od py ju pl rs)) A) ([.ref (q 0)] : List Value).toArray s 0 0 A) (F0 m 56 ls [])) (n6 : Nat) (x3 : Int32) (x4 : Int32), M_likely_L22 u2 kx8 n6 x3 x4 = some res → ∀ (H : Heap) (locs : List Loc) (ls : Array Slot), va_P D vwCl (moW ac q 0 row un kp mt ps u2.1 u2.2.1 su u2.2.2.1 u2.2.2.2 od py ju pl rs) H → va_D A (moW ac q 0 row un kp mt ps u2.1 u2.2.1 su u2.2.2.1 u2.2.2.2 od py ju pl rs) → va_S A s.heap H locs → lv_has ls 3 [(0, .ref (q 0)), (1, .int x3), (2, .int x4)] → W p l e ({ frames := 6, cells := 0, slots := 0, locals := 134 } : Room) s m (([.ref (q 0)] : List Value).toArray) below meth c H locs 0 0 (MQ below (va_Qi (fun r (_ : Unit) => r = res.1) (fun _ => zB D A (moW ac q res.2.1 row un kp mt ps res.2.2.1 res.2.2.2.1 su res.2.2.2.2.1 res.2.2.2.2.2 od py ju pl rs)) A) ([.ref (q 0)] : List Value).toArray s 0 0 A) (F0 m 22 ls []) := by
      intro kx8 hkx8 n6
      induction n6 with
      | zero => intro x3 x4 hf; rw [M_likely_L22] at hf; cases hf
      | succ n6 ih7 =>
        intro x3 x4 hf H locs ls hP hD hS hl
        rw [M_likely_L22] at hf
        refine lv_iload_n hx hb dX8_likely_22 rfl (lv_at hl 2 rfl) ?_
        refine lv_bipush (v := 36) hx hb dX8_likely_23 rfl ?_
        refine lv_icmp_ge (tgt := 56) hx hb dX8_likely_25 (by decide) (fun c10 => ?_) (fun c10 => ?_)
        · have hf := z_p c10 hf
          exact hkx8 x3 hf _ _ ls  hP hD hS (lv_sub hl [1] rfl)
        · have hf := z_n c10 hf
          refine lv_aload_n hx hb dX8_likely_28 rfl (lv_at hl 0 rfl) ?_
          refine va_get (D := D) (ci := 8) (v := .ref (q 14)) (C := RX8) (T := TX8) (N := 41) hx hb htw WW_wsX80 hown hKX.1 hP 0 rfl rfl 28 (Nat.le_of_ble_eq_true rfl) (htw _ mF_RX8_54) (fun _ h9 => h9) rfl dX8_likely_29 ?_
          refine lv_iload_n hx hb dX8_likely_32 rfl (lv_at hl 2 rfl) ?_
          obtain ⟨g11, hf⟩ := z_gd_u hf
          refine va_lald hx hb hKX.1 hP 14 1 rfl rfl (z_in_u g11) dX8_likely_33 ?_
          refine lv_aload_n hx hb dX8_likely_34 rfl (lv_at hl 0 rfl) ?_
          refine va_get (D := D) (ci := 8) (v := .ref (q 14)) (C := RX8) (T := TX8) (N := 41) hx hb htw WW_wsX80 hown hKX.1 hP 0 rfl rfl 28 (Nat.le_of_ble_eq_true rfl) (htw _ mF_RX8_54) (fun _ h9 => h9) rfl dX8_likely_35 ?_
          refine lv_iload_n hx hb dX8_likely_38 rfl (lv_at hl 1 rfl) ?_
          obtain ⟨g12, hf⟩ := z_gd_u hf
          refine va_lald hx hb hKX.1 hP 14 1 rfl rfl (z_in_u g12) dX8_likely_39 ?_
          refine W.lcmp hx hb dX8_likely_40 ?_
          refine lv_if_le (tgt := 48) hx hb dX8_likely_41 (by decide) (fun c13 => ?_) (fun c13 => ?_)
          · have hf := z_p c13 hf
            refine lv_iload_n hx hb dX8_likely_48 rfl (lv_at hl 1 rfl) ?_
            refine lv_istore_n (lv' := [(1, .int x3), (0, .ref (q 0)), (2, .int x4)]) hx hb dX8_likely_49 rfl hl (Nat.le_of_ble_eq_true rfl) rfl (fun ls hl => ?_)
            obtain ⟨x14, hx14⟩ : ∃ y : Int32, y = (x4 + 1) := ⟨_, rfl⟩
            have hf := z_let_u hx14 hf
            refine lv_iinc (v := x14) (lv' := [(2, .int x14), (1, .int x3), (0, .ref (q 0))]) hx hb dX8_likely_50 hl (k := 2) rfl (by rw [hx14]; rfl) (Nat.le_of_ble_eq_true rfl) rfl (fun ls hl => ?_)
            refine lv_goto (tgt := 22) hx hb dX8_likely_53 (by decide) ?_
            exact ih7 x3 x14 hf _ _ ls  hP hD hS (lv_sub hl [2, 1, 0] rfl)
          · have hf := z_n c13 hf
            refine lv_iload_n hx hb dX8_likely_44 rfl (lv_at hl 2 rfl) ?_
            refine lv_goto (tgt := 49) hx hb dX8_likely_45 (by decide) ?_
            refine lv_istore_n (lv' := [(1, .int x4), (0, .ref (q 0)), (2, .int x4)]) hx hb dX8_likely_49 rfl hl (Nat.le_of_ble_eq_true rfl) rfl (fun ls hl => ?_)
            obtain ⟨x15, hx15⟩ : ∃ y : Int32, y = (x4 + 1) := ⟨_, rfl⟩
            have hf := z_let_u hx15 hf
            refine lv_iinc (v := x15) (lv' := [(2, .int x15), (1, .int x4), (0, .ref (q 0))]) hx hb dX8_likely_50 hl (k := 2) rfl (by rw [hx15]; rfl) (Nat.le_of_ble_eq_true rfl) rfl (fun ls hl => ?_)
            refine lv_goto (tgt := 22) hx hb dX8_likely_53 (by decide) ?_
            exact ih7 x4 x15 hf _ _ ls  hP hD hS (lv_sub hl [2, 1, 0] rfl)
    refine hL5 _ ?_ F 0 1 hf _ _ ls  hP hD hS (lv_sub hl [2, 1, 0] rfl)
    intro x9 hf H locs ls hP hD hS hl
    refine lv_iload_n hx hb dX8_likely_56 rfl (lv_at hl 0 rfl) ?_
    refine lv_bipush (v := 6) hx hb dX8_likely_57 rfl ?_
    refine lv_idiv hx hb dX8_likely_59 (by decide) ?_
    refine lv_bipush (v := 10) hx hb dX8_likely_60 rfl ?_
    refine lv_imul hx hb dX8_likely_62 ?_
    refine lv_iload_n hx hb dX8_likely_63 rfl (lv_at hl 0 rfl) ?_
    refine lv_bipush (v := 6) hx hb dX8_likely_64 rfl ?_
    refine zv_irem hx hb dX8_likely_66 (by decide) ?_
    refine lv_iadd hx hb dX8_likely_67 ?_
    obtain rfl := Option.some.inj hf
    exact zr_Mi hx hb hr hlocks hP hD hS dX8_likely_68
  · have hf := z_p c1 hf
    refine lv_iconst (v := (-1)) hx hb dX8_likely_12 rfl ?_
    obtain rfl := Option.some.inj hf
    exact zr_Mi hx hb hr hlocks hP hD hS dX8_likely_13

theorem hd_yX8_mean : hdY yX8_mean 1 := by decide +kernel
def M_mean_L50 (u3 : Bx × Mo × Wy × Wa) (kx10 : Int64 → Option (Int64 × Th × Bx × Mo × Wy × Wa)) : Nat → Int64 → Int32 → Option (Int64 × Th × Bx × Mo × Wy × Wa)
  | 0, _, _ => none
  | n8 + 1, x5, x6 => if 11 ≤ x6 then (kx10 x5) else (z_gd (z_in x6 11) (z_let (x5 + (x6.toInt64 * ((wy_endWays u3.2.2.1) x6.toNatClampNeg))) (fun x14 : Int64 => z_let (x6 + 1) (fun x15 : Int32 => M_mean_L50 u3 kx10 n8 x14 x15))))
def M_mean (F : Nat) (row : MRow) (bx : Bx) (mo : Mo) (wy : Wy) (wa : Wa) (a1 : Int32) : Option (Int64 × Th × Bx × Mo × Wy × Wa) := if M_isTold row = 0 then (some ((-1), 0, bx, mo, wy, wa)) else (if M_in a1.toInt64 0 1 = 0 then (some ((-1), 0, bx, mo, wy, wa)) else (z_bd (M_layStart F row bx mo wy wa) (fun u3 : Bx × Mo × Wy × Wa => z_let ((2 * ((M_n row).toInt64)) * ((wy_endWays u3.2.2.1) 0)) (fun x4 : Int64 => M_mean_L50 u3 (fun (x11 : Int64) => z_bd (M_told F x11 (wy_leftWays u3.2.2.1) a1) (fun r16 : Int64 => some (r16, 0, u3.1, u3.2.1, u3.2.2.1, u3.2.2.2))) F x4 1))))
set_option maxHeartbeats 4000000 in
set_option maxRecDepth 100000 in
theorem ctX8_mean (l : Launch) (D : va_G) (ac cs : Nat → Nat) (q : Nat → Nat) (sz : Nat) (th : Th) (row : MRow) (un : Un) (kp : Kp) (mt : Mt) (ps : Ps) (bx : Bx) (mo : Mo) (su : Su) (wy : Wy) (wa : Wa) (od : Od) (py : Py) (ju : Ju) (pl : Pl) (rs : Rs) (a1 : Int32) (F : Nat) (res : Int64 × Th × Bx × Mo × Wy × Wa) (hf : M_mean F row bx mo wy wa a1 = some res) : Met l yX8_mean (cWW yX8_mean cX8_mean 5 (some .long)) { frames := 6, cells := 0, slots := 0, locals := 134 } (zM D ac cs [.ref (q 0), .int a1] (moW ac q th row un kp mt ps bx mo su wy wa od py ju pl rs) sz) (va_Ql (fun r (_ : Unit) => r = res.1) (fun _ => zB D (va_A (moW ac q th row un kp mt ps bx mo su wy wa od py ju pl rs) sz) (moW ac q res.2.1 row un kp mt ps res.2.2.1 res.2.2.2.1 su res.2.2.2.2.1 res.2.2.2.2.2 od py ju pl rs)) (va_A (moW ac q th row un kp mt ps bx mo su wy wa od py ju pl rs) sz)) 0 0 (va_A (moW ac q th row un kp mt ps bx mo su wy wa od py ju pl rs) sz) := by
  refine Met.ofW (cc := cX8_mean) (maxL := 5) (ret := (some .long)) (by decide) rfl ?_
  intro p e s m args below meth c s₁ B hml hv
  obtain ⟨rfl, hsz, hP, hKX, hD0, hC⟩ := hv
  have hx := B.exec
  have hb := B.bytes
  have hr := B.returns
  have hts := atoms_spec (ws := cWW yX8_mean cX8_mean 5 (some .long)) B.pre
  have htw : ∀ w ∈ WW, w.before _ s = true := fun w h => hts w (List.mem_cons_of_mem _ h)
  have hown : s.vm.findClass RX8 = some m.cls := findClass_of_methodNamed B.named
  have hlocks := B.notSynchronized
  clear hts B
  subst hsz
  have hD := hD0.self (sz := s.heap.size)
  generalize hAe : va_A (moW ac q th row un kp mt ps bx mo su wy wa od py ju pl rs) s.heap.size = A at hD hC ⊢
  have hA : ∀ q : Nat, s.heap.size ≤ q → A q := fun q h => by rw [← hAe]; exact Or.inr h
  have hS : va_S A s.heap s.heap [] := va_S.rf
  clear hD0 hAe
  have hP : va_P D vwCl (moW ac q th row un kp mt ps bx mo su wy wa od py ju pl rs) s.heap := hP
  have hl := lv_entry ([.ref (q 0), .int a1]) (n := 5) (Nat.le_of_ble_eq_true rfl)
  rw [lg_entry_eq]
  generalize (lg_sl ([.ref (q 0), .int a1]) ++ List.replicate (5 - (lg_sl ([.ref (q 0), .int a1])).length) Slot.unset).toArray = ls at hl ⊢
  have hl : lv_has ls 5 [(0, .ref (q 0)), (1, .int a1)] := hl
  unfold M_mean at hf
  show W p l e ({ frames := 6, cells := 0, slots := 0, locals := 134 } : Room) s m _ below meth c s.heap [] 0 0 _ (F0 m 0 ls [])
  refine lv_aload_n hx hb dX8_mean_0 rfl (lv_at hl 0 rfl) ?_
  refine lv_iconst (v := 0) hx hb dX8_mean_1 rfl ?_
  refine va_put (D := D) (ci := 8) (v := .int 0) (ty := tyX8 0) (C := RX8) (T := TX8) (N := 41) hx hb htw WW_wsX80 tyX8 tyX8_ok nmX8 hown hKX.1 hP hD hS 0 rfl rfl 0 (Nat.le_of_ble_eq_true rfl) (htw _ mF_RX8_75) (fun _ h9 => h9) rfl (tyX8_ok 0 (Nat.le_of_ble_eq_true rfl)) rfl rfl (Nat.le_of_ble_eq_true rfl) dX8_mean_2 (fun H locs hP hD hS => ?_)
  have hP : va_P D vwCl (moW ac q 0 row un kp mt ps bx mo su wy wa od py ju pl rs) H := hP
  have hD : va_D A (moW ac q 0 row un kp mt ps bx mo su wy wa od py ju pl rs) := hD
  refine lv_aload_n hx hb dX8_mean_5 rfl (lv_at hl 0 rfl) ?_
  refine zc_RVi (As := []) (rest := []) hx hb hml hown htw (ctX8_isTold l D ac cs q 0 row un kp mt ps bx mo su wy wa od py ju pl rs    _ rfl) (g_V mM_RX8_83 mI_yX8_isTold mS_RX8_yX8_isTold_yX8_isTold mN_RX8 mC_yX8_isTold) rfl (hd_yX8_isTold) ⟨rfl, rfl⟩ ⟨(Nat.le_of_ble_eq_true rfl), (Nat.le_of_ble_eq_true rfl)⟩ hKX hC hS hP 8 rfl rfl rfl hl.1 rfl (Nat.le_of_ble_eq_true rfl) ⟨Nat.zero_le _, Nat.zero_le _⟩ dX8_mean_6 ?_
  refine lv_if_eq (tgt := 22) hx hb dX8_mean_9 (by decide) (fun c1 => ?_) (fun c1 => ?_)
  · have hf := z_p c1 hf
    refine lv_ldc2 (v := (-1)) hx hb hown (htw _ mG_RX8_332) dX8_mean_22 ?_
    obtain rfl := Option.some.inj hf
    exact zr_Ml hx hb hr hlocks hP hD hS dX8_mean_25
  · have hf := z_n c1 hf
    refine lv_iload_n hx hb dX8_mean_12 rfl (lv_at hl 1 rfl) ?_
    refine lv_i2l hx hb dX8_mean_13 rfl ?_
    refine lv_lconst (v := 0) hx hb dX8_mean_14 rfl ?_
    refine lv_lconst (v := 1) hx hb dX8_mean_15 rfl ?_
    refine zc_RSi (As := [.long a1.toInt64, .long 0, .long 1]) (rest := []) hx hb hml hown htw (ctX8_in l D ac cs   a1.toInt64 0 1   _ rfl) (g_S mM_RX8_79 mT_yX8_in mN_RX8 mC_yX8_in) (hd_yX8_in) ⟨rfl, rfl⟩ ⟨(Nat.le_of_ble_eq_true rfl), (Nat.le_of_ble_eq_true rfl)⟩ hKX hC hS zP0 rfl hl.1 rfl (Nat.le_of_ble_eq_true rfl) ⟨Nat.zero_le _, Nat.zero_le _⟩ dX8_mean_16 ?_
    refine lv_if_ne (tgt := 26) hx hb dX8_mean_19 (by decide) (fun c2 => ?_) (fun c2 => ?_)
    · have hf := z_n c2 hf
      refine lv_aload_n hx hb dX8_mean_26 rfl (lv_at hl 0 rfl) ?_
      obtain ⟨u3, hu3, hf⟩ := z_bd_u hf
      refine zc_MVv (As := []) (rest := []) (wr := []) (wsc := moW ac q 0 row un kp mt ps bx mo su wy wa od py ju pl rs) (wsc' := moW ac q 0 row un kp mt ps u3.1 u3.2.1 su u3.2.2.1 u3.2.2.2 od py ju pl rs) hx hb hml hown htw (ctX8_layStart l D ac cs q H.size 0 row un kp mt ps bx mo su wy wa od py ju pl rs    F u3 hu3) (g_V mM_RX8_355 mI_yX8_layStart mS_RX8_yX8_layStart_yX8_layStart mN_RX8 mC_yX8_layStart) rfl (hd_yX8_layStart) ⟨rfl, rfl⟩ ⟨(Nat.le_of_ble_eq_true rfl), (Nat.le_of_ble_eq_true rfl)⟩ hKX hC hS hA hP hD [0, 1, 2, 3, 4, 5, 6, 7, 8, 9, 10, 11, 12, 13, 14, 15, 16, 17, 18, 19, 20] [] rfl (by decide) rfl (by decide) (by decide) 8 rfl rfl rfl hl.1 rfl (Nat.le_of_ble_eq_true rfl) ⟨Nat.zero_le _, Nat.zero_le _⟩ dX8_mean_27 (fun H locs hP hD hS => ?_)
      have hP : va_P D vwCl (moW ac q 0 row un kp mt ps u3.1 u3.2.1 su u3.2.2.1 u3.2.2.2 od py ju pl rs) H := hP
      have hD : va_D A (moW ac q 0 row un kp mt ps u3.1 u3.2.1 su u3.2.2.1 u3.2.2.2 od py ju pl rs) := hD
      refine lv_ldc2 (v := 2) hx hb hown (htw _ mG_RX8_353) dX8_mean_30 ?_
      refine lv_aload_n hx hb dX8_mean_33 rfl (lv_at hl 0 rfl) ?_
      refine zc_RVi (As := []) (rest := [.long 2]) hx hb hml hown htw (ctX8_n l D ac cs q 0 row un kp mt ps u3.1 u3.2.1 su u3.2.2.1 u3.2.2.2 od py ju pl rs    _ rfl) (g_V mM_RX8_190 mI_yX8_n mS_RX8_yX8_n_yX8_n mN_RX8 mC_yX8_n) rfl (hd_yX8_n) ⟨rfl, rfl⟩ ⟨(Nat.le_of_ble_eq_true rfl), (Nat.le_of_ble_eq_true rfl)⟩ hKX hC hS hP 8 rfl rfl rfl hl.1 rfl (Nat.le_of_ble_eq_true rfl) ⟨Nat.zero_le _, Nat.zero_le _⟩ dX8_mean_34 ?_
      refine lv_i2l hx hb dX8_mean_37 rfl ?_
      refine lv_lmul hx hb dX8_mean_38 ?_
      refine lv_aload_n hx hb dX8_mean_39 rfl (lv_at hl 0 rfl) ?_
      refine va_get (D := D) (ci := 8) (v := .ref (q 13)) (C := RX8) (T := TX8) (N := 41) hx hb htw WW_wsX80 hown hKX.1 hP 0 rfl rfl 27 (Nat.le_of_ble_eq_true rfl) (htw _ mF_RX8_51) (fun _ h9 => h9) rfl dX8_mean_40 ?_
      refine lv_iconst (v := 0) hx hb dX8_mean_43 rfl ?_
      refine zv_lald_k hx hb hKX.1 hP 13 1 rfl rfl 0 rfl (z_in_u (by decide +kernel)) dX8_mean_44 ?_
      refine lv_lmul hx hb dX8_mean_45 ?_
      refine lv_topl (fun x4 hx4 => ?_)
      have hf := z_let_u hx4 hf
      refine lv_lstore_n (lv' := [(2, .long x4), (0, .ref (q 0)), (1, .int a1)]) hx hb dX8_mean_46 rfl hl (Nat.le_of_ble_eq_true rfl) rfl (fun ls hl => ?_)
      refine lv_iconst (v := 1) hx hb dX8_mean_47 rfl ?_
      refine lv_istore (lv' := [(4, .int 1), (2, .long x4), (0, .ref (q 0)), (1, .int a1)]) hx hb dX8_mean_48 hl (Nat.le_of_ble_eq_true rfl) rfl (fun ls hl => ?_)
      have hL7 : ∀ (kx10 : Int64 → Option (Int64 × Th × Bx × Mo × Wy × Wa)) (hkx10 : ∀ (x11 : Int64), kx10 x11 = some res → ∀ (H : Heap) (locs : List Loc) (ls : Array Slot), va_P D vwCl (moW ac q 0 row un kp mt ps u3.1 u3.2.1 su u3.2.2.1 u3.2.2.2 od py ju pl rs) H → va_D A (moW ac q 0 row un kp mt ps u3.1 u3.2.1 su u3.2.2.1 u3.2.2.2 od py ju pl rs) → va_S A s.heap H locs → lv_has ls 5 [(0, .ref (q 0)), (1, .int a1), (2, .long x11)] → W p l e ({ frames := 6, cells := 0, slots := 0, locals := 134 } : Room) s m (([.ref (q 0), .int a1] : List Value).toArray) below meth c H locs 0 0 (MQ below (va_Ql (fun r (_ : Unit) => r = res.1) (fun _ => zB D A (moW ac q res.2.1 row un kp mt ps res.2.2.1 res.2.2.2.1 su res.2.2.2.2.1 res.2.2.2.2.2 od py ju pl rs)) A) ([.ref (q 0), .int a1] : List Value).toArray s 0 0 A) (F0 m 77 ls [])) (n8 : Nat) (x5 : Int64) (x6 : Int32), M_mean_L50 u3 kx10 n8 x5 x6 = some res → ∀ (H : Heap) (locs : List Loc) (ls : Array Slot), va_P D vwCl (moW ac q 0 row un kp mt ps u3.1 u3.2.1 su u3.2.2.1 u3.2.2.2 od py ju pl rs) H → va_D A (moW ac q 0 row un kp mt ps u3.1 u3.2.1 su u3.2.2.1 u3.2.2.2 od py ju pl rs) → va_S A s.heap H locs → lv_has ls 5 [(0, .ref (q 0)), (1, .int a1), (2, .long x5), (4, .int x6)] → W p l e ({ frames := 6, cells := 0, slots := 0, locals := 134 } : Room) s m (([.ref (q 0), .int a1] : List Value).toArray) below meth c H locs 0 0 (MQ below (va_Ql (fun r (_ : Unit) => r = res.1) (fun _ => zB D A (moW ac q res.2.1 row un kp mt ps res.2.2.1 res.2.2.2.1 su res.2.2.2.2.1 res.2.2.2.2.2 od py ju pl rs)) A) ([.ref (q 0), .int a1] : List Value).toArray s 0 0 A) (F0 m 50 ls []) := by
        intro kx10 hkx10 n8
        induction n8 with
        | zero => intro x5 x6 hf; rw [M_mean_L50] at hf; cases hf
        | succ n8 ih9 =>
          intro x5 x6 hf H locs ls hP hD hS hl
          rw [M_mean_L50] at hf
          refine lv_iload hx hb dX8_mean_50 (lv_at hl 3 rfl) ?_
          refine lv_bipush (v := 11) hx hb dX8_mean_52 rfl ?_
          refine lv_icmp_ge (tgt := 77) hx hb dX8_mean_54 (by decide) (fun c12 => ?_) (fun c12 => ?_)
          · have hf := z_p c12 hf
            exact hkx10 x5 hf _ _ ls  hP hD hS (lv_sub hl [0, 1, 2] rfl)
          · have hf := z_n c12 hf
            refine lv_lload_n hx hb dX8_mean_57 rfl (lv_at hl 2 rfl) ?_
            refine lv_iload hx hb dX8_mean_58 (lv_at hl 3 rfl) ?_
            refine lv_i2l hx hb dX8_mean_60 rfl ?_
            refine lv_aload_n hx hb dX8_mean_61 rfl (lv_at hl 0 rfl) ?_
            refine va_get (D := D) (ci := 8) (v := .ref (q 13)) (C := RX8) (T := TX8) (N := 41) hx hb htw WW_wsX80 hown hKX.1 hP 0 rfl rfl 27 (Nat.le_of_ble_eq_true rfl) (htw _ mF_RX8_51) (fun _ h9 => h9) rfl dX8_mean_62 ?_
            refine lv_iload hx hb dX8_mean_65 (lv_at hl 3 rfl) ?_
            obtain ⟨g13, hf⟩ := z_gd_u hf
            refine va_lald hx hb hKX.1 hP 13 1 rfl rfl (z_in_u g13) dX8_mean_67 ?_
            refine lv_lmul hx hb dX8_mean_68 ?_
            refine lv_ladd hx hb dX8_mean_69 ?_
            refine lv_topl (fun x14 hx14 => ?_)
            have hf := z_let_u hx14 hf
            refine lv_lstore_n (lv' := [(2, .long x14), (0, .ref (q 0)), (1, .int a1), (4, .int x6)]) hx hb dX8_mean_70 rfl hl (Nat.le_of_ble_eq_true rfl) rfl (fun ls hl => ?_)
            obtain ⟨x15, hx15⟩ : ∃ y : Int32, y = (x6 + 1) := ⟨_, rfl⟩
            have hf := z_let_u hx15 hf
            refine lv_iinc (v := x15) (lv' := [(4, .int x15), (2, .long x14), (0, .ref (q 0)), (1, .int a1)]) hx hb dX8_mean_71 hl (k := 3) rfl (by rw [hx15]; rfl) (Nat.le_of_ble_eq_true rfl) rfl (fun ls hl => ?_)
            refine lv_goto (tgt := 50) hx hb dX8_mean_74 (by decide) ?_
            exact ih9 x14 x15 hf _ _ ls  hP hD hS (lv_sub hl [2, 3, 1, 0] rfl)
      refine hL7 _ ?_ F x4 1 hf _ _ ls  hP hD hS (lv_sub hl [2, 3, 1, 0] rfl)
      intro x11 hf H locs ls hP hD hS hl
      refine lv_lload_n hx hb dX8_mean_77 rfl (lv_at hl 2 rfl) ?_
      refine lv_aload_n hx hb dX8_mean_78 rfl (lv_at hl 0 rfl) ?_
      refine va_get (D := D) (ci := 8) (v := .long (wy_leftWays u3.2.2.1)) (C := RX8) (T := TX8) (N := 41) hx hb htw WW_wsX80 hown hKX.1 hP 0 rfl rfl 26 (Nat.le_of_ble_eq_true rfl) (htw _ mF_RX8_275) (fun _ h9 => h9) rfl dX8_mean_79 ?_
      refine lv_iload_n hx hb dX8_mean_82 rfl (lv_at hl 1 rfl) ?_
      obtain ⟨r16, hr16, hf⟩ := z_bd_u hf
      refine zc_RSl (As := [.long x11, .long (wy_leftWays u3.2.2.1), .int a1]) (rest := []) hx hb hml hown htw (ctX8_told l D ac cs   x11 (wy_leftWays u3.2.2.1) a1   F _ hr16) (g_S mM_RX8_337 mT_yX8_told mN_RX8 mC_yX8_told) (hd_yX8_told) ⟨rfl, rfl⟩ ⟨(Nat.le_of_ble_eq_true rfl), (Nat.le_of_ble_eq_true rfl)⟩ hKX hC hS zP0 rfl hl.1 rfl (Nat.le_of_ble_eq_true rfl) ⟨Nat.zero_le _, Nat.zero_le _⟩ dX8_mean_83 ?_
      obtain rfl := Option.some.inj hf
      exact zr_Ml hx hb hr hlocks hP hD hS dX8_mean_86
    · have hf := z_p c2 hf
      refine lv_ldc2 (v := (-1)) hx hb hown (htw _ mG_RX8_332) dX8_mean_22 ?_
      obtain rfl := Option.some.inj hf
      exact zr_Ml hx hb hr hlocks hP hD hS dX8_mean_25

theorem hd_yX8_needs : hdY yX8_needs 1 := by decide +kernel
def M_needs (F : Nat) (row : MRow) (bx : Bx) (mo : Mo) (a1 : Int32) : Option (Int32 × Th × Bx × Mo) := if M_isThere row a1 = 0 then (some ((-1), 0, bx, mo)) else (z_bd (M_goNow F row bx mo) (fun u2 : Bx × Mo => if (mo_isOver u2.2) = 0 then (if (mo_kicks u2.2) < (2 * (M_n row)) then (z_gd (z_in a1 2) (z_let ((M_n row) - ((mo_kicked u2.2) a1.toNatClampNeg)) (fun x6 : Int32 => z_gd (z_in (1 - a1) 2) (z_gd (z_in (1 - a1) 2) (z_gd (z_in a1 2) (z_let ((((((mo_goals u2.2) (1 - a1).toNatClampNeg) + (M_n row)) - ((mo_kicked u2.2) (1 - a1).toNatClampNeg)) - ((mo_goals u2.2) a1.toNatClampNeg)) + 1) (fun x10 : Int32 => if x10 ≤ x6 then (if 0 ≤ x10 then (some (x10, 0, u2.1, u2.2)) else (some (0, 0, u2.1, u2.2))) else (some ((-2), 0, u2.1, u2.2))))))))) else (some ((-1), 0, u2.1, u2.2))) else (some ((-1), 0, u2.1, u2.2))))
set_option maxHeartbeats 4000000 in
set_option maxRecDepth 100000 in
theorem ctX8_needs (l : Launch) (D : va_G) (ac cs : Nat → Nat) (q : Nat → Nat) (sz : Nat) (th : Th) (row : MRow) (un : Un) (kp : Kp) (mt : Mt) (ps : Ps) (bx : Bx) (mo : Mo) (su : Su) (wy : Wy) (wa : Wa) (od : Od) (py : Py) (ju : Ju) (pl : Pl) (rs : Rs) (a1 : Int32) (F : Nat) (res : Int32 × Th × Bx × Mo) (hf : M_needs F row bx mo a1 = some res) : Met l yX8_needs (cWW yX8_needs cX8_needs 4 (some .int)) { frames := 4, cells := 0, slots := 0, locals := 86 } (zM D ac cs [.ref (q 0), .int a1] (moW ac q th row un kp mt ps bx mo su wy wa od py ju pl rs) sz) (va_Qi (fun r (_ : Unit) => r = res.1) (fun _ => zB D (va_A (moW ac q th row un kp mt ps bx mo su wy wa od py ju pl rs) sz) (moW ac q res.2.1 row un kp mt ps res.2.2.1 res.2.2.2 su wy wa od py ju pl rs)) (va_A (moW ac q th row un kp mt ps bx mo su wy wa od py ju pl rs) sz)) 0 0 (va_A (moW ac q th row un kp mt ps bx mo su wy wa od py ju pl rs) sz) := by
  refine Met.ofW (cc := cX8_needs) (maxL := 4) (ret := (some .int)) (by decide) rfl ?_
  intro p e s m args below meth c s₁ B hml hv
  obtain ⟨rfl, hsz, hP, hKX, hD0, hC⟩ := hv
  have hx := B.exec
  have hb := B.bytes
  have hr := B.returns
  have hts := atoms_spec (ws := cWW yX8_needs cX8_needs 4 (some .int)) B.pre
  have htw : ∀ w ∈ WW, w.before _ s = true := fun w h => hts w (List.mem_cons_of_mem _ h)
  have hown : s.vm.findClass RX8 = some m.cls := findClass_of_methodNamed B.named
  have hlocks := B.notSynchronized
  clear hts B
  subst hsz
  have hD := hD0.self (sz := s.heap.size)
  generalize hAe : va_A (moW ac q th row un kp mt ps bx mo su wy wa od py ju pl rs) s.heap.size = A at hD hC ⊢
  have hA : ∀ q : Nat, s.heap.size ≤ q → A q := fun q h => by rw [← hAe]; exact Or.inr h
  have hS : va_S A s.heap s.heap [] := va_S.rf
  clear hD0 hAe
  have hP : va_P D vwCl (moW ac q th row un kp mt ps bx mo su wy wa od py ju pl rs) s.heap := hP
  have hl := lv_entry ([.ref (q 0), .int a1]) (n := 4) (Nat.le_of_ble_eq_true rfl)
  rw [lg_entry_eq]
  generalize (lg_sl ([.ref (q 0), .int a1]) ++ List.replicate (4 - (lg_sl ([.ref (q 0), .int a1])).length) Slot.unset).toArray = ls at hl ⊢
  have hl : lv_has ls 4 [(0, .ref (q 0)), (1, .int a1)] := hl
  unfold M_needs at hf
  show W p l e ({ frames := 4, cells := 0, slots := 0, locals := 86 } : Room) s m _ below meth c s.heap [] 0 0 _ (F0 m 0 ls [])
  refine lv_aload_n hx hb dX8_needs_0 rfl (lv_at hl 0 rfl) ?_
  refine lv_iconst (v := 0) hx hb dX8_needs_1 rfl ?_
  refine va_put (D := D) (ci := 8) (v := .int 0) (ty := tyX8 0) (C := RX8) (T := TX8) (N := 41) hx hb htw WW_wsX80 tyX8 tyX8_ok nmX8 hown hKX.1 hP hD hS 0 rfl rfl 0 (Nat.le_of_ble_eq_true rfl) (htw _ mF_RX8_75) (fun _ h9 => h9) rfl (tyX8_ok 0 (Nat.le_of_ble_eq_true rfl)) rfl rfl (Nat.le_of_ble_eq_true rfl) dX8_needs_2 (fun H locs hP hD hS => ?_)
  have hP : va_P D vwCl (moW ac q 0 row un kp mt ps bx mo su wy wa od py ju pl rs) H := hP
  have hD : va_D A (moW ac q 0 row un kp mt ps bx mo su wy wa od py ju pl rs) := hD
  refine lv_aload_n hx hb dX8_needs_5 rfl (lv_at hl 0 rfl) ?_
  refine lv_iload_n hx hb dX8_needs_6 rfl (lv_at hl 1 rfl) ?_
  refine zc_RVi (As := [.int a1]) (rest := []) hx hb hml hown htw (ctX8_isThere l D ac cs q 0 row un kp mt ps bx mo su wy wa od py ju pl rs a1   _ rfl) (g_V mM_RX8_294 mI_yX8_isThere mS_RX8_yX8_isThere_yX8_isThere mN_RX8 mC_yX8_isThere) rfl (hd_yX8_isThere) ⟨rfl, rfl⟩ ⟨(Nat.le_of_ble_eq_true rfl), (Nat.le_of_ble_eq_true rfl)⟩ hKX hC hS hP 8 rfl rfl rfl hl.1 rfl (Nat.le_of_ble_eq_true rfl) ⟨Nat.zero_le _, Nat.zero_le _⟩ dX8_needs_7 ?_
  refine lv_if_ne (tgt := 15) hx hb dX8_needs_10 (by decide) (fun c1 => ?_) (fun c1 => ?_)
  · have hf := z_n c1 hf
    refine lv_aload_n hx hb dX8_needs_15 rfl (lv_at hl 0 rfl) ?_
    obtain ⟨u2, hu2, hf⟩ := z_bd_u hf
    refine zc_MVv (As := []) (rest := []) (wr := []) (wsc := moW ac q 0 row un kp mt ps bx mo su wy wa od py ju pl rs) (wsc' := moW ac q 0 row un kp mt ps u2.1 u2.2 su wy wa od py ju pl rs) hx hb hml hown htw (ctX8_goNow l D ac cs q H.size 0 row un kp mt ps bx mo su wy wa od py ju pl rs    F u2 hu2) (g_V mM_RX8_302 mI_yX8_goNow mS_RX8_yX8_goNow_yX8_goNow mN_RX8 mC_yX8_goNow) rfl (hd_yX8_goNow) ⟨rfl, rfl⟩ ⟨(Nat.le_of_ble_eq_true rfl), (Nat.le_of_ble_eq_true rfl)⟩ hKX hC hS hA hP hD [0, 1, 2, 3, 4, 5, 6, 7, 8, 9, 10, 11, 12, 13, 14, 15, 16, 17, 18, 19, 20] [] rfl (by decide) rfl (by decide) (by decide) 8 rfl rfl rfl hl.1 rfl (Nat.le_of_ble_eq_true rfl) ⟨Nat.zero_le _, Nat.zero_le _⟩ dX8_needs_16 (fun H locs hP hD hS => ?_)
    have hP : va_P D vwCl (moW ac q 0 row un kp mt ps u2.1 u2.2 su wy wa od py ju pl rs) H := hP
    have hD : va_D A (moW ac q 0 row un kp mt ps u2.1 u2.2 su wy wa od py ju pl rs) := hD
    refine lv_aload_n hx hb dX8_needs_19 rfl (lv_at hl 0 rfl) ?_
    refine va_get (D := D) (ci := 8) (v := .int (mo_isOver u2.2)) (C := RX8) (T := TX8) (N := 41) hx hb htw WW_wsX80 hown hKX.1 hP 0 rfl rfl 21 (Nat.le_of_ble_eq_true rfl) (htw _ mF_RX8_208) (fun _ h9 => h9) rfl dX8_needs_20 ?_
    refine lv_if_ne (tgt := 39) hx hb dX8_needs_23 (by decide) (fun c3 => ?_) (fun c3 => ?_)
    · have hf := z_n c3 hf
      refine lv_iconst (v := (-1)) hx hb dX8_needs_39 rfl ?_
      obtain rfl := Option.some.inj hf
      exact zr_Mi hx hb hr hlocks hP hD hS dX8_needs_40
    · have hf := z_p c3 hf
      refine lv_aload_n hx hb dX8_needs_26 rfl (lv_at hl 0 rfl) ?_
      refine va_get (D := D) (ci := 8) (v := .int (mo_kicks u2.2)) (C := RX8) (T := TX8) (N := 41) hx hb htw WW_wsX80 hown hKX.1 hP 0 rfl rfl 19 (Nat.le_of_ble_eq_true rfl) (htw _ mF_RX8_202) (fun _ h9 => h9) rfl dX8_needs_27 ?_
      refine lv_iconst (v := 2) hx hb dX8_needs_30 rfl ?_
      refine lv_aload_n hx hb dX8_needs_31 rfl (lv_at hl 0 rfl) ?_
      refine zc_RVi (As := []) (rest := [.int 2, .int (mo_kicks u2.2)]) hx hb hml hown htw (ctX8_n l D ac cs q 0 row un kp mt ps u2.1 u2.2 su wy wa od py ju pl rs    _ rfl) (g_V mM_RX8_190 mI_yX8_n mS_RX8_yX8_n_yX8_n mN_RX8 mC_yX8_n) rfl (hd_yX8_n) ⟨rfl, rfl⟩ ⟨(Nat.le_of_ble_eq_true rfl), (Nat.le_of_ble_eq_true rfl)⟩ hKX hC hS hP 8 rfl rfl rfl hl.1 rfl (Nat.le_of_ble_eq_true rfl) ⟨Nat.zero_le _, Nat.zero_le _⟩ dX8_needs_32 ?_
      refine lv_imul hx hb dX8_needs_35 ?_
      refine lv_icmp_lt (tgt := 41) hx hb dX8_needs_36 (by decide) (fun c4 => ?_) (fun c4 => ?_)
      · have hf := z_p c4 hf
        refine lv_aload_n hx hb dX8_needs_41 rfl (lv_at hl 0 rfl) ?_
        refine zc_RVi (As := []) (rest := []) hx hb hml hown htw (ctX8_n l D ac cs q 0 row un kp mt ps u2.1 u2.2 su wy wa od py ju pl rs    _ rfl) (g_V mM_RX8_190 mI_yX8_n mS_RX8_yX8_n_yX8_n mN_RX8 mC_yX8_n) rfl (hd_yX8_n) ⟨rfl, rfl⟩ ⟨(Nat.le_of_ble_eq_true rfl), (Nat.le_of_ble_eq_true rfl)⟩ hKX hC hS hP 8 rfl rfl rfl hl.1 rfl (Nat.le_of_ble_eq_true rfl) ⟨Nat.zero_le _, Nat.zero_le _⟩ dX8_needs_42 ?_
        refine lv_aload_n hx hb dX8_needs_45 rfl (lv_at hl 0 rfl) ?_
        refine va_get (D := D) (ci := 8) (v := .ref (q 10)) (C := RX8) (T := TX8) (N := 41) hx hb htw WW_wsX80 hown hKX.1 hP 0 rfl rfl 18 (Nat.le_of_ble_eq_true rfl) (htw _ mF_RX8_41) (fun _ h9 => h9) rfl dX8_needs_46 ?_
        refine lv_iload_n hx hb dX8_needs_49 rfl (lv_at hl 1 rfl) ?_
        obtain ⟨g5, hf⟩ := z_gd_u hf
        refine va_iald hx hb hKX.1 hP 10 0 rfl rfl (z_in_u g5) dX8_needs_50 ?_
        refine lv_isub hx hb dX8_needs_51 ?_
        refine lv_topi (fun x6 hx6 => ?_)
        have hf := z_let_u hx6 hf
        refine lv_istore_n (lv' := [(2, .int x6), (0, .ref (q 0)), (1, .int a1)]) hx hb dX8_needs_52 rfl hl (Nat.le_of_ble_eq_true rfl) rfl (fun ls hl => ?_)
        refine lv_aload_n hx hb dX8_needs_53 rfl (lv_at hl 1 rfl) ?_
        refine va_get (D := D) (ci := 8) (v := .ref (q 9)) (C := RX8) (T := TX8) (N := 41) hx hb htw WW_wsX80 hown hKX.1 hP 0 rfl rfl 17 (Nat.le_of_ble_eq_true rfl) (htw _ mF_RX8_38) (fun _ h9 => h9) rfl dX8_needs_54 ?_
        refine lv_iconst (v := 1) hx hb dX8_needs_57 rfl ?_
        refine lv_iload_n hx hb dX8_needs_58 rfl (lv_at hl 2 rfl) ?_
        refine lv_isub hx hb dX8_needs_59 ?_
        obtain ⟨g7, hf⟩ := z_gd_u hf
        refine va_iald hx hb hKX.1 hP 9 0 rfl rfl (z_in_u g7) dX8_needs_60 ?_
        refine lv_aload_n hx hb dX8_needs_61 rfl (lv_at hl 1 rfl) ?_
        refine zc_RVi (As := []) (rest := [.int ((mo_goals u2.2) (1 - a1).toNatClampNeg)]) hx hb hml hown htw (ctX8_n l D ac cs q 0 row un kp mt ps u2.1 u2.2 su wy wa od py ju pl rs    _ rfl) (g_V mM_RX8_190 mI_yX8_n mS_RX8_yX8_n_yX8_n mN_RX8 mC_yX8_n) rfl (hd_yX8_n) ⟨rfl, rfl⟩ ⟨(Nat.le_of_ble_eq_true rfl), (Nat.le_of_ble_eq_true rfl)⟩ hKX hC hS hP 8 rfl rfl rfl hl.1 rfl (Nat.le_of_ble_eq_true rfl) ⟨Nat.zero_le _, Nat.zero_le _⟩ dX8_needs_62 ?_
        refine lv_iadd hx hb dX8_needs_65 ?_
        refine lv_aload_n hx hb dX8_needs_66 rfl (lv_at hl 1 rfl) ?_
        refine va_get (D := D) (ci := 8) (v := .ref (q 10)) (C := RX8) (T := TX8) (N := 41) hx hb htw WW_wsX80 hown hKX.1 hP 0 rfl rfl 18 (Nat.le_of_ble_eq_true rfl) (htw _ mF_RX8_41) (fun _ h9 => h9) rfl dX8_needs_67 ?_
        refine lv_iconst (v := 1) hx hb dX8_needs_70 rfl ?_
        refine lv_iload_n hx hb dX8_needs_71 rfl (lv_at hl 2 rfl) ?_
        refine lv_isub hx hb dX8_needs_72 ?_
        obtain ⟨g8, hf⟩ := z_gd_u hf
        refine va_iald hx hb hKX.1 hP 10 0 rfl rfl (z_in_u g8) dX8_needs_73 ?_
        refine lv_isub hx hb dX8_needs_74 ?_
        refine lv_aload_n hx hb dX8_needs_75 rfl (lv_at hl 1 rfl) ?_
        refine va_get (D := D) (ci := 8) (v := .ref (q 9)) (C := RX8) (T := TX8) (N := 41) hx hb htw WW_wsX80 hown hKX.1 hP 0 rfl rfl 17 (Nat.le_of_ble_eq_true rfl) (htw _ mF_RX8_38) (fun _ h9 => h9) rfl dX8_needs_76 ?_
        refine lv_iload_n hx hb dX8_needs_79 rfl (lv_at hl 2 rfl) ?_
        obtain ⟨g9, hf⟩ := z_gd_u hf
        refine va_iald hx hb hKX.1 hP 9 0 rfl rfl (z_in_u g9) dX8_needs_80 ?_
        refine lv_isub hx hb dX8_needs_81 ?_
        refine lv_iconst (v := 1) hx hb dX8_needs_82 rfl ?_
        refine lv_iadd hx hb dX8_needs_83 ?_
        refine lv_topi (fun x10 hx10 => ?_)
        have hf := z_let_u hx10 hf
        refine lv_istore_n (lv' := [(3, .int x10), (2, .int x6), (0, .ref (q 0)), (1, .int a1)]) hx hb dX8_needs_84 rfl hl (Nat.le_of_ble_eq_true rfl) rfl (fun ls hl => ?_)
        refine lv_iload_n hx hb dX8_needs_85 rfl (lv_at hl 0 rfl) ?_
        refine lv_iload_n hx hb dX8_needs_86 rfl (lv_at hl 1 rfl) ?_
        refine lv_icmp_le (tgt := 95) hx hb dX8_needs_87 (by decide) (fun c11 => ?_) (fun c11 => ?_)
        · have hf := z_p c11 hf
          refine lv_iload_n hx hb dX8_needs_95 rfl (lv_at hl 0 rfl) ?_
          refine lv_if_ge (tgt := 103) hx hb dX8_needs_96 (by decide) (fun c12 => ?_) (fun c12 => ?_)
          · have hf := z_p c12 hf
            refine lv_iload_n hx hb dX8_needs_103 rfl (lv_at hl 0 rfl) ?_
            obtain rfl := Option.some.inj hf
            exact zr_Mi hx hb hr hlocks hP hD hS dX8_needs_104
          · have hf := z_n c12 hf
            refine lv_iconst (v := 0) hx hb dX8_needs_99 rfl ?_
            refine lv_goto (tgt := 104) hx hb dX8_needs_100 (by decide) ?_
            obtain rfl := Option.some.inj hf
            exact zr_Mi hx hb hr hlocks hP hD hS dX8_needs_104
        · have hf := z_n c11 hf
          refine lv_bipush (v := (-2)) hx hb dX8_needs_90 rfl ?_
          refine lv_goto (tgt := 104) hx hb dX8_needs_92 (by decide) ?_
          obtain rfl := Option.some.inj hf
          exact zr_Mi hx hb hr hlocks hP hD hS dX8_needs_104
      · have hf := z_n c4 hf
        refine lv_iconst (v := (-1)) hx hb dX8_needs_39 rfl ?_
        obtain rfl := Option.some.inj hf
        exact zr_Mi hx hb hr hlocks hP hD hS dX8_needs_40
  · have hf := z_p c1 hf
    refine lv_iconst (v := (-1)) hx hb dX8_needs_13 rfl ?_
    obtain rfl := Option.some.inj hf
    exact zr_Mi hx hb hr hlocks hP hD hS dX8_needs_14

theorem hd_yX7_lookBy : hdY yX7_lookBy 2 := by decide +kernel
def K_lookBy (F : Nat) (now : Sh) (tr : Sh) (fc : Fc) (a1 : Int32) (a2 : Int32) : Option (Sh × Fc) := z_bd (K_takeStart F now tr) (fun u1 : Sh => z_bd (Fc_look F fc ((sh_shooters u1), a1, a2, (sh_kicks u1), (sh_goalBits u1), (sh_sideBits u1), (sh_goalsOfA u1), (sh_goalsOfB u1), (sh_nerves u1), (sh_skills u1))) (fun u2 : Fc => some (((sh_shooters u1), a1, a2, (sh_kicks u1), (sh_goalBits u1), (sh_sideBits u1), (sh_goalsOfA u1), (sh_goalsOfB u1), (sh_nerves u1), (sh_skills u1)), u2)))
set_option maxHeartbeats 4000000 in
set_option maxRecDepth 100000 in
theorem ctX7_lookBy (l : Launch) (D : va_G) (ac cs : Nat → Nat) (a : Nat → Nat → Nat) (w1 w2 : Nat) (sz : Nat) (ko : Ko) (tx : Tx) (now : Sh) (tr : Sh) (te : Te) (pa : Pa) (fc : Fc) (to : Fr) (tp : Fr) (re : Re) (k0 : Sh) (k1 : Sh) (ti : Sh) (rg : Nat → Sh) (a1 : Int32) (a2 : Int32) (F : Nat) (res : Sh × Fc) (hf : K_lookBy F now tr fc a1 a2 = some res) : Met l yX7_lookBy (cWW yX7_lookBy cX7_lookBy 3 none) { frames := 7, cells := 0, slots := 0, locals := 159 } (zM D ac cs [.ref (a 0 0), .int a1, .int a2] ((koW ac a ko ++ (txW ac (a 1) tx ++ (shW ac (a 2) now ++ (shW ac (a 3) tr ++ (teW ac (a 4) (a 1) (a 10) te ++ (paW ac a pa ++ (fcW ac (a 6) w1 w2 fc ++ (frW ac (a 7) to ++ (frW ac (a 8) tp ++ (reW ac (a 9) re ++ (shW ac (a 40) k0 ++ (shW ac (a 41) k1 ++ (shW ac (a 10) ti))))))))))))) ++ ringW ac a rg) sz) (va_Qv (fun _ : Nat × Nat => True) (fun u => zB D (va_A ((koW ac a ko ++ (txW ac (a 1) tx ++ (shW ac (a 2) now ++ (shW ac (a 3) tr ++ (teW ac (a 4) (a 1) (a 10) te ++ (paW ac a pa ++ (fcW ac (a 6) w1 w2 fc ++ (frW ac (a 7) to ++ (frW ac (a 8) tp ++ (reW ac (a 9) re ++ (shW ac (a 40) k0 ++ (shW ac (a 41) k1 ++ (shW ac (a 10) ti))))))))))))) ++ ringW ac a rg) sz) ((koW ac a ko ++ (txW ac (a 1) tx ++ (shW ac (a 2) now ++ (shW ac (a 3) res.1 ++ (teW ac (a 4) (a 1) (a 10) te ++ (paW ac a pa ++ (fcW ac (a 6) u.1 u.2 res.2 ++ (frW ac (a 7) to ++ (frW ac (a 8) tp ++ (reW ac (a 9) re ++ (shW ac (a 40) k0 ++ (shW ac (a 41) k1 ++ (shW ac (a 10) ti))))))))))))) ++ ringW ac a rg)) (va_A ((koW ac a ko ++ (txW ac (a 1) tx ++ (shW ac (a 2) now ++ (shW ac (a 3) tr ++ (teW ac (a 4) (a 1) (a 10) te ++ (paW ac a pa ++ (fcW ac (a 6) w1 w2 fc ++ (frW ac (a 7) to ++ (frW ac (a 8) tp ++ (reW ac (a 9) re ++ (shW ac (a 40) k0 ++ (shW ac (a 41) k1 ++ (shW ac (a 10) ti))))))))))))) ++ ringW ac a rg) sz)) 0 0 (va_A ((koW ac a ko ++ (txW ac (a 1) tx ++ (shW ac (a 2) now ++ (shW ac (a 3) tr ++ (teW ac (a 4) (a 1) (a 10) te ++ (paW ac a pa ++ (fcW ac (a 6) w1 w2 fc ++ (frW ac (a 7) to ++ (frW ac (a 8) tp ++ (reW ac (a 9) re ++ (shW ac (a 40) k0 ++ (shW ac (a 41) k1 ++ (shW ac (a 10) ti))))))))))))) ++ ringW ac a rg) sz) := by
  refine Met.ofW (cc := cX7_lookBy) (maxL := 3) (ret := none) (by decide) rfl ?_
  intro p e s m args below meth c s₁ B hml hv
  obtain ⟨rfl, hsz, hP, hKX, hD0, hC⟩ := hv
  have hx := B.exec
  have hb := B.bytes
  have hr := B.returns
  have hts := atoms_spec (ws := cWW yX7_lookBy cX7_lookBy 3 none) B.pre
  have htw : ∀ w ∈ WW, w.before _ s = true := fun w h => hts w (List.mem_cons_of_mem _ h)
  have hown : s.vm.findClass RX7 = some m.cls := findClass_of_methodNamed B.named
  have hlocks := B.notSynchronized
  clear hts B
  subst hsz
  have hD := hD0.self (sz := s.heap.size)
  generalize hAe : va_A ((koW ac a ko ++ (txW ac (a 1) tx ++ (shW ac (a 2) now ++ (shW ac (a 3) tr ++ (teW ac (a 4) (a 1) (a 10) te ++ (paW ac a pa ++ (fcW ac (a 6) w1 w2 fc ++ (frW ac (a 7) to ++ (frW ac (a 8) tp ++ (reW ac (a 9) re ++ (shW ac (a 40) k0 ++ (shW ac (a 41) k1 ++ (shW ac (a 10) ti))))))))))))) ++ ringW ac a rg) s.heap.size = A at hD hC ⊢
  have hA : ∀ q : Nat, s.heap.size ≤ q → A q := fun q h => by rw [← hAe]; exact Or.inr h
  have hS : va_S A s.heap s.heap [] := va_S.rf
  clear hD0 hAe
  have hP : va_P D vwCl ((koW ac a ko ++ (txW ac (a 1) tx ++ (shW ac (a 2) now ++ (shW ac (a 3) tr ++ (teW ac (a 4) (a 1) (a 10) te ++ (paW ac a pa ++ (fcW ac (a 6) w1 w2 fc ++ (frW ac (a 7) to ++ (frW ac (a 8) tp ++ (reW ac (a 9) re ++ (shW ac (a 40) k0 ++ (shW ac (a 41) k1 ++ (shW ac (a 10) ti))))))))))))) ++ ringW ac a rg) s.heap := hP
  have hl := lv_entry ([.ref (a 0 0), .int a1, .int a2]) (n := 3) (Nat.le_of_ble_eq_true rfl)
  rw [lg_entry_eq]
  generalize (lg_sl ([.ref (a 0 0), .int a1, .int a2]) ++ List.replicate (3 - (lg_sl ([.ref (a 0 0), .int a1, .int a2])).length) Slot.unset).toArray = ls at hl ⊢
  have hl : lv_has ls 3 [(0, .ref (a 0 0)), (1, .int a1), (2, .int a2)] := hl
  unfold K_lookBy at hf
  show W p l e ({ frames := 7, cells := 0, slots := 0, locals := 159 } : Room) s m _ below meth c s.heap [] 0 0 _ (F0 m 0 ls [])
  refine lv_aload_n hx hb dX7_lookBy_0 rfl (lv_at hl 0 rfl) ?_
  obtain ⟨u1, hu1, hf⟩ := z_bd_u hf
  refine zc_MVvT (E := (koW ac a ko ++ (txW ac (a 1) tx ++ (shW ac (a 2) now ++ (shW ac (a 3) tr ++ (teW ac (a 4) (a 1) (a 10) te ++ (paW ac a pa ++ (fcW ac (a 6) w1 w2 fc ++ (frW ac (a 7) to ++ (frW ac (a 8) tp ++ (reW ac (a 9) re ++ (shW ac (a 40) k0 ++ (shW ac (a 41) k1 ++ (shW ac (a 10) ti))))))))))))) ++ ringW ac a rg) (TT := []) (As := []) (rest := []) (wr := []) (wsc := (koW ac a ko ++ (txW ac (a 1) tx ++ (shW ac (a 2) now ++ (shW ac (a 3) tr ++ (teW ac (a 4) (a 1) (a 10) te ++ (paW ac a pa ++ (fcW ac (a 6) w1 w2 fc ++ (frW ac (a 7) to ++ (frW ac (a 8) tp ++ (reW ac (a 9) re ++ (shW ac (a 40) k0 ++ (shW ac (a 41) k1 ++ (shW ac (a 10) ti))))))))))))) ++ ringW ac a rg) (wsc' := (koW ac a ko ++ (txW ac (a 1) tx ++ (shW ac (a 2) now ++ (shW ac (a 3) u1 ++ (teW ac (a 4) (a 1) (a 10) te ++ (paW ac a pa ++ (fcW ac (a 6) w1 w2 fc ++ (frW ac (a 7) to ++ (frW ac (a 8) tp ++ (reW ac (a 9) re ++ (shW ac (a 40) k0 ++ (shW ac (a 41) k1 ++ (shW ac (a 10) ti))))))))))))) ++ ringW ac a rg) hx hb hml hown htw (ctX7_takeStart l D ac cs a w1 w2 s.heap.size ko tx now tr te pa fc to tp re k0 k1 ti rg    F u1 hu1) (g_V mM_RX7_255 mI_yX7_takeStart mS_RX7_yX7_takeStart_yX7_takeStart mN_RX7 mC_yX7_takeStart) rfl (hd_yX7_takeStart) ⟨rfl, rfl⟩ ⟨(Nat.le_of_ble_eq_true rfl), (Nat.le_of_ble_eq_true rfl)⟩ hKX hC hS hA (zP_nil hP) (zD_nil hD) (List.range _) [] (zrange _) (zndr _) rfl rfl (fun _ h => by cases h) 7 rfl rfl rfl hl.1 rfl (Nat.le_of_ble_eq_true rfl) ⟨Nat.zero_le _, Nat.zero_le _⟩ dX7_lookBy_1 (fun H locs hP hD hS => ?_)
  have hP : va_P D vwCl ((koW ac a ko ++ (txW ac (a 1) tx ++ (shW ac (a 2) now ++ (shW ac (a 3) u1 ++ (teW ac (a 4) (a 1) (a 10) te ++ (paW ac a pa ++ (fcW ac (a 6) w1 w2 fc ++ (frW ac (a 7) to ++ (frW ac (a 8) tp ++ (reW ac (a 9) re ++ (shW ac (a 40) k0 ++ (shW ac (a 41) k1 ++ (shW ac (a 10) ti))))))))))))) ++ ringW ac a rg) H := zP_un hP
  have hD : va_D A ((koW ac a ko ++ (txW ac (a 1) tx ++ (shW ac (a 2) now ++ (shW ac (a 3) u1 ++ (teW ac (a 4) (a 1) (a 10) te ++ (paW ac a pa ++ (fcW ac (a 6) w1 w2 fc ++ (frW ac (a 7) to ++ (frW ac (a 8) tp ++ (reW ac (a 9) re ++ (shW ac (a 40) k0 ++ (shW ac (a 41) k1 ++ (shW ac (a 10) ti))))))))))))) ++ ringW ac a rg) := zD_un hD
  refine lv_aload_n hx hb dX7_lookBy_4 rfl (lv_at hl 0 rfl) ?_
  refine va_get (D := D) (ci := 7) (v := .ref (a 3 0)) (C := RX7) (T := TX7) (N := 13) hx hb htw WW_wsX70 hown hKX.1 hP 0 rfl rfl 3 (Nat.le_of_ble_eq_true rfl) (htw _ mF_RX7_30) (fun _ h9 => h9) rfl dX7_lookBy_5 ?_
  refine lv_iload_n hx hb dX7_lookBy_8 rfl (lv_at hl 1 rfl) ?_
  refine va_putN (D := D) (ci := 4) (v := .int a1) (ty := tyX4 1) (C := RX4) (T := TX4) (N := 10) hx hb htw WW_wsX40 tyX4 tyX4_ok nmX4 hown hKX.1 hP hD hS 9 rfl rfl 1 (Nat.le_of_ble_eq_true rfl) (va_Nw.use rfl (hKX.2 _ (List.mem_of_getElem? (i := 5) rfl))) (fun _ h9 => h9) rfl (tyX4_ok 1 (Nat.le_of_ble_eq_true rfl)) rfl rfl (Nat.le_of_ble_eq_true rfl) dX7_lookBy_9 (fun H locs hP hD hS => ?_)
  have hP : va_P D vwCl ((koW ac a ko ++ (txW ac (a 1) tx ++ (shW ac (a 2) now ++ (shW ac (a 3) ((sh_shooters u1), a1, (sh_first u1), (sh_kicks u1), (sh_goalBits u1), (sh_sideBits u1), (sh_goalsOfA u1), (sh_goalsOfB u1), (sh_nerves u1), (sh_skills u1)) ++ (teW ac (a 4) (a 1) (a 10) te ++ (paW ac a pa ++ (fcW ac (a 6) w1 w2 fc ++ (frW ac (a 7) to ++ (frW ac (a 8) tp ++ (reW ac (a 9) re ++ (shW ac (a 40) k0 ++ (shW ac (a 41) k1 ++ (shW ac (a 10) ti))))))))))))) ++ ringW ac a rg) H := hP
  have hD : va_D A ((koW ac a ko ++ (txW ac (a 1) tx ++ (shW ac (a 2) now ++ (shW ac (a 3) ((sh_shooters u1), a1, (sh_first u1), (sh_kicks u1), (sh_goalBits u1), (sh_sideBits u1), (sh_goalsOfA u1), (sh_goalsOfB u1), (sh_nerves u1), (sh_skills u1)) ++ (teW ac (a 4) (a 1) (a 10) te ++ (paW ac a pa ++ (fcW ac (a 6) w1 w2 fc ++ (frW ac (a 7) to ++ (frW ac (a 8) tp ++ (reW ac (a 9) re ++ (shW ac (a 40) k0 ++ (shW ac (a 41) k1 ++ (shW ac (a 10) ti))))))))))))) ++ ringW ac a rg) := hD
  refine lv_aload_n hx hb dX7_lookBy_12 rfl (lv_at hl 0 rfl) ?_
  refine va_get (D := D) (ci := 7) (v := .ref (a 3 0)) (C := RX7) (T := TX7) (N := 13) hx hb htw WW_wsX70 hown hKX.1 hP 0 rfl rfl 3 (Nat.le_of_ble_eq_true rfl) (htw _ mF_RX7_30) (fun _ h9 => h9) rfl dX7_lookBy_13 ?_
  refine lv_iload_n hx hb dX7_lookBy_16 rfl (lv_at hl 2 rfl) ?_
  refine va_putN (D := D) (ci := 4) (v := .int a2) (ty := tyX4 2) (C := RX4) (T := TX4) (N := 10) hx hb htw WW_wsX40 tyX4 tyX4_ok nmX4 hown hKX.1 hP hD hS 9 rfl rfl 2 (Nat.le_of_ble_eq_true rfl) (va_Nw.use rfl (hKX.2 _ (List.mem_of_getElem? (i := 8) rfl))) (fun _ h9 => h9) rfl (tyX4_ok 2 (Nat.le_of_ble_eq_true rfl)) rfl rfl (Nat.le_of_ble_eq_true rfl) dX7_lookBy_17 (fun H locs hP hD hS => ?_)
  have hP : va_P D vwCl ((koW ac a ko ++ (txW ac (a 1) tx ++ (shW ac (a 2) now ++ (shW ac (a 3) ((sh_shooters u1), a1, a2, (sh_kicks u1), (sh_goalBits u1), (sh_sideBits u1), (sh_goalsOfA u1), (sh_goalsOfB u1), (sh_nerves u1), (sh_skills u1)) ++ (teW ac (a 4) (a 1) (a 10) te ++ (paW ac a pa ++ (fcW ac (a 6) w1 w2 fc ++ (frW ac (a 7) to ++ (frW ac (a 8) tp ++ (reW ac (a 9) re ++ (shW ac (a 40) k0 ++ (shW ac (a 41) k1 ++ (shW ac (a 10) ti))))))))))))) ++ ringW ac a rg) H := hP
  have hD : va_D A ((koW ac a ko ++ (txW ac (a 1) tx ++ (shW ac (a 2) now ++ (shW ac (a 3) ((sh_shooters u1), a1, a2, (sh_kicks u1), (sh_goalBits u1), (sh_sideBits u1), (sh_goalsOfA u1), (sh_goalsOfB u1), (sh_nerves u1), (sh_skills u1)) ++ (teW ac (a 4) (a 1) (a 10) te ++ (paW ac a pa ++ (fcW ac (a 6) w1 w2 fc ++ (frW ac (a 7) to ++ (frW ac (a 8) tp ++ (reW ac (a 9) re ++ (shW ac (a 40) k0 ++ (shW ac (a 41) k1 ++ (shW ac (a 10) ti))))))))))))) ++ ringW ac a rg) := hD
  refine lv_aload_n hx hb dX7_lookBy_20 rfl (lv_at hl 0 rfl) ?_
  refine va_get (D := D) (ci := 7) (v := .ref (a 6 0)) (C := RX7) (T := TX7) (N := 13) hx hb htw WW_wsX70 hown hKX.1 hP 0 rfl rfl 7 (Nat.le_of_ble_eq_true rfl) (htw _ mF_RX7_51) (fun _ h9 => h9) rfl dX7_lookBy_21 ?_
  refine lv_aload_n hx hb dX7_lookBy_24 rfl (lv_at hl 0 rfl) ?_
  refine va_get (D := D) (ci := 7) (v := .ref (a 3 0)) (C := RX7) (T := TX7) (N := 13) hx hb htw WW_wsX70 hown hKX.1 hP 0 rfl rfl 3 (Nat.le_of_ble_eq_true rfl) (htw _ mF_RX7_30) (fun _ h9 => h9) rfl dX7_lookBy_25 ?_
  obtain ⟨u2, hu2, hf⟩ := z_bd_u hf
  refine zc_MVvXT (As := [.ref (a 3 0)]) (rest := []) (wr := koW ac a ko ++ (txW ac (a 1) tx ++ (shW ac (a 2) now ++ (teW ac (a 4) (a 1) (a 10) te ++ (paW ac a pa ++ (frW ac (a 7) to ++ (frW ac (a 8) tp ++ (reW ac (a 9) re ++ (shW ac (a 40) k0 ++ (shW ac (a 41) k1 ++ (shW ac (a 10) ti))))))))))) (wsc := fcW ac (a 6) w1 w2 fc ++ (shW ac (a 3) ((sh_shooters u1), a1, a2, (sh_kicks u1), (sh_goalBits u1), (sh_sideBits u1), (sh_goalsOfA u1), (sh_goalsOfB u1), (sh_nerves u1), (sh_skills u1)))) (wsc' := fun u3 : Nat × Nat => fcW ac (a 6) u3.1 u3.2 u2 ++ (shW ac (a 3) ((sh_shooters u1), a1, a2, (sh_kicks u1), (sh_goalBits u1), (sh_sideBits u1), (sh_goalsOfA u1), (sh_goalsOfB u1), (sh_nerves u1), (sh_skills u1)))) hx hb hml hown htw (ctX0_look l D ac cs (a 6) w1 w2 (a 3) H.size fc ((sh_shooters u1), a1, a2, (sh_kicks u1), (sh_goalBits u1), (sh_sideBits u1), (sh_goalsOfA u1), (sh_goalsOfB u1), (sh_nerves u1), (sh_skills u1))    F u2 hu2) (g_V mM_RX7_185 mI_yX0_look mS_RX0_yX0_look_yX0_look mN_RX0 mC_yX0_look) rfl (hd_yX0_look) ⟨rfl, rfl⟩ ⟨(Nat.le_of_ble_eq_true rfl), (Nat.le_of_ble_eq_true rfl)⟩ hKX hC hS hA hP hD [16, 17, 18, 19, 20, 9, 10, 11] [0, 1, 2, 3, 4, 5, 6, 7, 8, 12, 13, 14, 15, 21, 22, 23, 24, 25, 26, 27, 28, 29, 30, 31, 32, 33, 34, 35, 36, 37] rfl (by decide) rfl (by decide) (by decide) 0 rfl rfl rfl hl.1 rfl (Nat.le_of_ble_eq_true rfl) ⟨Nat.zero_le _, Nat.zero_le _⟩ dX7_lookBy_28 (fun u3 H locs hP hD hS => ?_)
  obtain ⟨w4, w5⟩ := u3
  have hP : va_P D vwCl ((koW ac a ko ++ (txW ac (a 1) tx ++ (shW ac (a 2) now ++ (shW ac (a 3) ((sh_shooters u1), a1, a2, (sh_kicks u1), (sh_goalBits u1), (sh_sideBits u1), (sh_goalsOfA u1), (sh_goalsOfB u1), (sh_nerves u1), (sh_skills u1)) ++ (teW ac (a 4) (a 1) (a 10) te ++ (paW ac a pa ++ (fcW ac (a 6) w4 w5 u2 ++ (frW ac (a 7) to ++ (frW ac (a 8) tp ++ (reW ac (a 9) re ++ (shW ac (a 40) k0 ++ (shW ac (a 41) k1 ++ (shW ac (a 10) ti))))))))))))) ++ ringW ac a rg) H := zsubPT hP [0, 1, 2, 3, 4, 5, 6, 7, 8, 35, 36, 37, 9, 10, 11, 12, 30, 31, 32, 33, 34, 13, 14, 15, 16, 17, 18, 19, 20, 21, 22, 23, 24, 25, 26, 27, 28, 29] rfl
  have hD : va_D A ((koW ac a ko ++ (txW ac (a 1) tx ++ (shW ac (a 2) now ++ (shW ac (a 3) ((sh_shooters u1), a1, a2, (sh_kicks u1), (sh_goalBits u1), (sh_sideBits u1), (sh_goalsOfA u1), (sh_goalsOfB u1), (sh_nerves u1), (sh_skills u1)) ++ (teW ac (a 4) (a 1) (a 10) te ++ (paW ac a pa ++ (fcW ac (a 6) w4 w5 u2 ++ (frW ac (a 7) to ++ (frW ac (a 8) tp ++ (reW ac (a 9) re ++ (shW ac (a 40) k0 ++ (shW ac (a 41) k1 ++ (shW ac (a 10) ti))))))))))))) ++ ringW ac a rg) := zsubDT hD [0, 1, 2, 3, 4, 5, 6, 7, 8, 35, 36, 37, 9, 10, 11, 12, 30, 31, 32, 33, 34, 13, 14, 15, 16, 17, 18, 19, 20, 21, 22, 23, 24, 25, 26, 27, 28, 29] (by decide) rfl
  obtain rfl := Option.some.inj hf
  exact zr_MvX (w4, w5) hx hb hr hlocks hP hD hS dX7_lookBy_31

theorem hd_yX7_runFromStart : hdY yX7_runFromStart 1 := by decide +kernel
def K_runFromStart (F : Nat) (now : Sh) (tr : Sh) (fc : Fc) (a1 : Int32) : Option (Sh × Fc) := z_bd (K_takeStart F now tr) (fun u1 : Sh => z_bd (Fc_run F fc u1 a1) (fun u2 : Fc => some (u1, u2)))
set_option maxHeartbeats 4000000 in
set_option maxRecDepth 100000 in
theorem ctX7_runFromStart (l : Launch) (D : va_G) (ac cs : Nat → Nat) (a : Nat → Nat → Nat) (w1 w2 : Nat) (sz : Nat) (ko : Ko) (tx : Tx) (now : Sh) (tr : Sh) (te : Te) (pa : Pa) (fc : Fc) (to : Fr) (tp : Fr) (re : Re) (k0 : Sh) (k1 : Sh) (ti : Sh) (rg : Nat → Sh) (a1 : Int32) (F : Nat) (res : Sh × Fc) (hf : K_runFromStart F now tr fc a1 = some res) : Met l yX7_runFromStart (cWW yX7_runFromStart cX7_runFromStart 2 none) { frames := 5, cells := 0, slots := 0, locals := 138 } (zM D ac cs [.ref (a 0 0), .int a1] ((koW ac a ko ++ (txW ac (a 1) tx ++ (shW ac (a 2) now ++ (shW ac (a 3) tr ++ (teW ac (a 4) (a 1) (a 10) te ++ (paW ac a pa ++ (fcW ac (a 6) w1 w2 fc ++ (frW ac (a 7) to ++ (frW ac (a 8) tp ++ (reW ac (a 9) re ++ (shW ac (a 40) k0 ++ (shW ac (a 41) k1 ++ (shW ac (a 10) ti))))))))))))) ++ ringW ac a rg) sz) (va_Qv (fun _ : Nat × Nat => True) (fun u => zB D (va_A ((koW ac a ko ++ (txW ac (a 1) tx ++ (shW ac (a 2) now ++ (shW ac (a 3) tr ++ (teW ac (a 4) (a 1) (a 10) te ++ (paW ac a pa ++ (fcW ac (a 6) w1 w2 fc ++ (frW ac (a 7) to ++ (frW ac (a 8) tp ++ (reW ac (a 9) re ++ (shW ac (a 40) k0 ++ (shW ac (a 41) k1 ++ (shW ac (a 10) ti))))))))))))) ++ ringW ac a rg) sz) ((koW ac a ko ++ (txW ac (a 1) tx ++ (shW ac (a 2) now ++ (shW ac (a 3) res.1 ++ (teW ac (a 4) (a 1) (a 10) te ++ (paW ac a pa ++ (fcW ac (a 6) u.1 u.2 res.2 ++ (frW ac (a 7) to ++ (frW ac (a 8) tp ++ (reW ac (a 9) re ++ (shW ac (a 40) k0 ++ (shW ac (a 41) k1 ++ (shW ac (a 10) ti))))))))))))) ++ ringW ac a rg)) (va_A ((koW ac a ko ++ (txW ac (a 1) tx ++ (shW ac (a 2) now ++ (shW ac (a 3) tr ++ (teW ac (a 4) (a 1) (a 10) te ++ (paW ac a pa ++ (fcW ac (a 6) w1 w2 fc ++ (frW ac (a 7) to ++ (frW ac (a 8) tp ++ (reW ac (a 9) re ++ (shW ac (a 40) k0 ++ (shW ac (a 41) k1 ++ (shW ac (a 10) ti))))))))))))) ++ ringW ac a rg) sz)) 0 0 (va_A ((koW ac a ko ++ (txW ac (a 1) tx ++ (shW ac (a 2) now ++ (shW ac (a 3) tr ++ (teW ac (a 4) (a 1) (a 10) te ++ (paW ac a pa ++ (fcW ac (a 6) w1 w2 fc ++ (frW ac (a 7) to ++ (frW ac (a 8) tp ++ (reW ac (a 9) re ++ (shW ac (a 40) k0 ++ (shW ac (a 41) k1 ++ (shW ac (a 10) ti))))))))))))) ++ ringW ac a rg) sz) := by
  refine Met.ofW (cc := cX7_runFromStart) (maxL := 2) (ret := none) (by decide) rfl ?_
  intro p e s m args below meth c s₁ B hml hv
  obtain ⟨rfl, hsz, hP, hKX, hD0, hC⟩ := hv
  have hx := B.exec
  have hb := B.bytes
  have hr := B.returns
  have hts := atoms_spec (ws := cWW yX7_runFromStart cX7_runFromStart 2 none) B.pre
  have htw : ∀ w ∈ WW, w.before _ s = true := fun w h => hts w (List.mem_cons_of_mem _ h)
  have hown : s.vm.findClass RX7 = some m.cls := findClass_of_methodNamed B.named
  have hlocks := B.notSynchronized
  clear hts B
  subst hsz
  have hD := hD0.self (sz := s.heap.size)
  generalize hAe : va_A ((koW ac a ko ++ (txW ac (a 1) tx ++ (shW ac (a 2) now ++ (shW ac (a 3) tr ++ (teW ac (a 4) (a 1) (a 10) te ++ (paW ac a pa ++ (fcW ac (a 6) w1 w2 fc ++ (frW ac (a 7) to ++ (frW ac (a 8) tp ++ (reW ac (a 9) re ++ (shW ac (a 40) k0 ++ (shW ac (a 41) k1 ++ (shW ac (a 10) ti))))))))))))) ++ ringW ac a rg) s.heap.size = A at hD hC ⊢
  have hA : ∀ q : Nat, s.heap.size ≤ q → A q := fun q h => by rw [← hAe]; exact Or.inr h
  have hS : va_S A s.heap s.heap [] := va_S.rf
  clear hD0 hAe
  have hP : va_P D vwCl ((koW ac a ko ++ (txW ac (a 1) tx ++ (shW ac (a 2) now ++ (shW ac (a 3) tr ++ (teW ac (a 4) (a 1) (a 10) te ++ (paW ac a pa ++ (fcW ac (a 6) w1 w2 fc ++ (frW ac (a 7) to ++ (frW ac (a 8) tp ++ (reW ac (a 9) re ++ (shW ac (a 40) k0 ++ (shW ac (a 41) k1 ++ (shW ac (a 10) ti))))))))))))) ++ ringW ac a rg) s.heap := hP
  have hl := lv_entry ([.ref (a 0 0), .int a1]) (n := 2) (Nat.le_of_ble_eq_true rfl)
  rw [lg_entry_eq]
  generalize (lg_sl ([.ref (a 0 0), .int a1]) ++ List.replicate (2 - (lg_sl ([.ref (a 0 0), .int a1])).length) Slot.unset).toArray = ls at hl ⊢
  have hl : lv_has ls 2 [(0, .ref (a 0 0)), (1, .int a1)] := hl
  unfold K_runFromStart at hf
  show W p l e ({ frames := 5, cells := 0, slots := 0, locals := 138 } : Room) s m _ below meth c s.heap [] 0 0 _ (F0 m 0 ls [])
  refine lv_aload_n hx hb dX7_runFromStart_0 rfl (lv_at hl 0 rfl) ?_
  obtain ⟨u1, hu1, hf⟩ := z_bd_u hf
  refine zc_MVvT (E := (koW ac a ko ++ (txW ac (a 1) tx ++ (shW ac (a 2) now ++ (shW ac (a 3) tr ++ (teW ac (a 4) (a 1) (a 10) te ++ (paW ac a pa ++ (fcW ac (a 6) w1 w2 fc ++ (frW ac (a 7) to ++ (frW ac (a 8) tp ++ (reW ac (a 9) re ++ (shW ac (a 40) k0 ++ (shW ac (a 41) k1 ++ (shW ac (a 10) ti))))))))))))) ++ ringW ac a rg) (TT := []) (As := []) (rest := []) (wr := []) (wsc := (koW ac a ko ++ (txW ac (a 1) tx ++ (shW ac (a 2) now ++ (shW ac (a 3) tr ++ (teW ac (a 4) (a 1) (a 10) te ++ (paW ac a pa ++ (fcW ac (a 6) w1 w2 fc ++ (frW ac (a 7) to ++ (frW ac (a 8) tp ++ (reW ac (a 9) re ++ (shW ac (a 40) k0 ++ (shW ac (a 41) k1 ++ (shW ac (a 10) ti))))))))))))) ++ ringW ac a rg) (wsc' := (koW ac a ko ++ (txW ac (a 1) tx ++ (shW ac (a 2) now ++ (shW ac (a 3) u1 ++ (teW ac (a 4) (a 1) (a 10) te ++ (paW ac a pa ++ (fcW ac (a 6) w1 w2 fc ++ (frW ac (a 7) to ++ (frW ac (a 8) tp ++ (reW ac (a 9) re ++ (shW ac (a 40) k0 ++ (shW ac (a 41) k1 ++ (shW ac (a 10) ti))))))))))))) ++ ringW ac a rg) hx hb hml hown htw (ctX7_takeStart l D ac cs a w1 w2 s.heap.size ko tx now tr te pa fc to tp re k0 k1 ti rg    F u1 hu1) (g_V mM_RX7_255 mI_yX7_takeStart mS_RX7_yX7_takeStart_yX7_takeStart mN_RX7 mC_yX7_takeStart) rfl (hd_yX7_takeStart) ⟨rfl, rfl⟩ ⟨(Nat.le_of_ble_eq_true rfl), (Nat.le_of_ble_eq_true rfl)⟩ hKX hC hS hA (zP_nil hP) (zD_nil hD) (List.range _) [] (zrange _) (zndr _) rfl rfl (fun _ h => by cases h) 7 rfl rfl rfl hl.1 rfl (Nat.le_of_ble_eq_true rfl) ⟨Nat.zero_le _, Nat.zero_le _⟩ dX7_runFromStart_1 (fun H locs hP hD hS => ?_)
  have hP : va_P D vwCl ((koW ac a ko ++ (txW ac (a 1) tx ++ (shW ac (a 2) now ++ (shW ac (a 3) u1 ++ (teW ac (a 4) (a 1) (a 10) te ++ (paW ac a pa ++ (fcW ac (a 6) w1 w2 fc ++ (frW ac (a 7) to ++ (frW ac (a 8) tp ++ (reW ac (a 9) re ++ (shW ac (a 40) k0 ++ (shW ac (a 41) k1 ++ (shW ac (a 10) ti))))))))))))) ++ ringW ac a rg) H := zP_un hP
  have hD : va_D A ((koW ac a ko ++ (txW ac (a 1) tx ++ (shW ac (a 2) now ++ (shW ac (a 3) u1 ++ (teW ac (a 4) (a 1) (a 10) te ++ (paW ac a pa ++ (fcW ac (a 6) w1 w2 fc ++ (frW ac (a 7) to ++ (frW ac (a 8) tp ++ (reW ac (a 9) re ++ (shW ac (a 40) k0 ++ (shW ac (a 41) k1 ++ (shW ac (a 10) ti))))))))))))) ++ ringW ac a rg) := zD_un hD
  refine lv_aload_n hx hb dX7_runFromStart_4 rfl (lv_at hl 0 rfl) ?_
  refine va_get (D := D) (ci := 7) (v := .ref (a 6 0)) (C := RX7) (T := TX7) (N := 13) hx hb htw WW_wsX70 hown hKX.1 hP 0 rfl rfl 7 (Nat.le_of_ble_eq_true rfl) (htw _ mF_RX7_51) (fun _ h9 => h9) rfl dX7_runFromStart_5 ?_
  refine lv_aload_n hx hb dX7_runFromStart_8 rfl (lv_at hl 0 rfl) ?_
  refine va_get (D := D) (ci := 7) (v := .ref (a 3 0)) (C := RX7) (T := TX7) (N := 13) hx hb htw WW_wsX70 hown hKX.1 hP 0 rfl rfl 3 (Nat.le_of_ble_eq_true rfl) (htw _ mF_RX7_30) (fun _ h9 => h9) rfl dX7_runFromStart_9 ?_
  refine lv_iload_n hx hb dX7_runFromStart_12 rfl (lv_at hl 1 rfl) ?_
  obtain ⟨u2, hu2, hf⟩ := z_bd_u hf
  refine zc_MVvXT (As := [.ref (a 3 0), .int a1]) (rest := []) (wr := koW ac a ko ++ (txW ac (a 1) tx ++ (shW ac (a 2) now ++ (teW ac (a 4) (a 1) (a 10) te ++ (paW ac a pa ++ (frW ac (a 7) to ++ (frW ac (a 8) tp ++ (reW ac (a 9) re ++ (shW ac (a 40) k0 ++ (shW ac (a 41) k1 ++ (shW ac (a 10) ti))))))))))) (wsc := fcW ac (a 6) w1 w2 fc ++ (shW ac (a 3) u1)) (wsc' := fun u3 : Nat × Nat => fcW ac (a 6) u3.1 u3.2 u2 ++ (shW ac (a 3) u1)) hx hb hml hown htw (ctX0_run l D ac cs (a 6) w1 w2 (a 3) H.size fc u1 a1   F u2 hu2) (g_V mM_RX7_344 mI_yX0_run mS_RX0_yX0_run_yX0_run mN_RX0 mC_yX0_run) rfl (hd_yX0_run) ⟨rfl, rfl⟩ ⟨(Nat.le_of_ble_eq_true rfl), (Nat.le_of_ble_eq_true rfl)⟩ hKX hC hS hA hP hD [16, 17, 18, 19, 20, 9, 10, 11] [0, 1, 2, 3, 4, 5, 6, 7, 8, 12, 13, 14, 15, 21, 22, 23, 24, 25, 26, 27, 28, 29, 30, 31, 32, 33, 34, 35, 36, 37] rfl (by decide) rfl (by decide) (by decide) 0 rfl rfl rfl hl.1 rfl (Nat.le_of_ble_eq_true rfl) ⟨Nat.zero_le _, Nat.zero_le _⟩ dX7_runFromStart_13 (fun u3 H locs hP hD hS => ?_)
  obtain ⟨w4, w5⟩ := u3
  have hP : va_P D vwCl ((koW ac a ko ++ (txW ac (a 1) tx ++ (shW ac (a 2) now ++ (shW ac (a 3) u1 ++ (teW ac (a 4) (a 1) (a 10) te ++ (paW ac a pa ++ (fcW ac (a 6) w4 w5 u2 ++ (frW ac (a 7) to ++ (frW ac (a 8) tp ++ (reW ac (a 9) re ++ (shW ac (a 40) k0 ++ (shW ac (a 41) k1 ++ (shW ac (a 10) ti))))))))))))) ++ ringW ac a rg) H := zsubPT hP [0, 1, 2, 3, 4, 5, 6, 7, 8, 35, 36, 37, 9, 10, 11, 12, 30, 31, 32, 33, 34, 13, 14, 15, 16, 17, 18, 19, 20, 21, 22, 23, 24, 25, 26, 27, 28, 29] rfl
  have hD : va_D A ((koW ac a ko ++ (txW ac (a 1) tx ++ (shW ac (a 2) now ++ (shW ac (a 3) u1 ++ (teW ac (a 4) (a 1) (a 10) te ++ (paW ac a pa ++ (fcW ac (a 6) w4 w5 u2 ++ (frW ac (a 7) to ++ (frW ac (a 8) tp ++ (reW ac (a 9) re ++ (shW ac (a 40) k0 ++ (shW ac (a 41) k1 ++ (shW ac (a 10) ti))))))))))))) ++ ringW ac a rg) := zsubDT hD [0, 1, 2, 3, 4, 5, 6, 7, 8, 35, 36, 37, 9, 10, 11, 12, 30, 31, 32, 33, 34, 13, 14, 15, 16, 17, 18, 19, 20, 21, 22, 23, 24, 25, 26, 27, 28, 29] (by decide) rfl
  obtain rfl := Option.some.inj hf
  exact zr_MvX (w4, w5) hx hb hr hlocks hP hD hS dX7_runFromStart_16

theorem hd_yX7_tellOdds : hdY yX7_tellOdds 2 := by decide +kernel
def K_tellOdds (F : Nat) (fc : Fc) (a1 : Int32) (a2 : Int32) : Option (Int64 × Fr) := z_let (Fr_put (Fc_winsOf fc a1) (fc_whole fc)) (fun u1 : Fr => z_bd (Fr_reduce F u1) (fun u2 : Fr => some (Fr_part u2 a2, u2)))
set_option maxHeartbeats 4000000 in
set_option maxRecDepth 100000 in
theorem ctX7_tellOdds (l : Launch) (D : va_G) (ac cs : Nat → Nat) (a : Nat → Nat → Nat) (w1 w2 : Nat) (sz : Nat) (ko : Ko) (tx : Tx) (now : Sh) (tr : Sh) (te : Te) (pa : Pa) (fc : Fc) (to : Fr) (tp : Fr) (re : Re) (k0 : Sh) (k1 : Sh) (ti : Sh) (rg : Nat → Sh) (a1 : Int32) (a2 : Int32) (F : Nat) (res : Int64 × Fr) (hf : K_tellOdds F fc a1 a2 = some res) : Met l yX7_tellOdds (cWW yX7_tellOdds cX7_tellOdds 3 (some .long)) { frames := 1, cells := 0, slots := 0, locals := 27 } (zM D ac cs [.ref (a 0 0), .int a1, .int a2] ((koW ac a ko ++ (txW ac (a 1) tx ++ (shW ac (a 2) now ++ (shW ac (a 3) tr ++ (teW ac (a 4) (a 1) (a 10) te ++ (paW ac a pa ++ (fcW ac (a 6) w1 w2 fc ++ (frW ac (a 7) to ++ (frW ac (a 8) tp ++ (reW ac (a 9) re ++ (shW ac (a 40) k0 ++ (shW ac (a 41) k1 ++ (shW ac (a 10) ti))))))))))))) ++ ringW ac a rg) sz) (va_Ql (fun r (_ : Unit) => r = res.1) (fun _ => zB D (va_A ((koW ac a ko ++ (txW ac (a 1) tx ++ (shW ac (a 2) now ++ (shW ac (a 3) tr ++ (teW ac (a 4) (a 1) (a 10) te ++ (paW ac a pa ++ (fcW ac (a 6) w1 w2 fc ++ (frW ac (a 7) to ++ (frW ac (a 8) tp ++ (reW ac (a 9) re ++ (shW ac (a 40) k0 ++ (shW ac (a 41) k1 ++ (shW ac (a 10) ti))))))))))))) ++ ringW ac a rg) sz) ((koW ac a ko ++ (txW ac (a 1) tx ++ (shW ac (a 2) now ++ (shW ac (a 3) tr ++ (teW ac (a 4) (a 1) (a 10) te ++ (paW ac a pa ++ (fcW ac (a 6) w1 w2 fc ++ (frW ac (a 7) res.2 ++ (frW ac (a 8) tp ++ (reW ac (a 9) re ++ (shW ac (a 40) k0 ++ (shW ac (a 41) k1 ++ (shW ac (a 10) ti))))))))))))) ++ ringW ac a rg)) (va_A ((koW ac a ko ++ (txW ac (a 1) tx ++ (shW ac (a 2) now ++ (shW ac (a 3) tr ++ (teW ac (a 4) (a 1) (a 10) te ++ (paW ac a pa ++ (fcW ac (a 6) w1 w2 fc ++ (frW ac (a 7) to ++ (frW ac (a 8) tp ++ (reW ac (a 9) re ++ (shW ac (a 40) k0 ++ (shW ac (a 41) k1 ++ (shW ac (a 10) ti))))))))))))) ++ ringW ac a rg) sz)) 0 0 (va_A ((koW ac a ko ++ (txW ac (a 1) tx ++ (shW ac (a 2) now ++ (shW ac (a 3) tr ++ (teW ac (a 4) (a 1) (a 10) te ++ (paW ac a pa ++ (fcW ac (a 6) w1 w2 fc ++ (frW ac (a 7) to ++ (frW ac (a 8) tp ++ (reW ac (a 9) re ++ (shW ac (a 40) k0 ++ (shW ac (a 41) k1 ++ (shW ac (a 10) ti))))))))))))) ++ ringW ac a rg) sz) := by
  refine Met.ofW (cc := cX7_tellOdds) (maxL := 3) (ret := (some .long)) (by decide) rfl ?_
  intro p e s m args below meth c s₁ B hml hv
  obtain ⟨rfl, hsz, hP, hKX, hD0, hC⟩ := hv
  have hx := B.exec
  have hb := B.bytes
  have hr := B.returns
  have hts := atoms_spec (ws := cWW yX7_tellOdds cX7_tellOdds 3 (some .long)) B.pre
  have htw : ∀ w ∈ WW, w.before _ s = true := fun w h => hts w (List.mem_cons_of_mem _ h)
  have hown : s.vm.findClass RX7 = some m.cls := findClass_of_methodNamed B.named
  have hlocks := B.notSynchronized
  clear hts B
  subst hsz
  have hD := hD0.self (sz := s.heap.size)
  generalize hAe : va_A ((koW ac a ko ++ (txW ac (a 1) tx ++ (shW ac (a 2) now ++ (shW ac (a 3) tr ++ (teW ac (a 4) (a 1) (a 10) te ++ (paW ac a pa ++ (fcW ac (a 6) w1 w2 fc ++ (frW ac (a 7) to ++ (frW ac (a 8) tp ++ (reW ac (a 9) re ++ (shW ac (a 40) k0 ++ (shW ac (a 41) k1 ++ (shW ac (a 10) ti))))))))))))) ++ ringW ac a rg) s.heap.size = A at hD hC ⊢
  have hA : ∀ q : Nat, s.heap.size ≤ q → A q := fun q h => by rw [← hAe]; exact Or.inr h
  have hS : va_S A s.heap s.heap [] := va_S.rf
  clear hD0 hAe
  have hP : va_P D vwCl ((koW ac a ko ++ (txW ac (a 1) tx ++ (shW ac (a 2) now ++ (shW ac (a 3) tr ++ (teW ac (a 4) (a 1) (a 10) te ++ (paW ac a pa ++ (fcW ac (a 6) w1 w2 fc ++ (frW ac (a 7) to ++ (frW ac (a 8) tp ++ (reW ac (a 9) re ++ (shW ac (a 40) k0 ++ (shW ac (a 41) k1 ++ (shW ac (a 10) ti))))))))))))) ++ ringW ac a rg) s.heap := hP
  have hl := lv_entry ([.ref (a 0 0), .int a1, .int a2]) (n := 3) (Nat.le_of_ble_eq_true rfl)
  rw [lg_entry_eq]
  generalize (lg_sl ([.ref (a 0 0), .int a1, .int a2]) ++ List.replicate (3 - (lg_sl ([.ref (a 0 0), .int a1, .int a2])).length) Slot.unset).toArray = ls at hl ⊢
  have hl : lv_has ls 3 [(0, .ref (a 0 0)), (1, .int a1), (2, .int a2)] := hl
  unfold K_tellOdds at hf
  show W p l e ({ frames := 1, cells := 0, slots := 0, locals := 27 } : Room) s m _ below meth c s.heap [] 0 0 _ (F0 m 0 ls [])
  refine lv_aload_n hx hb dX7_tellOdds_0 rfl (lv_at hl 0 rfl) ?_
  refine va_get (D := D) (ci := 7) (v := .ref (a 7 0)) (C := RX7) (T := TX7) (N := 13) hx hb htw WW_wsX70 hown hKX.1 hP 0 rfl rfl 8 (Nat.le_of_ble_eq_true rfl) (htw _ mF_RX7_58) (fun _ h9 => h9) rfl dX7_tellOdds_1 ?_
  refine lv_aload_n hx hb dX7_tellOdds_4 rfl (lv_at hl 0 rfl) ?_
  refine va_get (D := D) (ci := 7) (v := .ref (a 6 0)) (C := RX7) (T := TX7) (N := 13) hx hb htw WW_wsX70 hown hKX.1 hP 0 rfl rfl 7 (Nat.le_of_ble_eq_true rfl) (htw _ mF_RX7_51) (fun _ h9 => h9) rfl dX7_tellOdds_5 ?_
  refine lv_iload_n hx hb dX7_tellOdds_8 rfl (lv_at hl 1 rfl) ?_
  refine zc_RVl (As := [.int a1]) (rest := [.ref (a 7 0)]) hx hb hml hown htw (ctX0_winsOf l D ac cs (a 6) w1 w2 fc a1   _ rfl) (g_V mM_RX7_194 mI_yX0_winsOf mS_RX0_yX0_winsOf_yX0_winsOf mN_RX0 mC_yX0_winsOf) rfl (hd_yX0_winsOf) ⟨rfl, rfl⟩ ⟨(Nat.le_of_ble_eq_true rfl), (Nat.le_of_ble_eq_true rfl)⟩ hKX hC hS (hP.sub [16, 17, 18, 19, 20] rfl) 0 rfl rfl rfl hl.1 rfl (Nat.le_of_ble_eq_true rfl) ⟨Nat.zero_le _, Nat.zero_le _⟩ dX7_tellOdds_9 ?_
  refine lv_aload_n hx hb dX7_tellOdds_12 rfl (lv_at hl 0 rfl) ?_
  refine va_get (D := D) (ci := 7) (v := .ref (a 6 0)) (C := RX7) (T := TX7) (N := 13) hx hb htw WW_wsX70 hown hKX.1 hP 0 rfl rfl 7 (Nat.le_of_ble_eq_true rfl) (htw _ mF_RX7_51) (fun _ h9 => h9) rfl dX7_tellOdds_13 ?_
  refine va_getN (D := D) (ci := 0) (v := .long (fc_whole fc)) (C := RX0) (T := TX0) (N := 15) hx hb htw WW_wsX00 hown hKX.1 hP 16 rfl rfl 14 (Nat.le_of_ble_eq_true rfl) (va_Nw.use rfl (hKX.2 _ (List.mem_of_getElem? (i := 19) rfl))) (fun _ h9 => h9) rfl dX7_tellOdds_16 ?_
  obtain ⟨u1, hu1⟩ : ∃ y : Fr, y = Fr_put (Fc_winsOf fc a1) (fc_whole fc) := ⟨_, rfl⟩
  have hf := z_let_u hu1 hf
  refine zc_MVvT (As := [.long (Fc_winsOf fc a1), .long (fc_whole fc)]) (rest := []) (wr := koW ac a ko ++ (txW ac (a 1) tx ++ (shW ac (a 2) now ++ (shW ac (a 3) tr ++ (teW ac (a 4) (a 1) (a 10) te ++ (paW ac a pa ++ (fcW ac (a 6) w1 w2 fc ++ (frW ac (a 8) tp ++ (reW ac (a 9) re ++ (shW ac (a 40) k0 ++ (shW ac (a 41) k1 ++ (shW ac (a 10) ti)))))))))))) (wsc := frW ac (a 7) to) (wsc' := frW ac (a 7) u1) hx hb hml hown htw (ctX1_put l D ac cs (a 7) s.heap.size to (Fc_winsOf fc a1) (fc_whole fc)   u1 hu1.symm) (g_V mM_RX7_202 mI_yX1_put mS_RX1_yX1_put_yX1_put mN_RX1 mC_yX1_put) rfl (hd_yX1_put) ⟨rfl, rfl⟩ ⟨(Nat.le_of_ble_eq_true rfl), (Nat.le_of_ble_eq_true rfl)⟩ hKX hC hS hA hP hD [21] [0, 1, 2, 3, 4, 5, 6, 7, 8, 9, 10, 11, 12, 13, 14, 15, 16, 17, 18, 19, 20, 22, 23, 24, 25, 26, 27, 28, 29, 30, 31, 32, 33, 34, 35, 36, 37] rfl (by decide) rfl (by decide) (by decide) 1 rfl rfl rfl hl.1 rfl (Nat.le_of_ble_eq_true rfl) ⟨Nat.zero_le _, Nat.zero_le _⟩ dX7_tellOdds_19 (fun H locs hP hD hS => ?_)
  have hP : va_P D vwCl ((koW ac a ko ++ (txW ac (a 1) tx ++ (shW ac (a 2) now ++ (shW ac (a 3) tr ++ (teW ac (a 4) (a 1) (a 10) te ++ (paW ac a pa ++ (fcW ac (a 6) w1 w2 fc ++ (frW ac (a 7) u1 ++ (frW ac (a 8) tp ++ (reW ac (a 9) re ++ (shW ac (a 40) k0 ++ (shW ac (a 41) k1 ++ (shW ac (a 10) ti))))))))))))) ++ ringW ac a rg) H := zsubPT hP [0, 1, 2, 3, 4, 5, 6, 7, 8, 9, 10, 11, 12, 13, 14, 15, 16, 17, 18, 19, 20, 37, 21, 22, 23, 24, 25, 26, 27, 28, 29, 30, 31, 32, 33, 34, 35, 36] rfl
  have hD : va_D A ((koW ac a ko ++ (txW ac (a 1) tx ++ (shW ac (a 2) now ++ (shW ac (a 3) tr ++ (teW ac (a 4) (a 1) (a 10) te ++ (paW ac a pa ++ (fcW ac (a 6) w1 w2 fc ++ (frW ac (a 7) u1 ++ (frW ac (a 8) tp ++ (reW ac (a 9) re ++ (shW ac (a 40) k0 ++ (shW ac (a 41) k1 ++ (shW ac (a 10) ti))))))))))))) ++ ringW ac a rg) := zsubDT hD [0, 1, 2, 3, 4, 5, 6, 7, 8, 9, 10, 11, 12, 13, 14, 15, 16, 17, 18, 19, 20, 37, 21, 22, 23, 24, 25, 26, 27, 28, 29, 30, 31, 32, 33, 34, 35, 36] (by decide) rfl
  refine lv_aload_n hx hb dX7_tellOdds_22 rfl (lv_at hl 0 rfl) ?_
  refine va_get (D := D) (ci := 7) (v := .ref (a 7 0)) (C := RX7) (T := TX7) (N := 13) hx hb htw WW_wsX70 hown hKX.1 hP 0 rfl rfl 8 (Nat.le_of_ble_eq_true rfl) (htw _ mF_RX7_58) (fun _ h9 => h9) rfl dX7_tellOdds_23 ?_
  obtain ⟨u2, hu2, hf⟩ := z_bd_u hf
  refine zc_MVvT (As := []) (rest := []) (wr := koW ac a ko ++ (txW ac (a 1) tx ++ (shW ac (a 2) now ++ (shW ac (a 3) tr ++ (teW ac (a 4) (a 1) (a 10) te ++ (paW ac a pa ++ (fcW ac (a 6) w1 w2 fc ++ (frW ac (a 8) tp ++ (reW ac (a 9) re ++ (shW ac (a 40) k0 ++ (shW ac (a 41) k1 ++ (shW ac (a 10) ti)))))))))))) (wsc := frW ac (a 7) u1) (wsc' := frW ac (a 7) u2) hx hb hml hown htw (ctX1_reduce l D ac cs (a 7) H.size u1    F u2 hu2) (g_V mM_RX7_208 mI_yX1_reduce mS_RX1_yX1_reduce_yX1_reduce mN_RX1 mC_yX1_reduce) rfl (hd_yX1_reduce) ⟨rfl, rfl⟩ ⟨(Nat.le_of_ble_eq_true rfl), (Nat.le_of_ble_eq_true rfl)⟩ hKX hC hS hA hP hD [21] [0, 1, 2, 3, 4, 5, 6, 7, 8, 9, 10, 11, 12, 13, 14, 15, 16, 17, 18, 19, 20, 22, 23, 24, 25, 26, 27, 28, 29, 30, 31, 32, 33, 34, 35, 36, 37] rfl (by decide) rfl (by decide) (by decide) 1 rfl rfl rfl hl.1 rfl (Nat.le_of_ble_eq_true rfl) ⟨Nat.zero_le _, Nat.zero_le _⟩ dX7_tellOdds_26 (fun H locs hP hD hS => ?_)
  have hP : va_P D vwCl ((koW ac a ko ++ (txW ac (a 1) tx ++ (shW ac (a 2) now ++ (shW ac (a 3) tr ++ (teW ac (a 4) (a 1) (a 10) te ++ (paW ac a pa ++ (fcW ac (a 6) w1 w2 fc ++ (frW ac (a 7) u2 ++ (frW ac (a 8) tp ++ (reW ac (a 9) re ++ (shW ac (a 40) k0 ++ (shW ac (a 41) k1 ++ (shW ac (a 10) ti))))))))))))) ++ ringW ac a rg) H := zsubPT hP [0, 1, 2, 3, 4, 5, 6, 7, 8, 9, 10, 11, 12, 13, 14, 15, 16, 17, 18, 19, 20, 37, 21, 22, 23, 24, 25, 26, 27, 28, 29, 30, 31, 32, 33, 34, 35, 36] rfl
  have hD : va_D A ((koW ac a ko ++ (txW ac (a 1) tx ++ (shW ac (a 2) now ++ (shW ac (a 3) tr ++ (teW ac (a 4) (a 1) (a 10) te ++ (paW ac a pa ++ (fcW ac (a 6) w1 w2 fc ++ (frW ac (a 7) u2 ++ (frW ac (a 8) tp ++ (reW ac (a 9) re ++ (shW ac (a 40) k0 ++ (shW ac (a 41) k1 ++ (shW ac (a 10) ti))))))))))))) ++ ringW ac a rg) := zsubDT hD [0, 1, 2, 3, 4, 5, 6, 7, 8, 9, 10, 11, 12, 13, 14, 15, 16, 17, 18, 19, 20, 37, 21, 22, 23, 24, 25, 26, 27, 28, 29, 30, 31, 32, 33, 34, 35, 36] (by decide) rfl
  refine lv_aload_n hx hb dX7_tellOdds_29 rfl (lv_at hl 0 rfl) ?_
  refine va_get (D := D) (ci := 7) (v := .ref (a 7 0)) (C := RX7) (T := TX7) (N := 13) hx hb htw WW_wsX70 hown hKX.1 hP 0 rfl rfl 8 (Nat.le_of_ble_eq_true rfl) (htw _ mF_RX7_58) (fun _ h9 => h9) rfl dX7_tellOdds_30 ?_
  refine lv_iload_n hx hb dX7_tellOdds_33 rfl (lv_at hl 2 rfl) ?_
  refine zc_RVl (As := [.int a2]) (rest := []) hx hb hml hown htw (ctX1_part l D ac cs (a 7) u2 a2   _ rfl) (g_V mM_RX7_211 mI_yX1_part mS_RX1_yX1_part_yX1_part mN_RX1 mC_yX1_part) rfl (hd_yX1_part) ⟨rfl, rfl⟩ ⟨(Nat.le_of_ble_eq_true rfl), (Nat.le_of_ble_eq_true rfl)⟩ hKX hC hS (hP.sub [21] rfl) 1 rfl rfl rfl hl.1 rfl (Nat.le_of_ble_eq_true rfl) ⟨Nat.zero_le _, Nat.zero_le _⟩ dX7_tellOdds_34 ?_
  obtain rfl := Option.some.inj hf
  exact zr_Ml hx hb hr hlocks hP hD hS dX7_tellOdds_37

theorem hd_yX7_odds : hdY yX7_odds 2 := by decide +kernel
def K_odds (F : Nat) (now : Sh) (fc : Fc) (to : Fr) (a1 : Int32) (a2 : Int32) : Option (Int64 × Fc × Fr) := if K_isSideTold now a1 = 0 then (some ((-1), fc, to)) else (if K_isPart a2 = 0 then (some ((-1), fc, to)) else (z_bd (Fc_look F fc now) (fun u3 : Fc => z_bd (K_tellOdds F u3 a1 a2) (fun u7 : Int64 × Fr => some (u7.1, u3, u7.2)))))
set_option maxHeartbeats 4000000 in
set_option maxRecDepth 100000 in
theorem ctX7_odds (l : Launch) (D : va_G) (ac cs : Nat → Nat) (a : Nat → Nat → Nat) (w1 w2 : Nat) (sz : Nat) (ko : Ko) (tx : Tx) (now : Sh) (tr : Sh) (te : Te) (pa : Pa) (fc : Fc) (to : Fr) (tp : Fr) (re : Re) (k0 : Sh) (k1 : Sh) (ti : Sh) (rg : Nat → Sh) (a1 : Int32) (a2 : Int32) (F : Nat) (res : Int64 × Fc × Fr) (hf : K_odds F now fc to a1 a2 = some res) : Met l yX7_odds (cWW yX7_odds cX7_odds 3 (some .long)) { frames := 7, cells := 0, slots := 0, locals := 159 } (zM D ac cs [.ref (a 0 0), .int a1, .int a2] ((koW ac a ko ++ (txW ac (a 1) tx ++ (shW ac (a 2) now ++ (shW ac (a 3) tr ++ (teW ac (a 4) (a 1) (a 10) te ++ (paW ac a pa ++ (fcW ac (a 6) w1 w2 fc ++ (frW ac (a 7) to ++ (frW ac (a 8) tp ++ (reW ac (a 9) re ++ (shW ac (a 40) k0 ++ (shW ac (a 41) k1 ++ (shW ac (a 10) ti))))))))))))) ++ ringW ac a rg) sz) (va_Ql (fun r (_ : Nat × Nat) => r = res.1) (fun u => zB D (va_A ((koW ac a ko ++ (txW ac (a 1) tx ++ (shW ac (a 2) now ++ (shW ac (a 3) tr ++ (teW ac (a 4) (a 1) (a 10) te ++ (paW ac a pa ++ (fcW ac (a 6) w1 w2 fc ++ (frW ac (a 7) to ++ (frW ac (a 8) tp ++ (reW ac (a 9) re ++ (shW ac (a 40) k0 ++ (shW ac (a 41) k1 ++ (shW ac (a 10) ti))))))))))))) ++ ringW ac a rg) sz) ((koW ac a ko ++ (txW ac (a 1) tx ++ (shW ac (a 2) now ++ (shW ac (a 3) tr ++ (teW ac (a 4) (a 1) (a 10) te ++ (paW ac a pa ++ (fcW ac (a 6) u.1 u.2 res.2.1 ++ (frW ac (a 7) res.2.2 ++ (frW ac (a 8) tp ++ (reW ac (a 9) re ++ (shW ac (a 40) k0 ++ (shW ac (a 41) k1 ++ (shW ac (a 10) ti))))))))))))) ++ ringW ac a rg)) (va_A ((koW ac a ko ++ (txW ac (a 1) tx ++ (shW ac (a 2) now ++ (shW ac (a 3) tr ++ (teW ac (a 4) (a 1) (a 10) te ++ (paW ac a pa ++ (fcW ac (a 6) w1 w2 fc ++ (frW ac (a 7) to ++ (frW ac (a 8) tp ++ (reW ac (a 9) re ++ (shW ac (a 40) k0 ++ (shW ac (a 41) k1 ++ (shW ac (a 10) ti))))))))))))) ++ ringW ac a rg) sz)) 0 0 (va_A ((koW ac a ko ++ (txW ac (a 1) tx ++ (shW ac (a 2) now ++ (shW ac (a 3) tr ++ (teW ac (a 4) (a 1) (a 10) te ++ (paW ac a pa ++ (fcW ac (a 6) w1 w2 fc ++ (frW ac (a 7) to ++ (frW ac (a 8) tp ++ (reW ac (a 9) re ++ (shW ac (a 40) k0 ++ (shW ac (a 41) k1 ++ (shW ac (a 10) ti))))))))))))) ++ ringW ac a rg) sz) := by
  refine Met.ofW (cc := cX7_odds) (maxL := 3) (ret := (some .long)) (by decide) rfl ?_
  intro p e s m args below meth c s₁ B hml hv
  obtain ⟨rfl, hsz, hP, hKX, hD0, hC⟩ := hv
  have hx := B.exec
  have hb := B.bytes
  have hr := B.returns
  have hts := atoms_spec (ws := cWW yX7_odds cX7_odds 3 (some .long)) B.pre
  have htw : ∀ w ∈ WW, w.before _ s = true := fun w h => hts w (List.mem_cons_of_mem _ h)
  have hown : s.vm.findClass RX7 = some m.cls := findClass_of_methodNamed B.named
  have hlocks := B.notSynchronized
  clear hts B
  subst hsz
  have hD := hD0.self (sz := s.heap.size)
  generalize hAe : va_A ((koW ac a ko ++ (txW ac (a 1) tx ++ (shW ac (a 2) now ++ (shW ac (a 3) tr ++ (teW ac (a 4) (a 1) (a 10) te ++ (paW ac a pa ++ (fcW ac (a 6) w1 w2 fc ++ (frW ac (a 7) to ++ (frW ac (a 8) tp ++ (reW ac (a 9) re ++ (shW ac (a 40) k0 ++ (shW ac (a 41) k1 ++ (shW ac (a 10) ti))))))))))))) ++ ringW ac a rg) s.heap.size = A at hD hC ⊢
  have hA : ∀ q : Nat, s.heap.size ≤ q → A q := fun q h => by rw [← hAe]; exact Or.inr h
  have hS : va_S A s.heap s.heap [] := va_S.rf
  clear hD0 hAe
  have hP : va_P D vwCl ((koW ac a ko ++ (txW ac (a 1) tx ++ (shW ac (a 2) now ++ (shW ac (a 3) tr ++ (teW ac (a 4) (a 1) (a 10) te ++ (paW ac a pa ++ (fcW ac (a 6) w1 w2 fc ++ (frW ac (a 7) to ++ (frW ac (a 8) tp ++ (reW ac (a 9) re ++ (shW ac (a 40) k0 ++ (shW ac (a 41) k1 ++ (shW ac (a 10) ti))))))))))))) ++ ringW ac a rg) s.heap := hP
  have hl := lv_entry ([.ref (a 0 0), .int a1, .int a2]) (n := 3) (Nat.le_of_ble_eq_true rfl)
  rw [lg_entry_eq]
  generalize (lg_sl ([.ref (a 0 0), .int a1, .int a2]) ++ List.replicate (3 - (lg_sl ([.ref (a 0 0), .int a1, .int a2])).length) Slot.unset).toArray = ls at hl ⊢
  have hl : lv_has ls 3 [(0, .ref (a 0 0)), (1, .int a1), (2, .int a2)] := hl
  unfold K_odds at hf
  show W p l e ({ frames := 7, cells := 0, slots := 0, locals := 159 } : Room) s m _ below meth c s.heap [] 0 0 _ (F0 m 0 ls [])
  refine lv_aload_n hx hb dX7_odds_0 rfl (lv_at hl 0 rfl) ?_
  refine lv_iload_n hx hb dX7_odds_1 rfl (lv_at hl 1 rfl) ?_
  refine zc_RVi (As := [.int a1]) (rest := []) hx hb hml hown htw (ctX7_isSideTold l D ac cs a w1 w2 ko tx now tr te pa fc to tp re k0 k1 ti rg a1   _ rfl) (g_V mM_RX7_107 mI_yX7_isSideTold mS_RX7_yX7_isSideTold_yX7_isSideTold mN_RX7 mC_yX7_isSideTold) rfl (hd_yX7_isSideTold) ⟨rfl, rfl⟩ ⟨(Nat.le_of_ble_eq_true rfl), (Nat.le_of_ble_eq_true rfl)⟩ hKX hC hS hP 7 rfl rfl rfl hl.1 rfl (Nat.le_of_ble_eq_true rfl) ⟨Nat.zero_le _, Nat.zero_le _⟩ dX7_odds_2 ?_
  refine lv_if_eq (tgt := 15) hx hb dX7_odds_5 (by decide) (fun c1 => ?_) (fun c1 => ?_)
  · have hf := z_p c1 hf
    refine lv_ldc2 (v := (-1)) hx hb hown (htw _ mG_RX7_183) dX7_odds_15 ?_
    obtain rfl := Option.some.inj hf
    exact zr_MlX (w1, w2) hx hb hr hlocks hP hD hS dX7_odds_18
  · have hf := z_n c1 hf
    refine lv_iload_n hx hb dX7_odds_8 rfl (lv_at hl 2 rfl) ?_
    refine zc_RSi (As := [.int a2]) (rest := []) hx hb hml hown htw (ctX7_isPart l D ac cs   a2   _ rfl) (g_S mM_RX7_180 mT_yX7_isPart mN_RX7 mC_yX7_isPart) (hd_yX7_isPart) ⟨rfl, rfl⟩ ⟨(Nat.le_of_ble_eq_true rfl), (Nat.le_of_ble_eq_true rfl)⟩ hKX hC hS zP0 rfl hl.1 rfl (Nat.le_of_ble_eq_true rfl) ⟨Nat.zero_le _, Nat.zero_le _⟩ dX7_odds_9 ?_
    refine lv_if_ne (tgt := 19) hx hb dX7_odds_12 (by decide) (fun c2 => ?_) (fun c2 => ?_)
    · have hf := z_n c2 hf
      refine lv_aload_n hx hb dX7_odds_19 rfl (lv_at hl 0 rfl) ?_
      refine va_get (D := D) (ci := 7) (v := .ref (a 6 0)) (C := RX7) (T := TX7) (N := 13) hx hb htw WW_wsX70 hown hKX.1 hP 0 rfl rfl 7 (Nat.le_of_ble_eq_true rfl) (htw _ mF_RX7_51) (fun _ h9 => h9) rfl dX7_odds_20 ?_
      refine lv_aload_n hx hb dX7_odds_23 rfl (lv_at hl 0 rfl) ?_
      refine va_get (D := D) (ci := 7) (v := .ref (a 2 0)) (C := RX7) (T := TX7) (N := 13) hx hb htw WW_wsX70 hown hKX.1 hP 0 rfl rfl 2 (Nat.le_of_ble_eq_true rfl) (htw _ mF_RX7_26) (fun _ h9 => h9) rfl dX7_odds_24 ?_
      obtain ⟨u3, hu3, hf⟩ := z_bd_u hf
      refine zc_MVvXT (As := [.ref (a 2 0)]) (rest := []) (wr := koW ac a ko ++ (txW ac (a 1) tx ++ (shW ac (a 3) tr ++ (teW ac (a 4) (a 1) (a 10) te ++ (paW ac a pa ++ (frW ac (a 7) to ++ (frW ac (a 8) tp ++ (reW ac (a 9) re ++ (shW ac (a 40) k0 ++ (shW ac (a 41) k1 ++ (shW ac (a 10) ti))))))))))) (wsc := fcW ac (a 6) w1 w2 fc ++ (shW ac (a 2) now)) (wsc' := fun u4 : Nat × Nat => fcW ac (a 6) u4.1 u4.2 u3 ++ (shW ac (a 2) now)) hx hb hml hown htw (ctX0_look l D ac cs (a 6) w1 w2 (a 2) s.heap.size fc now    F u3 hu3) (g_V mM_RX7_185 mI_yX0_look mS_RX0_yX0_look_yX0_look mN_RX0 mC_yX0_look) rfl (hd_yX0_look) ⟨rfl, rfl⟩ ⟨(Nat.le_of_ble_eq_true rfl), (Nat.le_of_ble_eq_true rfl)⟩ hKX hC hS hA hP hD [16, 17, 18, 19, 20, 6, 7, 8] [0, 1, 2, 3, 4, 5, 9, 10, 11, 12, 13, 14, 15, 21, 22, 23, 24, 25, 26, 27, 28, 29, 30, 31, 32, 33, 34, 35, 36, 37] rfl (by decide) rfl (by decide) (by decide) 0 rfl rfl rfl hl.1 rfl (Nat.le_of_ble_eq_true rfl) ⟨Nat.zero_le _, Nat.zero_le _⟩ dX7_odds_27 (fun u4 H locs hP hD hS => ?_)
      obtain ⟨w5, w6⟩ := u4
      have hP : va_P D vwCl ((koW ac a ko ++ (txW ac (a 1) tx ++ (shW ac (a 2) now ++ (shW ac (a 3) tr ++ (teW ac (a 4) (a 1) (a 10) te ++ (paW ac a pa ++ (fcW ac (a 6) w5 w6 u3 ++ (frW ac (a 7) to ++ (frW ac (a 8) tp ++ (reW ac (a 9) re ++ (shW ac (a 40) k0 ++ (shW ac (a 41) k1 ++ (shW ac (a 10) ti))))))))))))) ++ ringW ac a rg) H := zsubPT hP [0, 1, 2, 3, 4, 5, 35, 36, 37, 6, 7, 8, 9, 10, 11, 12, 30, 31, 32, 33, 34, 13, 14, 15, 16, 17, 18, 19, 20, 21, 22, 23, 24, 25, 26, 27, 28, 29] rfl
      have hD : va_D A ((koW ac a ko ++ (txW ac (a 1) tx ++ (shW ac (a 2) now ++ (shW ac (a 3) tr ++ (teW ac (a 4) (a 1) (a 10) te ++ (paW ac a pa ++ (fcW ac (a 6) w5 w6 u3 ++ (frW ac (a 7) to ++ (frW ac (a 8) tp ++ (reW ac (a 9) re ++ (shW ac (a 40) k0 ++ (shW ac (a 41) k1 ++ (shW ac (a 10) ti))))))))))))) ++ ringW ac a rg) := zsubDT hD [0, 1, 2, 3, 4, 5, 35, 36, 37, 6, 7, 8, 9, 10, 11, 12, 30, 31, 32, 33, 34, 13, 14, 15, 16, 17, 18, 19, 20, 21, 22, 23, 24, 25, 26, 27, 28, 29] (by decide) rfl
      refine lv_aload_n hx hb dX7_odds_30 rfl (lv_at hl 0 rfl) ?_
      refine lv_iload_n hx hb dX7_odds_31 rfl (lv_at hl 1 rfl) ?_
      refine lv_iload_n hx hb dX7_odds_32 rfl (lv_at hl 2 rfl) ?_
      obtain ⟨u7, hu7, hf⟩ := z_bd_u hf
      refine zc_MVlT (E := (koW ac a ko ++ (txW ac (a 1) tx ++ (shW ac (a 2) now ++ (shW ac (a 3) tr ++ (teW ac (a 4) (a 1) (a 10) te ++ (paW ac a pa ++ (fcW ac (a 6) w5 w6 u3 ++ (frW ac (a 7) to ++ (frW ac (a 8) tp ++ (reW ac (a 9) re ++ (shW ac (a 40) k0 ++ (shW ac (a 41) k1 ++ (shW ac (a 10) ti))))))))))))) ++ ringW ac a rg) (TT := []) (As := [.int a1, .int a2]) (rest := []) (wr := []) (wsc := (koW ac a ko ++ (txW ac (a 1) tx ++ (shW ac (a 2) now ++ (shW ac (a 3) tr ++ (teW ac (a 4) (a 1) (a 10) te ++ (paW ac a pa ++ (fcW ac (a 6) w5 w6 u3 ++ (frW ac (a 7) to ++ (frW ac (a 8) tp ++ (reW ac (a 9) re ++ (shW ac (a 40) k0 ++ (shW ac (a 41) k1 ++ (shW ac (a 10) ti))))))))))))) ++ ringW ac a rg) (wsc' := (koW ac a ko ++ (txW ac (a 1) tx ++ (shW ac (a 2) now ++ (shW ac (a 3) tr ++ (teW ac (a 4) (a 1) (a 10) te ++ (paW ac a pa ++ (fcW ac (a 6) w5 w6 u3 ++ (frW ac (a 7) u7.2 ++ (frW ac (a 8) tp ++ (reW ac (a 9) re ++ (shW ac (a 40) k0 ++ (shW ac (a 41) k1 ++ (shW ac (a 10) ti))))))))))))) ++ ringW ac a rg) hx hb hml hown htw (ctX7_tellOdds l D ac cs a w5 w6 H.size ko tx now tr te pa u3 to tp re k0 k1 ti rg a1 a2   F u7 hu7) (g_V mM_RX7_188 mI_yX7_tellOdds mS_RX7_yX7_tellOdds_yX7_tellOdds mN_RX7 mC_yX7_tellOdds) rfl (hd_yX7_tellOdds) ⟨rfl, rfl⟩ ⟨(Nat.le_of_ble_eq_true rfl), (Nat.le_of_ble_eq_true rfl)⟩ hKX hC hS hA (zP_nil hP) (zD_nil hD) (List.range _) [] (zrange _) (zndr _) rfl rfl (fun _ h => by cases h) 7 rfl rfl rfl hl.1 rfl (Nat.le_of_ble_eq_true rfl) ⟨Nat.zero_le _, Nat.zero_le _⟩ dX7_odds_33 (fun H locs hP hD hS => ?_)
      have hP : va_P D vwCl ((koW ac a ko ++ (txW ac (a 1) tx ++ (shW ac (a 2) now ++ (shW ac (a 3) tr ++ (teW ac (a 4) (a 1) (a 10) te ++ (paW ac a pa ++ (fcW ac (a 6) w5 w6 u3 ++ (frW ac (a 7) u7.2 ++ (frW ac (a 8) tp ++ (reW ac (a 9) re ++ (shW ac (a 40) k0 ++ (shW ac (a 41) k1 ++ (shW ac (a 10) ti))))))))))))) ++ ringW ac a rg) H := zP_un hP
      have hD : va_D A ((koW ac a ko ++ (txW ac (a 1) tx ++ (shW ac (a 2) now ++ (shW ac (a 3) tr ++ (teW ac (a 4) (a 1) (a 10) te ++ (paW ac a pa ++ (fcW ac (a 6) w5 w6 u3 ++ (frW ac (a 7) u7.2 ++ (frW ac (a 8) tp ++ (reW ac (a 9) re ++ (shW ac (a 40) k0 ++ (shW ac (a 41) k1 ++ (shW ac (a 10) ti))))))))))))) ++ ringW ac a rg) := zD_un hD
      obtain rfl := Option.some.inj hf
      exact zr_MlX (w5, w6) hx hb hr hlocks hP hD hS dX7_odds_36
    · have hf := z_p c2 hf
      refine lv_ldc2 (v := (-1)) hx hb hown (htw _ mG_RX7_183) dX7_odds_15 ?_
      obtain rfl := Option.some.inj hf
      exact zr_MlX (w1, w2) hx hb hr hlocks hP hD hS dX7_odds_18

theorem hd_yX7_matters : hdY yX7_matters 1 := by decide +kernel
def K_matters (F : Nat) (now : Sh) (tr : Sh) (fc : Fc) (to : Fr) (a1 : Int32) : Option (Int64 × Sh × Fc × Fr) := if (sh_shooters now) = 0 then (some ((-2147483648), tr, fc, to)) else (if K_isPart a1 = 0 then (some ((-2147483648), tr, fc, to)) else (if Sh_isOver now = 0 then (z_let (Sh_kicker now) (fun x4 : Int32 => z_bd (Sh_copyFrom F tr now) (fun u5 : Sh => z_let (Sh_put u5 1) (fun u6 : Sh => z_bd (Fc_look F fc u6) (fun u7 : Fc => z_let (Fr_put (Fc_winsOf u7 x4) (fc_whole u7)) (fun u11 : Fr => z_bd (Sh_copyFrom F u6 now) (fun u12 : Sh => z_let (Sh_put u12 0) (fun u13 : Sh => z_bd (Fc_look F u7 u13) (fun u14 : Fc => z_let (Fr_take u11 (Fc_winsOf u14 x4) (fc_whole u14)) (fun u18 : Fr => z_bd (Fr_reduce F u18) (fun u19 : Fr => some (Fr_part u19 a1, u13, u14, u19)))))))))))) else (some ((-2147483648), tr, fc, to))))
set_option maxHeartbeats 4000000 in
set_option maxRecDepth 100000 in
theorem ctX7_matters (l : Launch) (D : va_G) (ac cs : Nat → Nat) (a : Nat → Nat → Nat) (w1 w2 : Nat) (sz : Nat) (ko : Ko) (tx : Tx) (now : Sh) (tr : Sh) (te : Te) (pa : Pa) (fc : Fc) (to : Fr) (tp : Fr) (re : Re) (k0 : Sh) (k1 : Sh) (ti : Sh) (rg : Nat → Sh) (a1 : Int32) (F : Nat) (res : Int64 × Sh × Fc × Fr) (hf : K_matters F now tr fc to a1 = some res) : Met l yX7_matters (cWW yX7_matters cX7_matters 3 (some .long)) { frames := 7, cells := 0, slots := 0, locals := 159 } (zM D ac cs [.ref (a 0 0), .int a1] ((koW ac a ko ++ (txW ac (a 1) tx ++ (shW ac (a 2) now ++ (shW ac (a 3) tr ++ (teW ac (a 4) (a 1) (a 10) te ++ (paW ac a pa ++ (fcW ac (a 6) w1 w2 fc ++ (frW ac (a 7) to ++ (frW ac (a 8) tp ++ (reW ac (a 9) re ++ (shW ac (a 40) k0 ++ (shW ac (a 41) k1 ++ (shW ac (a 10) ti))))))))))))) ++ ringW ac a rg) sz) (va_Ql (fun r (_ : Nat × Nat) => r = res.1) (fun u => zB D (va_A ((koW ac a ko ++ (txW ac (a 1) tx ++ (shW ac (a 2) now ++ (shW ac (a 3) tr ++ (teW ac (a 4) (a 1) (a 10) te ++ (paW ac a pa ++ (fcW ac (a 6) w1 w2 fc ++ (frW ac (a 7) to ++ (frW ac (a 8) tp ++ (reW ac (a 9) re ++ (shW ac (a 40) k0 ++ (shW ac (a 41) k1 ++ (shW ac (a 10) ti))))))))))))) ++ ringW ac a rg) sz) ((koW ac a ko ++ (txW ac (a 1) tx ++ (shW ac (a 2) now ++ (shW ac (a 3) res.2.1 ++ (teW ac (a 4) (a 1) (a 10) te ++ (paW ac a pa ++ (fcW ac (a 6) u.1 u.2 res.2.2.1 ++ (frW ac (a 7) res.2.2.2 ++ (frW ac (a 8) tp ++ (reW ac (a 9) re ++ (shW ac (a 40) k0 ++ (shW ac (a 41) k1 ++ (shW ac (a 10) ti))))))))))))) ++ ringW ac a rg)) (va_A ((koW ac a ko ++ (txW ac (a 1) tx ++ (shW ac (a 2) now ++ (shW ac (a 3) tr ++ (teW ac (a 4) (a 1) (a 10) te ++ (paW ac a pa ++ (fcW ac (a 6) w1 w2 fc ++ (frW ac (a 7) to ++ (frW ac (a 8) tp ++ (reW ac (a 9) re ++ (shW ac (a 40) k0 ++ (shW ac (a 41) k1 ++ (shW ac (a 10) ti))))))))))))) ++ ringW ac a rg) sz)) 0 0 (va_A ((koW ac a ko ++ (txW ac (a 1) tx ++ (shW ac (a 2) now ++ (shW ac (a 3) tr ++ (teW ac (a 4) (a 1) (a 10) te ++ (paW ac a pa ++ (fcW ac (a 6) w1 w2 fc ++ (frW ac (a 7) to ++ (frW ac (a 8) tp ++ (reW ac (a 9) re ++ (shW ac (a 40) k0 ++ (shW ac (a 41) k1 ++ (shW ac (a 10) ti))))))))))))) ++ ringW ac a rg) sz) := by
  refine Met.ofW (cc := cX7_matters) (maxL := 3) (ret := (some .long)) (by decide) rfl ?_
  intro p e s m args below meth c s₁ B hml hv
  obtain ⟨rfl, hsz, hP, hKX, hD0, hC⟩ := hv
  have hx := B.exec
  have hb := B.bytes
  have hr := B.returns
  have hts := atoms_spec (ws := cWW yX7_matters cX7_matters 3 (some .long)) B.pre
  have htw : ∀ w ∈ WW, w.before _ s = true := fun w h => hts w (List.mem_cons_of_mem _ h)
  have hown : s.vm.findClass RX7 = some m.cls := findClass_of_methodNamed B.named
  have hlocks := B.notSynchronized
  clear hts B
  subst hsz
  have hD := hD0.self (sz := s.heap.size)
  generalize hAe : va_A ((koW ac a ko ++ (txW ac (a 1) tx ++ (shW ac (a 2) now ++ (shW ac (a 3) tr ++ (teW ac (a 4) (a 1) (a 10) te ++ (paW ac a pa ++ (fcW ac (a 6) w1 w2 fc ++ (frW ac (a 7) to ++ (frW ac (a 8) tp ++ (reW ac (a 9) re ++ (shW ac (a 40) k0 ++ (shW ac (a 41) k1 ++ (shW ac (a 10) ti))))))))))))) ++ ringW ac a rg) s.heap.size = A at hD hC ⊢
  have hA : ∀ q : Nat, s.heap.size ≤ q → A q := fun q h => by rw [← hAe]; exact Or.inr h
  have hS : va_S A s.heap s.heap [] := va_S.rf
  clear hD0 hAe
  have hP : va_P D vwCl ((koW ac a ko ++ (txW ac (a 1) tx ++ (shW ac (a 2) now ++ (shW ac (a 3) tr ++ (teW ac (a 4) (a 1) (a 10) te ++ (paW ac a pa ++ (fcW ac (a 6) w1 w2 fc ++ (frW ac (a 7) to ++ (frW ac (a 8) tp ++ (reW ac (a 9) re ++ (shW ac (a 40) k0 ++ (shW ac (a 41) k1 ++ (shW ac (a 10) ti))))))))))))) ++ ringW ac a rg) s.heap := hP
  have hl := lv_entry ([.ref (a 0 0), .int a1]) (n := 3) (Nat.le_of_ble_eq_true rfl)
  rw [lg_entry_eq]
  generalize (lg_sl ([.ref (a 0 0), .int a1]) ++ List.replicate (3 - (lg_sl ([.ref (a 0 0), .int a1])).length) Slot.unset).toArray = ls at hl ⊢
  have hl : lv_has ls 3 [(0, .ref (a 0 0)), (1, .int a1)] := hl
  unfold K_matters at hf
  show W p l e ({ frames := 7, cells := 0, slots := 0, locals := 159 } : Room) s m _ below meth c s.heap [] 0 0 _ (F0 m 0 ls [])
  refine lv_aload_n hx hb dX7_matters_0 rfl (lv_at hl 0 rfl) ?_
  refine va_get (D := D) (ci := 7) (v := .ref (a 2 0)) (C := RX7) (T := TX7) (N := 13) hx hb htw WW_wsX70 hown hKX.1 hP 0 rfl rfl 2 (Nat.le_of_ble_eq_true rfl) (htw _ mF_RX7_26) (fun _ h9 => h9) rfl dX7_matters_1 ?_
  refine va_getN (D := D) (ci := 4) (v := .int (sh_shooters now)) (C := RX4) (T := TX4) (N := 10) hx hb htw WW_wsX40 hown hKX.1 hP 6 rfl rfl 0 (Nat.le_of_ble_eq_true rfl) (va_Nw.use rfl (hKX.2 _ (List.mem_of_getElem? (i := 3) rfl))) (fun _ h9 => h9) rfl dX7_matters_4 ?_
  refine lv_if_eq (tgt := 27) hx hb dX7_matters_7 (by decide) (fun c1 => ?_) (fun c1 => ?_)
  · have hf := z_p c1 hf
    refine lv_ldc2 (v := (-2147483648)) hx hb hown (htw _ mG_RX7_192) dX7_matters_27 ?_
    obtain rfl := Option.some.inj hf
    exact zr_MlX (w1, w2) hx hb hr hlocks hP hD hS dX7_matters_30
  · have hf := z_n c1 hf
    refine lv_iload_n hx hb dX7_matters_10 rfl (lv_at hl 1 rfl) ?_
    refine zc_RSi (As := [.int a1]) (rest := []) hx hb hml hown htw (ctX7_isPart l D ac cs   a1   _ rfl) (g_S mM_RX7_180 mT_yX7_isPart mN_RX7 mC_yX7_isPart) (hd_yX7_isPart) ⟨rfl, rfl⟩ ⟨(Nat.le_of_ble_eq_true rfl), (Nat.le_of_ble_eq_true rfl)⟩ hKX hC hS zP0 rfl hl.1 rfl (Nat.le_of_ble_eq_true rfl) ⟨Nat.zero_le _, Nat.zero_le _⟩ dX7_matters_11 ?_
    refine lv_if_eq (tgt := 27) hx hb dX7_matters_14 (by decide) (fun c2 => ?_) (fun c2 => ?_)
    · have hf := z_p c2 hf
      refine lv_ldc2 (v := (-2147483648)) hx hb hown (htw _ mG_RX7_192) dX7_matters_27 ?_
      obtain rfl := Option.some.inj hf
      exact zr_MlX (w1, w2) hx hb hr hlocks hP hD hS dX7_matters_30
    · have hf := z_n c2 hf
      refine lv_aload_n hx hb dX7_matters_17 rfl (lv_at hl 0 rfl) ?_
      refine va_get (D := D) (ci := 7) (v := .ref (a 2 0)) (C := RX7) (T := TX7) (N := 13) hx hb htw WW_wsX70 hown hKX.1 hP 0 rfl rfl 2 (Nat.le_of_ble_eq_true rfl) (htw _ mF_RX7_26) (fun _ h9 => h9) rfl dX7_matters_18 ?_
      refine zc_RVi (As := []) (rest := []) hx hb hml hown htw (ctX4_isOver l D ac cs (a 2) now    _ rfl) (g_V mM_RX7_168 mI_yX4_isOver mS_RX4_yX4_isOver_yX4_isOver mN_RX4 mC_yX4_isOver) rfl (hd_yX4_isOver) ⟨rfl, rfl⟩ ⟨(Nat.le_of_ble_eq_true rfl), (Nat.le_of_ble_eq_true rfl)⟩ hKX hC hS (hP.sub [6, 7, 8] rfl) 4 rfl rfl rfl hl.1 rfl (Nat.le_of_ble_eq_true rfl) ⟨Nat.zero_le _, Nat.zero_le _⟩ dX7_matters_21 ?_
      refine lv_if_eq (tgt := 31) hx hb dX7_matters_24 (by decide) (fun c3 => ?_) (fun c3 => ?_)
      · have hf := z_p c3 hf
        refine lv_aload_n hx hb dX7_matters_31 rfl (lv_at hl 0 rfl) ?_
        refine va_get (D := D) (ci := 7) (v := .ref (a 2 0)) (C := RX7) (T := TX7) (N := 13) hx hb htw WW_wsX70 hown hKX.1 hP 0 rfl rfl 2 (Nat.le_of_ble_eq_true rfl) (htw _ mF_RX7_26) (fun _ h9 => h9) rfl dX7_matters_32 ?_
        refine zc_RVi (As := []) (rest := []) hx hb hml hown htw (ctX4_kicker l D ac cs (a 2) now    _ rfl) (g_V mM_RX7_133 mI_yX4_kicker mS_RX4_yX4_kicker_yX4_kicker mN_RX4 mC_yX4_kicker) rfl (hd_yX4_kicker) ⟨rfl, rfl⟩ ⟨(Nat.le_of_ble_eq_true rfl), (Nat.le_of_ble_eq_true rfl)⟩ hKX hC hS (hP.sub [6, 7, 8] rfl) 4 rfl rfl rfl hl.1 rfl (Nat.le_of_ble_eq_true rfl) ⟨Nat.zero_le _, Nat.zero_le _⟩ dX7_matters_35 ?_
        refine lv_topi (fun x4 hx4 => ?_)
        have hf := z_let_u hx4 hf
        refine lv_istore_n (lv' := [(2, .int x4), (0, .ref (a 0 0)), (1, .int a1)]) hx hb dX7_matters_38 rfl hl (Nat.le_of_ble_eq_true rfl) rfl (fun ls hl => ?_)
        refine lv_aload_n hx hb dX7_matters_39 rfl (lv_at hl 1 rfl) ?_
        refine va_get (D := D) (ci := 7) (v := .ref (a 3 0)) (C := RX7) (T := TX7) (N := 13) hx hb htw WW_wsX70 hown hKX.1 hP 0 rfl rfl 3 (Nat.le_of_ble_eq_true rfl) (htw _ mF_RX7_30) (fun _ h9 => h9) rfl dX7_matters_40 ?_
        refine lv_aload_n hx hb dX7_matters_43 rfl (lv_at hl 1 rfl) ?_
        refine va_get (D := D) (ci := 7) (v := .ref (a 2 0)) (C := RX7) (T := TX7) (N := 13) hx hb htw WW_wsX70 hown hKX.1 hP 0 rfl rfl 2 (Nat.le_of_ble_eq_true rfl) (htw _ mF_RX7_26) (fun _ h9 => h9) rfl dX7_matters_44 ?_
        obtain ⟨u5, hu5, hf⟩ := z_bd_u hf
        refine zc_MVvT (As := [.ref (a 2 0)]) (rest := []) (wr := koW ac a ko ++ (txW ac (a 1) tx ++ (teW ac (a 4) (a 1) (a 10) te ++ (paW ac a pa ++ (fcW ac (a 6) w1 w2 fc ++ (frW ac (a 7) to ++ (frW ac (a 8) tp ++ (reW ac (a 9) re ++ (shW ac (a 40) k0 ++ (shW ac (a 41) k1 ++ (shW ac (a 10) ti))))))))))) (wsc := shW ac (a 3) tr ++ (shW ac (a 2) now)) (wsc' := shW ac (a 3) u5 ++ (shW ac (a 2) now)) hx hb hml hown htw (ctX4_copyFrom l D ac cs (a 3) (a 2) s.heap.size tr now    F u5 hu5) (g_V mM_RX7_93 mI_yX4_copyFrom mS_RX4_yX4_copyFrom_yX4_copyFrom mN_RX4 mC_yX4_copyFrom) rfl (hd_yX4_copyFrom) ⟨rfl, rfl⟩ ⟨(Nat.le_of_ble_eq_true rfl), (Nat.le_of_ble_eq_true rfl)⟩ hKX hC hS hA hP hD [9, 10, 11, 6, 7, 8] [0, 1, 2, 3, 4, 5, 12, 13, 14, 15, 16, 17, 18, 19, 20, 21, 22, 23, 24, 25, 26, 27, 28, 29, 30, 31, 32, 33, 34, 35, 36, 37] rfl (by decide) rfl (by decide) (by decide) 4 rfl rfl rfl hl.1 rfl (Nat.le_of_ble_eq_true rfl) ⟨Nat.zero_le _, Nat.zero_le _⟩ dX7_matters_47 (fun H locs hP hD hS => ?_)
        have hP : va_P D vwCl ((koW ac a ko ++ (txW ac (a 1) tx ++ (shW ac (a 2) now ++ (shW ac (a 3) u5 ++ (teW ac (a 4) (a 1) (a 10) te ++ (paW ac a pa ++ (fcW ac (a 6) w1 w2 fc ++ (frW ac (a 7) to ++ (frW ac (a 8) tp ++ (reW ac (a 9) re ++ (shW ac (a 40) k0 ++ (shW ac (a 41) k1 ++ (shW ac (a 10) ti))))))))))))) ++ ringW ac a rg) H := zsubPT hP [0, 1, 2, 3, 4, 5, 35, 36, 37, 32, 33, 34, 6, 7, 8, 9, 10, 11, 12, 13, 14, 15, 16, 17, 18, 19, 20, 21, 22, 23, 24, 25, 26, 27, 28, 29, 30, 31] rfl
        have hD : va_D A ((koW ac a ko ++ (txW ac (a 1) tx ++ (shW ac (a 2) now ++ (shW ac (a 3) u5 ++ (teW ac (a 4) (a 1) (a 10) te ++ (paW ac a pa ++ (fcW ac (a 6) w1 w2 fc ++ (frW ac (a 7) to ++ (frW ac (a 8) tp ++ (reW ac (a 9) re ++ (shW ac (a 40) k0 ++ (shW ac (a 41) k1 ++ (shW ac (a 10) ti))))))))))))) ++ ringW ac a rg) := zsubDT hD [0, 1, 2, 3, 4, 5, 35, 36, 37, 32, 33, 34, 6, 7, 8, 9, 10, 11, 12, 13, 14, 15, 16, 17, 18, 19, 20, 21, 22, 23, 24, 25, 26, 27, 28, 29, 30, 31] (by decide) rfl
        refine lv_aload_n hx hb dX7_matters_50 rfl (lv_at hl 1 rfl) ?_
        refine va_get (D := D) (ci := 7) (v := .ref (a 3 0)) (C := RX7) (T := TX7) (N := 13) hx hb htw WW_wsX70 hown hKX.1 hP 0 rfl rfl 3 (Nat.le_of_ble_eq_true rfl) (htw _ mF_RX7_30) (fun _ h9 => h9) rfl dX7_matters_51 ?_
        refine lv_iconst (v := 1) hx hb dX7_matters_54 rfl ?_
        obtain ⟨u6, hu6⟩ : ∃ y : Sh, y = Sh_put u5 1 := ⟨_, rfl⟩
        have hf := z_let_u hu6 hf
        refine zc_MVvT (As := [.int 1]) (rest := []) (wr := koW ac a ko ++ (txW ac (a 1) tx ++ (shW ac (a 2) now ++ (teW ac (a 4) (a 1) (a 10) te ++ (paW ac a pa ++ (fcW ac (a 6) w1 w2 fc ++ (frW ac (a 7) to ++ (frW ac (a 8) tp ++ (reW ac (a 9) re ++ (shW ac (a 40) k0 ++ (shW ac (a 41) k1 ++ (shW ac (a 10) ti)))))))))))) (wsc := shW ac (a 3) u5) (wsc' := shW ac (a 3) u6) hx hb hml hown htw (ctX4_put l D ac cs (a 3) H.size u5 1   u6 hu6.symm) (g_V mM_RX7_136 mI_yX4_put mS_RX4_yX4_put_yX4_put mN_RX4 mC_yX4_put) rfl (hd_yX4_put) ⟨rfl, rfl⟩ ⟨(Nat.le_of_ble_eq_true rfl), (Nat.le_of_ble_eq_true rfl)⟩ hKX hC hS hA hP hD [9, 10, 11] [0, 1, 2, 3, 4, 5, 6, 7, 8, 12, 13, 14, 15, 16, 17, 18, 19, 20, 21, 22, 23, 24, 25, 26, 27, 28, 29, 30, 31, 32, 33, 34, 35, 36, 37] rfl (by decide) rfl (by decide) (by decide) 4 rfl rfl rfl hl.1 rfl (Nat.le_of_ble_eq_true rfl) ⟨Nat.zero_le _, Nat.zero_le _⟩ dX7_matters_55 (fun H locs hP hD hS => ?_)
        have hP : va_P D vwCl ((koW ac a ko ++ (txW ac (a 1) tx ++ (shW ac (a 2) now ++ (shW ac (a 3) u6 ++ (teW ac (a 4) (a 1) (a 10) te ++ (paW ac a pa ++ (fcW ac (a 6) w1 w2 fc ++ (frW ac (a 7) to ++ (frW ac (a 8) tp ++ (reW ac (a 9) re ++ (shW ac (a 40) k0 ++ (shW ac (a 41) k1 ++ (shW ac (a 10) ti))))))))))))) ++ ringW ac a rg) H := zsubPT hP [0, 1, 2, 3, 4, 5, 6, 7, 8, 35, 36, 37, 9, 10, 11, 12, 13, 14, 15, 16, 17, 18, 19, 20, 21, 22, 23, 24, 25, 26, 27, 28, 29, 30, 31, 32, 33, 34] rfl
        have hD : va_D A ((koW ac a ko ++ (txW ac (a 1) tx ++ (shW ac (a 2) now ++ (shW ac (a 3) u6 ++ (teW ac (a 4) (a 1) (a 10) te ++ (paW ac a pa ++ (fcW ac (a 6) w1 w2 fc ++ (frW ac (a 7) to ++ (frW ac (a 8) tp ++ (reW ac (a 9) re ++ (shW ac (a 40) k0 ++ (shW ac (a 41) k1 ++ (shW ac (a 10) ti))))))))))))) ++ ringW ac a rg) := zsubDT hD [0, 1, 2, 3, 4, 5, 6, 7, 8, 35, 36, 37, 9, 10, 11, 12, 13, 14, 15, 16, 17, 18, 19, 20, 21, 22, 23, 24, 25, 26, 27, 28, 29, 30, 31, 32, 33, 34] (by decide) rfl
        refine lv_aload_n hx hb dX7_matters_58 rfl (lv_at hl 1 rfl) ?_
        refine va_get (D := D) (ci := 7) (v := .ref (a 6 0)) (C := RX7) (T := TX7) (N := 13) hx hb htw WW_wsX70 hown hKX.1 hP 0 rfl rfl 7 (Nat.le_of_ble_eq_true rfl) (htw _ mF_RX7_51) (fun _ h9 => h9) rfl dX7_matters_59 ?_
        refine lv_aload_n hx hb dX7_matters_62 rfl (lv_at hl 1 rfl) ?_
        refine va_get (D := D) (ci := 7) (v := .ref (a 3 0)) (C := RX7) (T := TX7) (N := 13) hx hb htw WW_wsX70 hown hKX.1 hP 0 rfl rfl 3 (Nat.le_of_ble_eq_true rfl) (htw _ mF_RX7_30) (fun _ h9 => h9) rfl dX7_matters_63 ?_
        obtain ⟨u7, hu7, hf⟩ := z_bd_u hf
        refine zc_MVvXT (As := [.ref (a 3 0)]) (rest := []) (wr := koW ac a ko ++ (txW ac (a 1) tx ++ (shW ac (a 2) now ++ (teW ac (a 4) (a 1) (a 10) te ++ (paW ac a pa ++ (frW ac (a 7) to ++ (frW ac (a 8) tp ++ (reW ac (a 9) re ++ (shW ac (a 40) k0 ++ (shW ac (a 41) k1 ++ (shW ac (a 10) ti))))))))))) (wsc := fcW ac (a 6) w1 w2 fc ++ (shW ac (a 3) u6)) (wsc' := fun u8 : Nat × Nat => fcW ac (a 6) u8.1 u8.2 u7 ++ (shW ac (a 3) u6)) hx hb hml hown htw (ctX0_look l D ac cs (a 6) w1 w2 (a 3) H.size fc u6    F u7 hu7) (g_V mM_RX7_185 mI_yX0_look mS_RX0_yX0_look_yX0_look mN_RX0 mC_yX0_look) rfl (hd_yX0_look) ⟨rfl, rfl⟩ ⟨(Nat.le_of_ble_eq_true rfl), (Nat.le_of_ble_eq_true rfl)⟩ hKX hC hS hA hP hD [16, 17, 18, 19, 20, 9, 10, 11] [0, 1, 2, 3, 4, 5, 6, 7, 8, 12, 13, 14, 15, 21, 22, 23, 24, 25, 26, 27, 28, 29, 30, 31, 32, 33, 34, 35, 36, 37] rfl (by decide) rfl (by decide) (by decide) 0 rfl rfl rfl hl.1 rfl (Nat.le_of_ble_eq_true rfl) ⟨Nat.zero_le _, Nat.zero_le _⟩ dX7_matters_66 (fun u8 H locs hP hD hS => ?_)
        obtain ⟨w9, w10⟩ := u8
        have hP : va_P D vwCl ((koW ac a ko ++ (txW ac (a 1) tx ++ (shW ac (a 2) now ++ (shW ac (a 3) u6 ++ (teW ac (a 4) (a 1) (a 10) te ++ (paW ac a pa ++ (fcW ac (a 6) w9 w10 u7 ++ (frW ac (a 7) to ++ (frW ac (a 8) tp ++ (reW ac (a 9) re ++ (shW ac (a 40) k0 ++ (shW ac (a 41) k1 ++ (shW ac (a 10) ti))))))))))))) ++ ringW ac a rg) H := zsubPT hP [0, 1, 2, 3, 4, 5, 6, 7, 8, 35, 36, 37, 9, 10, 11, 12, 30, 31, 32, 33, 34, 13, 14, 15, 16, 17, 18, 19, 20, 21, 22, 23, 24, 25, 26, 27, 28, 29] rfl
        have hD : va_D A ((koW ac a ko ++ (txW ac (a 1) tx ++ (shW ac (a 2) now ++ (shW ac (a 3) u6 ++ (teW ac (a 4) (a 1) (a 10) te ++ (paW ac a pa ++ (fcW ac (a 6) w9 w10 u7 ++ (frW ac (a 7) to ++ (frW ac (a 8) tp ++ (reW ac (a 9) re ++ (shW ac (a 40) k0 ++ (shW ac (a 41) k1 ++ (shW ac (a 10) ti))))))))))))) ++ ringW ac a rg) := zsubDT hD [0, 1, 2, 3, 4, 5, 6, 7, 8, 35, 36, 37, 9, 10, 11, 12, 30, 31, 32, 33, 34, 13, 14, 15, 16, 17, 18, 19, 20, 21, 22, 23, 24, 25, 26, 27, 28, 29] (by decide) rfl
        refine lv_aload_n hx hb dX7_matters_69 rfl (lv_at hl 1 rfl) ?_
        refine va_get (D := D) (ci := 7) (v := .ref (a 7 0)) (C := RX7) (T := TX7) (N := 13) hx hb htw WW_wsX70 hown hKX.1 hP 0 rfl rfl 8 (Nat.le_of_ble_eq_true rfl) (htw _ mF_RX7_58) (fun _ h9 => h9) rfl dX7_matters_70 ?_
        refine lv_aload_n hx hb dX7_matters_73 rfl (lv_at hl 1 rfl) ?_
        refine va_get (D := D) (ci := 7) (v := .ref (a 6 0)) (C := RX7) (T := TX7) (N := 13) hx hb htw WW_wsX70 hown hKX.1 hP 0 rfl rfl 7 (Nat.le_of_ble_eq_true rfl) (htw _ mF_RX7_51) (fun _ h9 => h9) rfl dX7_matters_74 ?_
        refine lv_iload_n hx hb dX7_matters_77 rfl (lv_at hl 0 rfl) ?_
        refine zc_RVl (As := [.int x4]) (rest := [.ref (a 7 0)]) hx hb hml hown htw (ctX0_winsOf l D ac cs (a 6) w9 w10 u7 x4   _ rfl) (g_V mM_RX7_194 mI_yX0_winsOf mS_RX0_yX0_winsOf_yX0_winsOf mN_RX0 mC_yX0_winsOf) rfl (hd_yX0_winsOf) ⟨rfl, rfl⟩ ⟨(Nat.le_of_ble_eq_true rfl), (Nat.le_of_ble_eq_true rfl)⟩ hKX hC hS (hP.sub [16, 17, 18, 19, 20] rfl) 0 rfl rfl rfl hl.1 rfl (Nat.le_of_ble_eq_true rfl) ⟨Nat.zero_le _, Nat.zero_le _⟩ dX7_matters_78 ?_
        refine lv_aload_n hx hb dX7_matters_81 rfl (lv_at hl 1 rfl) ?_
        refine va_get (D := D) (ci := 7) (v := .ref (a 6 0)) (C := RX7) (T := TX7) (N := 13) hx hb htw WW_wsX70 hown hKX.1 hP 0 rfl rfl 7 (Nat.le_of_ble_eq_true rfl) (htw _ mF_RX7_51) (fun _ h9 => h9) rfl dX7_matters_82 ?_
        refine va_getN (D := D) (ci := 0) (v := .long (fc_whole u7)) (C := RX0) (T := TX0) (N := 15) hx hb htw WW_wsX00 hown hKX.1 hP 16 rfl rfl 14 (Nat.le_of_ble_eq_true rfl) (va_Nw.use rfl (hKX.2 _ (List.mem_of_getElem? (i := 19) rfl))) (fun _ h9 => h9) rfl dX7_matters_85 ?_
        obtain ⟨u11, hu11⟩ : ∃ y : Fr, y = Fr_put (Fc_winsOf u7 x4) (fc_whole u7) := ⟨_, rfl⟩
        have hf := z_let_u hu11 hf
        refine zc_MVvT (As := [.long (Fc_winsOf u7 x4), .long (fc_whole u7)]) (rest := []) (wr := koW ac a ko ++ (txW ac (a 1) tx ++ (shW ac (a 2) now ++ (shW ac (a 3) u6 ++ (teW ac (a 4) (a 1) (a 10) te ++ (paW ac a pa ++ (fcW ac (a 6) w9 w10 u7 ++ (frW ac (a 8) tp ++ (reW ac (a 9) re ++ (shW ac (a 40) k0 ++ (shW ac (a 41) k1 ++ (shW ac (a 10) ti)))))))))))) (wsc := frW ac (a 7) to) (wsc' := frW ac (a 7) u11) hx hb hml hown htw (ctX1_put l D ac cs (a 7) H.size to (Fc_winsOf u7 x4) (fc_whole u7)   u11 hu11.symm) (g_V mM_RX7_202 mI_yX1_put mS_RX1_yX1_put_yX1_put mN_RX1 mC_yX1_put) rfl (hd_yX1_put) ⟨rfl, rfl⟩ ⟨(Nat.le_of_ble_eq_true rfl), (Nat.le_of_ble_eq_true rfl)⟩ hKX hC hS hA hP hD [21] [0, 1, 2, 3, 4, 5, 6, 7, 8, 9, 10, 11, 12, 13, 14, 15, 16, 17, 18, 19, 20, 22, 23, 24, 25, 26, 27, 28, 29, 30, 31, 32, 33, 34, 35, 36, 37] rfl (by decide) rfl (by decide) (by decide) 1 rfl rfl rfl hl.1 rfl (Nat.le_of_ble_eq_true rfl) ⟨Nat.zero_le _, Nat.zero_le _⟩ dX7_matters_88 (fun H locs hP hD hS => ?_)
        have hP : va_P D vwCl ((koW ac a ko ++ (txW ac (a 1) tx ++ (shW ac (a 2) now ++ (shW ac (a 3) u6 ++ (teW ac (a 4) (a 1) (a 10) te ++ (paW ac a pa ++ (fcW ac (a 6) w9 w10 u7 ++ (frW ac (a 7) u11 ++ (frW ac (a 8) tp ++ (reW ac (a 9) re ++ (shW ac (a 40) k0 ++ (shW ac (a 41) k1 ++ (shW ac (a 10) ti))))))))))))) ++ ringW ac a rg) H := zsubPT hP [0, 1, 2, 3, 4, 5, 6, 7, 8, 9, 10, 11, 12, 13, 14, 15, 16, 17, 18, 19, 20, 37, 21, 22, 23, 24, 25, 26, 27, 28, 29, 30, 31, 32, 33, 34, 35, 36] rfl
        have hD : va_D A ((koW ac a ko ++ (txW ac (a 1) tx ++ (shW ac (a 2) now ++ (shW ac (a 3) u6 ++ (teW ac (a 4) (a 1) (a 10) te ++ (paW ac a pa ++ (fcW ac (a 6) w9 w10 u7 ++ (frW ac (a 7) u11 ++ (frW ac (a 8) tp ++ (reW ac (a 9) re ++ (shW ac (a 40) k0 ++ (shW ac (a 41) k1 ++ (shW ac (a 10) ti))))))))))))) ++ ringW ac a rg) := zsubDT hD [0, 1, 2, 3, 4, 5, 6, 7, 8, 9, 10, 11, 12, 13, 14, 15, 16, 17, 18, 19, 20, 37, 21, 22, 23, 24, 25, 26, 27, 28, 29, 30, 31, 32, 33, 34, 35, 36] (by decide) rfl
        refine lv_aload_n hx hb dX7_matters_91 rfl (lv_at hl 1 rfl) ?_
        refine va_get (D := D) (ci := 7) (v := .ref (a 3 0)) (C := RX7) (T := TX7) (N := 13) hx hb htw WW_wsX70 hown hKX.1 hP 0 rfl rfl 3 (Nat.le_of_ble_eq_true rfl) (htw _ mF_RX7_30) (fun _ h9 => h9) rfl dX7_matters_92 ?_
        refine lv_aload_n hx hb dX7_matters_95 rfl (lv_at hl 1 rfl) ?_
        refine va_get (D := D) (ci := 7) (v := .ref (a 2 0)) (C := RX7) (T := TX7) (N := 13) hx hb htw WW_wsX70 hown hKX.1 hP 0 rfl rfl 2 (Nat.le_of_ble_eq_true rfl) (htw _ mF_RX7_26) (fun _ h9 => h9) rfl dX7_matters_96 ?_
        obtain ⟨u12, hu12, hf⟩ := z_bd_u hf
        refine zc_MVvT (As := [.ref (a 2 0)]) (rest := []) (wr := koW ac a ko ++ (txW ac (a 1) tx ++ (teW ac (a 4) (a 1) (a 10) te ++ (paW ac a pa ++ (fcW ac (a 6) w9 w10 u7 ++ (frW ac (a 7) u11 ++ (frW ac (a 8) tp ++ (reW ac (a 9) re ++ (shW ac (a 40) k0 ++ (shW ac (a 41) k1 ++ (shW ac (a 10) ti))))))))))) (wsc := shW ac (a 3) u6 ++ (shW ac (a 2) now)) (wsc' := shW ac (a 3) u12 ++ (shW ac (a 2) now)) hx hb hml hown htw (ctX4_copyFrom l D ac cs (a 3) (a 2) H.size u6 now    F u12 hu12) (g_V mM_RX7_93 mI_yX4_copyFrom mS_RX4_yX4_copyFrom_yX4_copyFrom mN_RX4 mC_yX4_copyFrom) rfl (hd_yX4_copyFrom) ⟨rfl, rfl⟩ ⟨(Nat.le_of_ble_eq_true rfl), (Nat.le_of_ble_eq_true rfl)⟩ hKX hC hS hA hP hD [9, 10, 11, 6, 7, 8] [0, 1, 2, 3, 4, 5, 12, 13, 14, 15, 16, 17, 18, 19, 20, 21, 22, 23, 24, 25, 26, 27, 28, 29, 30, 31, 32, 33, 34, 35, 36, 37] rfl (by decide) rfl (by decide) (by decide) 4 rfl rfl rfl hl.1 rfl (Nat.le_of_ble_eq_true rfl) ⟨Nat.zero_le _, Nat.zero_le _⟩ dX7_matters_99 (fun H locs hP hD hS => ?_)
        have hP : va_P D vwCl ((koW ac a ko ++ (txW ac (a 1) tx ++ (shW ac (a 2) now ++ (shW ac (a 3) u12 ++ (teW ac (a 4) (a 1) (a 10) te ++ (paW ac a pa ++ (fcW ac (a 6) w9 w10 u7 ++ (frW ac (a 7) u11 ++ (frW ac (a 8) tp ++ (reW ac (a 9) re ++ (shW ac (a 40) k0 ++ (shW ac (a 41) k1 ++ (shW ac (a 10) ti))))))))))))) ++ ringW ac a rg) H := zsubPT hP [0, 1, 2, 3, 4, 5, 35, 36, 37, 32, 33, 34, 6, 7, 8, 9, 10, 11, 12, 13, 14, 15, 16, 17, 18, 19, 20, 21, 22, 23, 24, 25, 26, 27, 28, 29, 30, 31] rfl
        have hD : va_D A ((koW ac a ko ++ (txW ac (a 1) tx ++ (shW ac (a 2) now ++ (shW ac (a 3) u12 ++ (teW ac (a 4) (a 1) (a 10) te ++ (paW ac a pa ++ (fcW ac (a 6) w9 w10 u7 ++ (frW ac (a 7) u11 ++ (frW ac (a 8) tp ++ (reW ac (a 9) re ++ (shW ac (a 40) k0 ++ (shW ac (a 41) k1 ++ (shW ac (a 10) ti))))))))))))) ++ ringW ac a rg) := zsubDT hD [0, 1, 2, 3, 4, 5, 35, 36, 37, 32, 33, 34, 6, 7, 8, 9, 10, 11, 12, 13, 14, 15, 16, 17, 18, 19, 20, 21, 22, 23, 24, 25, 26, 27, 28, 29, 30, 31] (by decide) rfl
        refine lv_aload_n hx hb dX7_matters_102 rfl (lv_at hl 1 rfl) ?_
        refine va_get (D := D) (ci := 7) (v := .ref (a 3 0)) (C := RX7) (T := TX7) (N := 13) hx hb htw WW_wsX70 hown hKX.1 hP 0 rfl rfl 3 (Nat.le_of_ble_eq_true rfl) (htw _ mF_RX7_30) (fun _ h9 => h9) rfl dX7_matters_103 ?_
        refine lv_iconst (v := 0) hx hb dX7_matters_106 rfl ?_
        obtain ⟨u13, hu13⟩ : ∃ y : Sh, y = Sh_put u12 0 := ⟨_, rfl⟩
        have hf := z_let_u hu13 hf
        refine zc_MVvT (As := [.int 0]) (rest := []) (wr := koW ac a ko ++ (txW ac (a 1) tx ++ (shW ac (a 2) now ++ (teW ac (a 4) (a 1) (a 10) te ++ (paW ac a pa ++ (fcW ac (a 6) w9 w10 u7 ++ (frW ac (a 7) u11 ++ (frW ac (a 8) tp ++ (reW ac (a 9) re ++ (shW ac (a 40) k0 ++ (shW ac (a 41) k1 ++ (shW ac (a 10) ti)))))))))))) (wsc := shW ac (a 3) u12) (wsc' := shW ac (a 3) u13) hx hb hml hown htw (ctX4_put l D ac cs (a 3) H.size u12 0   u13 hu13.symm) (g_V mM_RX7_136 mI_yX4_put mS_RX4_yX4_put_yX4_put mN_RX4 mC_yX4_put) rfl (hd_yX4_put) ⟨rfl, rfl⟩ ⟨(Nat.le_of_ble_eq_true rfl), (Nat.le_of_ble_eq_true rfl)⟩ hKX hC hS hA hP hD [9, 10, 11] [0, 1, 2, 3, 4, 5, 6, 7, 8, 12, 13, 14, 15, 16, 17, 18, 19, 20, 21, 22, 23, 24, 25, 26, 27, 28, 29, 30, 31, 32, 33, 34, 35, 36, 37] rfl (by decide) rfl (by decide) (by decide) 4 rfl rfl rfl hl.1 rfl (Nat.le_of_ble_eq_true rfl) ⟨Nat.zero_le _, Nat.zero_le _⟩ dX7_matters_107 (fun H locs hP hD hS => ?_)
        have hP : va_P D vwCl ((koW ac a ko ++ (txW ac (a 1) tx ++ (shW ac (a 2) now ++ (shW ac (a 3) u13 ++ (teW ac (a 4) (a 1) (a 10) te ++ (paW ac a pa ++ (fcW ac (a 6) w9 w10 u7 ++ (frW ac (a 7) u11 ++ (frW ac (a 8) tp ++ (reW ac (a 9) re ++ (shW ac (a 40) k0 ++ (shW ac (a 41) k1 ++ (shW ac (a 10) ti))))))))))))) ++ ringW ac a rg) H := zsubPT hP [0, 1, 2, 3, 4, 5, 6, 7, 8, 35, 36, 37, 9, 10, 11, 12, 13, 14, 15, 16, 17, 18, 19, 20, 21, 22, 23, 24, 25, 26, 27, 28, 29, 30, 31, 32, 33, 34] rfl
        have hD : va_D A ((koW ac a ko ++ (txW ac (a 1) tx ++ (shW ac (a 2) now ++ (shW ac (a 3) u13 ++ (teW ac (a 4) (a 1) (a 10) te ++ (paW ac a pa ++ (fcW ac (a 6) w9 w10 u7 ++ (frW ac (a 7) u11 ++ (frW ac (a 8) tp ++ (reW ac (a 9) re ++ (shW ac (a 40) k0 ++ (shW ac (a 41) k1 ++ (shW ac (a 10) ti))))))))))))) ++ ringW ac a rg) := zsubDT hD [0, 1, 2, 3, 4, 5, 6, 7, 8, 35, 36, 37, 9, 10, 11, 12, 13, 14, 15, 16, 17, 18, 19, 20, 21, 22, 23, 24, 25, 26, 27, 28, 29, 30, 31, 32, 33, 34] (by decide) rfl
        refine lv_aload_n hx hb dX7_matters_110 rfl (lv_at hl 1 rfl) ?_
        refine va_get (D := D) (ci := 7) (v := .ref (a 6 0)) (C := RX7) (T := TX7) (N := 13) hx hb htw WW_wsX70 hown hKX.1 hP 0 rfl rfl 7 (Nat.le_of_ble_eq_true rfl) (htw _ mF_RX7_51) (fun _ h9 => h9) rfl dX7_matters_111 ?_
        refine lv_aload_n hx hb dX7_matters_114 rfl (lv_at hl 1 rfl) ?_
        refine va_get (D := D) (ci := 7) (v := .ref (a 3 0)) (C := RX7) (T := TX7) (N := 13) hx hb htw WW_wsX70 hown hKX.1 hP 0 rfl rfl 3 (Nat.le_of_ble_eq_true rfl) (htw _ mF_RX7_30) (fun _ h9 => h9) rfl dX7_matters_115 ?_
        obtain ⟨u14, hu14, hf⟩ := z_bd_u hf
        refine zc_MVvXT (As := [.ref (a 3 0)]) (rest := []) (wr := koW ac a ko ++ (txW ac (a 1) tx ++ (shW ac (a 2) now ++ (teW ac (a 4) (a 1) (a 10) te ++ (paW ac a pa ++ (frW ac (a 7) u11 ++ (frW ac (a 8) tp ++ (reW ac (a 9) re ++ (shW ac (a 40) k0 ++ (shW ac (a 41) k1 ++ (shW ac (a 10) ti))))))))))) (wsc := fcW ac (a 6) w9 w10 u7 ++ (shW ac (a 3) u13)) (wsc' := fun u15 : Nat × Nat => fcW ac (a 6) u15.1 u15.2 u14 ++ (shW ac (a 3) u13)) hx hb hml hown htw (ctX0_look l D ac cs (a 6) w9 w10 (a 3) H.size u7 u13    F u14 hu14) (g_V mM_RX7_185 mI_yX0_look mS_RX0_yX0_look_yX0_look mN_RX0 mC_yX0_look) rfl (hd_yX0_look) ⟨rfl, rfl⟩ ⟨(Nat.le_of_ble_eq_true rfl), (Nat.le_of_ble_eq_true rfl)⟩ hKX hC hS hA hP hD [16, 17, 18, 19, 20, 9, 10, 11] [0, 1, 2, 3, 4, 5, 6, 7, 8, 12, 13, 14, 15, 21, 22, 23, 24, 25, 26, 27, 28, 29, 30, 31, 32, 33, 34, 35, 36, 37] rfl (by decide) rfl (by decide) (by decide) 0 rfl rfl rfl hl.1 rfl (Nat.le_of_ble_eq_true rfl) ⟨Nat.zero_le _, Nat.zero_le _⟩ dX7_matters_118 (fun u15 H locs hP hD hS => ?_)
        obtain ⟨w16, w17⟩ := u15
        have hP : va_P D vwCl ((koW ac a ko ++ (txW ac (a 1) tx ++ (shW ac (a 2) now ++ (shW ac (a 3) u13 ++ (teW ac (a 4) (a 1) (a 10) te ++ (paW ac a pa ++ (fcW ac (a 6) w16 w17 u14 ++ (frW ac (a 7) u11 ++ (frW ac (a 8) tp ++ (reW ac (a 9) re ++ (shW ac (a 40) k0 ++ (shW ac (a 41) k1 ++ (shW ac (a 10) ti))))))))))))) ++ ringW ac a rg) H := zsubPT hP [0, 1, 2, 3, 4, 5, 6, 7, 8, 35, 36, 37, 9, 10, 11, 12, 30, 31, 32, 33, 34, 13, 14, 15, 16, 17, 18, 19, 20, 21, 22, 23, 24, 25, 26, 27, 28, 29] rfl
        have hD : va_D A ((koW ac a ko ++ (txW ac (a 1) tx ++ (shW ac (a 2) now ++ (shW ac (a 3) u13 ++ (teW ac (a 4) (a 1) (a 10) te ++ (paW ac a pa ++ (fcW ac (a 6) w16 w17 u14 ++ (frW ac (a 7) u11 ++ (frW ac (a 8) tp ++ (reW ac (a 9) re ++ (shW ac (a 40) k0 ++ (shW ac (a 41) k1 ++ (shW ac (a 10) ti))))))))))))) ++ ringW ac a rg) := zsubDT hD [0, 1, 2, 3, 4, 5, 6, 7, 8, 35, 36, 37, 9, 10, 11, 12, 30, 31, 32, 33, 34, 13, 14, 15, 16, 17, 18, 19, 20, 21, 22, 23, 24, 25, 26, 27, 28, 29] (by decide) rfl
        refine lv_aload_n hx hb dX7_matters_121 rfl (lv_at hl 1 rfl) ?_
        refine va_get (D := D) (ci := 7) (v := .ref (a 7 0)) (C := RX7) (T := TX7) (N := 13) hx hb htw WW_wsX70 hown hKX.1 hP 0 rfl rfl 8 (Nat.le_of_ble_eq_true rfl) (htw _ mF_RX7_58) (fun _ h9 => h9) rfl dX7_matters_122 ?_
        refine lv_aload_n hx hb dX7_matters_125 rfl (lv_at hl 1 rfl) ?_
        refine va_get (D := D) (ci := 7) (v := .ref (a 6 0)) (C := RX7) (T := TX7) (N := 13) hx hb htw WW_wsX70 hown hKX.1 hP 0 rfl rfl 7 (Nat.le_of_ble_eq_true rfl) (htw _ mF_RX7_51) (fun _ h9 => h9) rfl dX7_matters_126 ?_
        refine lv_iload_n hx hb dX7_matters_129 rfl (lv_at hl 0 rfl) ?_
        refine zc_RVl (As := [.int x4]) (rest := [.ref (a 7 0)]) hx hb hml hown htw (ctX0_winsOf l D ac cs (a 6) w16 w17 u14 x4   _ rfl) (g_V mM_RX7_194 mI_yX0_winsOf mS_RX0_yX0_winsOf_yX0_winsOf mN_RX0 mC_yX0_winsOf) rfl (hd_yX0_winsOf) ⟨rfl, rfl⟩ ⟨(Nat.le_of_ble_eq_true rfl), (Nat.le_of_ble_eq_true rfl)⟩ hKX hC hS (hP.sub [16, 17, 18, 19, 20] rfl) 0 rfl rfl rfl hl.1 rfl (Nat.le_of_ble_eq_true rfl) ⟨Nat.zero_le _, Nat.zero_le _⟩ dX7_matters_130 ?_
        refine lv_aload_n hx hb dX7_matters_133 rfl (lv_at hl 1 rfl) ?_
        refine va_get (D := D) (ci := 7) (v := .ref (a 6 0)) (C := RX7) (T := TX7) (N := 13) hx hb htw WW_wsX70 hown hKX.1 hP 0 rfl rfl 7 (Nat.le_of_ble_eq_true rfl) (htw _ mF_RX7_51) (fun _ h9 => h9) rfl dX7_matters_134 ?_
        refine va_getN (D := D) (ci := 0) (v := .long (fc_whole u14)) (C := RX0) (T := TX0) (N := 15) hx hb htw WW_wsX00 hown hKX.1 hP 16 rfl rfl 14 (Nat.le_of_ble_eq_true rfl) (va_Nw.use rfl (hKX.2 _ (List.mem_of_getElem? (i := 19) rfl))) (fun _ h9 => h9) rfl dX7_matters_137 ?_
        obtain ⟨u18, hu18⟩ : ∃ y : Fr, y = Fr_take u11 (Fc_winsOf u14 x4) (fc_whole u14) := ⟨_, rfl⟩
        have hf := z_let_u hu18 hf
        refine zc_MVvT (As := [.long (Fc_winsOf u14 x4), .long (fc_whole u14)]) (rest := []) (wr := koW ac a ko ++ (txW ac (a 1) tx ++ (shW ac (a 2) now ++ (shW ac (a 3) u13 ++ (teW ac (a 4) (a 1) (a 10) te ++ (paW ac a pa ++ (fcW ac (a 6) w16 w17 u14 ++ (frW ac (a 8) tp ++ (reW ac (a 9) re ++ (shW ac (a 40) k0 ++ (shW ac (a 41) k1 ++ (shW ac (a 10) ti)))))))))))) (wsc := frW ac (a 7) u11) (wsc' := frW ac (a 7) u18) hx hb hml hown htw (ctX1_take l D ac cs (a 7) H.size u11 (Fc_winsOf u14 x4) (fc_whole u14)   u18 hu18.symm) (g_V mM_RX7_205 mI_yX1_take mS_RX1_yX1_take_yX1_take mN_RX1 mC_yX1_take) rfl (hd_yX1_take) ⟨rfl, rfl⟩ ⟨(Nat.le_of_ble_eq_true rfl), (Nat.le_of_ble_eq_true rfl)⟩ hKX hC hS hA hP hD [21] [0, 1, 2, 3, 4, 5, 6, 7, 8, 9, 10, 11, 12, 13, 14, 15, 16, 17, 18, 19, 20, 22, 23, 24, 25, 26, 27, 28, 29, 30, 31, 32, 33, 34, 35, 36, 37] rfl (by decide) rfl (by decide) (by decide) 1 rfl rfl rfl hl.1 rfl (Nat.le_of_ble_eq_true rfl) ⟨Nat.zero_le _, Nat.zero_le _⟩ dX7_matters_140 (fun H locs hP hD hS => ?_)
        have hP : va_P D vwCl ((koW ac a ko ++ (txW ac (a 1) tx ++ (shW ac (a 2) now ++ (shW ac (a 3) u13 ++ (teW ac (a 4) (a 1) (a 10) te ++ (paW ac a pa ++ (fcW ac (a 6) w16 w17 u14 ++ (frW ac (a 7) u18 ++ (frW ac (a 8) tp ++ (reW ac (a 9) re ++ (shW ac (a 40) k0 ++ (shW ac (a 41) k1 ++ (shW ac (a 10) ti))))))))))))) ++ ringW ac a rg) H := zsubPT hP [0, 1, 2, 3, 4, 5, 6, 7, 8, 9, 10, 11, 12, 13, 14, 15, 16, 17, 18, 19, 20, 37, 21, 22, 23, 24, 25, 26, 27, 28, 29, 30, 31, 32, 33, 34, 35, 36] rfl
        have hD : va_D A ((koW ac a ko ++ (txW ac (a 1) tx ++ (shW ac (a 2) now ++ (shW ac (a 3) u13 ++ (teW ac (a 4) (a 1) (a 10) te ++ (paW ac a pa ++ (fcW ac (a 6) w16 w17 u14 ++ (frW ac (a 7) u18 ++ (frW ac (a 8) tp ++ (reW ac (a 9) re ++ (shW ac (a 40) k0 ++ (shW ac (a 41) k1 ++ (shW ac (a 10) ti))))))))))))) ++ ringW ac a rg) := zsubDT hD [0, 1, 2, 3, 4, 5, 6, 7, 8, 9, 10, 11, 12, 13, 14, 15, 16, 17, 18, 19, 20, 37, 21, 22, 23, 24, 25, 26, 27, 28, 29, 30, 31, 32, 33, 34, 35, 36] (by decide) rfl
        refine lv_aload_n hx hb dX7_matters_143 rfl (lv_at hl 1 rfl) ?_
        refine va_get (D := D) (ci := 7) (v := .ref (a 7 0)) (C := RX7) (T := TX7) (N := 13) hx hb htw WW_wsX70 hown hKX.1 hP 0 rfl rfl 8 (Nat.le_of_ble_eq_true rfl) (htw _ mF_RX7_58) (fun _ h9 => h9) rfl dX7_matters_144 ?_
        obtain ⟨u19, hu19, hf⟩ := z_bd_u hf
        refine zc_MVvT (As := []) (rest := []) (wr := koW ac a ko ++ (txW ac (a 1) tx ++ (shW ac (a 2) now ++ (shW ac (a 3) u13 ++ (teW ac (a 4) (a 1) (a 10) te ++ (paW ac a pa ++ (fcW ac (a 6) w16 w17 u14 ++ (frW ac (a 8) tp ++ (reW ac (a 9) re ++ (shW ac (a 40) k0 ++ (shW ac (a 41) k1 ++ (shW ac (a 10) ti)))))))))))) (wsc := frW ac (a 7) u18) (wsc' := frW ac (a 7) u19) hx hb hml hown htw (ctX1_reduce l D ac cs (a 7) H.size u18    F u19 hu19) (g_V mM_RX7_208 mI_yX1_reduce mS_RX1_yX1_reduce_yX1_reduce mN_RX1 mC_yX1_reduce) rfl (hd_yX1_reduce) ⟨rfl, rfl⟩ ⟨(Nat.le_of_ble_eq_true rfl), (Nat.le_of_ble_eq_true rfl)⟩ hKX hC hS hA hP hD [21] [0, 1, 2, 3, 4, 5, 6, 7, 8, 9, 10, 11, 12, 13, 14, 15, 16, 17, 18, 19, 20, 22, 23, 24, 25, 26, 27, 28, 29, 30, 31, 32, 33, 34, 35, 36, 37] rfl (by decide) rfl (by decide) (by decide) 1 rfl rfl rfl hl.1 rfl (Nat.le_of_ble_eq_true rfl) ⟨Nat.zero_le _, Nat.zero_le _⟩ dX7_matters_147 (fun H locs hP hD hS => ?_)
        have hP : va_P D vwCl ((koW ac a ko ++ (txW ac (a 1) tx ++ (shW ac (a 2) now ++ (shW ac (a 3) u13 ++ (teW ac (a 4) (a 1) (a 10) te ++ (paW ac a pa ++ (fcW ac (a 6) w16 w17 u14 ++ (frW ac (a 7) u19 ++ (frW ac (a 8) tp ++ (reW ac (a 9) re ++ (shW ac (a 40) k0 ++ (shW ac (a 41) k1 ++ (shW ac (a 10) ti))))))))))))) ++ ringW ac a rg) H := zsubPT hP [0, 1, 2, 3, 4, 5, 6, 7, 8, 9, 10, 11, 12, 13, 14, 15, 16, 17, 18, 19, 20, 37, 21, 22, 23, 24, 25, 26, 27, 28, 29, 30, 31, 32, 33, 34, 35, 36] rfl
        have hD : va_D A ((koW ac a ko ++ (txW ac (a 1) tx ++ (shW ac (a 2) now ++ (shW ac (a 3) u13 ++ (teW ac (a 4) (a 1) (a 10) te ++ (paW ac a pa ++ (fcW ac (a 6) w16 w17 u14 ++ (frW ac (a 7) u19 ++ (frW ac (a 8) tp ++ (reW ac (a 9) re ++ (shW ac (a 40) k0 ++ (shW ac (a 41) k1 ++ (shW ac (a 10) ti))))))))))))) ++ ringW ac a rg) := zsubDT hD [0, 1, 2, 3, 4, 5, 6, 7, 8, 9, 10, 11, 12, 13, 14, 15, 16, 17, 18, 19, 20, 37, 21, 22, 23, 24, 25, 26, 27, 28, 29, 30, 31, 32, 33, 34, 35, 36] (by decide) rfl
        refine lv_aload_n hx hb dX7_matters_150 rfl (lv_at hl 1 rfl) ?_
        refine va_get (D := D) (ci := 7) (v := .ref (a 7 0)) (C := RX7) (T := TX7) (N := 13) hx hb htw WW_wsX70 hown hKX.1 hP 0 rfl rfl 8 (Nat.le_of_ble_eq_true rfl) (htw _ mF_RX7_58) (fun _ h9 => h9) rfl dX7_matters_151 ?_
        refine lv_iload_n hx hb dX7_matters_154 rfl (lv_at hl 2 rfl) ?_
        refine zc_RVl (As := [.int a1]) (rest := []) hx hb hml hown htw (ctX1_part l D ac cs (a 7) u19 a1   _ rfl) (g_V mM_RX7_211 mI_yX1_part mS_RX1_yX1_part_yX1_part mN_RX1 mC_yX1_part) rfl (hd_yX1_part) ⟨rfl, rfl⟩ ⟨(Nat.le_of_ble_eq_true rfl), (Nat.le_of_ble_eq_true rfl)⟩ hKX hC hS (hP.sub [21] rfl) 1 rfl rfl rfl hl.1 rfl (Nat.le_of_ble_eq_true rfl) ⟨Nat.zero_le _, Nat.zero_le _⟩ dX7_matters_155 ?_
        obtain rfl := Option.some.inj hf
        exact zr_MlX (w16, w17) hx hb hr hlocks hP hD hS dX7_matters_158
      · have hf := z_n c3 hf
        refine lv_ldc2 (v := (-2147483648)) hx hb hown (htw _ mG_RX7_192) dX7_matters_27 ?_
        obtain rfl := Option.some.inj hf
        exact zr_MlX (w1, w2) hx hb hr hlocks hP hD hS dX7_matters_30

theorem hd_yX7_oddsBy : hdY yX7_oddsBy 4 := by decide +kernel
def K_oddsBy (F : Nat) (now : Sh) (tr : Sh) (fc : Fc) (to : Fr) (a1 : Int32) (a2 : Int32) (a3 : Int32) (a4 : Int32) : Option (Int64 × Sh × Fc × Fr) := if K_isSideTold now a1 = 0 then (some ((-1), tr, fc, to)) else (if K_isOrder a2 = 0 then (some ((-1), tr, fc, to)) else (if K_isSide a3 = 0 then (some ((-1), tr, fc, to)) else (if K_isPart a4 = 0 then (some ((-1), tr, fc, to)) else (z_bd (K_lookBy F now tr fc a2 a3) (fun u5 : Sh × Fc => z_bd (K_tellOdds F u5.2 a1 a4) (fun u9 : Int64 × Fr => some (u9.1, u5.1, u5.2, u9.2)))))))
set_option maxHeartbeats 4000000 in
set_option maxRecDepth 100000 in
theorem ctX7_oddsBy (l : Launch) (D : va_G) (ac cs : Nat → Nat) (a : Nat → Nat → Nat) (w1 w2 : Nat) (sz : Nat) (ko : Ko) (tx : Tx) (now : Sh) (tr : Sh) (te : Te) (pa : Pa) (fc : Fc) (to : Fr) (tp : Fr) (re : Re) (k0 : Sh) (k1 : Sh) (ti : Sh) (rg : Nat → Sh) (a1 : Int32) (a2 : Int32) (a3 : Int32) (a4 : Int32) (F : Nat) (res : Int64 × Sh × Fc × Fr) (hf : K_oddsBy F now tr fc to a1 a2 a3 a4 = some res) : Met l yX7_oddsBy (cWW yX7_oddsBy cX7_oddsBy 5 (some .long)) { frames := 8, cells := 0, slots := 0, locals := 181 } (zM D ac cs [.ref (a 0 0), .int a1, .int a2, .int a3, .int a4] ((koW ac a ko ++ (txW ac (a 1) tx ++ (shW ac (a 2) now ++ (shW ac (a 3) tr ++ (teW ac (a 4) (a 1) (a 10) te ++ (paW ac a pa ++ (fcW ac (a 6) w1 w2 fc ++ (frW ac (a 7) to ++ (frW ac (a 8) tp ++ (reW ac (a 9) re ++ (shW ac (a 40) k0 ++ (shW ac (a 41) k1 ++ (shW ac (a 10) ti))))))))))))) ++ ringW ac a rg) sz) (va_Ql (fun r (_ : Nat × Nat) => r = res.1) (fun u => zB D (va_A ((koW ac a ko ++ (txW ac (a 1) tx ++ (shW ac (a 2) now ++ (shW ac (a 3) tr ++ (teW ac (a 4) (a 1) (a 10) te ++ (paW ac a pa ++ (fcW ac (a 6) w1 w2 fc ++ (frW ac (a 7) to ++ (frW ac (a 8) tp ++ (reW ac (a 9) re ++ (shW ac (a 40) k0 ++ (shW ac (a 41) k1 ++ (shW ac (a 10) ti))))))))))))) ++ ringW ac a rg) sz) ((koW ac a ko ++ (txW ac (a 1) tx ++ (shW ac (a 2) now ++ (shW ac (a 3) res.2.1 ++ (teW ac (a 4) (a 1) (a 10) te ++ (paW ac a pa ++ (fcW ac (a 6) u.1 u.2 res.2.2.1 ++ (frW ac (a 7) res.2.2.2 ++ (frW ac (a 8) tp ++ (reW ac (a 9) re ++ (shW ac (a 40) k0 ++ (shW ac (a 41) k1 ++ (shW ac (a 10) ti))))))))))))) ++ ringW ac a rg)) (va_A ((koW ac a ko ++ (txW ac (a 1) tx ++ (shW ac (a 2) now ++ (shW ac (a 3) tr ++ (teW ac (a 4) (a 1) (a 10) te ++ (paW ac a pa ++ (fcW ac (a 6) w1 w2 fc ++ (frW ac (a 7) to ++ (frW ac (a 8) tp ++ (reW ac (a 9) re ++ (shW ac (a 40) k0 ++ (shW ac (a 41) k1 ++ (shW ac (a 10) ti))))))))))))) ++ ringW ac a rg) sz)) 0 0 (va_A ((koW ac a ko ++ (txW ac (a 1) tx ++ (shW ac (a 2) now ++ (shW ac (a 3) tr ++ (teW ac (a 4) (a 1) (a 10) te ++ (paW ac a pa ++ (fcW ac (a 6) w1 w2 fc ++ (frW ac (a 7) to ++ (frW ac (a 8) tp ++ (reW ac (a 9) re ++ (shW ac (a 40) k0 ++ (shW ac (a 41) k1 ++ (shW ac (a 10) ti))))))))))))) ++ ringW ac a rg) sz) := by
  refine Met.ofW (cc := cX7_oddsBy) (maxL := 5) (ret := (some .long)) (by decide) rfl ?_
  intro p e s m args below meth c s₁ B hml hv
  obtain ⟨rfl, hsz, hP, hKX, hD0, hC⟩ := hv
  have hx := B.exec
  have hb := B.bytes
  have hr := B.returns
  have hts := atoms_spec (ws := cWW yX7_oddsBy cX7_oddsBy 5 (some .long)) B.pre
  have htw : ∀ w ∈ WW, w.before _ s = true := fun w h => hts w (List.mem_cons_of_mem _ h)
  have hown : s.vm.findClass RX7 = some m.cls := findClass_of_methodNamed B.named
  have hlocks := B.notSynchronized
  clear hts B
  subst hsz
  have hD := hD0.self (sz := s.heap.size)
  generalize hAe : va_A ((koW ac a ko ++ (txW ac (a 1) tx ++ (shW ac (a 2) now ++ (shW ac (a 3) tr ++ (teW ac (a 4) (a 1) (a 10) te ++ (paW ac a pa ++ (fcW ac (a 6) w1 w2 fc ++ (frW ac (a 7) to ++ (frW ac (a 8) tp ++ (reW ac (a 9) re ++ (shW ac (a 40) k0 ++ (shW ac (a 41) k1 ++ (shW ac (a 10) ti))))))))))))) ++ ringW ac a rg) s.heap.size = A at hD hC ⊢
  have hA : ∀ q : Nat, s.heap.size ≤ q → A q := fun q h => by rw [← hAe]; exact Or.inr h
  have hS : va_S A s.heap s.heap [] := va_S.rf
  clear hD0 hAe
  have hP : va_P D vwCl ((koW ac a ko ++ (txW ac (a 1) tx ++ (shW ac (a 2) now ++ (shW ac (a 3) tr ++ (teW ac (a 4) (a 1) (a 10) te ++ (paW ac a pa ++ (fcW ac (a 6) w1 w2 fc ++ (frW ac (a 7) to ++ (frW ac (a 8) tp ++ (reW ac (a 9) re ++ (shW ac (a 40) k0 ++ (shW ac (a 41) k1 ++ (shW ac (a 10) ti))))))))))))) ++ ringW ac a rg) s.heap := hP
  have hl := lv_entry ([.ref (a 0 0), .int a1, .int a2, .int a3, .int a4]) (n := 5) (Nat.le_of_ble_eq_true rfl)
  rw [lg_entry_eq]
  generalize (lg_sl ([.ref (a 0 0), .int a1, .int a2, .int a3, .int a4]) ++ List.replicate (5 - (lg_sl ([.ref (a 0 0), .int a1, .int a2, .int a3, .int a4])).length) Slot.unset).toArray = ls at hl ⊢
  have hl : lv_has ls 5 [(0, .ref (a 0 0)), (1, .int a1), (2, .int a2), (3, .int a3), (4, .int a4)] := hl
  unfold K_oddsBy at hf
  show W p l e ({ frames := 8, cells := 0, slots := 0, locals := 181 } : Room) s m _ below meth c s.heap [] 0 0 _ (F0 m 0 ls [])
  refine lv_aload_n hx hb dX7_oddsBy_0 rfl (lv_at hl 0 rfl) ?_
  refine lv_iload_n hx hb dX7_oddsBy_1 rfl (lv_at hl 1 rfl) ?_
  refine zc_RVi (As := [.int a1]) (rest := []) hx hb hml hown htw (ctX7_isSideTold l D ac cs a w1 w2 ko tx now tr te pa fc to tp re k0 k1 ti rg a1   _ rfl) (g_V mM_RX7_107 mI_yX7_isSideTold mS_RX7_yX7_isSideTold_yX7_isSideTold mN_RX7 mC_yX7_isSideTold) rfl (hd_yX7_isSideTold) ⟨rfl, rfl⟩ ⟨(Nat.le_of_ble_eq_true rfl), (Nat.le_of_ble_eq_true rfl)⟩ hKX hC hS hP 7 rfl rfl rfl hl.1 rfl (Nat.le_of_ble_eq_true rfl) ⟨Nat.zero_le _, Nat.zero_le _⟩ dX7_oddsBy_2 ?_
  refine lv_if_eq (tgt := 30) hx hb dX7_oddsBy_5 (by decide) (fun c1 => ?_) (fun c1 => ?_)
  · have hf := z_p c1 hf
    refine lv_ldc2 (v := (-1)) hx hb hown (htw _ mG_RX7_183) dX7_oddsBy_30 ?_
    obtain rfl := Option.some.inj hf
    exact zr_MlX (w1, w2) hx hb hr hlocks hP hD hS dX7_oddsBy_33
  · have hf := z_n c1 hf
    refine lv_iload_n hx hb dX7_oddsBy_8 rfl (lv_at hl 2 rfl) ?_
    refine zc_RSi (As := [.int a2]) (rest := []) hx hb hml hown htw (ctX7_isOrder l D ac cs   a2   _ rfl) (g_S mM_RX7_159 mT_yX7_isOrder mN_RX7 mC_yX7_isOrder) (hd_yX7_isOrder) ⟨rfl, rfl⟩ ⟨(Nat.le_of_ble_eq_true rfl), (Nat.le_of_ble_eq_true rfl)⟩ hKX hC hS zP0 rfl hl.1 rfl (Nat.le_of_ble_eq_true rfl) ⟨Nat.zero_le _, Nat.zero_le _⟩ dX7_oddsBy_9 ?_
    refine lv_if_eq (tgt := 30) hx hb dX7_oddsBy_12 (by decide) (fun c2 => ?_) (fun c2 => ?_)
    · have hf := z_p c2 hf
      refine lv_ldc2 (v := (-1)) hx hb hown (htw _ mG_RX7_183) dX7_oddsBy_30 ?_
      obtain rfl := Option.some.inj hf
      exact zr_MlX (w1, w2) hx hb hr hlocks hP hD hS dX7_oddsBy_33
    · have hf := z_n c2 hf
      refine lv_iload_n hx hb dX7_oddsBy_15 rfl (lv_at hl 3 rfl) ?_
      refine zc_RSi (As := [.int a3]) (rest := []) hx hb hml hown htw (ctX7_isSide l D ac cs   a3   _ rfl) (g_S mM_RX7_214 mT_yX7_isSide mN_RX7 mC_yX7_isSide) (hd_yX7_isSide) ⟨rfl, rfl⟩ ⟨(Nat.le_of_ble_eq_true rfl), (Nat.le_of_ble_eq_true rfl)⟩ hKX hC hS zP0 rfl hl.1 rfl (Nat.le_of_ble_eq_true rfl) ⟨Nat.zero_le _, Nat.zero_le _⟩ dX7_oddsBy_16 ?_
      refine lv_if_eq (tgt := 30) hx hb dX7_oddsBy_19 (by decide) (fun c3 => ?_) (fun c3 => ?_)
      · have hf := z_p c3 hf
        refine lv_ldc2 (v := (-1)) hx hb hown (htw _ mG_RX7_183) dX7_oddsBy_30 ?_
        obtain rfl := Option.some.inj hf
        exact zr_MlX (w1, w2) hx hb hr hlocks hP hD hS dX7_oddsBy_33
      · have hf := z_n c3 hf
        refine lv_iload hx hb dX7_oddsBy_22 (lv_at hl 4 rfl) ?_
        refine zc_RSi (As := [.int a4]) (rest := []) hx hb hml hown htw (ctX7_isPart l D ac cs   a4   _ rfl) (g_S mM_RX7_180 mT_yX7_isPart mN_RX7 mC_yX7_isPart) (hd_yX7_isPart) ⟨rfl, rfl⟩ ⟨(Nat.le_of_ble_eq_true rfl), (Nat.le_of_ble_eq_true rfl)⟩ hKX hC hS zP0 rfl hl.1 rfl (Nat.le_of_ble_eq_true rfl) ⟨Nat.zero_le _, Nat.zero_le _⟩ dX7_oddsBy_24 ?_
        refine lv_if_ne (tgt := 34) hx hb dX7_oddsBy_27 (by decide) (fun c4 => ?_) (fun c4 => ?_)
        · have hf := z_n c4 hf
          refine lv_aload_n hx hb dX7_oddsBy_34 rfl (lv_at hl 0 rfl) ?_
          refine lv_iload_n hx hb dX7_oddsBy_35 rfl (lv_at hl 2 rfl) ?_
          refine lv_iload_n hx hb dX7_oddsBy_36 rfl (lv_at hl 3 rfl) ?_
          obtain ⟨u5, hu5, hf⟩ := z_bd_u hf
          refine zc_MVvXT (E := (koW ac a ko ++ (txW ac (a 1) tx ++ (shW ac (a 2) now ++ (shW ac (a 3) tr ++ (teW ac (a 4) (a 1) (a 10) te ++ (paW ac a pa ++ (fcW ac (a 6) w1 w2 fc ++ (frW ac (a 7) to ++ (frW ac (a 8) tp ++ (reW ac (a 9) re ++ (shW ac (a 40) k0 ++ (shW ac (a 41) k1 ++ (shW ac (a 10) ti))))))))))))) ++ ringW ac a rg) (TT := []) (As := [.int a2, .int a3]) (rest := []) (wr := []) (wsc := (koW ac a ko ++ (txW ac (a 1) tx ++ (shW ac (a 2) now ++ (shW ac (a 3) tr ++ (teW ac (a 4) (a 1) (a 10) te ++ (paW ac a pa ++ (fcW ac (a 6) w1 w2 fc ++ (frW ac (a 7) to ++ (frW ac (a 8) tp ++ (reW ac (a 9) re ++ (shW ac (a 40) k0 ++ (shW ac (a 41) k1 ++ (shW ac (a 10) ti))))))))))))) ++ ringW ac a rg) (wsc' := fun u6 : Nat × Nat => (koW ac a ko ++ (txW ac (a 1) tx ++ (shW ac (a 2) now ++ (shW ac (a 3) u5.1 ++ (teW ac (a 4) (a 1) (a 10) te ++ (paW ac a pa ++ (fcW ac (a 6) u6.1 u6.2 u5.2 ++ (frW ac (a 7) to ++ (frW ac (a 8) tp ++ (reW ac (a 9) re ++ (shW ac (a 40) k0 ++ (shW ac (a 41) k1 ++ (shW ac (a 10) ti))))))))))))) ++ ringW ac a rg) hx hb hml hown htw (ctX7_lookBy l D ac cs a w1 w2 s.heap.size ko tx now tr te pa fc to tp re k0 k1 ti rg a2 a3   F u5 hu5) (g_V mM_RX7_217 mI_yX7_lookBy mS_RX7_yX7_lookBy_yX7_lookBy mN_RX7 mC_yX7_lookBy) rfl (hd_yX7_lookBy) ⟨rfl, rfl⟩ ⟨(Nat.le_of_ble_eq_true rfl), (Nat.le_of_ble_eq_true rfl)⟩ hKX hC hS hA (zP_nil hP) (zD_nil hD) (List.range _) [] (zrange _) (zndr _) rfl rfl (fun _ h => by cases h) 7 rfl rfl rfl hl.1 rfl (Nat.le_of_ble_eq_true rfl) ⟨Nat.zero_le _, Nat.zero_le _⟩ dX7_oddsBy_37 (fun u6 H locs hP hD hS => ?_)
          obtain ⟨w7, w8⟩ := u6
          have hP : va_P D vwCl ((koW ac a ko ++ (txW ac (a 1) tx ++ (shW ac (a 2) now ++ (shW ac (a 3) u5.1 ++ (teW ac (a 4) (a 1) (a 10) te ++ (paW ac a pa ++ (fcW ac (a 6) w7 w8 u5.2 ++ (frW ac (a 7) to ++ (frW ac (a 8) tp ++ (reW ac (a 9) re ++ (shW ac (a 40) k0 ++ (shW ac (a 41) k1 ++ (shW ac (a 10) ti))))))))))))) ++ ringW ac a rg) H := zP_un hP
          have hD : va_D A ((koW ac a ko ++ (txW ac (a 1) tx ++ (shW ac (a 2) now ++ (shW ac (a 3) u5.1 ++ (teW ac (a 4) (a 1) (a 10) te ++ (paW ac a pa ++ (fcW ac (a 6) w7 w8 u5.2 ++ (frW ac (a 7) to ++ (frW ac (a 8) tp ++ (reW ac (a 9) re ++ (shW ac (a 40) k0 ++ (shW ac (a 41) k1 ++ (shW ac (a 10) ti))))))))))))) ++ ringW ac a rg) := zD_un hD
          refine lv_aload_n hx hb dX7_oddsBy_40 rfl (lv_at hl 0 rfl) ?_
          refine lv_iload_n hx hb dX7_oddsBy_41 rfl (lv_at hl 1 rfl) ?_
          refine lv_iload hx hb dX7_oddsBy_42 (lv_at hl 4 rfl) ?_
          obtain ⟨u9, hu9, hf⟩ := z_bd_u hf
          refine zc_MVlT (E := (koW ac a ko ++ (txW ac (a 1) tx ++ (shW ac (a 2) now ++ (shW ac (a 3) u5.1 ++ (teW ac (a 4) (a 1) (a 10) te ++ (paW ac a pa ++ (fcW ac (a 6) w7 w8 u5.2 ++ (frW ac (a 7) to ++ (frW ac (a 8) tp ++ (reW ac (a 9) re ++ (shW ac (a 40) k0 ++ (shW ac (a 41) k1 ++ (shW ac (a 10) ti))))))))))))) ++ ringW ac a rg) (TT := []) (As := [.int a1, .int a4]) (rest := []) (wr := []) (wsc := (koW ac a ko ++ (txW ac (a 1) tx ++ (shW ac (a 2) now ++ (shW ac (a 3) u5.1 ++ (teW ac (a 4) (a 1) (a 10) te ++ (paW ac a pa ++ (fcW ac (a 6) w7 w8 u5.2 ++ (frW ac (a 7) to ++ (frW ac (a 8) tp ++ (reW ac (a 9) re ++ (shW ac (a 40) k0 ++ (shW ac (a 41) k1 ++ (shW ac (a 10) ti))))))))))))) ++ ringW ac a rg) (wsc' := (koW ac a ko ++ (txW ac (a 1) tx ++ (shW ac (a 2) now ++ (shW ac (a 3) u5.1 ++ (teW ac (a 4) (a 1) (a 10) te ++ (paW ac a pa ++ (fcW ac (a 6) w7 w8 u5.2 ++ (frW ac (a 7) u9.2 ++ (frW ac (a 8) tp ++ (reW ac (a 9) re ++ (shW ac (a 40) k0 ++ (shW ac (a 41) k1 ++ (shW ac (a 10) ti))))))))))))) ++ ringW ac a rg) hx hb hml hown htw (ctX7_tellOdds l D ac cs a w7 w8 H.size ko tx now u5.1 te pa u5.2 to tp re k0 k1 ti rg a1 a4   F u9 hu9) (g_V mM_RX7_188 mI_yX7_tellOdds mS_RX7_yX7_tellOdds_yX7_tellOdds mN_RX7 mC_yX7_tellOdds) rfl (hd_yX7_tellOdds) ⟨rfl, rfl⟩ ⟨(Nat.le_of_ble_eq_true rfl), (Nat.le_of_ble_eq_true rfl)⟩ hKX hC hS hA (zP_nil hP) (zD_nil hD) (List.range _) [] (zrange _) (zndr _) rfl rfl (fun _ h => by cases h) 7 rfl rfl rfl hl.1 rfl (Nat.le_of_ble_eq_true rfl) ⟨Nat.zero_le _, Nat.zero_le _⟩ dX7_oddsBy_44 (fun H locs hP hD hS => ?_)
          have hP : va_P D vwCl ((koW ac a ko ++ (txW ac (a 1) tx ++ (shW ac (a 2) now ++ (shW ac (a 3) u5.1 ++ (teW ac (a 4) (a 1) (a 10) te ++ (paW ac a pa ++ (fcW ac (a 6) w7 w8 u5.2 ++ (frW ac (a 7) u9.2 ++ (frW ac (a 8) tp ++ (reW ac (a 9) re ++ (shW ac (a 40) k0 ++ (shW ac (a 41) k1 ++ (shW ac (a 10) ti))))))))))))) ++ ringW ac a rg) H := zP_un hP
          have hD : va_D A ((koW ac a ko ++ (txW ac (a 1) tx ++ (shW ac (a 2) now ++ (shW ac (a 3) u5.1 ++ (teW ac (a 4) (a 1) (a 10) te ++ (paW ac a pa ++ (fcW ac (a 6) w7 w8 u5.2 ++ (frW ac (a 7) u9.2 ++ (frW ac (a 8) tp ++ (reW ac (a 9) re ++ (shW ac (a 40) k0 ++ (shW ac (a 41) k1 ++ (shW ac (a 10) ti))))))))))))) ++ ringW ac a rg) := zD_un hD
          obtain rfl := Option.some.inj hf
          exact zr_MlX (w7, w8) hx hb hr hlocks hP hD hS dX7_oddsBy_47
        · have hf := z_p c4 hf
          refine lv_ldc2 (v := (-1)) hx hb hown (htw _ mG_RX7_183) dX7_oddsBy_30 ?_
          obtain rfl := Option.some.inj hf
          exact zr_MlX (w1, w2) hx hb hr hlocks hP hD hS dX7_oddsBy_33

theorem hd_yX7_unfair : hdY yX7_unfair 2 := by decide +kernel
def K_unfair (F : Nat) (now : Sh) (tr : Sh) (fc : Fc) (to : Fr) (a1 : Int32) (a2 : Int32) : Option (Int64 × Sh × Fc × Fr) := if (sh_shooters now) = 0 then (some ((-1), tr, fc, to)) else (if K_isOrder a1 = 0 then (some ((-1), tr, fc, to)) else (if K_isPart a2 = 0 then (some ((-1), tr, fc, to)) else (z_bd (K_lookBy F now tr fc a1 (sh_first now)) (fun u4 : Sh × Fc => z_let (Fr_put (Fc_gap u4.2) (fc_whole u4.2)) (fun u8 : Fr => z_bd (Fr_reduce F u8) (fun u9 : Fr => some (Fr_part u9 a2, u4.1, u4.2, u9)))))))
set_option maxHeartbeats 4000000 in
set_option maxRecDepth 100000 in
theorem ctX7_unfair (l : Launch) (D : va_G) (ac cs : Nat → Nat) (a : Nat → Nat → Nat) (w1 w2 : Nat) (sz : Nat) (ko : Ko) (tx : Tx) (now : Sh) (tr : Sh) (te : Te) (pa : Pa) (fc : Fc) (to : Fr) (tp : Fr) (re : Re) (k0 : Sh) (k1 : Sh) (ti : Sh) (rg : Nat → Sh) (a1 : Int32) (a2 : Int32) (F : Nat) (res : Int64 × Sh × Fc × Fr) (hf : K_unfair F now tr fc to a1 a2 = some res) : Met l yX7_unfair (cWW yX7_unfair cX7_unfair 3 (some .long)) { frames := 8, cells := 0, slots := 0, locals := 181 } (zM D ac cs [.ref (a 0 0), .int a1, .int a2] ((koW ac a ko ++ (txW ac (a 1) tx ++ (shW ac (a 2) now ++ (shW ac (a 3) tr ++ (teW ac (a 4) (a 1) (a 10) te ++ (paW ac a pa ++ (fcW ac (a 6) w1 w2 fc ++ (frW ac (a 7) to ++ (frW ac (a 8) tp ++ (reW ac (a 9) re ++ (shW ac (a 40) k0 ++ (shW ac (a 41) k1 ++ (shW ac (a 10) ti))))))))))))) ++ ringW ac a rg) sz) (va_Ql (fun r (_ : Nat × Nat) => r = res.1) (fun u => zB D (va_A ((koW ac a ko ++ (txW ac (a 1) tx ++ (shW ac (a 2) now ++ (shW ac (a 3) tr ++ (teW ac (a 4) (a 1) (a 10) te ++ (paW ac a pa ++ (fcW ac (a 6) w1 w2 fc ++ (frW ac (a 7) to ++ (frW ac (a 8) tp ++ (reW ac (a 9) re ++ (shW ac (a 40) k0 ++ (shW ac (a 41) k1 ++ (shW ac (a 10) ti))))))))))))) ++ ringW ac a rg) sz) ((koW ac a ko ++ (txW ac (a 1) tx ++ (shW ac (a 2) now ++ (shW ac (a 3) res.2.1 ++ (teW ac (a 4) (a 1) (a 10) te ++ (paW ac a pa ++ (fcW ac (a 6) u.1 u.2 res.2.2.1 ++ (frW ac (a 7) res.2.2.2 ++ (frW ac (a 8) tp ++ (reW ac (a 9) re ++ (shW ac (a 40) k0 ++ (shW ac (a 41) k1 ++ (shW ac (a 10) ti))))))))))))) ++ ringW ac a rg)) (va_A ((koW ac a ko ++ (txW ac (a 1) tx ++ (shW ac (a 2) now ++ (shW ac (a 3) tr ++ (teW ac (a 4) (a 1) (a 10) te ++ (paW ac a pa ++ (fcW ac (a 6) w1 w2 fc ++ (frW ac (a 7) to ++ (frW ac (a 8) tp ++ (reW ac (a 9) re ++ (shW ac (a 40) k0 ++ (shW ac (a 41) k1 ++ (shW ac (a 10) ti))))))))))))) ++ ringW ac a rg) sz)) 0 0 (va_A ((koW ac a ko ++ (txW ac (a 1) tx ++ (shW ac (a 2) now ++ (shW ac (a 3) tr ++ (teW ac (a 4) (a 1) (a 10) te ++ (paW ac a pa ++ (fcW ac (a 6) w1 w2 fc ++ (frW ac (a 7) to ++ (frW ac (a 8) tp ++ (reW ac (a 9) re ++ (shW ac (a 40) k0 ++ (shW ac (a 41) k1 ++ (shW ac (a 10) ti))))))))))))) ++ ringW ac a rg) sz) := by
  refine Met.ofW (cc := cX7_unfair) (maxL := 3) (ret := (some .long)) (by decide) rfl ?_
  intro p e s m args below meth c s₁ B hml hv
  obtain ⟨rfl, hsz, hP, hKX, hD0, hC⟩ := hv
  have hx := B.exec
  have hb := B.bytes
  have hr := B.returns
  have hts := atoms_spec (ws := cWW yX7_unfair cX7_unfair 3 (some .long)) B.pre
  have htw : ∀ w ∈ WW, w.before _ s = true := fun w h => hts w (List.mem_cons_of_mem _ h)
  have hown : s.vm.findClass RX7 = some m.cls := findClass_of_methodNamed B.named
  have hlocks := B.notSynchronized
  clear hts B
  subst hsz
  have hD := hD0.self (sz := s.heap.size)
  generalize hAe : va_A ((koW ac a ko ++ (txW ac (a 1) tx ++ (shW ac (a 2) now ++ (shW ac (a 3) tr ++ (teW ac (a 4) (a 1) (a 10) te ++ (paW ac a pa ++ (fcW ac (a 6) w1 w2 fc ++ (frW ac (a 7) to ++ (frW ac (a 8) tp ++ (reW ac (a 9) re ++ (shW ac (a 40) k0 ++ (shW ac (a 41) k1 ++ (shW ac (a 10) ti))))))))))))) ++ ringW ac a rg) s.heap.size = A at hD hC ⊢
  have hA : ∀ q : Nat, s.heap.size ≤ q → A q := fun q h => by rw [← hAe]; exact Or.inr h
  have hS : va_S A s.heap s.heap [] := va_S.rf
  clear hD0 hAe
  have hP : va_P D vwCl ((koW ac a ko ++ (txW ac (a 1) tx ++ (shW ac (a 2) now ++ (shW ac (a 3) tr ++ (teW ac (a 4) (a 1) (a 10) te ++ (paW ac a pa ++ (fcW ac (a 6) w1 w2 fc ++ (frW ac (a 7) to ++ (frW ac (a 8) tp ++ (reW ac (a 9) re ++ (shW ac (a 40) k0 ++ (shW ac (a 41) k1 ++ (shW ac (a 10) ti))))))))))))) ++ ringW ac a rg) s.heap := hP
  have hl := lv_entry ([.ref (a 0 0), .int a1, .int a2]) (n := 3) (Nat.le_of_ble_eq_true rfl)
  rw [lg_entry_eq]
  generalize (lg_sl ([.ref (a 0 0), .int a1, .int a2]) ++ List.replicate (3 - (lg_sl ([.ref (a 0 0), .int a1, .int a2])).length) Slot.unset).toArray = ls at hl ⊢
  have hl : lv_has ls 3 [(0, .ref (a 0 0)), (1, .int a1), (2, .int a2)] := hl
  unfold K_unfair at hf
  show W p l e ({ frames := 8, cells := 0, slots := 0, locals := 181 } : Room) s m _ below meth c s.heap [] 0 0 _ (F0 m 0 ls [])
  refine lv_aload_n hx hb dX7_unfair_0 rfl (lv_at hl 0 rfl) ?_
  refine va_get (D := D) (ci := 7) (v := .ref (a 2 0)) (C := RX7) (T := TX7) (N := 13) hx hb htw WW_wsX70 hown hKX.1 hP 0 rfl rfl 2 (Nat.le_of_ble_eq_true rfl) (htw _ mF_RX7_26) (fun _ h9 => h9) rfl dX7_unfair_1 ?_
  refine va_getN (D := D) (ci := 4) (v := .int (sh_shooters now)) (C := RX4) (T := TX4) (N := 10) hx hb htw WW_wsX40 hown hKX.1 hP 6 rfl rfl 0 (Nat.le_of_ble_eq_true rfl) (va_Nw.use rfl (hKX.2 _ (List.mem_of_getElem? (i := 3) rfl))) (fun _ h9 => h9) rfl dX7_unfair_4 ?_
  refine lv_if_eq (tgt := 24) hx hb dX7_unfair_7 (by decide) (fun c1 => ?_) (fun c1 => ?_)
  · have hf := z_p c1 hf
    refine lv_ldc2 (v := (-1)) hx hb hown (htw _ mG_RX7_183) dX7_unfair_24 ?_
    obtain rfl := Option.some.inj hf
    exact zr_MlX (w1, w2) hx hb hr hlocks hP hD hS dX7_unfair_27
  · have hf := z_n c1 hf
    refine lv_iload_n hx hb dX7_unfair_10 rfl (lv_at hl 1 rfl) ?_
    refine zc_RSi (As := [.int a1]) (rest := []) hx hb hml hown htw (ctX7_isOrder l D ac cs   a1   _ rfl) (g_S mM_RX7_159 mT_yX7_isOrder mN_RX7 mC_yX7_isOrder) (hd_yX7_isOrder) ⟨rfl, rfl⟩ ⟨(Nat.le_of_ble_eq_true rfl), (Nat.le_of_ble_eq_true rfl)⟩ hKX hC hS zP0 rfl hl.1 rfl (Nat.le_of_ble_eq_true rfl) ⟨Nat.zero_le _, Nat.zero_le _⟩ dX7_unfair_11 ?_
    refine lv_if_eq (tgt := 24) hx hb dX7_unfair_14 (by decide) (fun c2 => ?_) (fun c2 => ?_)
    · have hf := z_p c2 hf
      refine lv_ldc2 (v := (-1)) hx hb hown (htw _ mG_RX7_183) dX7_unfair_24 ?_
      obtain rfl := Option.some.inj hf
      exact zr_MlX (w1, w2) hx hb hr hlocks hP hD hS dX7_unfair_27
    · have hf := z_n c2 hf
      refine lv_iload_n hx hb dX7_unfair_17 rfl (lv_at hl 2 rfl) ?_
      refine zc_RSi (As := [.int a2]) (rest := []) hx hb hml hown htw (ctX7_isPart l D ac cs   a2   _ rfl) (g_S mM_RX7_180 mT_yX7_isPart mN_RX7 mC_yX7_isPart) (hd_yX7_isPart) ⟨rfl, rfl⟩ ⟨(Nat.le_of_ble_eq_true rfl), (Nat.le_of_ble_eq_true rfl)⟩ hKX hC hS zP0 rfl hl.1 rfl (Nat.le_of_ble_eq_true rfl) ⟨Nat.zero_le _, Nat.zero_le _⟩ dX7_unfair_18 ?_
      refine lv_if_ne (tgt := 28) hx hb dX7_unfair_21 (by decide) (fun c3 => ?_) (fun c3 => ?_)
      · have hf := z_n c3 hf
        refine lv_aload_n hx hb dX7_unfair_28 rfl (lv_at hl 0 rfl) ?_
        refine lv_iload_n hx hb dX7_unfair_29 rfl (lv_at hl 1 rfl) ?_
        refine lv_aload_n hx hb dX7_unfair_30 rfl (lv_at hl 0 rfl) ?_
        refine va_get (D := D) (ci := 7) (v := .ref (a 2 0)) (C := RX7) (T := TX7) (N := 13) hx hb htw WW_wsX70 hown hKX.1 hP 0 rfl rfl 2 (Nat.le_of_ble_eq_true rfl) (htw _ mF_RX7_26) (fun _ h9 => h9) rfl dX7_unfair_31 ?_
        refine va_getN (D := D) (ci := 4) (v := .int (sh_first now)) (C := RX4) (T := TX4) (N := 10) hx hb htw WW_wsX40 hown hKX.1 hP 6 rfl rfl 2 (Nat.le_of_ble_eq_true rfl) (va_Nw.use rfl (hKX.2 _ (List.mem_of_getElem? (i := 8) rfl))) (fun _ h9 => h9) rfl dX7_unfair_34 ?_
        obtain ⟨u4, hu4, hf⟩ := z_bd_u hf
        refine zc_MVvXT (E := (koW ac a ko ++ (txW ac (a 1) tx ++ (shW ac (a 2) now ++ (shW ac (a 3) tr ++ (teW ac (a 4) (a 1) (a 10) te ++ (paW ac a pa ++ (fcW ac (a 6) w1 w2 fc ++ (frW ac (a 7) to ++ (frW ac (a 8) tp ++ (reW ac (a 9) re ++ (shW ac (a 40) k0 ++ (shW ac (a 41) k1 ++ (shW ac (a 10) ti))))))))))))) ++ ringW ac a rg) (TT := []) (As := [.int a1, .int (sh_first now)]) (rest := []) (wr := []) (wsc := (koW ac a ko ++ (txW ac (a 1) tx ++ (shW ac (a 2) now ++ (shW ac (a 3) tr ++ (teW ac (a 4) (a 1) (a 10) te ++ (paW ac a pa ++ (fcW ac (a 6) w1 w2 fc ++ (frW ac (a 7) to ++ (frW ac (a 8) tp ++ (reW ac (a 9) re ++ (shW ac (a 40) k0 ++ (shW ac (a 41) k1 ++ (shW ac (a 10) ti))))))))))))) ++ ringW ac a rg) (wsc' := fun u5 : Nat × Nat => (koW ac a ko ++ (txW ac (a 1) tx ++ (shW ac (a 2) now ++ (shW ac (a 3) u4.1 ++ (teW ac (a 4) (a 1) (a 10) te ++ (paW ac a pa ++ (fcW ac (a 6) u5.1 u5.2 u4.2 ++ (frW ac (a 7) to ++ (frW ac (a 8) tp ++ (reW ac (a 9) re ++ (shW ac (a 40) k0 ++ (shW ac (a 41) k1 ++ (shW ac (a 10) ti))))))))))))) ++ ringW ac a rg) hx hb hml hown htw (ctX7_lookBy l D ac cs a w1 w2 s.heap.size ko tx now tr te pa fc to tp re k0 k1 ti rg a1 (sh_first now)   F u4 hu4) (g_V mM_RX7_217 mI_yX7_lookBy mS_RX7_yX7_lookBy_yX7_lookBy mN_RX7 mC_yX7_lookBy) rfl (hd_yX7_lookBy) ⟨rfl, rfl⟩ ⟨(Nat.le_of_ble_eq_true rfl), (Nat.le_of_ble_eq_true rfl)⟩ hKX hC hS hA (zP_nil hP) (zD_nil hD) (List.range _) [] (zrange _) (zndr _) rfl rfl (fun _ h => by cases h) 7 rfl rfl rfl hl.1 rfl (Nat.le_of_ble_eq_true rfl) ⟨Nat.zero_le _, Nat.zero_le _⟩ dX7_unfair_37 (fun u5 H locs hP hD hS => ?_)
        obtain ⟨w6, w7⟩ := u5
        have hP : va_P D vwCl ((koW ac a ko ++ (txW ac (a 1) tx ++ (shW ac (a 2) now ++ (shW ac (a 3) u4.1 ++ (teW ac (a 4) (a 1) (a 10) te ++ (paW ac a pa ++ (fcW ac (a 6) w6 w7 u4.2 ++ (frW ac (a 7) to ++ (frW ac (a 8) tp ++ (reW ac (a 9) re ++ (shW ac (a 40) k0 ++ (shW ac (a 41) k1 ++ (shW ac (a 10) ti))))))))))))) ++ ringW ac a rg) H := zP_un hP
        have hD : va_D A ((koW ac a ko ++ (txW ac (a 1) tx ++ (shW ac (a 2) now ++ (shW ac (a 3) u4.1 ++ (teW ac (a 4) (a 1) (a 10) te ++ (paW ac a pa ++ (fcW ac (a 6) w6 w7 u4.2 ++ (frW ac (a 7) to ++ (frW ac (a 8) tp ++ (reW ac (a 9) re ++ (shW ac (a 40) k0 ++ (shW ac (a 41) k1 ++ (shW ac (a 10) ti))))))))))))) ++ ringW ac a rg) := zD_un hD
        refine lv_aload_n hx hb dX7_unfair_40 rfl (lv_at hl 0 rfl) ?_
        refine va_get (D := D) (ci := 7) (v := .ref (a 7 0)) (C := RX7) (T := TX7) (N := 13) hx hb htw WW_wsX70 hown hKX.1 hP 0 rfl rfl 8 (Nat.le_of_ble_eq_true rfl) (htw _ mF_RX7_58) (fun _ h9 => h9) rfl dX7_unfair_41 ?_
        refine lv_aload_n hx hb dX7_unfair_44 rfl (lv_at hl 0 rfl) ?_
        refine va_get (D := D) (ci := 7) (v := .ref (a 6 0)) (C := RX7) (T := TX7) (N := 13) hx hb htw WW_wsX70 hown hKX.1 hP 0 rfl rfl 7 (Nat.le_of_ble_eq_true rfl) (htw _ mF_RX7_51) (fun _ h9 => h9) rfl dX7_unfair_45 ?_
        refine zc_RVl (As := []) (rest := [.ref (a 7 0)]) hx hb hml hown htw (ctX0_gap l D ac cs (a 6) w6 w7 u4.2    _ rfl) (g_V mM_RX7_221 mI_yX0_gap mS_RX0_yX0_gap_yX0_gap mN_RX0 mC_yX0_gap) rfl (hd_yX0_gap) ⟨rfl, rfl⟩ ⟨(Nat.le_of_ble_eq_true rfl), (Nat.le_of_ble_eq_true rfl)⟩ hKX hC hS (hP.sub [16, 17, 18, 19, 20] rfl) 0 rfl rfl rfl hl.1 rfl (Nat.le_of_ble_eq_true rfl) ⟨Nat.zero_le _, Nat.zero_le _⟩ dX7_unfair_48 ?_
        refine lv_aload_n hx hb dX7_unfair_51 rfl (lv_at hl 0 rfl) ?_
        refine va_get (D := D) (ci := 7) (v := .ref (a 6 0)) (C := RX7) (T := TX7) (N := 13) hx hb htw WW_wsX70 hown hKX.1 hP 0 rfl rfl 7 (Nat.le_of_ble_eq_true rfl) (htw _ mF_RX7_51) (fun _ h9 => h9) rfl dX7_unfair_52 ?_
        refine va_getN (D := D) (ci := 0) (v := .long (fc_whole u4.2)) (C := RX0) (T := TX0) (N := 15) hx hb htw WW_wsX00 hown hKX.1 hP 16 rfl rfl 14 (Nat.le_of_ble_eq_true rfl) (va_Nw.use rfl (hKX.2 _ (List.mem_of_getElem? (i := 19) rfl))) (fun _ h9 => h9) rfl dX7_unfair_55 ?_
        obtain ⟨u8, hu8⟩ : ∃ y : Fr, y = Fr_put (Fc_gap u4.2) (fc_whole u4.2) := ⟨_, rfl⟩
        have hf := z_let_u hu8 hf
        refine zc_MVvT (As := [.long (Fc_gap u4.2), .long (fc_whole u4.2)]) (rest := []) (wr := koW ac a ko ++ (txW ac (a 1) tx ++ (shW ac (a 2) now ++ (shW ac (a 3) u4.1 ++ (teW ac (a 4) (a 1) (a 10) te ++ (paW ac a pa ++ (fcW ac (a 6) w6 w7 u4.2 ++ (frW ac (a 8) tp ++ (reW ac (a 9) re ++ (shW ac (a 40) k0 ++ (shW ac (a 41) k1 ++ (shW ac (a 10) ti)))))))))))) (wsc := frW ac (a 7) to) (wsc' := frW ac (a 7) u8) hx hb hml hown htw (ctX1_put l D ac cs (a 7) H.size to (Fc_gap u4.2) (fc_whole u4.2)   u8 hu8.symm) (g_V mM_RX7_202 mI_yX1_put mS_RX1_yX1_put_yX1_put mN_RX1 mC_yX1_put) rfl (hd_yX1_put) ⟨rfl, rfl⟩ ⟨(Nat.le_of_ble_eq_true rfl), (Nat.le_of_ble_eq_true rfl)⟩ hKX hC hS hA hP hD [21] [0, 1, 2, 3, 4, 5, 6, 7, 8, 9, 10, 11, 12, 13, 14, 15, 16, 17, 18, 19, 20, 22, 23, 24, 25, 26, 27, 28, 29, 30, 31, 32, 33, 34, 35, 36, 37] rfl (by decide) rfl (by decide) (by decide) 1 rfl rfl rfl hl.1 rfl (Nat.le_of_ble_eq_true rfl) ⟨Nat.zero_le _, Nat.zero_le _⟩ dX7_unfair_58 (fun H locs hP hD hS => ?_)
        have hP : va_P D vwCl ((koW ac a ko ++ (txW ac (a 1) tx ++ (shW ac (a 2) now ++ (shW ac (a 3) u4.1 ++ (teW ac (a 4) (a 1) (a 10) te ++ (paW ac a pa ++ (fcW ac (a 6) w6 w7 u4.2 ++ (frW ac (a 7) u8 ++ (frW ac (a 8) tp ++ (reW ac (a 9) re ++ (shW ac (a 40) k0 ++ (shW ac (a 41) k1 ++ (shW ac (a 10) ti))))))))))))) ++ ringW ac a rg) H := zsubPT hP [0, 1, 2, 3, 4, 5, 6, 7, 8, 9, 10, 11, 12, 13, 14, 15, 16, 17, 18, 19, 20, 37, 21, 22, 23, 24, 25, 26, 27, 28, 29, 30, 31, 32, 33, 34, 35, 36] rfl
        have hD : va_D A ((koW ac a ko ++ (txW ac (a 1) tx ++ (shW ac (a 2) now ++ (shW ac (a 3) u4.1 ++ (teW ac (a 4) (a 1) (a 10) te ++ (paW ac a pa ++ (fcW ac (a 6) w6 w7 u4.2 ++ (frW ac (a 7) u8 ++ (frW ac (a 8) tp ++ (reW ac (a 9) re ++ (shW ac (a 40) k0 ++ (shW ac (a 41) k1 ++ (shW ac (a 10) ti))))))))))))) ++ ringW ac a rg) := zsubDT hD [0, 1, 2, 3, 4, 5, 6, 7, 8, 9, 10, 11, 12, 13, 14, 15, 16, 17, 18, 19, 20, 37, 21, 22, 23, 24, 25, 26, 27, 28, 29, 30, 31, 32, 33, 34, 35, 36] (by decide) rfl
        refine lv_aload_n hx hb dX7_unfair_61 rfl (lv_at hl 0 rfl) ?_
        refine va_get (D := D) (ci := 7) (v := .ref (a 7 0)) (C := RX7) (T := TX7) (N := 13) hx hb htw WW_wsX70 hown hKX.1 hP 0 rfl rfl 8 (Nat.le_of_ble_eq_true rfl) (htw _ mF_RX7_58) (fun _ h9 => h9) rfl dX7_unfair_62 ?_
        obtain ⟨u9, hu9, hf⟩ := z_bd_u hf
        refine zc_MVvT (As := []) (rest := []) (wr := koW ac a ko ++ (txW ac (a 1) tx ++ (shW ac (a 2) now ++ (shW ac (a 3) u4.1 ++ (teW ac (a 4) (a 1) (a 10) te ++ (paW ac a pa ++ (fcW ac (a 6) w6 w7 u4.2 ++ (frW ac (a 8) tp ++ (reW ac (a 9) re ++ (shW ac (a 40) k0 ++ (shW ac (a 41) k1 ++ (shW ac (a 10) ti)))))))))))) (wsc := frW ac (a 7) u8) (wsc' := frW ac (a 7) u9) hx hb hml hown htw (ctX1_reduce l D ac cs (a 7) H.size u8    F u9 hu9) (g_V mM_RX7_208 mI_yX1_reduce mS_RX1_yX1_reduce_yX1_reduce mN_RX1 mC_yX1_reduce) rfl (hd_yX1_reduce) ⟨rfl, rfl⟩ ⟨(Nat.le_of_ble_eq_true rfl), (Nat.le_of_ble_eq_true rfl)⟩ hKX hC hS hA hP hD [21] [0, 1, 2, 3, 4, 5, 6, 7, 8, 9, 10, 11, 12, 13, 14, 15, 16, 17, 18, 19, 20, 22, 23, 24, 25, 26, 27, 28, 29, 30, 31, 32, 33, 34, 35, 36, 37] rfl (by decide) rfl (by decide) (by decide) 1 rfl rfl rfl hl.1 rfl (Nat.le_of_ble_eq_true rfl) ⟨Nat.zero_le _, Nat.zero_le _⟩ dX7_unfair_65 (fun H locs hP hD hS => ?_)
        have hP : va_P D vwCl ((koW ac a ko ++ (txW ac (a 1) tx ++ (shW ac (a 2) now ++ (shW ac (a 3) u4.1 ++ (teW ac (a 4) (a 1) (a 10) te ++ (paW ac a pa ++ (fcW ac (a 6) w6 w7 u4.2 ++ (frW ac (a 7) u9 ++ (frW ac (a 8) tp ++ (reW ac (a 9) re ++ (shW ac (a 40) k0 ++ (shW ac (a 41) k1 ++ (shW ac (a 10) ti))))))))))))) ++ ringW ac a rg) H := zsubPT hP [0, 1, 2, 3, 4, 5, 6, 7, 8, 9, 10, 11, 12, 13, 14, 15, 16, 17, 18, 19, 20, 37, 21, 22, 23, 24, 25, 26, 27, 28, 29, 30, 31, 32, 33, 34, 35, 36] rfl
        have hD : va_D A ((koW ac a ko ++ (txW ac (a 1) tx ++ (shW ac (a 2) now ++ (shW ac (a 3) u4.1 ++ (teW ac (a 4) (a 1) (a 10) te ++ (paW ac a pa ++ (fcW ac (a 6) w6 w7 u4.2 ++ (frW ac (a 7) u9 ++ (frW ac (a 8) tp ++ (reW ac (a 9) re ++ (shW ac (a 40) k0 ++ (shW ac (a 41) k1 ++ (shW ac (a 10) ti))))))))))))) ++ ringW ac a rg) := zsubDT hD [0, 1, 2, 3, 4, 5, 6, 7, 8, 9, 10, 11, 12, 13, 14, 15, 16, 17, 18, 19, 20, 37, 21, 22, 23, 24, 25, 26, 27, 28, 29, 30, 31, 32, 33, 34, 35, 36] (by decide) rfl
        refine lv_aload_n hx hb dX7_unfair_68 rfl (lv_at hl 0 rfl) ?_
        refine va_get (D := D) (ci := 7) (v := .ref (a 7 0)) (C := RX7) (T := TX7) (N := 13) hx hb htw WW_wsX70 hown hKX.1 hP 0 rfl rfl 8 (Nat.le_of_ble_eq_true rfl) (htw _ mF_RX7_58) (fun _ h9 => h9) rfl dX7_unfair_69 ?_
        refine lv_iload_n hx hb dX7_unfair_72 rfl (lv_at hl 2 rfl) ?_
        refine zc_RVl (As := [.int a2]) (rest := []) hx hb hml hown htw (ctX1_part l D ac cs (a 7) u9 a2   _ rfl) (g_V mM_RX7_211 mI_yX1_part mS_RX1_yX1_part_yX1_part mN_RX1 mC_yX1_part) rfl (hd_yX1_part) ⟨rfl, rfl⟩ ⟨(Nat.le_of_ble_eq_true rfl), (Nat.le_of_ble_eq_true rfl)⟩ hKX hC hS (hP.sub [21] rfl) 1 rfl rfl rfl hl.1 rfl (Nat.le_of_ble_eq_true rfl) ⟨Nat.zero_le _, Nat.zero_le _⟩ dX7_unfair_73 ?_
        obtain rfl := Option.some.inj hf
        exact zr_MlX (w6, w7) hx hb hr hlocks hP hD hS dX7_unfair_76
      · have hf := z_p c3 hf
        refine lv_ldc2 (v := (-1)) hx hb hown (htw _ mG_RX7_183) dX7_unfair_24 ?_
        obtain rfl := Option.some.inj hf
        exact zr_MlX (w1, w2) hx hb hr hlocks hP hD hS dX7_unfair_27

theorem hd_yX7_fairest : hdY yX7_fairest 0 := by decide +kernel
def K_fairest_L16 (F : Nat) (now : Sh) : Nat → Int32 → Int32 → Sh → Fc → Fr → Fr → Option (Int32 × Sh × Fc × Fr × Fr)
  | 0, _, _, _, _, _, _ => none
  | n11 + 1, x4, x5, sh6, fc7, fr8, fr9 => if 3 < x5 then (some (x4, sh6, fc7, fr8, fr9)) else (z_bd (K_lookBy F now sh6 fc7 x5 (sh_first now)) (fun u14 : Sh × Fc => z_let (Fr_put (Fc_gap u14.2) (fc_whole u14.2)) (fun u18 : Fr => z_jn (fun _ : Unit => z_let (Fr_put (fr_up u18) (fr_low u18)) (fun u21 : Fr => z_let (x5 + 1) (fun x22 : Int32 => K_fairest_L16 F now n11 x5 x22 u14.1 u14.2 u18 u21))) (fun k19 => if x5 = 0 then (k19 ()) else (z_bd (Fr_against F u18 fr9) (fun r24 : Int32 => if 0 ≤ r24 then (z_let (x5 + 1) (fun x26 : Int32 => K_fairest_L16 F now n11 x4 x26 u14.1 u14.2 u18 fr9)) else (k19 ())))))))
def K_fairest (F : Nat) (now : Sh) (tr : Sh) (fc : Fc) (to : Fr) (tp : Fr) : Option (Int32 × Sh × Fc × Fr × Fr) := if (sh_shooters now) = 0 then (some ((-1), tr, fc, to, tp)) else (K_fairest_L16 F now F 0 0 tr fc to tp)
set_option maxHeartbeats 4000000 in
set_option maxRecDepth 100000 in
theorem ctX7_fairest (l : Launch) (D : va_G) (ac cs : Nat → Nat) (a : Nat → Nat → Nat) (w1 w2 : Nat) (sz : Nat) (ko : Ko) (tx : Tx) (now : Sh) (tr : Sh) (te : Te) (pa : Pa) (fc : Fc) (to : Fr) (tp : Fr) (re : Re) (k0 : Sh) (k1 : Sh) (ti : Sh) (rg : Nat → Sh) (F : Nat) (res : Int32 × Sh × Fc × Fr × Fr) (hf : K_fairest F now tr fc to tp = some res) : Met l yX7_fairest (cWW yX7_fairest cX7_fairest 3 (some .int)) { frames := 8, cells := 0, slots := 0, locals := 181 } (zM D ac cs [.ref (a 0 0)] ((koW ac a ko ++ (txW ac (a 1) tx ++ (shW ac (a 2) now ++ (shW ac (a 3) tr ++ (teW ac (a 4) (a 1) (a 10) te ++ (paW ac a pa ++ (fcW ac (a 6) w1 w2 fc ++ (frW ac (a 7) to ++ (frW ac (a 8) tp ++ (reW ac (a 9) re ++ (shW ac (a 40) k0 ++ (shW ac (a 41) k1 ++ (shW ac (a 10) ti))))))))))))) ++ ringW ac a rg) sz) (va_Qi (fun r (_ : Nat × Nat) => r = res.1) (fun u => zB D (va_A ((koW ac a ko ++ (txW ac (a 1) tx ++ (shW ac (a 2) now ++ (shW ac (a 3) tr ++ (teW ac (a 4) (a 1) (a 10) te ++ (paW ac a pa ++ (fcW ac (a 6) w1 w2 fc ++ (frW ac (a 7) to ++ (frW ac (a 8) tp ++ (reW ac (a 9) re ++ (shW ac (a 40) k0 ++ (shW ac (a 41) k1 ++ (shW ac (a 10) ti))))))))))))) ++ ringW ac a rg) sz) ((koW ac a ko ++ (txW ac (a 1) tx ++ (shW ac (a 2) now ++ (shW ac (a 3) res.2.1 ++ (teW ac (a 4) (a 1) (a 10) te ++ (paW ac a pa ++ (fcW ac (a 6) u.1 u.2 res.2.2.1 ++ (frW ac (a 7) res.2.2.2.1 ++ (frW ac (a 8) res.2.2.2.2 ++ (reW ac (a 9) re ++ (shW ac (a 40) k0 ++ (shW ac (a 41) k1 ++ (shW ac (a 10) ti))))))))))))) ++ ringW ac a rg)) (va_A ((koW ac a ko ++ (txW ac (a 1) tx ++ (shW ac (a 2) now ++ (shW ac (a 3) tr ++ (teW ac (a 4) (a 1) (a 10) te ++ (paW ac a pa ++ (fcW ac (a 6) w1 w2 fc ++ (frW ac (a 7) to ++ (frW ac (a 8) tp ++ (reW ac (a 9) re ++ (shW ac (a 40) k0 ++ (shW ac (a 41) k1 ++ (shW ac (a 10) ti))))))))))))) ++ ringW ac a rg) sz)) 0 0 (va_A ((koW ac a ko ++ (txW ac (a 1) tx ++ (shW ac (a 2) now ++ (shW ac (a 3) tr ++ (teW ac (a 4) (a 1) (a 10) te ++ (paW ac a pa ++ (fcW ac (a 6) w1 w2 fc ++ (frW ac (a 7) to ++ (frW ac (a 8) tp ++ (reW ac (a 9) re ++ (shW ac (a 40) k0 ++ (shW ac (a 41) k1 ++ (shW ac (a 10) ti))))))))))))) ++ ringW ac a rg) sz) := by
  refine Met.ofW (cc := cX7_fairest) (maxL := 3) (ret := (some .int)) (by decide) rfl ?_
  intro p e s m args below meth c s₁ B hml hv
  obtain ⟨rfl, hsz, hP, hKX, hD0, hC⟩ := hv
  have hx := B.exec
  have hb := B.bytes
  have hr := B.returns
  have hts := atoms_spec (ws := cWW yX7_fairest cX7_fairest 3 (some .int)) B.pre
  have htw : ∀ w ∈ WW, w.before _ s = true := fun w h => hts w (List.mem_cons_of_mem _ h)
  have hown : s.vm.findClass RX7 = some m.cls := findClass_of_methodNamed B.named
  have hlocks := B.notSynchronized
  clear hts B
  subst hsz
  have hD := hD0.self (sz := s.heap.size)
  generalize hAe : va_A ((koW ac a ko ++ (txW ac (a 1) tx ++ (shW ac (a 2) now ++ (shW ac (a 3) tr ++ (teW ac (a 4) (a 1) (a 10) te ++ (paW ac a pa ++ (fcW ac (a 6) w1 w2 fc ++ (frW ac (a 7) to ++ (frW ac (a 8) tp ++ (reW ac (a 9) re ++ (shW ac (a 40) k0 ++ (shW ac (a 41) k1 ++ (shW ac (a 10) ti))))))))))))) ++ ringW ac a rg) s.heap.size = A at hD hC ⊢
  have hA : ∀ q : Nat, s.heap.size ≤ q → A q := fun q h => by rw [← hAe]; exact Or.inr h
  have hS : va_S A s.heap s.heap [] := va_S.rf
  clear hD0 hAe
  have hP : va_P D vwCl ((koW ac a ko ++ (txW ac (a 1) tx ++ (shW ac (a 2) now ++ (shW ac (a 3) tr ++ (teW ac (a 4) (a 1) (a 10) te ++ (paW ac a pa ++ (fcW ac (a 6) w1 w2 fc ++ (frW ac (a 7) to ++ (frW ac (a 8) tp ++ (reW ac (a 9) re ++ (shW ac (a 40) k0 ++ (shW ac (a 41) k1 ++ (shW ac (a 10) ti))))))))))))) ++ ringW ac a rg) s.heap := hP
  have hl := lv_entry ([.ref (a 0 0)]) (n := 3) (Nat.le_of_ble_eq_true rfl)
  rw [lg_entry_eq]
  generalize (lg_sl ([.ref (a 0 0)]) ++ List.replicate (3 - (lg_sl ([.ref (a 0 0)])).length) Slot.unset).toArray = ls at hl ⊢
  have hl : lv_has ls 3 [(0, .ref (a 0 0))] := hl
  unfold K_fairest at hf
  show W p l e ({ frames := 8, cells := 0, slots := 0, locals := 181 } : Room) s m _ below meth c s.heap [] 0 0 _ (F0 m 0 ls [])
  refine lv_aload_n hx hb dX7_fairest_0 rfl (lv_at hl 0 rfl) ?_
  refine va_get (D := D) (ci := 7) (v := .ref (a 2 0)) (C := RX7) (T := TX7) (N := 13) hx hb htw WW_wsX70 hown hKX.1 hP 0 rfl rfl 2 (Nat.le_of_ble_eq_true rfl) (htw _ mF_RX7_26) (fun _ h9 => h9) rfl dX7_fairest_1 ?_
  refine va_getN (D := D) (ci := 4) (v := .int (sh_shooters now)) (C := RX4) (T := TX4) (N := 10) hx hb htw WW_wsX40 hown hKX.1 hP 6 rfl rfl 0 (Nat.le_of_ble_eq_true rfl) (va_Nw.use rfl (hKX.2 _ (List.mem_of_getElem? (i := 3) rfl))) (fun _ h9 => h9) rfl dX7_fairest_4 ?_
  refine lv_if_ne (tgt := 12) hx hb dX7_fairest_7 (by decide) (fun c1 => ?_) (fun c1 => ?_)
  · have hf := z_n c1 hf
    refine lv_iconst (v := 0) hx hb dX7_fairest_12 rfl ?_
    refine lv_istore_n (lv' := [(1, .int 0), (0, .ref (a 0 0))]) hx hb dX7_fairest_13 rfl hl (Nat.le_of_ble_eq_true rfl) rfl (fun ls hl => ?_)
    refine lv_iconst (v := 0) hx hb dX7_fairest_14 rfl ?_
    refine lv_istore_n (lv' := [(2, .int 0), (1, .int 0), (0, .ref (a 0 0))]) hx hb dX7_fairest_15 rfl hl (Nat.le_of_ble_eq_true rfl) rfl (fun ls hl => ?_)
    have hL10 : ∀ (n11 : Nat) (x4 : Int32) (x5 : Int32) (sh6 : Sh) (fc7 : Fc) (fr8 : Fr) (fr9 : Fr), K_fairest_L16 F now n11 x4 x5 sh6 fc7 fr8 fr9 = some res → ∀ (H : Heap) (locs : List Loc) (ls : Array Slot) (w2 w3 : Nat), va_P D vwCl ((koW ac a ko ++ (txW ac (a 1) tx ++ (shW ac (a 2) now ++ (shW ac (a 3) sh6 ++ (teW ac (a 4) (a 1) (a 10) te ++ (paW ac a pa ++ (fcW ac (a 6) w2 w3 fc7 ++ (frW ac (a 7) fr8 ++ (frW ac (a 8) fr9 ++ (reW ac (a 9) re ++ (shW ac (a 40) k0 ++ (shW ac (a 41) k1 ++ (shW ac (a 10) ti))))))))))))) ++ ringW ac a rg) H → va_D A ((koW ac a ko ++ (txW ac (a 1) tx ++ (shW ac (a 2) now ++ (shW ac (a 3) sh6 ++ (teW ac (a 4) (a 1) (a 10) te ++ (paW ac a pa ++ (fcW ac (a 6) w2 w3 fc7 ++ (frW ac (a 7) fr8 ++ (frW ac (a 8) fr9 ++ (reW ac (a 9) re ++ (shW ac (a 40) k0 ++ (shW ac (a 41) k1 ++ (shW ac (a 10) ti))))))))))))) ++ ringW ac a rg) → va_S A s.heap H locs → lv_has ls 3 [(0, .ref (a 0 0)), (1, .int x4), (2, .int x5)] → W p l e ({ frames := 8, cells := 0, slots := 0, locals := 181 } : Room) s m (([.ref (a 0 0)] : List Value).toArray) below meth c H locs 0 0 (MQ below (va_Qi (fun r (_ : Nat × Nat) => r = res.1) (fun u => zB D A ((koW ac a ko ++ (txW ac (a 1) tx ++ (shW ac (a 2) now ++ (shW ac (a 3) res.2.1 ++ (teW ac (a 4) (a 1) (a 10) te ++ (paW ac a pa ++ (fcW ac (a 6) u.1 u.2 res.2.2.1 ++ (frW ac (a 7) res.2.2.2.1 ++ (frW ac (a 8) res.2.2.2.2 ++ (reW ac (a 9) re ++ (shW ac (a 40) k0 ++ (shW ac (a 41) k1 ++ (shW ac (a 10) ti))))))))))))) ++ ringW ac a rg)) A) ([.ref (a 0 0)] : List Value).toArray s 0 0 A) (F0 m 16 ls []) := by
      intro n11
      induction n11 with
      | zero => intro x4 x5 sh6 fc7 fr8 fr9 hf; rw [K_fairest_L16] at hf; cases hf
      | succ n11 ih12 =>
        intro x4 x5 sh6 fc7 fr8 fr9 hf H locs ls w2 w3 hP hD hS hl
        rw [K_fairest_L16] at hf
        refine lv_iload_n hx hb dX7_fairest_16 rfl (lv_at hl 2 rfl) ?_
        refine lv_iconst (v := 3) hx hb dX7_fairest_17 rfl ?_
        refine lv_icmp_gt (tgt := 101) hx hb dX7_fairest_18 (by decide) (fun c13 => ?_) (fun c13 => ?_)
        · have hf := z_p c13 hf
          refine lv_iload_n hx hb dX7_fairest_101 rfl (lv_at hl 1 rfl) ?_
          obtain rfl := Option.some.inj hf
          exact zr_MiX (w2, w3) hx hb hr hlocks hP hD hS dX7_fairest_102
        · have hf := z_n c13 hf
          refine lv_aload_n hx hb dX7_fairest_21 rfl (lv_at hl 0 rfl) ?_
          refine lv_iload_n hx hb dX7_fairest_22 rfl (lv_at hl 2 rfl) ?_
          refine lv_aload_n hx hb dX7_fairest_23 rfl (lv_at hl 0 rfl) ?_
          refine va_get (D := D) (ci := 7) (v := .ref (a 2 0)) (C := RX7) (T := TX7) (N := 13) hx hb htw WW_wsX70 hown hKX.1 hP 0 rfl rfl 2 (Nat.le_of_ble_eq_true rfl) (htw _ mF_RX7_26) (fun _ h9 => h9) rfl dX7_fairest_24 ?_
          refine va_getN (D := D) (ci := 4) (v := .int (sh_first now)) (C := RX4) (T := TX4) (N := 10) hx hb htw WW_wsX40 hown hKX.1 hP 6 rfl rfl 2 (Nat.le_of_ble_eq_true rfl) (va_Nw.use rfl (hKX.2 _ (List.mem_of_getElem? (i := 8) rfl))) (fun _ h9 => h9) rfl dX7_fairest_27 ?_
          obtain ⟨u14, hu14, hf⟩ := z_bd_u hf
          refine zc_MVvXT (E := (koW ac a ko ++ (txW ac (a 1) tx ++ (shW ac (a 2) now ++ (shW ac (a 3) sh6 ++ (teW ac (a 4) (a 1) (a 10) te ++ (paW ac a pa ++ (fcW ac (a 6) w2 w3 fc7 ++ (frW ac (a 7) fr8 ++ (frW ac (a 8) fr9 ++ (reW ac (a 9) re ++ (shW ac (a 40) k0 ++ (shW ac (a 41) k1 ++ (shW ac (a 10) ti))))))))))))) ++ ringW ac a rg) (TT := []) (As := [.int x5, .int (sh_first now)]) (rest := []) (wr := []) (wsc := (koW ac a ko ++ (txW ac (a 1) tx ++ (shW ac (a 2) now ++ (shW ac (a 3) sh6 ++ (teW ac (a 4) (a 1) (a 10) te ++ (paW ac a pa ++ (fcW ac (a 6) w2 w3 fc7 ++ (frW ac (a 7) fr8 ++ (frW ac (a 8) fr9 ++ (reW ac (a 9) re ++ (shW ac (a 40) k0 ++ (shW ac (a 41) k1 ++ (shW ac (a 10) ti))))))))))))) ++ ringW ac a rg) (wsc' := fun u15 : Nat × Nat => (koW ac a ko ++ (txW ac (a 1) tx ++ (shW ac (a 2) now ++ (shW ac (a 3) u14.1 ++ (teW ac (a 4) (a 1) (a 10) te ++ (paW ac a pa ++ (fcW ac (a 6) u15.1 u15.2 u14.2 ++ (frW ac (a 7) fr8 ++ (frW ac (a 8) fr9 ++ (reW ac (a 9) re ++ (shW ac (a 40) k0 ++ (shW ac (a 41) k1 ++ (shW ac (a 10) ti))))))))))))) ++ ringW ac a rg) hx hb hml hown htw (ctX7_lookBy l D ac cs a w2 w3 H.size ko tx now sh6 te pa fc7 fr8 fr9 re k0 k1 ti rg x5 (sh_first now)   F u14 hu14) (g_V mM_RX7_217 mI_yX7_lookBy mS_RX7_yX7_lookBy_yX7_lookBy mN_RX7 mC_yX7_lookBy) rfl (hd_yX7_lookBy) ⟨rfl, rfl⟩ ⟨(Nat.le_of_ble_eq_true rfl), (Nat.le_of_ble_eq_true rfl)⟩ hKX hC hS hA (zP_nil hP) (zD_nil hD) (List.range _) [] (zrange _) (zndr _) rfl rfl (fun _ h => by cases h) 7 rfl rfl rfl hl.1 rfl (Nat.le_of_ble_eq_true rfl) ⟨Nat.zero_le _, Nat.zero_le _⟩ dX7_fairest_30 (fun u15 H locs hP hD hS => ?_)
          obtain ⟨w16, w17⟩ := u15
          have hP : va_P D vwCl ((koW ac a ko ++ (txW ac (a 1) tx ++ (shW ac (a 2) now ++ (shW ac (a 3) u14.1 ++ (teW ac (a 4) (a 1) (a 10) te ++ (paW ac a pa ++ (fcW ac (a 6) w16 w17 u14.2 ++ (frW ac (a 7) fr8 ++ (frW ac (a 8) fr9 ++ (reW ac (a 9) re ++ (shW ac (a 40) k0 ++ (shW ac (a 41) k1 ++ (shW ac (a 10) ti))))))))))))) ++ ringW ac a rg) H := zP_un hP
          have hD : va_D A ((koW ac a ko ++ (txW ac (a 1) tx ++ (shW ac (a 2) now ++ (shW ac (a 3) u14.1 ++ (teW ac (a 4) (a 1) (a 10) te ++ (paW ac a pa ++ (fcW ac (a 6) w16 w17 u14.2 ++ (frW ac (a 7) fr8 ++ (frW ac (a 8) fr9 ++ (reW ac (a 9) re ++ (shW ac (a 40) k0 ++ (shW ac (a 41) k1 ++ (shW ac (a 10) ti))))))))))))) ++ ringW ac a rg) := zD_un hD
          refine lv_aload_n hx hb dX7_fairest_33 rfl (lv_at hl 0 rfl) ?_
          refine va_get (D := D) (ci := 7) (v := .ref (a 7 0)) (C := RX7) (T := TX7) (N := 13) hx hb htw WW_wsX70 hown hKX.1 hP 0 rfl rfl 8 (Nat.le_of_ble_eq_true rfl) (htw _ mF_RX7_58) (fun _ h9 => h9) rfl dX7_fairest_34 ?_
          refine lv_aload_n hx hb dX7_fairest_37 rfl (lv_at hl 0 rfl) ?_
          refine va_get (D := D) (ci := 7) (v := .ref (a 6 0)) (C := RX7) (T := TX7) (N := 13) hx hb htw WW_wsX70 hown hKX.1 hP 0 rfl rfl 7 (Nat.le_of_ble_eq_true rfl) (htw _ mF_RX7_51) (fun _ h9 => h9) rfl dX7_fairest_38 ?_
          refine zc_RVl (As := []) (rest := [.ref (a 7 0)]) hx hb hml hown htw (ctX0_gap l D ac cs (a 6) w16 w17 u14.2    _ rfl) (g_V mM_RX7_221 mI_yX0_gap mS_RX0_yX0_gap_yX0_gap mN_RX0 mC_yX0_gap) rfl (hd_yX0_gap) ⟨rfl, rfl⟩ ⟨(Nat.le_of_ble_eq_true rfl), (Nat.le_of_ble_eq_true rfl)⟩ hKX hC hS (hP.sub [16, 17, 18, 19, 20] rfl) 0 rfl rfl rfl hl.1 rfl (Nat.le_of_ble_eq_true rfl) ⟨Nat.zero_le _, Nat.zero_le _⟩ dX7_fairest_41 ?_
          refine lv_aload_n hx hb dX7_fairest_44 rfl (lv_at hl 0 rfl) ?_
          refine va_get (D := D) (ci := 7) (v := .ref (a 6 0)) (C := RX7) (T := TX7) (N := 13) hx hb htw WW_wsX70 hown hKX.1 hP 0 rfl rfl 7 (Nat.le_of_ble_eq_true rfl) (htw _ mF_RX7_51) (fun _ h9 => h9) rfl dX7_fairest_45 ?_
          refine va_getN (D := D) (ci := 0) (v := .long (fc_whole u14.2)) (C := RX0) (T := TX0) (N := 15) hx hb htw WW_wsX00 hown hKX.1 hP 16 rfl rfl 14 (Nat.le_of_ble_eq_true rfl) (va_Nw.use rfl (hKX.2 _ (List.mem_of_getElem? (i := 19) rfl))) (fun _ h9 => h9) rfl dX7_fairest_48 ?_
          obtain ⟨u18, hu18⟩ : ∃ y : Fr, y = Fr_put (Fc_gap u14.2) (fc_whole u14.2) := ⟨_, rfl⟩
          have hf := z_let_u hu18 hf
          refine zc_MVvT (As := [.long (Fc_gap u14.2), .long (fc_whole u14.2)]) (rest := []) (wr := koW ac a ko ++ (txW ac (a 1) tx ++ (shW ac (a 2) now ++ (shW ac (a 3) u14.1 ++ (teW ac (a 4) (a 1) (a 10) te ++ (paW ac a pa ++ (fcW ac (a 6) w16 w17 u14.2 ++ (frW ac (a 8) fr9 ++ (reW ac (a 9) re ++ (shW ac (a 40) k0 ++ (shW ac (a 41) k1 ++ (shW ac (a 10) ti)))))))))))) (wsc := frW ac (a 7) fr8) (wsc' := frW ac (a 7) u18) hx hb hml hown htw (ctX1_put l D ac cs (a 7) H.size fr8 (Fc_gap u14.2) (fc_whole u14.2)   u18 hu18.symm) (g_V mM_RX7_202 mI_yX1_put mS_RX1_yX1_put_yX1_put mN_RX1 mC_yX1_put) rfl (hd_yX1_put) ⟨rfl, rfl⟩ ⟨(Nat.le_of_ble_eq_true rfl), (Nat.le_of_ble_eq_true rfl)⟩ hKX hC hS hA hP hD [21] [0, 1, 2, 3, 4, 5, 6, 7, 8, 9, 10, 11, 12, 13, 14, 15, 16, 17, 18, 19, 20, 22, 23, 24, 25, 26, 27, 28, 29, 30, 31, 32, 33, 34, 35, 36, 37] rfl (by decide) rfl (by decide) (by decide) 1 rfl rfl rfl hl.1 rfl (Nat.le_of_ble_eq_true rfl) ⟨Nat.zero_le _, Nat.zero_le _⟩ dX7_fairest_51 (fun H locs hP hD hS => ?_)
          have hP : va_P D vwCl ((koW ac a ko ++ (txW ac (a 1) tx ++ (shW ac (a 2) now ++ (shW ac (a 3) u14.1 ++ (teW ac (a 4) (a 1) (a 10) te ++ (paW ac a pa ++ (fcW ac (a 6) w16 w17 u14.2 ++ (frW ac (a 7) u18 ++ (frW ac (a 8) fr9 ++ (reW ac (a 9) re ++ (shW ac (a 40) k0 ++ (shW ac (a 41) k1 ++ (shW ac (a 10) ti))))))))))))) ++ ringW ac a rg) H := zsubPT hP [0, 1, 2, 3, 4, 5, 6, 7, 8, 9, 10, 11, 12, 13, 14, 15, 16, 17, 18, 19, 20, 37, 21, 22, 23, 24, 25, 26, 27, 28, 29, 30, 31, 32, 33, 34, 35, 36] rfl
          have hD : va_D A ((koW ac a ko ++ (txW ac (a 1) tx ++ (shW ac (a 2) now ++ (shW ac (a 3) u14.1 ++ (teW ac (a 4) (a 1) (a 10) te ++ (paW ac a pa ++ (fcW ac (a 6) w16 w17 u14.2 ++ (frW ac (a 7) u18 ++ (frW ac (a 8) fr9 ++ (reW ac (a 9) re ++ (shW ac (a 40) k0 ++ (shW ac (a 41) k1 ++ (shW ac (a 10) ti))))))))))))) ++ ringW ac a rg) := zsubDT hD [0, 1, 2, 3, 4, 5, 6, 7, 8, 9, 10, 11, 12, 13, 14, 15, 16, 17, 18, 19, 20, 37, 21, 22, 23, 24, 25, 26, 27, 28, 29, 30, 31, 32, 33, 34, 35, 36] (by decide) rfl
          refine lv_iload_n hx hb dX7_fairest_54 rfl (lv_at hl 2 rfl) ?_
          obtain ⟨k19, hk19, hf⟩ := z_jn_u hf
          have hj20 : k19 () = some res → ∀ (H : Heap) (locs : List Loc) (ls : Array Slot), va_P D vwCl ((koW ac a ko ++ (txW ac (a 1) tx ++ (shW ac (a 2) now ++ (shW ac (a 3) u14.1 ++ (teW ac (a 4) (a 1) (a 10) te ++ (paW ac a pa ++ (fcW ac (a 6) w16 w17 u14.2 ++ (frW ac (a 7) u18 ++ (frW ac (a 8) fr9 ++ (reW ac (a 9) re ++ (shW ac (a 40) k0 ++ (shW ac (a 41) k1 ++ (shW ac (a 10) ti))))))))))))) ++ ringW ac a rg) H → va_D A ((koW ac a ko ++ (txW ac (a 1) tx ++ (shW ac (a 2) now ++ (shW ac (a 3) u14.1 ++ (teW ac (a 4) (a 1) (a 10) te ++ (paW ac a pa ++ (fcW ac (a 6) w16 w17 u14.2 ++ (frW ac (a 7) u18 ++ (frW ac (a 8) fr9 ++ (reW ac (a 9) re ++ (shW ac (a 40) k0 ++ (shW ac (a 41) k1 ++ (shW ac (a 10) ti))))))))))))) ++ ringW ac a rg) → va_S A s.heap H locs → lv_has ls 3 [(0, .ref (a 0 0)), (2, .int x5)] → W p l e ({ frames := 8, cells := 0, slots := 0, locals := 181 } : Room) s m (([.ref (a 0 0)] : List Value).toArray) below meth c H locs 0 0 (MQ below (va_Qi (fun r (_ : Nat × Nat) => r = res.1) (fun u => zB D A ((koW ac a ko ++ (txW ac (a 1) tx ++ (shW ac (a 2) now ++ (shW ac (a 3) res.2.1 ++ (teW ac (a 4) (a 1) (a 10) te ++ (paW ac a pa ++ (fcW ac (a 6) u.1 u.2 res.2.2.1 ++ (frW ac (a 7) res.2.2.2.1 ++ (frW ac (a 8) res.2.2.2.2 ++ (reW ac (a 9) re ++ (shW ac (a 40) k0 ++ (shW ac (a 41) k1 ++ (shW ac (a 10) ti))))))))))))) ++ ringW ac a rg)) A) ([.ref (a 0 0)] : List Value).toArray s 0 0 A) (F0 m 72 ls []) := by
            intro hf H locs ls hP hD hS hl
            have hf := hk19 _ hf
            refine lv_aload_n hx hb dX7_fairest_72 rfl (lv_at hl 0 rfl) ?_
            refine va_get (D := D) (ci := 7) (v := .ref (a 8 0)) (C := RX7) (T := TX7) (N := 13) hx hb htw WW_wsX70 hown hKX.1 hP 0 rfl rfl 9 (Nat.le_of_ble_eq_true rfl) (htw _ mF_RX7_62) (fun _ h9 => h9) rfl dX7_fairest_73 ?_
            refine lv_aload_n hx hb dX7_fairest_76 rfl (lv_at hl 0 rfl) ?_
            refine va_get (D := D) (ci := 7) (v := .ref (a 7 0)) (C := RX7) (T := TX7) (N := 13) hx hb htw WW_wsX70 hown hKX.1 hP 0 rfl rfl 8 (Nat.le_of_ble_eq_true rfl) (htw _ mF_RX7_58) (fun _ h9 => h9) rfl dX7_fairest_77 ?_
            refine va_getN (D := D) (ci := 1) (v := .long (fr_up u18)) (C := RX1) (T := TX1) (N := 2) hx hb htw WW_wsX10 hown hKX.1 hP 21 rfl rfl 0 (Nat.le_of_ble_eq_true rfl) (va_Nw.use rfl (hKX.2 _ (List.mem_of_getElem? (i := 21) rfl))) (fun _ h9 => h9) rfl dX7_fairest_80 ?_
            refine lv_aload_n hx hb dX7_fairest_83 rfl (lv_at hl 0 rfl) ?_
            refine va_get (D := D) (ci := 7) (v := .ref (a 7 0)) (C := RX7) (T := TX7) (N := 13) hx hb htw WW_wsX70 hown hKX.1 hP 0 rfl rfl 8 (Nat.le_of_ble_eq_true rfl) (htw _ mF_RX7_58) (fun _ h9 => h9) rfl dX7_fairest_84 ?_
            refine va_getN (D := D) (ci := 1) (v := .long (fr_low u18)) (C := RX1) (T := TX1) (N := 2) hx hb htw WW_wsX10 hown hKX.1 hP 21 rfl rfl 1 (Nat.le_of_ble_eq_true rfl) (va_Nw.use rfl (hKX.2 _ (List.mem_of_getElem? (i := 23) rfl))) (fun _ h9 => h9) rfl dX7_fairest_87 ?_
            obtain ⟨u21, hu21⟩ : ∃ y : Fr, y = Fr_put (fr_up u18) (fr_low u18) := ⟨_, rfl⟩
            have hf := z_let_u hu21 hf
            refine zc_MVvT (As := [.long (fr_up u18), .long (fr_low u18)]) (rest := []) (wr := koW ac a ko ++ (txW ac (a 1) tx ++ (shW ac (a 2) now ++ (shW ac (a 3) u14.1 ++ (teW ac (a 4) (a 1) (a 10) te ++ (paW ac a pa ++ (fcW ac (a 6) w16 w17 u14.2 ++ (frW ac (a 7) u18 ++ (reW ac (a 9) re ++ (shW ac (a 40) k0 ++ (shW ac (a 41) k1 ++ (shW ac (a 10) ti)))))))))))) (wsc := frW ac (a 8) fr9) (wsc' := frW ac (a 8) u21) hx hb hml hown htw (ctX1_put l D ac cs (a 8) H.size fr9 (fr_up u18) (fr_low u18)   u21 hu21.symm) (g_V mM_RX7_202 mI_yX1_put mS_RX1_yX1_put_yX1_put mN_RX1 mC_yX1_put) rfl (hd_yX1_put) ⟨rfl, rfl⟩ ⟨(Nat.le_of_ble_eq_true rfl), (Nat.le_of_ble_eq_true rfl)⟩ hKX hC hS hA hP hD [22] [0, 1, 2, 3, 4, 5, 6, 7, 8, 9, 10, 11, 12, 13, 14, 15, 16, 17, 18, 19, 20, 21, 23, 24, 25, 26, 27, 28, 29, 30, 31, 32, 33, 34, 35, 36, 37] rfl (by decide) rfl (by decide) (by decide) 1 rfl rfl rfl hl.1 rfl (Nat.le_of_ble_eq_true rfl) ⟨Nat.zero_le _, Nat.zero_le _⟩ dX7_fairest_90 (fun H locs hP hD hS => ?_)
            have hP : va_P D vwCl ((koW ac a ko ++ (txW ac (a 1) tx ++ (shW ac (a 2) now ++ (shW ac (a 3) u14.1 ++ (teW ac (a 4) (a 1) (a 10) te ++ (paW ac a pa ++ (fcW ac (a 6) w16 w17 u14.2 ++ (frW ac (a 7) u18 ++ (frW ac (a 8) u21 ++ (reW ac (a 9) re ++ (shW ac (a 40) k0 ++ (shW ac (a 41) k1 ++ (shW ac (a 10) ti))))))))))))) ++ ringW ac a rg) H := zsubPT hP [0, 1, 2, 3, 4, 5, 6, 7, 8, 9, 10, 11, 12, 13, 14, 15, 16, 17, 18, 19, 20, 21, 37, 22, 23, 24, 25, 26, 27, 28, 29, 30, 31, 32, 33, 34, 35, 36] rfl
            have hD : va_D A ((koW ac a ko ++ (txW ac (a 1) tx ++ (shW ac (a 2) now ++ (shW ac (a 3) u14.1 ++ (teW ac (a 4) (a 1) (a 10) te ++ (paW ac a pa ++ (fcW ac (a 6) w16 w17 u14.2 ++ (frW ac (a 7) u18 ++ (frW ac (a 8) u21 ++ (reW ac (a 9) re ++ (shW ac (a 40) k0 ++ (shW ac (a 41) k1 ++ (shW ac (a 10) ti))))))))))))) ++ ringW ac a rg) := zsubDT hD [0, 1, 2, 3, 4, 5, 6, 7, 8, 9, 10, 11, 12, 13, 14, 15, 16, 17, 18, 19, 20, 21, 37, 22, 23, 24, 25, 26, 27, 28, 29, 30, 31, 32, 33, 34, 35, 36] (by decide) rfl
            refine lv_iload_n hx hb dX7_fairest_93 rfl (lv_at hl 1 rfl) ?_
            refine lv_istore_n (lv' := [(1, .int x5), (0, .ref (a 0 0)), (2, .int x5)]) hx hb dX7_fairest_94 rfl hl (Nat.le_of_ble_eq_true rfl) rfl (fun ls hl => ?_)
            obtain ⟨x22, hx22⟩ : ∃ y : Int32, y = (x5 + 1) := ⟨_, rfl⟩
            have hf := z_let_u hx22 hf
            refine lv_iinc (v := x22) (lv' := [(2, .int x22), (1, .int x5), (0, .ref (a 0 0))]) hx hb dX7_fairest_95 hl (k := 2) rfl (by rw [hx22]; rfl) (Nat.le_of_ble_eq_true rfl) rfl (fun ls hl => ?_)
            refine lv_goto (tgt := 16) hx hb dX7_fairest_98 (by decide) ?_
            exact ih12 x5 x22 u14.1 u14.2 u18 u21 hf _ _ ls w16 w17 hP hD hS (lv_sub hl [2, 1, 0] rfl)
          refine lv_if_eq (tgt := 72) hx hb dX7_fairest_55 (by decide) (fun c23 => ?_) (fun c23 => ?_)
          · have hf := z_p c23 hf
            exact hj20  hf _ _ ls  hP hD hS (lv_sub hl [0, 2] rfl)
          · have hf := z_n c23 hf
            refine lv_aload_n hx hb dX7_fairest_58 rfl (lv_at hl 0 rfl) ?_
            refine va_get (D := D) (ci := 7) (v := .ref (a 7 0)) (C := RX7) (T := TX7) (N := 13) hx hb htw WW_wsX70 hown hKX.1 hP 0 rfl rfl 8 (Nat.le_of_ble_eq_true rfl) (htw _ mF_RX7_58) (fun _ h9 => h9) rfl dX7_fairest_59 ?_
            refine lv_aload_n hx hb dX7_fairest_62 rfl (lv_at hl 0 rfl) ?_
            refine va_get (D := D) (ci := 7) (v := .ref (a 8 0)) (C := RX7) (T := TX7) (N := 13) hx hb htw WW_wsX70 hown hKX.1 hP 0 rfl rfl 9 (Nat.le_of_ble_eq_true rfl) (htw _ mF_RX7_62) (fun _ h9 => h9) rfl dX7_fairest_63 ?_
            obtain ⟨r24, hr24, hf⟩ := z_bd_u hf
            refine zc_RVi (As := [.ref (a 8 0)]) (rest := []) hx hb hml hown htw (ctX1_against l D ac cs (a 7) (a 8) u18 fr9    F _ hr24) (g_V mM_RX7_225 mI_yX1_against mS_RX1_yX1_against_yX1_against mN_RX1 mC_yX1_against) rfl (hd_yX1_against) ⟨rfl, rfl⟩ ⟨(Nat.le_of_ble_eq_true rfl), (Nat.le_of_ble_eq_true rfl)⟩ hKX hC hS (hP.sub [21, 22] rfl) 1 rfl rfl rfl hl.1 rfl (Nat.le_of_ble_eq_true rfl) ⟨Nat.zero_le _, Nat.zero_le _⟩ dX7_fairest_66 ?_
            refine lv_if_ge (tgt := 95) hx hb dX7_fairest_69 (by decide) (fun c25 => ?_) (fun c25 => ?_)
            · have hf := z_p c25 hf
              obtain ⟨x26, hx26⟩ : ∃ y : Int32, y = (x5 + 1) := ⟨_, rfl⟩
              have hf := z_let_u hx26 hf
              refine lv_iinc (v := x26) (lv' := [(2, .int x26), (0, .ref (a 0 0)), (1, .int x4)]) hx hb dX7_fairest_95 hl (k := 2) rfl (by rw [hx26]; rfl) (Nat.le_of_ble_eq_true rfl) rfl (fun ls hl => ?_)
              refine lv_goto (tgt := 16) hx hb dX7_fairest_98 (by decide) ?_
              exact ih12 x4 x26 u14.1 u14.2 u18 fr9 hf _ _ ls w16 w17 hP hD hS (lv_sub hl [1, 2, 0] rfl)
            · have hf := z_n c25 hf
              exact hj20  hf _ _ ls  hP hD hS (lv_sub hl [0, 2] rfl)
    refine hL10  F 0 0 tr fc to tp hf _ _ ls w1 w2 hP hD hS (lv_sub hl [2, 1, 0] rfl)
  · have hf := z_p c1 hf
    refine lv_iconst (v := (-1)) hx hb dX7_fairest_10 rfl ?_
    obtain rfl := Option.some.inj hf
    exact zr_MiX (w1, w2) hx hb hr hlocks hP hD hS dX7_fairest_11

theorem hd_yX7_toss : hdY yX7_toss 2 := by decide +kernel
def K_toss (F : Nat) (now : Sh) (tr : Sh) (fc : Fc) (to : Fr) (tp : Fr) (a1 : Int32) (a2 : Int32) : Option (Int32 × Sh × Fc × Fr × Fr) := if K_isSideTold now a1 = 0 then (some ((-1), tr, fc, to, tp)) else (if K_isOrder a2 = 0 then (some ((-1), tr, fc, to, tp)) else (z_bd (K_lookBy F now tr fc a2 a1) (fun u3 : Sh × Fc => z_let (Fr_put (Fc_winsOf u3.2 a1) (fc_whole u3.2)) (fun u7 : Fr => z_bd (K_lookBy F now u3.1 u3.2 a2 (1 - a1)) (fun u8 : Sh × Fc => z_let (Fr_put (Fc_winsOf u8.2 a1) (fc_whole u8.2)) (fun u12 : Fr => z_bd (Fr_against F u7 u12) (fun r13 : Int32 => if r13 ≤ 0 then (if 0 ≤ r13 then (some (2, u8.1, u8.2, u7, u12)) else (some (1, u8.1, u8.2, u7, u12))) else (some (0, u8.1, u8.2, u7, u12)))))))))
set_option maxHeartbeats 4000000 in
set_option maxRecDepth 100000 in
theorem ctX7_toss (l : Launch) (D : va_G) (ac cs : Nat → Nat) (a : Nat → Nat → Nat) (w1 w2 : Nat) (sz : Nat) (ko : Ko) (tx : Tx) (now : Sh) (tr : Sh) (te : Te) (pa : Pa) (fc : Fc) (to : Fr) (tp : Fr) (re : Re) (k0 : Sh) (k1 : Sh) (ti : Sh) (rg : Nat → Sh) (a1 : Int32) (a2 : Int32) (F : Nat) (res : Int32 × Sh × Fc × Fr × Fr) (hf : K_toss F now tr fc to tp a1 a2 = some res) : Met l yX7_toss (cWW yX7_toss cX7_toss 4 (some .int)) { frames := 8, cells := 0, slots := 0, locals := 181 } (zM D ac cs [.ref (a 0 0), .int a1, .int a2] ((koW ac a ko ++ (txW ac (a 1) tx ++ (shW ac (a 2) now ++ (shW ac (a 3) tr ++ (teW ac (a 4) (a 1) (a 10) te ++ (paW ac a pa ++ (fcW ac (a 6) w1 w2 fc ++ (frW ac (a 7) to ++ (frW ac (a 8) tp ++ (reW ac (a 9) re ++ (shW ac (a 40) k0 ++ (shW ac (a 41) k1 ++ (shW ac (a 10) ti))))))))))))) ++ ringW ac a rg) sz) (va_Qi (fun r (_ : Nat × Nat) => r = res.1) (fun u => zB D (va_A ((koW ac a ko ++ (txW ac (a 1) tx ++ (shW ac (a 2) now ++ (shW ac (a 3) tr ++ (teW ac (a 4) (a 1) (a 10) te ++ (paW ac a pa ++ (fcW ac (a 6) w1 w2 fc ++ (frW ac (a 7) to ++ (frW ac (a 8) tp ++ (reW ac (a 9) re ++ (shW ac (a 40) k0 ++ (shW ac (a 41) k1 ++ (shW ac (a 10) ti))))))))))))) ++ ringW ac a rg) sz) ((koW ac a ko ++ (txW ac (a 1) tx ++ (shW ac (a 2) now ++ (shW ac (a 3) res.2.1 ++ (teW ac (a 4) (a 1) (a 10) te ++ (paW ac a pa ++ (fcW ac (a 6) u.1 u.2 res.2.2.1 ++ (frW ac (a 7) res.2.2.2.1 ++ (frW ac (a 8) res.2.2.2.2 ++ (reW ac (a 9) re ++ (shW ac (a 40) k0 ++ (shW ac (a 41) k1 ++ (shW ac (a 10) ti))))))))))))) ++ ringW ac a rg)) (va_A ((koW ac a ko ++ (txW ac (a 1) tx ++ (shW ac (a 2) now ++ (shW ac (a 3) tr ++ (teW ac (a 4) (a 1) (a 10) te ++ (paW ac a pa ++ (fcW ac (a 6) w1 w2 fc ++ (frW ac (a 7) to ++ (frW ac (a 8) tp ++ (reW ac (a 9) re ++ (shW ac (a 40) k0 ++ (shW ac (a 41) k1 ++ (shW ac (a 10) ti))))))))))))) ++ ringW ac a rg) sz)) 0 0 (va_A ((koW ac a ko ++ (txW ac (a 1) tx ++ (shW ac (a 2) now ++ (shW ac (a 3) tr ++ (teW ac (a 4) (a 1) (a 10) te ++ (paW ac a pa ++ (fcW ac (a 6) w1 w2 fc ++ (frW ac (a 7) to ++ (frW ac (a 8) tp ++ (reW ac (a 9) re ++ (shW ac (a 40) k0 ++ (shW ac (a 41) k1 ++ (shW ac (a 10) ti))))))))))))) ++ ringW ac a rg) sz) := by
  refine Met.ofW (cc := cX7_toss) (maxL := 4) (ret := (some .int)) (by decide) rfl ?_
  intro p e s m args below meth c s₁ B hml hv
  obtain ⟨rfl, hsz, hP, hKX, hD0, hC⟩ := hv
  have hx := B.exec
  have hb := B.bytes
  have hr := B.returns
  have hts := atoms_spec (ws := cWW yX7_toss cX7_toss 4 (some .int)) B.pre
  have htw : ∀ w ∈ WW, w.before _ s = true := fun w h => hts w (List.mem_cons_of_mem _ h)
  have hown : s.vm.findClass RX7 = some m.cls := findClass_of_methodNamed B.named
  have hlocks := B.notSynchronized
  clear hts B
  subst hsz
  have hD := hD0.self (sz := s.heap.size)
  generalize hAe : va_A ((koW ac a ko ++ (txW ac (a 1) tx ++ (shW ac (a 2) now ++ (shW ac (a 3) tr ++ (teW ac (a 4) (a 1) (a 10) te ++ (paW ac a pa ++ (fcW ac (a 6) w1 w2 fc ++ (frW ac (a 7) to ++ (frW ac (a 8) tp ++ (reW ac (a 9) re ++ (shW ac (a 40) k0 ++ (shW ac (a 41) k1 ++ (shW ac (a 10) ti))))))))))))) ++ ringW ac a rg) s.heap.size = A at hD hC ⊢
  have hA : ∀ q : Nat, s.heap.size ≤ q → A q := fun q h => by rw [← hAe]; exact Or.inr h
  have hS : va_S A s.heap s.heap [] := va_S.rf
  clear hD0 hAe
  have hP : va_P D vwCl ((koW ac a ko ++ (txW ac (a 1) tx ++ (shW ac (a 2) now ++ (shW ac (a 3) tr ++ (teW ac (a 4) (a 1) (a 10) te ++ (paW ac a pa ++ (fcW ac (a 6) w1 w2 fc ++ (frW ac (a 7) to ++ (frW ac (a 8) tp ++ (reW ac (a 9) re ++ (shW ac (a 40) k0 ++ (shW ac (a 41) k1 ++ (shW ac (a 10) ti))))))))))))) ++ ringW ac a rg) s.heap := hP
  have hl := lv_entry ([.ref (a 0 0), .int a1, .int a2]) (n := 4) (Nat.le_of_ble_eq_true rfl)
  rw [lg_entry_eq]
  generalize (lg_sl ([.ref (a 0 0), .int a1, .int a2]) ++ List.replicate (4 - (lg_sl ([.ref (a 0 0), .int a1, .int a2])).length) Slot.unset).toArray = ls at hl ⊢
  have hl : lv_has ls 4 [(0, .ref (a 0 0)), (1, .int a1), (2, .int a2)] := hl
  unfold K_toss at hf
  show W p l e ({ frames := 8, cells := 0, slots := 0, locals := 181 } : Room) s m _ below meth c s.heap [] 0 0 _ (F0 m 0 ls [])
  refine lv_aload_n hx hb dX7_toss_0 rfl (lv_at hl 0 rfl) ?_
  refine lv_iload_n hx hb dX7_toss_1 rfl (lv_at hl 1 rfl) ?_
  refine zc_RVi (As := [.int a1]) (rest := []) hx hb hml hown htw (ctX7_isSideTold l D ac cs a w1 w2 ko tx now tr te pa fc to tp re k0 k1 ti rg a1   _ rfl) (g_V mM_RX7_107 mI_yX7_isSideTold mS_RX7_yX7_isSideTold_yX7_isSideTold mN_RX7 mC_yX7_isSideTold) rfl (hd_yX7_isSideTold) ⟨rfl, rfl⟩ ⟨(Nat.le_of_ble_eq_true rfl), (Nat.le_of_ble_eq_true rfl)⟩ hKX hC hS hP 7 rfl rfl rfl hl.1 rfl (Nat.le_of_ble_eq_true rfl) ⟨Nat.zero_le _, Nat.zero_le _⟩ dX7_toss_2 ?_
  refine lv_if_eq (tgt := 15) hx hb dX7_toss_5 (by decide) (fun c1 => ?_) (fun c1 => ?_)
  · have hf := z_p c1 hf
    refine lv_iconst (v := (-1)) hx hb dX7_toss_15 rfl ?_
    obtain rfl := Option.some.inj hf
    exact zr_MiX (w1, w2) hx hb hr hlocks hP hD hS dX7_toss_16
  · have hf := z_n c1 hf
    refine lv_iload_n hx hb dX7_toss_8 rfl (lv_at hl 2 rfl) ?_
    refine zc_RSi (As := [.int a2]) (rest := []) hx hb hml hown htw (ctX7_isOrder l D ac cs   a2   _ rfl) (g_S mM_RX7_159 mT_yX7_isOrder mN_RX7 mC_yX7_isOrder) (hd_yX7_isOrder) ⟨rfl, rfl⟩ ⟨(Nat.le_of_ble_eq_true rfl), (Nat.le_of_ble_eq_true rfl)⟩ hKX hC hS zP0 rfl hl.1 rfl (Nat.le_of_ble_eq_true rfl) ⟨Nat.zero_le _, Nat.zero_le _⟩ dX7_toss_9 ?_
    refine lv_if_ne (tgt := 17) hx hb dX7_toss_12 (by decide) (fun c2 => ?_) (fun c2 => ?_)
    · have hf := z_n c2 hf
      refine lv_aload_n hx hb dX7_toss_17 rfl (lv_at hl 0 rfl) ?_
      refine lv_iload_n hx hb dX7_toss_18 rfl (lv_at hl 2 rfl) ?_
      refine lv_iload_n hx hb dX7_toss_19 rfl (lv_at hl 1 rfl) ?_
      obtain ⟨u3, hu3, hf⟩ := z_bd_u hf
      refine zc_MVvXT (E := (koW ac a ko ++ (txW ac (a 1) tx ++ (shW ac (a 2) now ++ (shW ac (a 3) tr ++ (teW ac (a 4) (a 1) (a 10) te ++ (paW ac a pa ++ (fcW ac (a 6) w1 w2 fc ++ (frW ac (a 7) to ++ (frW ac (a 8) tp ++ (reW ac (a 9) re ++ (shW ac (a 40) k0 ++ (shW ac (a 41) k1 ++ (shW ac (a 10) ti))))))))))))) ++ ringW ac a rg) (TT := []) (As := [.int a2, .int a1]) (rest := []) (wr := []) (wsc := (koW ac a ko ++ (txW ac (a 1) tx ++ (shW ac (a 2) now ++ (shW ac (a 3) tr ++ (teW ac (a 4) (a 1) (a 10) te ++ (paW ac a pa ++ (fcW ac (a 6) w1 w2 fc ++ (frW ac (a 7) to ++ (frW ac (a 8) tp ++ (reW ac (a 9) re ++ (shW ac (a 40) k0 ++ (shW ac (a 41) k1 ++ (shW ac (a 10) ti))))))))))))) ++ ringW ac a rg) (wsc' := fun u4 : Nat × Nat => (koW ac a ko ++ (txW ac (a 1) tx ++ (shW ac (a 2) now ++ (shW ac (a 3) u3.1 ++ (teW ac (a 4) (a 1) (a 10) te ++ (paW ac a pa ++ (fcW ac (a 6) u4.1 u4.2 u3.2 ++ (frW ac (a 7) to ++ (frW ac (a 8) tp ++ (reW ac (a 9) re ++ (shW ac (a 40) k0 ++ (shW ac (a 41) k1 ++ (shW ac (a 10) ti))))))))))))) ++ ringW ac a rg) hx hb hml hown htw (ctX7_lookBy l D ac cs a w1 w2 s.heap.size ko tx now tr te pa fc to tp re k0 k1 ti rg a2 a1   F u3 hu3) (g_V mM_RX7_217 mI_yX7_lookBy mS_RX7_yX7_lookBy_yX7_lookBy mN_RX7 mC_yX7_lookBy) rfl (hd_yX7_lookBy) ⟨rfl, rfl⟩ ⟨(Nat.le_of_ble_eq_true rfl), (Nat.le_of_ble_eq_true rfl)⟩ hKX hC hS hA (zP_nil hP) (zD_nil hD) (List.range _) [] (zrange _) (zndr _) rfl rfl (fun _ h => by cases h) 7 rfl rfl rfl hl.1 rfl (Nat.le_of_ble_eq_true rfl) ⟨Nat.zero_le _, Nat.zero_le _⟩ dX7_toss_20 (fun u4 H locs hP hD hS => ?_)
      obtain ⟨w5, w6⟩ := u4
      have hP : va_P D vwCl ((koW ac a ko ++ (txW ac (a 1) tx ++ (shW ac (a 2) now ++ (shW ac (a 3) u3.1 ++ (teW ac (a 4) (a 1) (a 10) te ++ (paW ac a pa ++ (fcW ac (a 6) w5 w6 u3.2 ++ (frW ac (a 7) to ++ (frW ac (a 8) tp ++ (reW ac (a 9) re ++ (shW ac (a 40) k0 ++ (shW ac (a 41) k1 ++ (shW ac (a 10) ti))))))))))))) ++ ringW ac a rg) H := zP_un hP
      have hD : va_D A ((koW ac a ko ++ (txW ac (a 1) tx ++ (shW ac (a 2) now ++ (shW ac (a 3) u3.1 ++ (teW ac (a 4) (a 1) (a 10) te ++ (paW ac a pa ++ (fcW ac (a 6) w5 w6 u3.2 ++ (frW ac (a 7) to ++ (frW ac (a 8) tp ++ (reW ac (a 9) re ++ (shW ac (a 40) k0 ++ (shW ac (a 41) k1 ++ (shW ac (a 10) ti))))))))))))) ++ ringW ac a rg) := zD_un hD
      refine lv_aload_n hx hb dX7_toss_23 rfl (lv_at hl 0 rfl) ?_
      refine va_get (D := D) (ci := 7) (v := .ref (a 7 0)) (C := RX7) (T := TX7) (N := 13) hx hb htw WW_wsX70 hown hKX.1 hP 0 rfl rfl 8 (Nat.le_of_ble_eq_true rfl) (htw _ mF_RX7_58) (fun _ h9 => h9) rfl dX7_toss_24 ?_
      refine lv_aload_n hx hb dX7_toss_27 rfl (lv_at hl 0 rfl) ?_
      refine va_get (D := D) (ci := 7) (v := .ref (a 6 0)) (C := RX7) (T := TX7) (N := 13) hx hb htw WW_wsX70 hown hKX.1 hP 0 rfl rfl 7 (Nat.le_of_ble_eq_true rfl) (htw _ mF_RX7_51) (fun _ h9 => h9) rfl dX7_toss_28 ?_
      refine lv_iload_n hx hb dX7_toss_31 rfl (lv_at hl 1 rfl) ?_
      refine zc_RVl (As := [.int a1]) (rest := [.ref (a 7 0)]) hx hb hml hown htw (ctX0_winsOf l D ac cs (a 6) w5 w6 u3.2 a1   _ rfl) (g_V mM_RX7_194 mI_yX0_winsOf mS_RX0_yX0_winsOf_yX0_winsOf mN_RX0 mC_yX0_winsOf) rfl (hd_yX0_winsOf) ⟨rfl, rfl⟩ ⟨(Nat.le_of_ble_eq_true rfl), (Nat.le_of_ble_eq_true rfl)⟩ hKX hC hS (hP.sub [16, 17, 18, 19, 20] rfl) 0 rfl rfl rfl hl.1 rfl (Nat.le_of_ble_eq_true rfl) ⟨Nat.zero_le _, Nat.zero_le _⟩ dX7_toss_32 ?_
      refine lv_aload_n hx hb dX7_toss_35 rfl (lv_at hl 0 rfl) ?_
      refine va_get (D := D) (ci := 7) (v := .ref (a 6 0)) (C := RX7) (T := TX7) (N := 13) hx hb htw WW_wsX70 hown hKX.1 hP 0 rfl rfl 7 (Nat.le_of_ble_eq_true rfl) (htw _ mF_RX7_51) (fun _ h9 => h9) rfl dX7_toss_36 ?_
      refine va_getN (D := D) (ci := 0) (v := .long (fc_whole u3.2)) (C := RX0) (T := TX0) (N := 15) hx hb htw WW_wsX00 hown hKX.1 hP 16 rfl rfl 14 (Nat.le_of_ble_eq_true rfl) (va_Nw.use rfl (hKX.2 _ (List.mem_of_getElem? (i := 19) rfl))) (fun _ h9 => h9) rfl dX7_toss_39 ?_
      obtain ⟨u7, hu7⟩ : ∃ y : Fr, y = Fr_put (Fc_winsOf u3.2 a1) (fc_whole u3.2) := ⟨_, rfl⟩
      have hf := z_let_u hu7 hf
      refine zc_MVvT (As := [.long (Fc_winsOf u3.2 a1), .long (fc_whole u3.2)]) (rest := []) (wr := koW ac a ko ++ (txW ac (a 1) tx ++ (shW ac (a 2) now ++ (shW ac (a 3) u3.1 ++ (teW ac (a 4) (a 1) (a 10) te ++ (paW ac a pa ++ (fcW ac (a 6) w5 w6 u3.2 ++ (frW ac (a 8) tp ++ (reW ac (a 9) re ++ (shW ac (a 40) k0 ++ (shW ac (a 41) k1 ++ (shW ac (a 10) ti)))))))))))) (wsc := frW ac (a 7) to) (wsc' := frW ac (a 7) u7) hx hb hml hown htw (ctX1_put l D ac cs (a 7) H.size to (Fc_winsOf u3.2 a1) (fc_whole u3.2)   u7 hu7.symm) (g_V mM_RX7_202 mI_yX1_put mS_RX1_yX1_put_yX1_put mN_RX1 mC_yX1_put) rfl (hd_yX1_put) ⟨rfl, rfl⟩ ⟨(Nat.le_of_ble_eq_true rfl), (Nat.le_of_ble_eq_true rfl)⟩ hKX hC hS hA hP hD [21] [0, 1, 2, 3, 4, 5, 6, 7, 8, 9, 10, 11, 12, 13, 14, 15, 16, 17, 18, 19, 20, 22, 23, 24, 25, 26, 27, 28, 29, 30, 31, 32, 33, 34, 35, 36, 37] rfl (by decide) rfl (by decide) (by decide) 1 rfl rfl rfl hl.1 rfl (Nat.le_of_ble_eq_true rfl) ⟨Nat.zero_le _, Nat.zero_le _⟩ dX7_toss_42 (fun H locs hP hD hS => ?_)
      have hP : va_P D vwCl ((koW ac a ko ++ (txW ac (a 1) tx ++ (shW ac (a 2) now ++ (shW ac (a 3) u3.1 ++ (teW ac (a 4) (a 1) (a 10) te ++ (paW ac a pa ++ (fcW ac (a 6) w5 w6 u3.2 ++ (frW ac (a 7) u7 ++ (frW ac (a 8) tp ++ (reW ac (a 9) re ++ (shW ac (a 40) k0 ++ (shW ac (a 41) k1 ++ (shW ac (a 10) ti))))))))))))) ++ ringW ac a rg) H := zsubPT hP [0, 1, 2, 3, 4, 5, 6, 7, 8, 9, 10, 11, 12, 13, 14, 15, 16, 17, 18, 19, 20, 37, 21, 22, 23, 24, 25, 26, 27, 28, 29, 30, 31, 32, 33, 34, 35, 36] rfl
      have hD : va_D A ((koW ac a ko ++ (txW ac (a 1) tx ++ (shW ac (a 2) now ++ (shW ac (a 3) u3.1 ++ (teW ac (a 4) (a 1) (a 10) te ++ (paW ac a pa ++ (fcW ac (a 6) w5 w6 u3.2 ++ (frW ac (a 7) u7 ++ (frW ac (a 8) tp ++ (reW ac (a 9) re ++ (shW ac (a 40) k0 ++ (shW ac (a 41) k1 ++ (shW ac (a 10) ti))))))))))))) ++ ringW ac a rg) := zsubDT hD [0, 1, 2, 3, 4, 5, 6, 7, 8, 9, 10, 11, 12, 13, 14, 15, 16, 17, 18, 19, 20, 37, 21, 22, 23, 24, 25, 26, 27, 28, 29, 30, 31, 32, 33, 34, 35, 36] (by decide) rfl
      refine lv_aload_n hx hb dX7_toss_45 rfl (lv_at hl 0 rfl) ?_
      refine lv_iload_n hx hb dX7_toss_46 rfl (lv_at hl 2 rfl) ?_
      refine lv_iconst (v := 1) hx hb dX7_toss_47 rfl ?_
      refine lv_iload_n hx hb dX7_toss_48 rfl (lv_at hl 1 rfl) ?_
      refine lv_isub hx hb dX7_toss_49 ?_
      obtain ⟨u8, hu8, hf⟩ := z_bd_u hf
      refine zc_MVvXT (E := (koW ac a ko ++ (txW ac (a 1) tx ++ (shW ac (a 2) now ++ (shW ac (a 3) u3.1 ++ (teW ac (a 4) (a 1) (a 10) te ++ (paW ac a pa ++ (fcW ac (a 6) w5 w6 u3.2 ++ (frW ac (a 7) u7 ++ (frW ac (a 8) tp ++ (reW ac (a 9) re ++ (shW ac (a 40) k0 ++ (shW ac (a 41) k1 ++ (shW ac (a 10) ti))))))))))))) ++ ringW ac a rg) (TT := []) (As := [.int a2, .int (1 - a1)]) (rest := []) (wr := []) (wsc := (koW ac a ko ++ (txW ac (a 1) tx ++ (shW ac (a 2) now ++ (shW ac (a 3) u3.1 ++ (teW ac (a 4) (a 1) (a 10) te ++ (paW ac a pa ++ (fcW ac (a 6) w5 w6 u3.2 ++ (frW ac (a 7) u7 ++ (frW ac (a 8) tp ++ (reW ac (a 9) re ++ (shW ac (a 40) k0 ++ (shW ac (a 41) k1 ++ (shW ac (a 10) ti))))))))))))) ++ ringW ac a rg) (wsc' := fun u9 : Nat × Nat => (koW ac a ko ++ (txW ac (a 1) tx ++ (shW ac (a 2) now ++ (shW ac (a 3) u8.1 ++ (teW ac (a 4) (a 1) (a 10) te ++ (paW ac a pa ++ (fcW ac (a 6) u9.1 u9.2 u8.2 ++ (frW ac (a 7) u7 ++ (frW ac (a 8) tp ++ (reW ac (a 9) re ++ (shW ac (a 40) k0 ++ (shW ac (a 41) k1 ++ (shW ac (a 10) ti))))))))))))) ++ ringW ac a rg) hx hb hml hown htw (ctX7_lookBy l D ac cs a w5 w6 H.size ko tx now u3.1 te pa u3.2 u7 tp re k0 k1 ti rg a2 (1 - a1)   F u8 hu8) (g_V mM_RX7_217 mI_yX7_lookBy mS_RX7_yX7_lookBy_yX7_lookBy mN_RX7 mC_yX7_lookBy) rfl (hd_yX7_lookBy) ⟨rfl, rfl⟩ ⟨(Nat.le_of_ble_eq_true rfl), (Nat.le_of_ble_eq_true rfl)⟩ hKX hC hS hA (zP_nil hP) (zD_nil hD) (List.range _) [] (zrange _) (zndr _) rfl rfl (fun _ h => by cases h) 7 rfl rfl rfl hl.1 rfl (Nat.le_of_ble_eq_true rfl) ⟨Nat.zero_le _, Nat.zero_le _⟩ dX7_toss_50 (fun u9 H locs hP hD hS => ?_)
      obtain ⟨w10, w11⟩ := u9
      have hP : va_P D vwCl ((koW ac a ko ++ (txW ac (a 1) tx ++ (shW ac (a 2) now ++ (shW ac (a 3) u8.1 ++ (teW ac (a 4) (a 1) (a 10) te ++ (paW ac a pa ++ (fcW ac (a 6) w10 w11 u8.2 ++ (frW ac (a 7) u7 ++ (frW ac (a 8) tp ++ (reW ac (a 9) re ++ (shW ac (a 40) k0 ++ (shW ac (a 41) k1 ++ (shW ac (a 10) ti))))))))))))) ++ ringW ac a rg) H := zP_un hP
      have hD : va_D A ((koW ac a ko ++ (txW ac (a 1) tx ++ (shW ac (a 2) now ++ (shW ac (a 3) u8.1 ++ (teW ac (a 4) (a 1) (a 10) te ++ (paW ac a pa ++ (fcW ac (a 6) w10 w11 u8.2 ++ (frW ac (a 7) u7 ++ (frW ac (a 8) tp ++ (reW ac (a 9) re ++ (shW ac (a 40) k0 ++ (shW ac (a 41) k1 ++ (shW ac (a 10) ti))))))))))))) ++ ringW ac a rg) := zD_un hD
      refine lv_aload_n hx hb dX7_toss_53 rfl (lv_at hl 0 rfl) ?_
      refine va_get (D := D) (ci := 7) (v := .ref (a 8 0)) (C := RX7) (T := TX7) (N := 13) hx hb htw WW_wsX70 hown hKX.1 hP 0 rfl rfl 9 (Nat.le_of_ble_eq_true rfl) (htw _ mF_RX7_62) (fun _ h9 => h9) rfl dX7_toss_54 ?_
      refine lv_aload_n hx hb dX7_toss_57 rfl (lv_at hl 0 rfl) ?_
      refine va_get (D := D) (ci := 7) (v := .ref (a 6 0)) (C := RX7) (T := TX7) (N := 13) hx hb htw WW_wsX70 hown hKX.1 hP 0 rfl rfl 7 (Nat.le_of_ble_eq_true rfl) (htw _ mF_RX7_51) (fun _ h9 => h9) rfl dX7_toss_58 ?_
      refine lv_iload_n hx hb dX7_toss_61 rfl (lv_at hl 1 rfl) ?_
      refine zc_RVl (As := [.int a1]) (rest := [.ref (a 8 0)]) hx hb hml hown htw (ctX0_winsOf l D ac cs (a 6) w10 w11 u8.2 a1   _ rfl) (g_V mM_RX7_194 mI_yX0_winsOf mS_RX0_yX0_winsOf_yX0_winsOf mN_RX0 mC_yX0_winsOf) rfl (hd_yX0_winsOf) ⟨rfl, rfl⟩ ⟨(Nat.le_of_ble_eq_true rfl), (Nat.le_of_ble_eq_true rfl)⟩ hKX hC hS (hP.sub [16, 17, 18, 19, 20] rfl) 0 rfl rfl rfl hl.1 rfl (Nat.le_of_ble_eq_true rfl) ⟨Nat.zero_le _, Nat.zero_le _⟩ dX7_toss_62 ?_
      refine lv_aload_n hx hb dX7_toss_65 rfl (lv_at hl 0 rfl) ?_
      refine va_get (D := D) (ci := 7) (v := .ref (a 6 0)) (C := RX7) (T := TX7) (N := 13) hx hb htw WW_wsX70 hown hKX.1 hP 0 rfl rfl 7 (Nat.le_of_ble_eq_true rfl) (htw _ mF_RX7_51) (fun _ h9 => h9) rfl dX7_toss_66 ?_
      refine va_getN (D := D) (ci := 0) (v := .long (fc_whole u8.2)) (C := RX0) (T := TX0) (N := 15) hx hb htw WW_wsX00 hown hKX.1 hP 16 rfl rfl 14 (Nat.le_of_ble_eq_true rfl) (va_Nw.use rfl (hKX.2 _ (List.mem_of_getElem? (i := 19) rfl))) (fun _ h9 => h9) rfl dX7_toss_69 ?_
      obtain ⟨u12, hu12⟩ : ∃ y : Fr, y = Fr_put (Fc_winsOf u8.2 a1) (fc_whole u8.2) := ⟨_, rfl⟩
      have hf := z_let_u hu12 hf
      refine zc_MVvT (As := [.long (Fc_winsOf u8.2 a1), .long (fc_whole u8.2)]) (rest := []) (wr := koW ac a ko ++ (txW ac (a 1) tx ++ (shW ac (a 2) now ++ (shW ac (a 3) u8.1 ++ (teW ac (a 4) (a 1) (a 10) te ++ (paW ac a pa ++ (fcW ac (a 6) w10 w11 u8.2 ++ (frW ac (a 7) u7 ++ (reW ac (a 9) re ++ (shW ac (a 40) k0 ++ (shW ac (a 41) k1 ++ (shW ac (a 10) ti)))))))))))) (wsc := frW ac (a 8) tp) (wsc' := frW ac (a 8) u12) hx hb hml hown htw (ctX1_put l D ac cs (a 8) H.size tp (Fc_winsOf u8.2 a1) (fc_whole u8.2)   u12 hu12.symm) (g_V mM_RX7_202 mI_yX1_put mS_RX1_yX1_put_yX1_put mN_RX1 mC_yX1_put) rfl (hd_yX1_put) ⟨rfl, rfl⟩ ⟨(Nat.le_of_ble_eq_true rfl), (Nat.le_of_ble_eq_true rfl)⟩ hKX hC hS hA hP hD [22] [0, 1, 2, 3, 4, 5, 6, 7, 8, 9, 10, 11, 12, 13, 14, 15, 16, 17, 18, 19, 20, 21, 23, 24, 25, 26, 27, 28, 29, 30, 31, 32, 33, 34, 35, 36, 37] rfl (by decide) rfl (by decide) (by decide) 1 rfl rfl rfl hl.1 rfl (Nat.le_of_ble_eq_true rfl) ⟨Nat.zero_le _, Nat.zero_le _⟩ dX7_toss_72 (fun H locs hP hD hS => ?_)
      have hP : va_P D vwCl ((koW ac a ko ++ (txW ac (a 1) tx ++ (shW ac (a 2) now ++ (shW ac (a 3) u8.1 ++ (teW ac (a 4) (a 1) (a 10) te ++ (paW ac a pa ++ (fcW ac (a 6) w10 w11 u8.2 ++ (frW ac (a 7) u7 ++ (frW ac (a 8) u12 ++ (reW ac (a 9) re ++ (shW ac (a 40) k0 ++ (shW ac (a 41) k1 ++ (shW ac (a 10) ti))))))))))))) ++ ringW ac a rg) H := zsubPT hP [0, 1, 2, 3, 4, 5, 6, 7, 8, 9, 10, 11, 12, 13, 14, 15, 16, 17, 18, 19, 20, 21, 37, 22, 23, 24, 25, 26, 27, 28, 29, 30, 31, 32, 33, 34, 35, 36] rfl
      have hD : va_D A ((koW ac a ko ++ (txW ac (a 1) tx ++ (shW ac (a 2) now ++ (shW ac (a 3) u8.1 ++ (teW ac (a 4) (a 1) (a 10) te ++ (paW ac a pa ++ (fcW ac (a 6) w10 w11 u8.2 ++ (frW ac (a 7) u7 ++ (frW ac (a 8) u12 ++ (reW ac (a 9) re ++ (shW ac (a 40) k0 ++ (shW ac (a 41) k1 ++ (shW ac (a 10) ti))))))))))))) ++ ringW ac a rg) := zsubDT hD [0, 1, 2, 3, 4, 5, 6, 7, 8, 9, 10, 11, 12, 13, 14, 15, 16, 17, 18, 19, 20, 21, 37, 22, 23, 24, 25, 26, 27, 28, 29, 30, 31, 32, 33, 34, 35, 36] (by decide) rfl
      refine lv_aload_n hx hb dX7_toss_75 rfl (lv_at hl 0 rfl) ?_
      refine va_get (D := D) (ci := 7) (v := .ref (a 7 0)) (C := RX7) (T := TX7) (N := 13) hx hb htw WW_wsX70 hown hKX.1 hP 0 rfl rfl 8 (Nat.le_of_ble_eq_true rfl) (htw _ mF_RX7_58) (fun _ h9 => h9) rfl dX7_toss_76 ?_
      refine lv_aload_n hx hb dX7_toss_79 rfl (lv_at hl 0 rfl) ?_
      refine va_get (D := D) (ci := 7) (v := .ref (a 8 0)) (C := RX7) (T := TX7) (N := 13) hx hb htw WW_wsX70 hown hKX.1 hP 0 rfl rfl 9 (Nat.le_of_ble_eq_true rfl) (htw _ mF_RX7_62) (fun _ h9 => h9) rfl dX7_toss_80 ?_
      obtain ⟨r13, hr13, hf⟩ := z_bd_u hf
      refine zc_RVi (As := [.ref (a 8 0)]) (rest := []) hx hb hml hown htw (ctX1_against l D ac cs (a 7) (a 8) u7 u12    F _ hr13) (g_V mM_RX7_225 mI_yX1_against mS_RX1_yX1_against_yX1_against mN_RX1 mC_yX1_against) rfl (hd_yX1_against) ⟨rfl, rfl⟩ ⟨(Nat.le_of_ble_eq_true rfl), (Nat.le_of_ble_eq_true rfl)⟩ hKX hC hS (hP.sub [21, 22] rfl) 1 rfl rfl rfl hl.1 rfl (Nat.le_of_ble_eq_true rfl) ⟨Nat.zero_le _, Nat.zero_le _⟩ dX7_toss_83 ?_
      refine lv_istore_n (lv' := [(3, .int r13), (0, .ref (a 0 0)), (1, .int a1), (2, .int a2)]) hx hb dX7_toss_86 rfl hl (Nat.le_of_ble_eq_true rfl) rfl (fun ls hl => ?_)
      refine lv_iload_n hx hb dX7_toss_87 rfl (lv_at hl 0 rfl) ?_
      refine lv_if_le (tgt := 95) hx hb dX7_toss_88 (by decide) (fun c14 => ?_) (fun c14 => ?_)
      · have hf := z_p c14 hf
        refine lv_iload_n hx hb dX7_toss_95 rfl (lv_at hl 0 rfl) ?_
        refine lv_if_ge (tgt := 103) hx hb dX7_toss_96 (by decide) (fun c15 => ?_) (fun c15 => ?_)
        · have hf := z_p c15 hf
          refine lv_iconst (v := 2) hx hb dX7_toss_103 rfl ?_
          obtain rfl := Option.some.inj hf
          exact zr_MiX (w10, w11) hx hb hr hlocks hP hD hS dX7_toss_104
        · have hf := z_n c15 hf
          refine lv_iconst (v := 1) hx hb dX7_toss_99 rfl ?_
          refine lv_goto (tgt := 104) hx hb dX7_toss_100 (by decide) ?_
          obtain rfl := Option.some.inj hf
          exact zr_MiX (w10, w11) hx hb hr hlocks hP hD hS dX7_toss_104
      · have hf := z_n c14 hf
        refine lv_iconst (v := 0) hx hb dX7_toss_91 rfl ?_
        refine lv_goto (tgt := 104) hx hb dX7_toss_92 (by decide) ?_
        obtain rfl := Option.some.inj hf
        exact zr_MiX (w10, w11) hx hb hr hlocks hP hD hS dX7_toss_104
    · have hf := z_p c2 hf
      refine lv_iconst (v := (-1)) hx hb dX7_toss_15 rfl ?_
      obtain rfl := Option.some.inj hf
      exact zr_MiX (w1, w2) hx hb hr hlocks hP hD hS dX7_toss_16

theorem hd_yX7_ends : hdY yX7_ends 1 := by decide +kernel
def K_ends (F : Nat) (now : Sh) (tr : Sh) (fc : Fc) (a1 : Int32) : Option (Int64 × Sh × Fc) := if (sh_shooters now) = 0 then (some ((-1), tr, fc)) else (if a1 < 0 then (some ((-1), tr, fc)) else (if a1 ≤ (2 * (sh_shooters now)) then (z_bd (K_runFromStart F now tr fc 0) (fun u4 : Sh × Fc => if a1 = 0 then (some ((fc_level u4.2), u4.1, u4.2)) else (some (Fc_endsAt u4.2 a1, u4.1, u4.2)))) else (some ((-1), tr, fc))))
set_option maxHeartbeats 4000000 in
set_option maxRecDepth 100000 in
theorem ctX7_ends (l : Launch) (D : va_G) (ac cs : Nat → Nat) (a : Nat → Nat → Nat) (w1 w2 : Nat) (sz : Nat) (ko : Ko) (tx : Tx) (now : Sh) (tr : Sh) (te : Te) (pa : Pa) (fc : Fc) (to : Fr) (tp : Fr) (re : Re) (k0 : Sh) (k1 : Sh) (ti : Sh) (rg : Nat → Sh) (a1 : Int32) (F : Nat) (res : Int64 × Sh × Fc) (hf : K_ends F now tr fc a1 = some res) : Met l yX7_ends (cWW yX7_ends cX7_ends 2 (some .long)) { frames := 6, cells := 0, slots := 0, locals := 159 } (zM D ac cs [.ref (a 0 0), .int a1] ((koW ac a ko ++ (txW ac (a 1) tx ++ (shW ac (a 2) now ++ (shW ac (a 3) tr ++ (teW ac (a 4) (a 1) (a 10) te ++ (paW ac a pa ++ (fcW ac (a 6) w1 w2 fc ++ (frW ac (a 7) to ++ (frW ac (a 8) tp ++ (reW ac (a 9) re ++ (shW ac (a 40) k0 ++ (shW ac (a 41) k1 ++ (shW ac (a 10) ti))))))))))))) ++ ringW ac a rg) sz) (va_Ql (fun r (_ : Nat × Nat) => r = res.1) (fun u => zB D (va_A ((koW ac a ko ++ (txW ac (a 1) tx ++ (shW ac (a 2) now ++ (shW ac (a 3) tr ++ (teW ac (a 4) (a 1) (a 10) te ++ (paW ac a pa ++ (fcW ac (a 6) w1 w2 fc ++ (frW ac (a 7) to ++ (frW ac (a 8) tp ++ (reW ac (a 9) re ++ (shW ac (a 40) k0 ++ (shW ac (a 41) k1 ++ (shW ac (a 10) ti))))))))))))) ++ ringW ac a rg) sz) ((koW ac a ko ++ (txW ac (a 1) tx ++ (shW ac (a 2) now ++ (shW ac (a 3) res.2.1 ++ (teW ac (a 4) (a 1) (a 10) te ++ (paW ac a pa ++ (fcW ac (a 6) u.1 u.2 res.2.2 ++ (frW ac (a 7) to ++ (frW ac (a 8) tp ++ (reW ac (a 9) re ++ (shW ac (a 40) k0 ++ (shW ac (a 41) k1 ++ (shW ac (a 10) ti))))))))))))) ++ ringW ac a rg)) (va_A ((koW ac a ko ++ (txW ac (a 1) tx ++ (shW ac (a 2) now ++ (shW ac (a 3) tr ++ (teW ac (a 4) (a 1) (a 10) te ++ (paW ac a pa ++ (fcW ac (a 6) w1 w2 fc ++ (frW ac (a 7) to ++ (frW ac (a 8) tp ++ (reW ac (a 9) re ++ (shW ac (a 40) k0 ++ (shW ac (a 41) k1 ++ (shW ac (a 10) ti))))))))))))) ++ ringW ac a rg) sz)) 0 0 (va_A ((koW ac a ko ++ (txW ac (a 1) tx ++ (shW ac (a 2) now ++ (shW ac (a 3) tr ++ (teW ac (a 4) (a 1) (a 10) te ++ (paW ac a pa ++ (fcW ac (a 6) w1 w2 fc ++ (frW ac (a 7) to ++ (frW ac (a 8) tp ++ (reW ac (a 9) re ++ (shW ac (a 40) k0 ++ (shW ac (a 41) k1 ++ (shW ac (a 10) ti))))))))))))) ++ ringW ac a rg) sz) := by
  refine Met.ofW (cc := cX7_ends) (maxL := 2) (ret := (some .long)) (by decide) rfl ?_
  intro p e s m args below meth c s₁ B hml hv
  obtain ⟨rfl, hsz, hP, hKX, hD0, hC⟩ := hv
  have hx := B.exec
  have hb := B.bytes
  have hr := B.returns
  have hts := atoms_spec (ws := cWW yX7_ends cX7_ends 2 (some .long)) B.pre
  have htw : ∀ w ∈ WW, w.before _ s = true := fun w h => hts w (List.mem_cons_of_mem _ h)
  have hown : s.vm.findClass RX7 = some m.cls := findClass_of_methodNamed B.named
  have hlocks := B.notSynchronized
  clear hts B
  subst hsz
  have hD := hD0.self (sz := s.heap.size)
  generalize hAe : va_A ((koW ac a ko ++ (txW ac (a 1) tx ++ (shW ac (a 2) now ++ (shW ac (a 3) tr ++ (teW ac (a 4) (a 1) (a 10) te ++ (paW ac a pa ++ (fcW ac (a 6) w1 w2 fc ++ (frW ac (a 7) to ++ (frW ac (a 8) tp ++ (reW ac (a 9) re ++ (shW ac (a 40) k0 ++ (shW ac (a 41) k1 ++ (shW ac (a 10) ti))))))))))))) ++ ringW ac a rg) s.heap.size = A at hD hC ⊢
  have hA : ∀ q : Nat, s.heap.size ≤ q → A q := fun q h => by rw [← hAe]; exact Or.inr h
  have hS : va_S A s.heap s.heap [] := va_S.rf
  clear hD0 hAe
  have hP : va_P D vwCl ((koW ac a ko ++ (txW ac (a 1) tx ++ (shW ac (a 2) now ++ (shW ac (a 3) tr ++ (teW ac (a 4) (a 1) (a 10) te ++ (paW ac a pa ++ (fcW ac (a 6) w1 w2 fc ++ (frW ac (a 7) to ++ (frW ac (a 8) tp ++ (reW ac (a 9) re ++ (shW ac (a 40) k0 ++ (shW ac (a 41) k1 ++ (shW ac (a 10) ti))))))))))))) ++ ringW ac a rg) s.heap := hP
  have hl := lv_entry ([.ref (a 0 0), .int a1]) (n := 2) (Nat.le_of_ble_eq_true rfl)
  rw [lg_entry_eq]
  generalize (lg_sl ([.ref (a 0 0), .int a1]) ++ List.replicate (2 - (lg_sl ([.ref (a 0 0), .int a1])).length) Slot.unset).toArray = ls at hl ⊢
  have hl : lv_has ls 2 [(0, .ref (a 0 0)), (1, .int a1)] := hl
  unfold K_ends at hf
  show W p l e ({ frames := 6, cells := 0, slots := 0, locals := 159 } : Room) s m _ below meth c s.heap [] 0 0 _ (F0 m 0 ls [])
  refine lv_aload_n hx hb dX7_ends_0 rfl (lv_at hl 0 rfl) ?_
  refine va_get (D := D) (ci := 7) (v := .ref (a 2 0)) (C := RX7) (T := TX7) (N := 13) hx hb htw WW_wsX70 hown hKX.1 hP 0 rfl rfl 2 (Nat.le_of_ble_eq_true rfl) (htw _ mF_RX7_26) (fun _ h9 => h9) rfl dX7_ends_1 ?_
  refine va_getN (D := D) (ci := 4) (v := .int (sh_shooters now)) (C := RX4) (T := TX4) (N := 10) hx hb htw WW_wsX40 hown hKX.1 hP 6 rfl rfl 0 (Nat.le_of_ble_eq_true rfl) (va_Nw.use rfl (hKX.2 _ (List.mem_of_getElem? (i := 3) rfl))) (fun _ h9 => h9) rfl dX7_ends_4 ?_
  refine lv_if_eq (tgt := 27) hx hb dX7_ends_7 (by decide) (fun c1 => ?_) (fun c1 => ?_)
  · have hf := z_p c1 hf
    refine lv_ldc2 (v := (-1)) hx hb hown (htw _ mG_RX7_183) dX7_ends_27 ?_
    obtain rfl := Option.some.inj hf
    exact zr_MlX (w1, w2) hx hb hr hlocks hP hD hS dX7_ends_30
  · have hf := z_n c1 hf
    refine lv_iload_n hx hb dX7_ends_10 rfl (lv_at hl 1 rfl) ?_
    refine lv_if_lt (tgt := 27) hx hb dX7_ends_11 (by decide) (fun c2 => ?_) (fun c2 => ?_)
    · have hf := z_p c2 hf
      refine lv_ldc2 (v := (-1)) hx hb hown (htw _ mG_RX7_183) dX7_ends_27 ?_
      obtain rfl := Option.some.inj hf
      exact zr_MlX (w1, w2) hx hb hr hlocks hP hD hS dX7_ends_30
    · have hf := z_n c2 hf
      refine lv_iload_n hx hb dX7_ends_14 rfl (lv_at hl 1 rfl) ?_
      refine lv_iconst (v := 2) hx hb dX7_ends_15 rfl ?_
      refine lv_aload_n hx hb dX7_ends_16 rfl (lv_at hl 0 rfl) ?_
      refine va_get (D := D) (ci := 7) (v := .ref (a 2 0)) (C := RX7) (T := TX7) (N := 13) hx hb htw WW_wsX70 hown hKX.1 hP 0 rfl rfl 2 (Nat.le_of_ble_eq_true rfl) (htw _ mF_RX7_26) (fun _ h9 => h9) rfl dX7_ends_17 ?_
      refine va_getN (D := D) (ci := 4) (v := .int (sh_shooters now)) (C := RX4) (T := TX4) (N := 10) hx hb htw WW_wsX40 hown hKX.1 hP 6 rfl rfl 0 (Nat.le_of_ble_eq_true rfl) (va_Nw.use rfl (hKX.2 _ (List.mem_of_getElem? (i := 3) rfl))) (fun _ h9 => h9) rfl dX7_ends_20 ?_
      refine lv_imul hx hb dX7_ends_23 ?_
      refine lv_icmp_le (tgt := 31) hx hb dX7_ends_24 (by decide) (fun c3 => ?_) (fun c3 => ?_)
      · have hf := z_p c3 hf
        refine lv_aload_n hx hb dX7_ends_31 rfl (lv_at hl 0 rfl) ?_
        refine lv_iconst (v := 0) hx hb dX7_ends_32 rfl ?_
        obtain ⟨u4, hu4, hf⟩ := z_bd_u hf
        refine zc_MVvXT (E := (koW ac a ko ++ (txW ac (a 1) tx ++ (shW ac (a 2) now ++ (shW ac (a 3) tr ++ (teW ac (a 4) (a 1) (a 10) te ++ (paW ac a pa ++ (fcW ac (a 6) w1 w2 fc ++ (frW ac (a 7) to ++ (frW ac (a 8) tp ++ (reW ac (a 9) re ++ (shW ac (a 40) k0 ++ (shW ac (a 41) k1 ++ (shW ac (a 10) ti))))))))))))) ++ ringW ac a rg) (TT := []) (As := [.int 0]) (rest := []) (wr := []) (wsc := (koW ac a ko ++ (txW ac (a 1) tx ++ (shW ac (a 2) now ++ (shW ac (a 3) tr ++ (teW ac (a 4) (a 1) (a 10) te ++ (paW ac a pa ++ (fcW ac (a 6) w1 w2 fc ++ (frW ac (a 7) to ++ (frW ac (a 8) tp ++ (reW ac (a 9) re ++ (shW ac (a 40) k0 ++ (shW ac (a 41) k1 ++ (shW ac (a 10) ti))))))))))))) ++ ringW ac a rg) (wsc' := fun u5 : Nat × Nat => (koW ac a ko ++ (txW ac (a 1) tx ++ (shW ac (a 2) now ++ (shW ac (a 3) u4.1 ++ (teW ac (a 4) (a 1) (a 10) te ++ (paW ac a pa ++ (fcW ac (a 6) u5.1 u5.2 u4.2 ++ (frW ac (a 7) to ++ (frW ac (a 8) tp ++ (reW ac (a 9) re ++ (shW ac (a 40) k0 ++ (shW ac (a 41) k1 ++ (shW ac (a 10) ti))))))))))))) ++ ringW ac a rg) hx hb hml hown htw (ctX7_runFromStart l D ac cs a w1 w2 s.heap.size ko tx now tr te pa fc to tp re k0 k1 ti rg 0   F u4 hu4) (g_V mM_RX7_235 mI_yX7_runFromStart mS_RX7_yX7_runFromStart_yX7_runFromStart mN_RX7 mC_yX7_runFromStart) rfl (hd_yX7_runFromStart) ⟨rfl, rfl⟩ ⟨(Nat.le_of_ble_eq_true rfl), (Nat.le_of_ble_eq_true rfl)⟩ hKX hC hS hA (zP_nil hP) (zD_nil hD) (List.range _) [] (zrange _) (zndr _) rfl rfl (fun _ h => by cases h) 7 rfl rfl rfl hl.1 rfl (Nat.le_of_ble_eq_true rfl) ⟨Nat.zero_le _, Nat.zero_le _⟩ dX7_ends_33 (fun u5 H locs hP hD hS => ?_)
        obtain ⟨w6, w7⟩ := u5
        have hP : va_P D vwCl ((koW ac a ko ++ (txW ac (a 1) tx ++ (shW ac (a 2) now ++ (shW ac (a 3) u4.1 ++ (teW ac (a 4) (a 1) (a 10) te ++ (paW ac a pa ++ (fcW ac (a 6) w6 w7 u4.2 ++ (frW ac (a 7) to ++ (frW ac (a 8) tp ++ (reW ac (a 9) re ++ (shW ac (a 40) k0 ++ (shW ac (a 41) k1 ++ (shW ac (a 10) ti))))))))))))) ++ ringW ac a rg) H := zP_un hP
        have hD : va_D A ((koW ac a ko ++ (txW ac (a 1) tx ++ (shW ac (a 2) now ++ (shW ac (a 3) u4.1 ++ (teW ac (a 4) (a 1) (a 10) te ++ (paW ac a pa ++ (fcW ac (a 6) w6 w7 u4.2 ++ (frW ac (a 7) to ++ (frW ac (a 8) tp ++ (reW ac (a 9) re ++ (shW ac (a 40) k0 ++ (shW ac (a 41) k1 ++ (shW ac (a 10) ti))))))))))))) ++ ringW ac a rg) := zD_un hD
        refine lv_iload_n hx hb dX7_ends_36 rfl (lv_at hl 1 rfl) ?_
        refine lv_if_ne (tgt := 50) hx hb dX7_ends_37 (by decide) (fun c8 => ?_) (fun c8 => ?_)
        · have hf := z_n c8 hf
          refine lv_aload_n hx hb dX7_ends_50 rfl (lv_at hl 0 rfl) ?_
          refine va_get (D := D) (ci := 7) (v := .ref (a 6 0)) (C := RX7) (T := TX7) (N := 13) hx hb htw WW_wsX70 hown hKX.1 hP 0 rfl rfl 7 (Nat.le_of_ble_eq_true rfl) (htw _ mF_RX7_51) (fun _ h9 => h9) rfl dX7_ends_51 ?_
          refine lv_iload_n hx hb dX7_ends_54 rfl (lv_at hl 1 rfl) ?_
          refine zc_RVl (As := [.int a1]) (rest := []) hx hb hml hown htw (ctX0_endsAt l D ac cs (a 6) w6 w7 u4.2 a1   _ rfl) (g_V mM_RX7_242 mI_yX0_endsAt mS_RX0_yX0_endsAt_yX0_endsAt mN_RX0 mC_yX0_endsAt) rfl (hd_yX0_endsAt) ⟨rfl, rfl⟩ ⟨(Nat.le_of_ble_eq_true rfl), (Nat.le_of_ble_eq_true rfl)⟩ hKX hC hS (hP.sub [16, 17, 18, 19, 20] rfl) 0 rfl rfl rfl hl.1 rfl (Nat.le_of_ble_eq_true rfl) ⟨Nat.zero_le _, Nat.zero_le _⟩ dX7_ends_55 ?_
          obtain rfl := Option.some.inj hf
          exact zr_MlX (w6, w7) hx hb hr hlocks hP hD hS dX7_ends_58
        · have hf := z_p c8 hf
          refine lv_aload_n hx hb dX7_ends_40 rfl (lv_at hl 0 rfl) ?_
          refine va_get (D := D) (ci := 7) (v := .ref (a 6 0)) (C := RX7) (T := TX7) (N := 13) hx hb htw WW_wsX70 hown hKX.1 hP 0 rfl rfl 7 (Nat.le_of_ble_eq_true rfl) (htw _ mF_RX7_51) (fun _ h9 => h9) rfl dX7_ends_41 ?_
          refine va_getN (D := D) (ci := 0) (v := .long (fc_level u4.2)) (C := RX0) (T := TX0) (N := 15) hx hb htw WW_wsX00 hown hKX.1 hP 16 rfl rfl 8 (Nat.le_of_ble_eq_true rfl) (va_Nw.use rfl (hKX.2 _ (List.mem_of_getElem? (i := 15) rfl))) (fun _ h9 => h9) rfl dX7_ends_44 ?_
          refine lv_goto (tgt := 58) hx hb dX7_ends_47 (by decide) ?_
          obtain rfl := Option.some.inj hf
          exact zr_MlX (w6, w7) hx hb hr hlocks hP hD hS dX7_ends_58
      · have hf := z_n c3 hf
        refine lv_ldc2 (v := (-1)) hx hb hown (htw _ mG_RX7_183) dX7_ends_27 ?_
        obtain rfl := Option.some.inj hf
        exact zr_MlX (w1, w2) hx hb hr hlocks hP hD hS dX7_ends_30

theorem hd_yX7_score : hdY yX7_score 2 := by decide +kernel
def K_score (F : Nat) (now : Sh) (tr : Sh) (fc : Fc) (a1 : Int32) (a2 : Int32) : Option (Int64 × Sh × Fc) := if (sh_shooters now) = 0 then (some ((-1), tr, fc)) else (if a1 < 0 then (some ((-1), tr, fc)) else (if (sh_shooters now) < a1 then (some ((-1), tr, fc)) else (if a2 < 0 then (some ((-1), tr, fc)) else (if a2 ≤ (sh_shooters now) then (z_bd (K_runFromStart F now tr fc 1) (fun u6 : Sh × Fc => some (Fc_scoreAt u6.2 a1 a2, u6.1, u6.2))) else (some ((-1), tr, fc))))))
set_option maxHeartbeats 4000000 in
set_option maxRecDepth 100000 in
theorem ctX7_score (l : Launch) (D : va_G) (ac cs : Nat → Nat) (a : Nat → Nat → Nat) (w1 w2 : Nat) (sz : Nat) (ko : Ko) (tx : Tx) (now : Sh) (tr : Sh) (te : Te) (pa : Pa) (fc : Fc) (to : Fr) (tp : Fr) (re : Re) (k0 : Sh) (k1 : Sh) (ti : Sh) (rg : Nat → Sh) (a1 : Int32) (a2 : Int32) (F : Nat) (res : Int64 × Sh × Fc) (hf : K_score F now tr fc a1 a2 = some res) : Met l yX7_score (cWW yX7_score cX7_score 3 (some .long)) { frames := 6, cells := 0, slots := 0, locals := 159 } (zM D ac cs [.ref (a 0 0), .int a1, .int a2] ((koW ac a ko ++ (txW ac (a 1) tx ++ (shW ac (a 2) now ++ (shW ac (a 3) tr ++ (teW ac (a 4) (a 1) (a 10) te ++ (paW ac a pa ++ (fcW ac (a 6) w1 w2 fc ++ (frW ac (a 7) to ++ (frW ac (a 8) tp ++ (reW ac (a 9) re ++ (shW ac (a 40) k0 ++ (shW ac (a 41) k1 ++ (shW ac (a 10) ti))))))))))))) ++ ringW ac a rg) sz) (va_Ql (fun r (_ : Nat × Nat) => r = res.1) (fun u => zB D (va_A ((koW ac a ko ++ (txW ac (a 1) tx ++ (shW ac (a 2) now ++ (shW ac (a 3) tr ++ (teW ac (a 4) (a 1) (a 10) te ++ (paW ac a pa ++ (fcW ac (a 6) w1 w2 fc ++ (frW ac (a 7) to ++ (frW ac (a 8) tp ++ (reW ac (a 9) re ++ (shW ac (a 40) k0 ++ (shW ac (a 41) k1 ++ (shW ac (a 10) ti))))))))))))) ++ ringW ac a rg) sz) ((koW ac a ko ++ (txW ac (a 1) tx ++ (shW ac (a 2) now ++ (shW ac (a 3) res.2.1 ++ (teW ac (a 4) (a 1) (a 10) te ++ (paW ac a pa ++ (fcW ac (a 6) u.1 u.2 res.2.2 ++ (frW ac (a 7) to ++ (frW ac (a 8) tp ++ (reW ac (a 9) re ++ (shW ac (a 40) k0 ++ (shW ac (a 41) k1 ++ (shW ac (a 10) ti))))))))))))) ++ ringW ac a rg)) (va_A ((koW ac a ko ++ (txW ac (a 1) tx ++ (shW ac (a 2) now ++ (shW ac (a 3) tr ++ (teW ac (a 4) (a 1) (a 10) te ++ (paW ac a pa ++ (fcW ac (a 6) w1 w2 fc ++ (frW ac (a 7) to ++ (frW ac (a 8) tp ++ (reW ac (a 9) re ++ (shW ac (a 40) k0 ++ (shW ac (a 41) k1 ++ (shW ac (a 10) ti))))))))))))) ++ ringW ac a rg) sz)) 0 0 (va_A ((koW ac a ko ++ (txW ac (a 1) tx ++ (shW ac (a 2) now ++ (shW ac (a 3) tr ++ (teW ac (a 4) (a 1) (a 10) te ++ (paW ac a pa ++ (fcW ac (a 6) w1 w2 fc ++ (frW ac (a 7) to ++ (frW ac (a 8) tp ++ (reW ac (a 9) re ++ (shW ac (a 40) k0 ++ (shW ac (a 41) k1 ++ (shW ac (a 10) ti))))))))))))) ++ ringW ac a rg) sz) := by
  refine Met.ofW (cc := cX7_score) (maxL := 3) (ret := (some .long)) (by decide) rfl ?_
  intro p e s m args below meth c s₁ B hml hv
  obtain ⟨rfl, hsz, hP, hKX, hD0, hC⟩ := hv
  have hx := B.exec
  have hb := B.bytes
  have hr := B.returns
  have hts := atoms_spec (ws := cWW yX7_score cX7_score 3 (some .long)) B.pre
  have htw : ∀ w ∈ WW, w.before _ s = true := fun w h => hts w (List.mem_cons_of_mem _ h)
  have hown : s.vm.findClass RX7 = some m.cls := findClass_of_methodNamed B.named
  have hlocks := B.notSynchronized
  clear hts B
  subst hsz
  have hD := hD0.self (sz := s.heap.size)
  generalize hAe : va_A ((koW ac a ko ++ (txW ac (a 1) tx ++ (shW ac (a 2) now ++ (shW ac (a 3) tr ++ (teW ac (a 4) (a 1) (a 10) te ++ (paW ac a pa ++ (fcW ac (a 6) w1 w2 fc ++ (frW ac (a 7) to ++ (frW ac (a 8) tp ++ (reW ac (a 9) re ++ (shW ac (a 40) k0 ++ (shW ac (a 41) k1 ++ (shW ac (a 10) ti))))))))))))) ++ ringW ac a rg) s.heap.size = A at hD hC ⊢
  have hA : ∀ q : Nat, s.heap.size ≤ q → A q := fun q h => by rw [← hAe]; exact Or.inr h
  have hS : va_S A s.heap s.heap [] := va_S.rf
  clear hD0 hAe
  have hP : va_P D vwCl ((koW ac a ko ++ (txW ac (a 1) tx ++ (shW ac (a 2) now ++ (shW ac (a 3) tr ++ (teW ac (a 4) (a 1) (a 10) te ++ (paW ac a pa ++ (fcW ac (a 6) w1 w2 fc ++ (frW ac (a 7) to ++ (frW ac (a 8) tp ++ (reW ac (a 9) re ++ (shW ac (a 40) k0 ++ (shW ac (a 41) k1 ++ (shW ac (a 10) ti))))))))))))) ++ ringW ac a rg) s.heap := hP
  have hl := lv_entry ([.ref (a 0 0), .int a1, .int a2]) (n := 3) (Nat.le_of_ble_eq_true rfl)
  rw [lg_entry_eq]
  generalize (lg_sl ([.ref (a 0 0), .int a1, .int a2]) ++ List.replicate (3 - (lg_sl ([.ref (a 0 0), .int a1, .int a2])).length) Slot.unset).toArray = ls at hl ⊢
  have hl : lv_has ls 3 [(0, .ref (a 0 0)), (1, .int a1), (2, .int a2)] := hl
  unfold K_score at hf
  show W p l e ({ frames := 6, cells := 0, slots := 0, locals := 159 } : Room) s m _ below meth c s.heap [] 0 0 _ (F0 m 0 ls [])
  refine lv_aload_n hx hb dX7_score_0 rfl (lv_at hl 0 rfl) ?_
  refine va_get (D := D) (ci := 7) (v := .ref (a 2 0)) (C := RX7) (T := TX7) (N := 13) hx hb htw WW_wsX70 hown hKX.1 hP 0 rfl rfl 2 (Nat.le_of_ble_eq_true rfl) (htw _ mF_RX7_26) (fun _ h9 => h9) rfl dX7_score_1 ?_
  refine va_getN (D := D) (ci := 4) (v := .int (sh_shooters now)) (C := RX4) (T := TX4) (N := 10) hx hb htw WW_wsX40 hown hKX.1 hP 6 rfl rfl 0 (Nat.le_of_ble_eq_true rfl) (va_Nw.use rfl (hKX.2 _ (List.mem_of_getElem? (i := 3) rfl))) (fun _ h9 => h9) rfl dX7_score_4 ?_
  refine lv_if_eq (tgt := 40) hx hb dX7_score_7 (by decide) (fun c1 => ?_) (fun c1 => ?_)
  · have hf := z_p c1 hf
    refine lv_ldc2 (v := (-1)) hx hb hown (htw _ mG_RX7_183) dX7_score_40 ?_
    obtain rfl := Option.some.inj hf
    exact zr_MlX (w1, w2) hx hb hr hlocks hP hD hS dX7_score_43
  · have hf := z_n c1 hf
    refine lv_iload_n hx hb dX7_score_10 rfl (lv_at hl 1 rfl) ?_
    refine lv_if_lt (tgt := 40) hx hb dX7_score_11 (by decide) (fun c2 => ?_) (fun c2 => ?_)
    · have hf := z_p c2 hf
      refine lv_ldc2 (v := (-1)) hx hb hown (htw _ mG_RX7_183) dX7_score_40 ?_
      obtain rfl := Option.some.inj hf
      exact zr_MlX (w1, w2) hx hb hr hlocks hP hD hS dX7_score_43
    · have hf := z_n c2 hf
      refine lv_iload_n hx hb dX7_score_14 rfl (lv_at hl 1 rfl) ?_
      refine lv_aload_n hx hb dX7_score_15 rfl (lv_at hl 0 rfl) ?_
      refine va_get (D := D) (ci := 7) (v := .ref (a 2 0)) (C := RX7) (T := TX7) (N := 13) hx hb htw WW_wsX70 hown hKX.1 hP 0 rfl rfl 2 (Nat.le_of_ble_eq_true rfl) (htw _ mF_RX7_26) (fun _ h9 => h9) rfl dX7_score_16 ?_
      refine va_getN (D := D) (ci := 4) (v := .int (sh_shooters now)) (C := RX4) (T := TX4) (N := 10) hx hb htw WW_wsX40 hown hKX.1 hP 6 rfl rfl 0 (Nat.le_of_ble_eq_true rfl) (va_Nw.use rfl (hKX.2 _ (List.mem_of_getElem? (i := 3) rfl))) (fun _ h9 => h9) rfl dX7_score_19 ?_
      refine lv_icmp_gt (tgt := 40) hx hb dX7_score_22 (by decide) (fun c3 => ?_) (fun c3 => ?_)
      · have hf := z_p c3 hf
        refine lv_ldc2 (v := (-1)) hx hb hown (htw _ mG_RX7_183) dX7_score_40 ?_
        obtain rfl := Option.some.inj hf
        exact zr_MlX (w1, w2) hx hb hr hlocks hP hD hS dX7_score_43
      · have hf := z_n c3 hf
        refine lv_iload_n hx hb dX7_score_25 rfl (lv_at hl 2 rfl) ?_
        refine lv_if_lt (tgt := 40) hx hb dX7_score_26 (by decide) (fun c4 => ?_) (fun c4 => ?_)
        · have hf := z_p c4 hf
          refine lv_ldc2 (v := (-1)) hx hb hown (htw _ mG_RX7_183) dX7_score_40 ?_
          obtain rfl := Option.some.inj hf
          exact zr_MlX (w1, w2) hx hb hr hlocks hP hD hS dX7_score_43
        · have hf := z_n c4 hf
          refine lv_iload_n hx hb dX7_score_29 rfl (lv_at hl 2 rfl) ?_
          refine lv_aload_n hx hb dX7_score_30 rfl (lv_at hl 0 rfl) ?_
          refine va_get (D := D) (ci := 7) (v := .ref (a 2 0)) (C := RX7) (T := TX7) (N := 13) hx hb htw WW_wsX70 hown hKX.1 hP 0 rfl rfl 2 (Nat.le_of_ble_eq_true rfl) (htw _ mF_RX7_26) (fun _ h9 => h9) rfl dX7_score_31 ?_
          refine va_getN (D := D) (ci := 4) (v := .int (sh_shooters now)) (C := RX4) (T := TX4) (N := 10) hx hb htw WW_wsX40 hown hKX.1 hP 6 rfl rfl 0 (Nat.le_of_ble_eq_true rfl) (va_Nw.use rfl (hKX.2 _ (List.mem_of_getElem? (i := 3) rfl))) (fun _ h9 => h9) rfl dX7_score_34 ?_
          refine lv_icmp_le (tgt := 44) hx hb dX7_score_37 (by decide) (fun c5 => ?_) (fun c5 => ?_)
          · have hf := z_p c5 hf
            refine lv_aload_n hx hb dX7_score_44 rfl (lv_at hl 0 rfl) ?_
            refine lv_iconst (v := 1) hx hb dX7_score_45 rfl ?_
            obtain ⟨u6, hu6, hf⟩ := z_bd_u hf
            refine zc_MVvXT (E := (koW ac a ko ++ (txW ac (a 1) tx ++ (shW ac (a 2) now ++ (shW ac (a 3) tr ++ (teW ac (a 4) (a 1) (a 10) te ++ (paW ac a pa ++ (fcW ac (a 6) w1 w2 fc ++ (frW ac (a 7) to ++ (frW ac (a 8) tp ++ (reW ac (a 9) re ++ (shW ac (a 40) k0 ++ (shW ac (a 41) k1 ++ (shW ac (a 10) ti))))))))))))) ++ ringW ac a rg) (TT := []) (As := [.int 1]) (rest := []) (wr := []) (wsc := (koW ac a ko ++ (txW ac (a 1) tx ++ (shW ac (a 2) now ++ (shW ac (a 3) tr ++ (teW ac (a 4) (a 1) (a 10) te ++ (paW ac a pa ++ (fcW ac (a 6) w1 w2 fc ++ (frW ac (a 7) to ++ (frW ac (a 8) tp ++ (reW ac (a 9) re ++ (shW ac (a 40) k0 ++ (shW ac (a 41) k1 ++ (shW ac (a 10) ti))))))))))))) ++ ringW ac a rg) (wsc' := fun u7 : Nat × Nat => (koW ac a ko ++ (txW ac (a 1) tx ++ (shW ac (a 2) now ++ (shW ac (a 3) u6.1 ++ (teW ac (a 4) (a 1) (a 10) te ++ (paW ac a pa ++ (fcW ac (a 6) u7.1 u7.2 u6.2 ++ (frW ac (a 7) to ++ (frW ac (a 8) tp ++ (reW ac (a 9) re ++ (shW ac (a 40) k0 ++ (shW ac (a 41) k1 ++ (shW ac (a 10) ti))))))))))))) ++ ringW ac a rg) hx hb hml hown htw (ctX7_runFromStart l D ac cs a w1 w2 s.heap.size ko tx now tr te pa fc to tp re k0 k1 ti rg 1   F u6 hu6) (g_V mM_RX7_235 mI_yX7_runFromStart mS_RX7_yX7_runFromStart_yX7_runFromStart mN_RX7 mC_yX7_runFromStart) rfl (hd_yX7_runFromStart) ⟨rfl, rfl⟩ ⟨(Nat.le_of_ble_eq_true rfl), (Nat.le_of_ble_eq_true rfl)⟩ hKX hC hS hA (zP_nil hP) (zD_nil hD) (List.range _) [] (zrange _) (zndr _) rfl rfl (fun _ h => by cases h) 7 rfl rfl rfl hl.1 rfl (Nat.le_of_ble_eq_true rfl) ⟨Nat.zero_le _, Nat.zero_le _⟩ dX7_score_46 (fun u7 H locs hP hD hS => ?_)
            obtain ⟨w8, w9⟩ := u7
            have hP : va_P D vwCl ((koW ac a ko ++ (txW ac (a 1) tx ++ (shW ac (a 2) now ++ (shW ac (a 3) u6.1 ++ (teW ac (a 4) (a 1) (a 10) te ++ (paW ac a pa ++ (fcW ac (a 6) w8 w9 u6.2 ++ (frW ac (a 7) to ++ (frW ac (a 8) tp ++ (reW ac (a 9) re ++ (shW ac (a 40) k0 ++ (shW ac (a 41) k1 ++ (shW ac (a 10) ti))))))))))))) ++ ringW ac a rg) H := zP_un hP
            have hD : va_D A ((koW ac a ko ++ (txW ac (a 1) tx ++ (shW ac (a 2) now ++ (shW ac (a 3) u6.1 ++ (teW ac (a 4) (a 1) (a 10) te ++ (paW ac a pa ++ (fcW ac (a 6) w8 w9 u6.2 ++ (frW ac (a 7) to ++ (frW ac (a 8) tp ++ (reW ac (a 9) re ++ (shW ac (a 40) k0 ++ (shW ac (a 41) k1 ++ (shW ac (a 10) ti))))))))))))) ++ ringW ac a rg) := zD_un hD
            refine lv_aload_n hx hb dX7_score_49 rfl (lv_at hl 0 rfl) ?_
            refine va_get (D := D) (ci := 7) (v := .ref (a 6 0)) (C := RX7) (T := TX7) (N := 13) hx hb htw WW_wsX70 hown hKX.1 hP 0 rfl rfl 7 (Nat.le_of_ble_eq_true rfl) (htw _ mF_RX7_51) (fun _ h9 => h9) rfl dX7_score_50 ?_
            refine lv_iload_n hx hb dX7_score_53 rfl (lv_at hl 1 rfl) ?_
            refine lv_iload_n hx hb dX7_score_54 rfl (lv_at hl 2 rfl) ?_
            refine zc_RVl (As := [.int a1, .int a2]) (rest := []) hx hb hml hown htw (ctX0_scoreAt l D ac cs (a 6) w8 w9 u6.2 a1 a2   _ rfl) (g_V mM_RX7_245 mI_yX0_scoreAt mS_RX0_yX0_scoreAt_yX0_scoreAt mN_RX0 mC_yX0_scoreAt) rfl (hd_yX0_scoreAt) ⟨rfl, rfl⟩ ⟨(Nat.le_of_ble_eq_true rfl), (Nat.le_of_ble_eq_true rfl)⟩ hKX hC hS (hP.sub [16, 17, 18, 19, 20] rfl) 0 rfl rfl rfl hl.1 rfl (Nat.le_of_ble_eq_true rfl) ⟨Nat.zero_le _, Nat.zero_le _⟩ dX7_score_55 ?_
            obtain rfl := Option.some.inj hf
            exact zr_MlX (w8, w9) hx hb hr hlocks hP hD hS dX7_score_58
          · have hf := z_n c5 hf
            refine lv_ldc2 (v := (-1)) hx hb hown (htw _ mG_RX7_183) dX7_score_40 ?_
            obtain rfl := Option.some.inj hf
            exact zr_MlX (w1, w2) hx hb hr hlocks hP hD hS dX7_score_43

theorem hd_yX7_likely : hdY yX7_likely 0 := by decide +kernel
def K_likely_L41 (now : Sh) (u2 : Sh × Fc) (x8 : Int32) (kx19 : Int32 → Int64 → Option (Int32 × Sh × Fc)) : Nat → Int32 → Int64 → Int32 → Option (Int32 × Sh × Fc)
  | 0, _, _, _ => none
  | n17 + 1, x13, x14, x15 => if (sh_shooters now) < x15 then (kx19 x13 x14) else (z_let (Fc_scoreAt u2.2 x8 x15) (fun x23 : Int64 => if (lg_cmp x23 x14) ≤ 0 then (z_let (x15 + 1) (fun x25 : Int32 => K_likely_L41 now u2 x8 kx19 n17 x13 x14 x25)) else (z_let ((10 * x8) + x15) (fun x26 : Int32 => z_let (x15 + 1) (fun x27 : Int32 => K_likely_L41 now u2 x8 kx19 n17 x26 x23 x27)))))
def K_likely_L26 (F : Nat) (now : Sh) (u2 : Sh × Fc) : Nat → Int32 → Int64 → Int32 → Option (Int32 × Sh × Fc)
  | 0, _, _, _ => none
  | n10 + 1, x6, x7, x8 => if (sh_shooters now) < x8 then (some (x6, u2.1, u2.2)) else (K_likely_L41 now u2 x8 (fun (x20 : Int32) (x21 : Int64) => z_let (x8 + 1) (fun x28 : Int32 => K_likely_L26 F now u2 n10 x20 x21 x28)) F x6 x7 0)
def K_likely (F : Nat) (now : Sh) (tr : Sh) (fc : Fc) : Option (Int32 × Sh × Fc) := if (sh_shooters now) = 0 then (some ((-1), tr, fc)) else (z_bd (K_runFromStart F now tr fc 1) (fun u2 : Sh × Fc => K_likely_L26 F now u2 F 0 (-1) 0))
set_option maxHeartbeats 4000000 in
set_option maxRecDepth 100000 in
theorem ctX7_likely (l : Launch) (D : va_G) (ac cs : Nat → Nat) (a : Nat → Nat → Nat) (w1 w2 : Nat) (sz : Nat) (ko : Ko) (tx : Tx) (now : Sh) (tr : Sh) (te : Te) (pa : Pa) (fc : Fc) (to : Fr) (tp : Fr) (re : Re) (k0 : Sh) (k1 : Sh) (ti : Sh) (rg : Nat → Sh) (F : Nat) (res : Int32 × Sh × Fc) (hf : K_likely F now tr fc = some res) : Met l yX7_likely (cWW yX7_likely cX7_likely 8 (some .int)) { frames := 6, cells := 0, slots := 0, locals := 159 } (zM D ac cs [.ref (a 0 0)] ((koW ac a ko ++ (txW ac (a 1) tx ++ (shW ac (a 2) now ++ (shW ac (a 3) tr ++ (teW ac (a 4) (a 1) (a 10) te ++ (paW ac a pa ++ (fcW ac (a 6) w1 w2 fc ++ (frW ac (a 7) to ++ (frW ac (a 8) tp ++ (reW ac (a 9) re ++ (shW ac (a 40) k0 ++ (shW ac (a 41) k1 ++ (shW ac (a 10) ti))))))))))))) ++ ringW ac a rg) sz) (va_Qi (fun r (_ : Nat × Nat) => r = res.1) (fun u => zB D (va_A ((koW ac a ko ++ (txW ac (a 1) tx ++ (shW ac (a 2) now ++ (shW ac (a 3) tr ++ (teW ac (a 4) (a 1) (a 10) te ++ (paW ac a pa ++ (fcW ac (a 6) w1 w2 fc ++ (frW ac (a 7) to ++ (frW ac (a 8) tp ++ (reW ac (a 9) re ++ (shW ac (a 40) k0 ++ (shW ac (a 41) k1 ++ (shW ac (a 10) ti))))))))))))) ++ ringW ac a rg) sz) ((koW ac a ko ++ (txW ac (a 1) tx ++ (shW ac (a 2) now ++ (shW ac (a 3) res.2.1 ++ (teW ac (a 4) (a 1) (a 10) te ++ (paW ac a pa ++ (fcW ac (a 6) u.1 u.2 res.2.2 ++ (frW ac (a 7) to ++ (frW ac (a 8) tp ++ (reW ac (a 9) re ++ (shW ac (a 40) k0 ++ (shW ac (a 41) k1 ++ (shW ac (a 10) ti))))))))))))) ++ ringW ac a rg)) (va_A ((koW ac a ko ++ (txW ac (a 1) tx ++ (shW ac (a 2) now ++ (shW ac (a 3) tr ++ (teW ac (a 4) (a 1) (a 10) te ++ (paW ac a pa ++ (fcW ac (a 6) w1 w2 fc ++ (frW ac (a 7) to ++ (frW ac (a 8) tp ++ (reW ac (a 9) re ++ (shW ac (a 40) k0 ++ (shW ac (a 41) k1 ++ (shW ac (a 10) ti))))))))))))) ++ ringW ac a rg) sz)) 0 0 (va_A ((koW ac a ko ++ (txW ac (a 1) tx ++ (shW ac (a 2) now ++ (shW ac (a 3) tr ++ (teW ac (a 4) (a 1) (a 10) te ++ (paW ac a pa ++ (fcW ac (a 6) w1 w2 fc ++ (frW ac (a 7) to ++ (frW ac (a 8) tp ++ (reW ac (a 9) re ++ (shW ac (a 40) k0 ++ (shW ac (a 41) k1 ++ (shW ac (a 10) ti))))))))))))) ++ ringW ac a rg) sz) := by
  refine Met.ofW (cc := cX7_likely) (maxL := 8) (ret := (some .int)) (by decide) rfl ?_
  intro p e s m args below meth c s₁ B hml hv
  obtain ⟨rfl, hsz, hP, hKX, hD0, hC⟩ := hv
  have hx := B.exec
  have hb := B.bytes
  have hr := B.returns
  have hts := atoms_spec (ws := cWW yX7_likely cX7_likely 8 (some .int)) B.pre
  have htw : ∀ w ∈ WW, w.before _ s = true := fun w h => hts w (List.mem_cons_of_mem _ h)
  have hown : s.vm.findClass RX7 = some m.cls := findClass_of_methodNamed B.named
  have hlocks := B.notSynchronized
  clear hts B
  subst hsz
  have hD := hD0.self (sz := s.heap.size)
  generalize hAe : va_A ((koW ac a ko ++ (txW ac (a 1) tx ++ (shW ac (a 2) now ++ (shW ac (a 3) tr ++ (teW ac (a 4) (a 1) (a 10) te ++ (paW ac a pa ++ (fcW ac (a 6) w1 w2 fc ++ (frW ac (a 7) to ++ (frW ac (a 8) tp ++ (reW ac (a 9) re ++ (shW ac (a 40) k0 ++ (shW ac (a 41) k1 ++ (shW ac (a 10) ti))))))))))))) ++ ringW ac a rg) s.heap.size = A at hD hC ⊢
  have hA : ∀ q : Nat, s.heap.size ≤ q → A q := fun q h => by rw [← hAe]; exact Or.inr h
  have hS : va_S A s.heap s.heap [] := va_S.rf
  clear hD0 hAe
  have hP : va_P D vwCl ((koW ac a ko ++ (txW ac (a 1) tx ++ (shW ac (a 2) now ++ (shW ac (a 3) tr ++ (teW ac (a 4) (a 1) (a 10) te ++ (paW ac a pa ++ (fcW ac (a 6) w1 w2 fc ++ (frW ac (a 7) to ++ (frW ac (a 8) tp ++ (reW ac (a 9) re ++ (shW ac (a 40) k0 ++ (shW ac (a 41) k1 ++ (shW ac (a 10) ti))))))))))))) ++ ringW ac a rg) s.heap := hP
  have hl := lv_entry ([.ref (a 0 0)]) (n := 8) (Nat.le_of_ble_eq_true rfl)
  rw [lg_entry_eq]
  generalize (lg_sl ([.ref (a 0 0)]) ++ List.replicate (8 - (lg_sl ([.ref (a 0 0)])).length) Slot.unset).toArray = ls at hl ⊢
  have hl : lv_has ls 8 [(0, .ref (a 0 0))] := hl
  unfold K_likely at hf
  show W p l e ({ frames := 6, cells := 0, slots := 0, locals := 159 } : Room) s m _ below meth c s.heap [] 0 0 _ (F0 m 0 ls [])
  refine lv_aload_n hx hb dX7_likely_0 rfl (lv_at hl 0 rfl) ?_
  refine va_get (D := D) (ci := 7) (v := .ref (a 2 0)) (C := RX7) (T := TX7) (N := 13) hx hb htw WW_wsX70 hown hKX.1 hP 0 rfl rfl 2 (Nat.le_of_ble_eq_true rfl) (htw _ mF_RX7_26) (fun _ h9 => h9) rfl dX7_likely_1 ?_
  refine va_getN (D := D) (ci := 4) (v := .int (sh_shooters now)) (C := RX4) (T := TX4) (N := 10) hx hb htw WW_wsX40 hown hKX.1 hP 6 rfl rfl 0 (Nat.le_of_ble_eq_true rfl) (va_Nw.use rfl (hKX.2 _ (List.mem_of_getElem? (i := 3) rfl))) (fun _ h9 => h9) rfl dX7_likely_4 ?_
  refine lv_if_ne (tgt := 12) hx hb dX7_likely_7 (by decide) (fun c1 => ?_) (fun c1 => ?_)
  · have hf := z_n c1 hf
    refine lv_aload_n hx hb dX7_likely_12 rfl (lv_at hl 0 rfl) ?_
    refine lv_iconst (v := 1) hx hb dX7_likely_13 rfl ?_
    obtain ⟨u2, hu2, hf⟩ := z_bd_u hf
    refine zc_MVvXT (E := (koW ac a ko ++ (txW ac (a 1) tx ++ (shW ac (a 2) now ++ (shW ac (a 3) tr ++ (teW ac (a 4) (a 1) (a 10) te ++ (paW ac a pa ++ (fcW ac (a 6) w1 w2 fc ++ (frW ac (a 7) to ++ (frW ac (a 8) tp ++ (reW ac (a 9) re ++ (shW ac (a 40) k0 ++ (shW ac (a 41) k1 ++ (shW ac (a 10) ti))))))))))))) ++ ringW ac a rg) (TT := []) (As := [.int 1]) (rest := []) (wr := []) (wsc := (koW ac a ko ++ (txW ac (a 1) tx ++ (shW ac (a 2) now ++ (shW ac (a 3) tr ++ (teW ac (a 4) (a 1) (a 10) te ++ (paW ac a pa ++ (fcW ac (a 6) w1 w2 fc ++ (frW ac (a 7) to ++ (frW ac (a 8) tp ++ (reW ac (a 9) re ++ (shW ac (a 40) k0 ++ (shW ac (a 41) k1 ++ (shW ac (a 10) ti))))))))))))) ++ ringW ac a rg) (wsc' := fun u3 : Nat × Nat => (koW ac a ko ++ (txW ac (a 1) tx ++ (shW ac (a 2) now ++ (shW ac (a 3) u2.1 ++ (teW ac (a 4) (a 1) (a 10) te ++ (paW ac a pa ++ (fcW ac (a 6) u3.1 u3.2 u2.2 ++ (frW ac (a 7) to ++ (frW ac (a 8) tp ++ (reW ac (a 9) re ++ (shW ac (a 40) k0 ++ (shW ac (a 41) k1 ++ (shW ac (a 10) ti))))))))))))) ++ ringW ac a rg) hx hb hml hown htw (ctX7_runFromStart l D ac cs a w1 w2 s.heap.size ko tx now tr te pa fc to tp re k0 k1 ti rg 1   F u2 hu2) (g_V mM_RX7_235 mI_yX7_runFromStart mS_RX7_yX7_runFromStart_yX7_runFromStart mN_RX7 mC_yX7_runFromStart) rfl (hd_yX7_runFromStart) ⟨rfl, rfl⟩ ⟨(Nat.le_of_ble_eq_true rfl), (Nat.le_of_ble_eq_true rfl)⟩ hKX hC hS hA (zP_nil hP) (zD_nil hD) (List.range _) [] (zrange _) (zndr _) rfl rfl (fun _ h => by cases h) 7 rfl rfl rfl hl.1 rfl (Nat.le_of_ble_eq_true rfl) ⟨Nat.zero_le _, Nat.zero_le _⟩ dX7_likely_14 (fun u3 H locs hP hD hS => ?_)
    obtain ⟨w4, w5⟩ := u3
    have hP : va_P D vwCl ((koW ac a ko ++ (txW ac (a 1) tx ++ (shW ac (a 2) now ++ (shW ac (a 3) u2.1 ++ (teW ac (a 4) (a 1) (a 10) te ++ (paW ac a pa ++ (fcW ac (a 6) w4 w5 u2.2 ++ (frW ac (a 7) to ++ (frW ac (a 8) tp ++ (reW ac (a 9) re ++ (shW ac (a 40) k0 ++ (shW ac (a 41) k1 ++ (shW ac (a 10) ti))))))))))))) ++ ringW ac a rg) H := zP_un hP
    have hD : va_D A ((koW ac a ko ++ (txW ac (a 1) tx ++ (shW ac (a 2) now ++ (shW ac (a 3) u2.1 ++ (teW ac (a 4) (a 1) (a 10) te ++ (paW ac a pa ++ (fcW ac (a 6) w4 w5 u2.2 ++ (frW ac (a 7) to ++ (frW ac (a 8) tp ++ (reW ac (a 9) re ++ (shW ac (a 40) k0 ++ (shW ac (a 41) k1 ++ (shW ac (a 10) ti))))))))))))) ++ ringW ac a rg) := zD_un hD
    refine lv_iconst (v := 0) hx hb dX7_likely_17 rfl ?_
    refine lv_istore_n (lv' := [(1, .int 0), (0, .ref (a 0 0))]) hx hb dX7_likely_18 rfl hl (Nat.le_of_ble_eq_true rfl) rfl (fun ls hl => ?_)
    refine lv_ldc2 (v := (-1)) hx hb hown (htw _ mG_RX7_183) dX7_likely_19 ?_
    refine lv_lstore_n (lv' := [(2, .long (-1)), (1, .int 0), (0, .ref (a 0 0))]) hx hb dX7_likely_22 rfl hl (Nat.le_of_ble_eq_true rfl) rfl (fun ls hl => ?_)
    refine lv_iconst (v := 0) hx hb dX7_likely_23 rfl ?_
    refine lv_istore (lv' := [(4, .int 0), (2, .long (-1)), (1, .int 0), (0, .ref (a 0 0))]) hx hb dX7_likely_24 hl (Nat.le_of_ble_eq_true rfl) rfl (fun ls hl => ?_)
    have hL9 : ∀ (n10 : Nat) (x6 : Int32) (x7 : Int64) (x8 : Int32), K_likely_L26 F now u2 n10 x6 x7 x8 = some res → ∀ (H : Heap) (locs : List Loc) (ls : Array Slot), va_P D vwCl ((koW ac a ko ++ (txW ac (a 1) tx ++ (shW ac (a 2) now ++ (shW ac (a 3) u2.1 ++ (teW ac (a 4) (a 1) (a 10) te ++ (paW ac a pa ++ (fcW ac (a 6) w4 w5 u2.2 ++ (frW ac (a 7) to ++ (frW ac (a 8) tp ++ (reW ac (a 9) re ++ (shW ac (a 40) k0 ++ (shW ac (a 41) k1 ++ (shW ac (a 10) ti))))))))))))) ++ ringW ac a rg) H → va_D A ((koW ac a ko ++ (txW ac (a 1) tx ++ (shW ac (a 2) now ++ (shW ac (a 3) u2.1 ++ (teW ac (a 4) (a 1) (a 10) te ++ (paW ac a pa ++ (fcW ac (a 6) w4 w5 u2.2 ++ (frW ac (a 7) to ++ (frW ac (a 8) tp ++ (reW ac (a 9) re ++ (shW ac (a 40) k0 ++ (shW ac (a 41) k1 ++ (shW ac (a 10) ti))))))))))))) ++ ringW ac a rg) → va_S A s.heap H locs → lv_has ls 8 [(0, .ref (a 0 0)), (1, .int x6), (2, .long x7), (4, .int x8)] → W p l e ({ frames := 6, cells := 0, slots := 0, locals := 159 } : Room) s m (([.ref (a 0 0)] : List Value).toArray) below meth c H locs 0 0 (MQ below (va_Qi (fun r (_ : Nat × Nat) => r = res.1) (fun u => zB D A ((koW ac a ko ++ (txW ac (a 1) tx ++ (shW ac (a 2) now ++ (shW ac (a 3) res.2.1 ++ (teW ac (a 4) (a 1) (a 10) te ++ (paW ac a pa ++ (fcW ac (a 6) u.1 u.2 res.2.2 ++ (frW ac (a 7) to ++ (frW ac (a 8) tp ++ (reW ac (a 9) re ++ (shW ac (a 40) k0 ++ (shW ac (a 41) k1 ++ (shW ac (a 10) ti))))))))))))) ++ ringW ac a rg)) A) ([.ref (a 0 0)] : List Value).toArray s 0 0 A) (F0 m 26 ls []) := by
      intro n10
      induction n10 with
      | zero => intro x6 x7 x8 hf; rw [K_likely_L26] at hf; cases hf
      | succ n10 ih11 =>
        intro x6 x7 x8 hf H locs ls hP hD hS hl
        rw [K_likely_L26] at hf
        refine lv_iload hx hb dX7_likely_26 (lv_at hl 3 rfl) ?_
        refine lv_aload_n hx hb dX7_likely_28 rfl (lv_at hl 0 rfl) ?_
        refine va_get (D := D) (ci := 7) (v := .ref (a 2 0)) (C := RX7) (T := TX7) (N := 13) hx hb htw WW_wsX70 hown hKX.1 hP 0 rfl rfl 2 (Nat.le_of_ble_eq_true rfl) (htw _ mF_RX7_26) (fun _ h9 => h9) rfl dX7_likely_29 ?_
        refine va_getN (D := D) (ci := 4) (v := .int (sh_shooters now)) (C := RX4) (T := TX4) (N := 10) hx hb htw WW_wsX40 hown hKX.1 hP 6 rfl rfl 0 (Nat.le_of_ble_eq_true rfl) (va_Nw.use rfl (hKX.2 _ (List.mem_of_getElem? (i := 3) rfl))) (fun _ h9 => h9) rfl dX7_likely_32 ?_
        refine lv_icmp_gt (tgt := 97) hx hb dX7_likely_35 (by decide) (fun c12 => ?_) (fun c12 => ?_)
        · have hf := z_p c12 hf
          refine lv_iload_n hx hb dX7_likely_97 rfl (lv_at hl 1 rfl) ?_
          obtain rfl := Option.some.inj hf
          exact zr_MiX (w4, w5) hx hb hr hlocks hP hD hS dX7_likely_98
        · have hf := z_n c12 hf
          refine lv_iconst (v := 0) hx hb dX7_likely_38 rfl ?_
          refine lv_istore (lv' := [(5, .int 0), (0, .ref (a 0 0)), (1, .int x6), (2, .long x7), (4, .int x8)]) hx hb dX7_likely_39 hl (Nat.le_of_ble_eq_true rfl) rfl (fun ls hl => ?_)
          have hL16 : ∀ (kx19 : Int32 → Int64 → Option (Int32 × Sh × Fc)) (hkx19 : ∀ (x20 : Int32) (x21 : Int64), kx19 x20 x21 = some res → ∀ (H : Heap) (locs : List Loc) (ls : Array Slot), va_P D vwCl ((koW ac a ko ++ (txW ac (a 1) tx ++ (shW ac (a 2) now ++ (shW ac (a 3) u2.1 ++ (teW ac (a 4) (a 1) (a 10) te ++ (paW ac a pa ++ (fcW ac (a 6) w4 w5 u2.2 ++ (frW ac (a 7) to ++ (frW ac (a 8) tp ++ (reW ac (a 9) re ++ (shW ac (a 40) k0 ++ (shW ac (a 41) k1 ++ (shW ac (a 10) ti))))))))))))) ++ ringW ac a rg) H → va_D A ((koW ac a ko ++ (txW ac (a 1) tx ++ (shW ac (a 2) now ++ (shW ac (a 3) u2.1 ++ (teW ac (a 4) (a 1) (a 10) te ++ (paW ac a pa ++ (fcW ac (a 6) w4 w5 u2.2 ++ (frW ac (a 7) to ++ (frW ac (a 8) tp ++ (reW ac (a 9) re ++ (shW ac (a 40) k0 ++ (shW ac (a 41) k1 ++ (shW ac (a 10) ti))))))))))))) ++ ringW ac a rg) → va_S A s.heap H locs → lv_has ls 8 [(0, .ref (a 0 0)), (1, .int x20), (2, .long x21), (4, .int x8)] → W p l e ({ frames := 6, cells := 0, slots := 0, locals := 159 } : Room) s m (([.ref (a 0 0)] : List Value).toArray) below meth c H locs 0 0 (MQ below (va_Qi (fun r (_ : Nat × Nat) => r = res.1) (fun u => zB D A ((koW ac a ko ++ (txW ac (a 1) tx ++ (shW ac (a 2) now ++ (shW ac (a 3) res.2.1 ++ (teW ac (a 4) (a 1) (a 10) te ++ (paW ac a pa ++ (fcW ac (a 6) u.1 u.2 res.2.2 ++ (frW ac (a 7) to ++ (frW ac (a 8) tp ++ (reW ac (a 9) re ++ (shW ac (a 40) k0 ++ (shW ac (a 41) k1 ++ (shW ac (a 10) ti))))))))))))) ++ ringW ac a rg)) A) ([.ref (a 0 0)] : List Value).toArray s 0 0 A) (F0 m 91 ls [])) (n17 : Nat) (x13 : Int32) (x14 : Int64) (x15 : Int32), K_likely_L41 now u2 x8 kx19 n17 x13 x14 x15 = some res → ∀ (H : Heap) (locs : List Loc) (ls : Array Slot), va_P D vwCl ((koW ac a ko ++ (txW ac (a 1) tx ++ (shW ac (a 2) now ++ (shW ac (a 3) u2.1 ++ (teW ac (a 4) (a 1) (a 10) te ++ (paW ac a pa ++ (fcW ac (a 6) w4 w5 u2.2 ++ (frW ac (a 7) to ++ (frW ac (a 8) tp ++ (reW ac (a 9) re ++ (shW ac (a 40) k0 ++ (shW ac (a 41) k1 ++ (shW ac (a 10) ti))))))))))))) ++ ringW ac a rg) H → va_D A ((koW ac a ko ++ (txW ac (a 1) tx ++ (shW ac (a 2) now ++ (shW ac (a 3) u2.1 ++ (teW ac (a 4) (a 1) (a 10) te ++ (paW ac a pa ++ (fcW ac (a 6) w4 w5 u2.2 ++ (frW ac (a 7) to ++ (frW ac (a 8) tp ++ (reW ac (a 9) re ++ (shW ac (a 40) k0 ++ (shW ac (a 41) k1 ++ (shW ac (a 10) ti))))))))))))) ++ ringW ac a rg) → va_S A s.heap H locs → lv_has ls 8 [(0, .ref (a 0 0)), (1, .int x13), (2, .long x14), (4, .int x8), (5, .int x15)] → W p l e ({ frames := 6, cells := 0, slots := 0, locals := 159 } : Room) s m (([.ref (a 0 0)] : List Value).toArray) below meth c H locs 0 0 (MQ below (va_Qi (fun r (_ : Nat × Nat) => r = res.1) (fun u => zB D A ((koW ac a ko ++ (txW ac (a 1) tx ++ (shW ac (a 2) now ++ (shW ac (a 3) res.2.1 ++ (teW ac (a 4) (a 1) (a 10) te ++ (paW ac a pa ++ (fcW ac (a 6) u.1 u.2 res.2.2 ++ (frW ac (a 7) to ++ (frW ac (a 8) tp ++ (reW ac (a 9) re ++ (shW ac (a 40) k0 ++ (shW ac (a 41) k1 ++ (shW ac (a 10) ti))))))))))))) ++ ringW ac a rg)) A) ([.ref (a 0 0)] : List Value).toArray s 0 0 A) (F0 m 41 ls []) := by
            intro kx19 hkx19 n17
            induction n17 with
            | zero => intro x13 x14 x15 hf; rw [K_likely_L41] at hf; cases hf
            | succ n17 ih18 =>
              intro x13 x14 x15 hf H locs ls hP hD hS hl
              rw [K_likely_L41] at hf
              refine lv_iload hx hb dX7_likely_41 (lv_at hl 4 rfl) ?_
              refine lv_aload_n hx hb dX7_likely_43 rfl (lv_at hl 0 rfl) ?_
              refine va_get (D := D) (ci := 7) (v := .ref (a 2 0)) (C := RX7) (T := TX7) (N := 13) hx hb htw WW_wsX70 hown hKX.1 hP 0 rfl rfl 2 (Nat.le_of_ble_eq_true rfl) (htw _ mF_RX7_26) (fun _ h9 => h9) rfl dX7_likely_44 ?_
              refine va_getN (D := D) (ci := 4) (v := .int (sh_shooters now)) (C := RX4) (T := TX4) (N := 10) hx hb htw WW_wsX40 hown hKX.1 hP 6 rfl rfl 0 (Nat.le_of_ble_eq_true rfl) (va_Nw.use rfl (hKX.2 _ (List.mem_of_getElem? (i := 3) rfl))) (fun _ h9 => h9) rfl dX7_likely_47 ?_
              refine lv_icmp_gt (tgt := 91) hx hb dX7_likely_50 (by decide) (fun c22 => ?_) (fun c22 => ?_)
              · have hf := z_p c22 hf
                exact hkx19 x13 x14 hf _ _ ls  hP hD hS (lv_sub hl [0, 1, 2, 3] rfl)
              · have hf := z_n c22 hf
                refine lv_aload_n hx hb dX7_likely_53 rfl (lv_at hl 0 rfl) ?_
                refine va_get (D := D) (ci := 7) (v := .ref (a 6 0)) (C := RX7) (T := TX7) (N := 13) hx hb htw WW_wsX70 hown hKX.1 hP 0 rfl rfl 7 (Nat.le_of_ble_eq_true rfl) (htw _ mF_RX7_51) (fun _ h9 => h9) rfl dX7_likely_54 ?_
                refine lv_iload hx hb dX7_likely_57 (lv_at hl 3 rfl) ?_
                refine lv_iload hx hb dX7_likely_59 (lv_at hl 4 rfl) ?_
                refine zc_RVl (As := [.int x8, .int x15]) (rest := []) hx hb hml hown htw (ctX0_scoreAt l D ac cs (a 6) w4 w5 u2.2 x8 x15   _ rfl) (g_V mM_RX7_245 mI_yX0_scoreAt mS_RX0_yX0_scoreAt_yX0_scoreAt mN_RX0 mC_yX0_scoreAt) rfl (hd_yX0_scoreAt) ⟨rfl, rfl⟩ ⟨(Nat.le_of_ble_eq_true rfl), (Nat.le_of_ble_eq_true rfl)⟩ hKX hC hS (hP.sub [16, 17, 18, 19, 20] rfl) 0 rfl rfl rfl hl.1 rfl (Nat.le_of_ble_eq_true rfl) ⟨Nat.zero_le _, Nat.zero_le _⟩ dX7_likely_61 ?_
                refine lv_topl (fun x23 hx23 => ?_)
                have hf := z_let_u hx23 hf
                refine lv_lstore (lv' := [(6, .long x23), (0, .ref (a 0 0)), (1, .int x13), (2, .long x14), (4, .int x8), (5, .int x15)]) hx hb dX7_likely_64 hl (Nat.le_of_ble_eq_true rfl) rfl (fun ls hl => ?_)
                refine lv_lload hx hb dX7_likely_66 (lv_at hl 0 rfl) ?_
                refine lv_lload_n hx hb dX7_likely_68 rfl (lv_at hl 3 rfl) ?_
                refine W.lcmp hx hb dX7_likely_69 ?_
                refine lv_if_le (tgt := 85) hx hb dX7_likely_70 (by decide) (fun c24 => ?_) (fun c24 => ?_)
                · have hf := z_p c24 hf
                  obtain ⟨x25, hx25⟩ : ∃ y : Int32, y = (x15 + 1) := ⟨_, rfl⟩
                  have hf := z_let_u hx25 hf
                  refine lv_iinc (v := x25) (lv' := [(5, .int x25), (6, .long x23), (0, .ref (a 0 0)), (1, .int x13), (2, .long x14), (4, .int x8)]) hx hb dX7_likely_85 hl (k := 5) rfl (by rw [hx25]; rfl) (Nat.le_of_ble_eq_true rfl) rfl (fun ls hl => ?_)
                  refine lv_goto (tgt := 41) hx hb dX7_likely_88 (by decide) ?_
                  exact ih18 x13 x14 x25 hf _ _ ls  hP hD hS (lv_sub hl [2, 3, 4, 5, 0] rfl)
                · have hf := z_n c24 hf
                  refine lv_lload hx hb dX7_likely_73 (lv_at hl 0 rfl) ?_
                  refine lv_lstore_n (lv' := [(2, .long x23), (6, .long x23), (0, .ref (a 0 0)), (1, .int x13), (4, .int x8), (5, .int x15)]) hx hb dX7_likely_75 rfl hl (Nat.le_of_ble_eq_true rfl) rfl (fun ls hl => ?_)
                  refine lv_bipush (v := 10) hx hb dX7_likely_76 rfl ?_
                  refine lv_iload hx hb dX7_likely_78 (lv_at hl 4 rfl) ?_
                  refine lv_imul hx hb dX7_likely_80 ?_
                  refine lv_iload hx hb dX7_likely_81 (lv_at hl 5 rfl) ?_
                  refine lv_iadd hx hb dX7_likely_83 ?_
                  refine lv_topi (fun x26 hx26 => ?_)
                  have hf := z_let_u hx26 hf
                  refine lv_istore_n (lv' := [(1, .int x26), (2, .long x23), (6, .long x23), (0, .ref (a 0 0)), (4, .int x8), (5, .int x15)]) hx hb dX7_likely_84 rfl hl (Nat.le_of_ble_eq_true rfl) rfl (fun ls hl => ?_)
                  obtain ⟨x27, hx27⟩ : ∃ y : Int32, y = (x15 + 1) := ⟨_, rfl⟩
                  have hf := z_let_u hx27 hf
                  refine lv_iinc (v := x27) (lv' := [(5, .int x27), (1, .int x26), (2, .long x23), (6, .long x23), (0, .ref (a 0 0)), (4, .int x8)]) hx hb dX7_likely_85 hl (k := 5) rfl (by rw [hx27]; rfl) (Nat.le_of_ble_eq_true rfl) rfl (fun ls hl => ?_)
                  refine lv_goto (tgt := 41) hx hb dX7_likely_88 (by decide) ?_
                  exact ih18 x26 x23 x27 hf _ _ ls  hP hD hS (lv_sub hl [4, 1, 2, 5, 0] rfl)
          refine hL16 _ ?_ F x6 x7 0 hf _ _ ls  hP hD hS (lv_sub hl [1, 2, 3, 4, 0] rfl)
          intro x20 x21 hf H locs ls hP hD hS hl
          obtain ⟨x28, hx28⟩ : ∃ y : Int32, y = (x8 + 1) := ⟨_, rfl⟩
          have hf := z_let_u hx28 hf
          refine lv_iinc (v := x28) (lv' := [(4, .int x28), (0, .ref (a 0 0)), (1, .int x20), (2, .long x21)]) hx hb dX7_likely_91 hl (k := 3) rfl (by rw [hx28]; rfl) (Nat.le_of_ble_eq_true rfl) rfl (fun ls hl => ?_)
          refine lv_goto (tgt := 26) hx hb dX7_likely_94 (by decide) ?_
          exact ih11 x20 x21 x28 hf _ _ ls  hP hD hS (lv_sub hl [1, 2, 3, 0] rfl)
    refine hL9  F 0 (-1) 0 hf _ _ ls  hP hD hS (lv_sub hl [3, 2, 1, 0] rfl)
  · have hf := z_p c1 hf
    refine lv_iconst (v := (-1)) hx hb dX7_likely_10 rfl ?_
    obtain rfl := Option.some.inj hf
    exact zr_MiX (w1, w2) hx hb hr hlocks hP hD hS dX7_likely_11

theorem hd_yX7_mean : hdY yX7_mean 1 := by decide +kernel
def K_mean_L50 (u3 : Sh × Fc) (x7 : Int32) (kx14 : Int64 → Option (Int64 × Sh × Fc × Fr)) : Nat → Int64 → Int32 → Option (Int64 × Sh × Fc × Fr)
  | 0, _, _ => none
  | n12 + 1, x9, x10 => if x7 < x10 then (kx14 x9) else (z_let (x9 + ((Fc_endsAt u3.2 x10) * x10.toInt64)) (fun x17 : Int64 => z_let (x10 + 1) (fun x18 : Int32 => K_mean_L50 u3 x7 kx14 n12 x17 x18)))
def K_mean (F : Nat) (now : Sh) (tr : Sh) (fc : Fc) (to : Fr) (a1 : Int32) : Option (Int64 × Sh × Fc × Fr) := if (sh_shooters now) = 0 then (some ((-1), tr, fc, to)) else (if K_isPart a1 = 0 then (some ((-1), tr, fc, to)) else (z_bd (K_runFromStart F now tr fc 0) (fun u3 : Sh × Fc => z_let (2 * (sh_shooters now)) (fun x7 : Int32 => z_let ((fc_level u3.2) * x7.toInt64) (fun x8 : Int64 => K_mean_L50 u3 x7 (fun (x15 : Int64) => z_let (Fr_put x15 (K_sixes x7)) (fun u19 : Fr => z_bd (Fr_reduce F u19) (fun u20 : Fr => some (Fr_part u20 a1, u3.1, u3.2, u20)))) F x8 1)))))
set_option maxHeartbeats 4000000 in
set_option maxRecDepth 100000 in
theorem ctX7_mean (l : Launch) (D : va_G) (ac cs : Nat → Nat) (a : Nat → Nat → Nat) (w1 w2 : Nat) (sz : Nat) (ko : Ko) (tx : Tx) (now : Sh) (tr : Sh) (te : Te) (pa : Pa) (fc : Fc) (to : Fr) (tp : Fr) (re : Re) (k0 : Sh) (k1 : Sh) (ti : Sh) (rg : Nat → Sh) (a1 : Int32) (F : Nat) (res : Int64 × Sh × Fc × Fr) (hf : K_mean F now tr fc to a1 = some res) : Met l yX7_mean (cWW yX7_mean cX7_mean 6 (some .long)) { frames := 6, cells := 0, slots := 0, locals := 159 } (zM D ac cs [.ref (a 0 0), .int a1] ((koW ac a ko ++ (txW ac (a 1) tx ++ (shW ac (a 2) now ++ (shW ac (a 3) tr ++ (teW ac (a 4) (a 1) (a 10) te ++ (paW ac a pa ++ (fcW ac (a 6) w1 w2 fc ++ (frW ac (a 7) to ++ (frW ac (a 8) tp ++ (reW ac (a 9) re ++ (shW ac (a 40) k0 ++ (shW ac (a 41) k1 ++ (shW ac (a 10) ti))))))))))))) ++ ringW ac a rg) sz) (va_Ql (fun r (_ : Nat × Nat) => r = res.1) (fun u => zB D (va_A ((koW ac a ko ++ (txW ac (a 1) tx ++ (shW ac (a 2) now ++ (shW ac (a 3) tr ++ (teW ac (a 4) (a 1) (a 10) te ++ (paW ac a pa ++ (fcW ac (a 6) w1 w2 fc ++ (frW ac (a 7) to ++ (frW ac (a 8) tp ++ (reW ac (a 9) re ++ (shW ac (a 40) k0 ++ (shW ac (a 41) k1 ++ (shW ac (a 10) ti))))))))))))) ++ ringW ac a rg) sz) ((koW ac a ko ++ (txW ac (a 1) tx ++ (shW ac (a 2) now ++ (shW ac (a 3) res.2.1 ++ (teW ac (a 4) (a 1) (a 10) te ++ (paW ac a pa ++ (fcW ac (a 6) u.1 u.2 res.2.2.1 ++ (frW ac (a 7) res.2.2.2 ++ (frW ac (a 8) tp ++ (reW ac (a 9) re ++ (shW ac (a 40) k0 ++ (shW ac (a 41) k1 ++ (shW ac (a 10) ti))))))))))))) ++ ringW ac a rg)) (va_A ((koW ac a ko ++ (txW ac (a 1) tx ++ (shW ac (a 2) now ++ (shW ac (a 3) tr ++ (teW ac (a 4) (a 1) (a 10) te ++ (paW ac a pa ++ (fcW ac (a 6) w1 w2 fc ++ (frW ac (a 7) to ++ (frW ac (a 8) tp ++ (reW ac (a 9) re ++ (shW ac (a 40) k0 ++ (shW ac (a 41) k1 ++ (shW ac (a 10) ti))))))))))))) ++ ringW ac a rg) sz)) 0 0 (va_A ((koW ac a ko ++ (txW ac (a 1) tx ++ (shW ac (a 2) now ++ (shW ac (a 3) tr ++ (teW ac (a 4) (a 1) (a 10) te ++ (paW ac a pa ++ (fcW ac (a 6) w1 w2 fc ++ (frW ac (a 7) to ++ (frW ac (a 8) tp ++ (reW ac (a 9) re ++ (shW ac (a 40) k0 ++ (shW ac (a 41) k1 ++ (shW ac (a 10) ti))))))))))))) ++ ringW ac a rg) sz) := by
  refine Met.ofW (cc := cX7_mean) (maxL := 6) (ret := (some .long)) (by decide) rfl ?_
  intro p e s m args below meth c s₁ B hml hv
  obtain ⟨rfl, hsz, hP, hKX, hD0, hC⟩ := hv
  have hx := B.exec
  have hb := B.bytes
  have hr := B.returns
  have hts := atoms_spec (ws := cWW yX7_mean cX7_mean 6 (some .long)) B.pre
  have htw : ∀ w ∈ WW, w.before _ s = true := fun w h => hts w (List.mem_cons_of_mem _ h)
  have hown : s.vm.findClass RX7 = some m.cls := findClass_of_methodNamed B.named
  have hlocks := B.notSynchronized
  clear hts B
  subst hsz
  have hD := hD0.self (sz := s.heap.size)
  generalize hAe : va_A ((koW ac a ko ++ (txW ac (a 1) tx ++ (shW ac (a 2) now ++ (shW ac (a 3) tr ++ (teW ac (a 4) (a 1) (a 10) te ++ (paW ac a pa ++ (fcW ac (a 6) w1 w2 fc ++ (frW ac (a 7) to ++ (frW ac (a 8) tp ++ (reW ac (a 9) re ++ (shW ac (a 40) k0 ++ (shW ac (a 41) k1 ++ (shW ac (a 10) ti))))))))))))) ++ ringW ac a rg) s.heap.size = A at hD hC ⊢
  have hA : ∀ q : Nat, s.heap.size ≤ q → A q := fun q h => by rw [← hAe]; exact Or.inr h
  have hS : va_S A s.heap s.heap [] := va_S.rf
  clear hD0 hAe
  have hP : va_P D vwCl ((koW ac a ko ++ (txW ac (a 1) tx ++ (shW ac (a 2) now ++ (shW ac (a 3) tr ++ (teW ac (a 4) (a 1) (a 10) te ++ (paW ac a pa ++ (fcW ac (a 6) w1 w2 fc ++ (frW ac (a 7) to ++ (frW ac (a 8) tp ++ (reW ac (a 9) re ++ (shW ac (a 40) k0 ++ (shW ac (a 41) k1 ++ (shW ac (a 10) ti))))))))))))) ++ ringW ac a rg) s.heap := hP
  have hl := lv_entry ([.ref (a 0 0), .int a1]) (n := 6) (Nat.le_of_ble_eq_true rfl)
  rw [lg_entry_eq]
  generalize (lg_sl ([.ref (a 0 0), .int a1]) ++ List.replicate (6 - (lg_sl ([.ref (a 0 0), .int a1])).length) Slot.unset).toArray = ls at hl ⊢
  have hl : lv_has ls 6 [(0, .ref (a 0 0)), (1, .int a1)] := hl
  unfold K_mean at hf
  show W p l e ({ frames := 6, cells := 0, slots := 0, locals := 159 } : Room) s m _ below meth c s.heap [] 0 0 _ (F0 m 0 ls [])
  refine lv_aload_n hx hb dX7_mean_0 rfl (lv_at hl 0 rfl) ?_
  refine va_get (D := D) (ci := 7) (v := .ref (a 2 0)) (C := RX7) (T := TX7) (N := 13) hx hb htw WW_wsX70 hown hKX.1 hP 0 rfl rfl 2 (Nat.le_of_ble_eq_true rfl) (htw _ mF_RX7_26) (fun _ h9 => h9) rfl dX7_mean_1 ?_
  refine va_getN (D := D) (ci := 4) (v := .int (sh_shooters now)) (C := RX4) (T := TX4) (N := 10) hx hb htw WW_wsX40 hown hKX.1 hP 6 rfl rfl 0 (Nat.le_of_ble_eq_true rfl) (va_Nw.use rfl (hKX.2 _ (List.mem_of_getElem? (i := 3) rfl))) (fun _ h9 => h9) rfl dX7_mean_4 ?_
  refine lv_if_eq (tgt := 17) hx hb dX7_mean_7 (by decide) (fun c1 => ?_) (fun c1 => ?_)
  · have hf := z_p c1 hf
    refine lv_ldc2 (v := (-1)) hx hb hown (htw _ mG_RX7_183) dX7_mean_17 ?_
    obtain rfl := Option.some.inj hf
    exact zr_MlX (w1, w2) hx hb hr hlocks hP hD hS dX7_mean_20
  · have hf := z_n c1 hf
    refine lv_iload_n hx hb dX7_mean_10 rfl (lv_at hl 1 rfl) ?_
    refine zc_RSi (As := [.int a1]) (rest := []) hx hb hml hown htw (ctX7_isPart l D ac cs   a1   _ rfl) (g_S mM_RX7_180 mT_yX7_isPart mN_RX7 mC_yX7_isPart) (hd_yX7_isPart) ⟨rfl, rfl⟩ ⟨(Nat.le_of_ble_eq_true rfl), (Nat.le_of_ble_eq_true rfl)⟩ hKX hC hS zP0 rfl hl.1 rfl (Nat.le_of_ble_eq_true rfl) ⟨Nat.zero_le _, Nat.zero_le _⟩ dX7_mean_11 ?_
    refine lv_if_ne (tgt := 21) hx hb dX7_mean_14 (by decide) (fun c2 => ?_) (fun c2 => ?_)
    · have hf := z_n c2 hf
      refine lv_aload_n hx hb dX7_mean_21 rfl (lv_at hl 0 rfl) ?_
      refine lv_iconst (v := 0) hx hb dX7_mean_22 rfl ?_
      obtain ⟨u3, hu3, hf⟩ := z_bd_u hf
      refine zc_MVvXT (E := (koW ac a ko ++ (txW ac (a 1) tx ++ (shW ac (a 2) now ++ (shW ac (a 3) tr ++ (teW ac (a 4) (a 1) (a 10) te ++ (paW ac a pa ++ (fcW ac (a 6) w1 w2 fc ++ (frW ac (a 7) to ++ (frW ac (a 8) tp ++ (reW ac (a 9) re ++ (shW ac (a 40) k0 ++ (shW ac (a 41) k1 ++ (shW ac (a 10) ti))))))))))))) ++ ringW ac a rg) (TT := []) (As := [.int 0]) (rest := []) (wr := []) (wsc := (koW ac a ko ++ (txW ac (a 1) tx ++ (shW ac (a 2) now ++ (shW ac (a 3) tr ++ (teW ac (a 4) (a 1) (a 10) te ++ (paW ac a pa ++ (fcW ac (a 6) w1 w2 fc ++ (frW ac (a 7) to ++ (frW ac (a 8) tp ++ (reW ac (a 9) re ++ (shW ac (a 40) k0 ++ (shW ac (a 41) k1 ++ (shW ac (a 10) ti))))))))))))) ++ ringW ac a rg) (wsc' := fun u4 : Nat × Nat => (koW ac a ko ++ (txW ac (a 1) tx ++ (shW ac (a 2) now ++ (shW ac (a 3) u3.1 ++ (teW ac (a 4) (a 1) (a 10) te ++ (paW ac a pa ++ (fcW ac (a 6) u4.1 u4.2 u3.2 ++ (frW ac (a 7) to ++ (frW ac (a 8) tp ++ (reW ac (a 9) re ++ (shW ac (a 40) k0 ++ (shW ac (a 41) k1 ++ (shW ac (a 10) ti))))))))))))) ++ ringW ac a rg) hx hb hml hown htw (ctX7_runFromStart l D ac cs a w1 w2 s.heap.size ko tx now tr te pa fc to tp re k0 k1 ti rg 0   F u3 hu3) (g_V mM_RX7_235 mI_yX7_runFromStart mS_RX7_yX7_runFromStart_yX7_runFromStart mN_RX7 mC_yX7_runFromStart) rfl (hd_yX7_runFromStart) ⟨rfl, rfl⟩ ⟨(Nat.le_of_ble_eq_true rfl), (Nat.le_of_ble_eq_true rfl)⟩ hKX hC hS hA (zP_nil hP) (zD_nil hD) (List.range _) [] (zrange _) (zndr _) rfl rfl (fun _ h => by cases h) 7 rfl rfl rfl hl.1 rfl (Nat.le_of_ble_eq_true rfl) ⟨Nat.zero_le _, Nat.zero_le _⟩ dX7_mean_23 (fun u4 H locs hP hD hS => ?_)
      obtain ⟨w5, w6⟩ := u4
      have hP : va_P D vwCl ((koW ac a ko ++ (txW ac (a 1) tx ++ (shW ac (a 2) now ++ (shW ac (a 3) u3.1 ++ (teW ac (a 4) (a 1) (a 10) te ++ (paW ac a pa ++ (fcW ac (a 6) w5 w6 u3.2 ++ (frW ac (a 7) to ++ (frW ac (a 8) tp ++ (reW ac (a 9) re ++ (shW ac (a 40) k0 ++ (shW ac (a 41) k1 ++ (shW ac (a 10) ti))))))))))))) ++ ringW ac a rg) H := zP_un hP
      have hD : va_D A ((koW ac a ko ++ (txW ac (a 1) tx ++ (shW ac (a 2) now ++ (shW ac (a 3) u3.1 ++ (teW ac (a 4) (a 1) (a 10) te ++ (paW ac a pa ++ (fcW ac (a 6) w5 w6 u3.2 ++ (frW ac (a 7) to ++ (frW ac (a 8) tp ++ (reW ac (a 9) re ++ (shW ac (a 40) k0 ++ (shW ac (a 41) k1 ++ (shW ac (a 10) ti))))))))))))) ++ ringW ac a rg) := zD_un hD
      refine lv_iconst (v := 2) hx hb dX7_mean_26 rfl ?_
      refine lv_aload_n hx hb dX7_mean_27 rfl (lv_at hl 0 rfl) ?_
      refine va_get (D := D) (ci := 7) (v := .ref (a 2 0)) (C := RX7) (T := TX7) (N := 13) hx hb htw WW_wsX70 hown hKX.1 hP 0 rfl rfl 2 (Nat.le_of_ble_eq_true rfl) (htw _ mF_RX7_26) (fun _ h9 => h9) rfl dX7_mean_28 ?_
      refine va_getN (D := D) (ci := 4) (v := .int (sh_shooters now)) (C := RX4) (T := TX4) (N := 10) hx hb htw WW_wsX40 hown hKX.1 hP 6 rfl rfl 0 (Nat.le_of_ble_eq_true rfl) (va_Nw.use rfl (hKX.2 _ (List.mem_of_getElem? (i := 3) rfl))) (fun _ h9 => h9) rfl dX7_mean_31 ?_
      refine lv_imul hx hb dX7_mean_34 ?_
      refine lv_topi (fun x7 hx7 => ?_)
      have hf := z_let_u hx7 hf
      refine lv_istore_n (lv' := [(2, .int x7), (0, .ref (a 0 0)), (1, .int a1)]) hx hb dX7_mean_35 rfl hl (Nat.le_of_ble_eq_true rfl) rfl (fun ls hl => ?_)
      refine lv_aload_n hx hb dX7_mean_36 rfl (lv_at hl 1 rfl) ?_
      refine va_get (D := D) (ci := 7) (v := .ref (a 6 0)) (C := RX7) (T := TX7) (N := 13) hx hb htw WW_wsX70 hown hKX.1 hP 0 rfl rfl 7 (Nat.le_of_ble_eq_true rfl) (htw _ mF_RX7_51) (fun _ h9 => h9) rfl dX7_mean_37 ?_
      refine va_getN (D := D) (ci := 0) (v := .long (fc_level u3.2)) (C := RX0) (T := TX0) (N := 15) hx hb htw WW_wsX00 hown hKX.1 hP 16 rfl rfl 8 (Nat.le_of_ble_eq_true rfl) (va_Nw.use rfl (hKX.2 _ (List.mem_of_getElem? (i := 15) rfl))) (fun _ h9 => h9) rfl dX7_mean_40 ?_
      refine lv_iload_n hx hb dX7_mean_43 rfl (lv_at hl 0 rfl) ?_
      refine lv_i2l hx hb dX7_mean_44 rfl ?_
      refine lv_lmul hx hb dX7_mean_45 ?_
      refine lv_topl (fun x8 hx8 => ?_)
      have hf := z_let_u hx8 hf
      refine lv_lstore_n (lv' := [(3, .long x8), (2, .int x7), (0, .ref (a 0 0)), (1, .int a1)]) hx hb dX7_mean_46 rfl hl (Nat.le_of_ble_eq_true rfl) rfl (fun ls hl => ?_)
      refine lv_iconst (v := 1) hx hb dX7_mean_47 rfl ?_
      refine lv_istore (lv' := [(5, .int 1), (3, .long x8), (2, .int x7), (0, .ref (a 0 0)), (1, .int a1)]) hx hb dX7_mean_48 hl (Nat.le_of_ble_eq_true rfl) rfl (fun ls hl => ?_)
      have hL11 : ∀ (kx14 : Int64 → Option (Int64 × Sh × Fc × Fr)) (hkx14 : ∀ (x15 : Int64), kx14 x15 = some res → ∀ (H : Heap) (locs : List Loc) (ls : Array Slot), va_P D vwCl ((koW ac a ko ++ (txW ac (a 1) tx ++ (shW ac (a 2) now ++ (shW ac (a 3) u3.1 ++ (teW ac (a 4) (a 1) (a 10) te ++ (paW ac a pa ++ (fcW ac (a 6) w5 w6 u3.2 ++ (frW ac (a 7) to ++ (frW ac (a 8) tp ++ (reW ac (a 9) re ++ (shW ac (a 40) k0 ++ (shW ac (a 41) k1 ++ (shW ac (a 10) ti))))))))))))) ++ ringW ac a rg) H → va_D A ((koW ac a ko ++ (txW ac (a 1) tx ++ (shW ac (a 2) now ++ (shW ac (a 3) u3.1 ++ (teW ac (a 4) (a 1) (a 10) te ++ (paW ac a pa ++ (fcW ac (a 6) w5 w6 u3.2 ++ (frW ac (a 7) to ++ (frW ac (a 8) tp ++ (reW ac (a 9) re ++ (shW ac (a 40) k0 ++ (shW ac (a 41) k1 ++ (shW ac (a 10) ti))))))))))))) ++ ringW ac a rg) → va_S A s.heap H locs → lv_has ls 6 [(0, .ref (a 0 0)), (1, .int a1), (2, .int x7), (3, .long x15)] → W p l e ({ frames := 6, cells := 0, slots := 0, locals := 159 } : Room) s m (([.ref (a 0 0), .int a1] : List Value).toArray) below meth c H locs 0 0 (MQ below (va_Ql (fun r (_ : Nat × Nat) => r = res.1) (fun u => zB D A ((koW ac a ko ++ (txW ac (a 1) tx ++ (shW ac (a 2) now ++ (shW ac (a 3) res.2.1 ++ (teW ac (a 4) (a 1) (a 10) te ++ (paW ac a pa ++ (fcW ac (a 6) u.1 u.2 res.2.2.1 ++ (frW ac (a 7) res.2.2.2 ++ (frW ac (a 8) tp ++ (reW ac (a 9) re ++ (shW ac (a 40) k0 ++ (shW ac (a 41) k1 ++ (shW ac (a 10) ti))))))))))))) ++ ringW ac a rg)) A) ([.ref (a 0 0), .int a1] : List Value).toArray s 0 0 A) (F0 m 78 ls [])) (n12 : Nat) (x9 : Int64) (x10 : Int32), K_mean_L50 u3 x7 kx14 n12 x9 x10 = some res → ∀ (H : Heap) (locs : List Loc) (ls : Array Slot), va_P D vwCl ((koW ac a ko ++ (txW ac (a 1) tx ++ (shW ac (a 2) now ++ (shW ac (a 3) u3.1 ++ (teW ac (a 4) (a 1) (a 10) te ++ (paW ac a pa ++ (fcW ac (a 6) w5 w6 u3.2 ++ (frW ac (a 7) to ++ (frW ac (a 8) tp ++ (reW ac (a 9) re ++ (shW ac (a 40) k0 ++ (shW ac (a 41) k1 ++ (shW ac (a 10) ti))))))))))))) ++ ringW ac a rg) H → va_D A ((koW ac a ko ++ (txW ac (a 1) tx ++ (shW ac (a 2) now ++ (shW ac (a 3) u3.1 ++ (teW ac (a 4) (a 1) (a 10) te ++ (paW ac a pa ++ (fcW ac (a 6) w5 w6 u3.2 ++ (frW ac (a 7) to ++ (frW ac (a 8) tp ++ (reW ac (a 9) re ++ (shW ac (a 40) k0 ++ (shW ac (a 41) k1 ++ (shW ac (a 10) ti))))))))))))) ++ ringW ac a rg) → va_S A s.heap H locs → lv_has ls 6 [(0, .ref (a 0 0)), (1, .int a1), (2, .int x7), (3, .long x9), (5, .int x10)] → W p l e ({ frames := 6, cells := 0, slots := 0, locals := 159 } : Room) s m (([.ref (a 0 0), .int a1] : List Value).toArray) below meth c H locs 0 0 (MQ below (va_Ql (fun r (_ : Nat × Nat) => r = res.1) (fun u => zB D A ((koW ac a ko ++ (txW ac (a 1) tx ++ (shW ac (a 2) now ++ (shW ac (a 3) res.2.1 ++ (teW ac (a 4) (a 1) (a 10) te ++ (paW ac a pa ++ (fcW ac (a 6) u.1 u.2 res.2.2.1 ++ (frW ac (a 7) res.2.2.2 ++ (frW ac (a 8) tp ++ (reW ac (a 9) re ++ (shW ac (a 40) k0 ++ (shW ac (a 41) k1 ++ (shW ac (a 10) ti))))))))))))) ++ ringW ac a rg)) A) ([.ref (a 0 0), .int a1] : List Value).toArray s 0 0 A) (F0 m 50 ls []) := by
        intro kx14 hkx14 n12
        induction n12 with
        | zero => intro x9 x10 hf; rw [K_mean_L50] at hf; cases hf
        | succ n12 ih13 =>
          intro x9 x10 hf H locs ls hP hD hS hl
          rw [K_mean_L50] at hf
          refine lv_iload hx hb dX7_mean_50 (lv_at hl 4 rfl) ?_
          refine lv_iload_n hx hb dX7_mean_52 rfl (lv_at hl 2 rfl) ?_
          refine lv_icmp_gt (tgt := 78) hx hb dX7_mean_53 (by decide) (fun c16 => ?_) (fun c16 => ?_)
          · have hf := z_p c16 hf
            exact hkx14 x9 hf _ _ ls  hP hD hS (lv_sub hl [0, 1, 2, 3] rfl)
          · have hf := z_n c16 hf
            refine lv_lload_n hx hb dX7_mean_56 rfl (lv_at hl 3 rfl) ?_
            refine lv_aload_n hx hb dX7_mean_57 rfl (lv_at hl 0 rfl) ?_
            refine va_get (D := D) (ci := 7) (v := .ref (a 6 0)) (C := RX7) (T := TX7) (N := 13) hx hb htw WW_wsX70 hown hKX.1 hP 0 rfl rfl 7 (Nat.le_of_ble_eq_true rfl) (htw _ mF_RX7_51) (fun _ h9 => h9) rfl dX7_mean_58 ?_
            refine lv_iload hx hb dX7_mean_61 (lv_at hl 4 rfl) ?_
            refine zc_RVl (As := [.int x10]) (rest := [.long x9]) hx hb hml hown htw (ctX0_endsAt l D ac cs (a 6) w5 w6 u3.2 x10   _ rfl) (g_V mM_RX7_242 mI_yX0_endsAt mS_RX0_yX0_endsAt_yX0_endsAt mN_RX0 mC_yX0_endsAt) rfl (hd_yX0_endsAt) ⟨rfl, rfl⟩ ⟨(Nat.le_of_ble_eq_true rfl), (Nat.le_of_ble_eq_true rfl)⟩ hKX hC hS (hP.sub [16, 17, 18, 19, 20] rfl) 0 rfl rfl rfl hl.1 rfl (Nat.le_of_ble_eq_true rfl) ⟨Nat.zero_le _, Nat.zero_le _⟩ dX7_mean_63 ?_
            refine lv_iload hx hb dX7_mean_66 (lv_at hl 4 rfl) ?_
            refine lv_i2l hx hb dX7_mean_68 rfl ?_
            refine lv_lmul hx hb dX7_mean_69 ?_
            refine lv_ladd hx hb dX7_mean_70 ?_
            refine lv_topl (fun x17 hx17 => ?_)
            have hf := z_let_u hx17 hf
            refine lv_lstore_n (lv' := [(3, .long x17), (0, .ref (a 0 0)), (1, .int a1), (2, .int x7), (5, .int x10)]) hx hb dX7_mean_71 rfl hl (Nat.le_of_ble_eq_true rfl) rfl (fun ls hl => ?_)
            obtain ⟨x18, hx18⟩ : ∃ y : Int32, y = (x10 + 1) := ⟨_, rfl⟩
            have hf := z_let_u hx18 hf
            refine lv_iinc (v := x18) (lv' := [(5, .int x18), (3, .long x17), (0, .ref (a 0 0)), (1, .int a1), (2, .int x7)]) hx hb dX7_mean_72 hl (k := 4) rfl (by rw [hx18]; rfl) (Nat.le_of_ble_eq_true rfl) rfl (fun ls hl => ?_)
            refine lv_goto (tgt := 50) hx hb dX7_mean_75 (by decide) ?_
            exact ih13 x17 x18 hf _ _ ls  hP hD hS (lv_sub hl [2, 3, 4, 1, 0] rfl)
      refine hL11 _ ?_ F x8 1 hf _ _ ls  hP hD hS (lv_sub hl [3, 4, 2, 1, 0] rfl)
      intro x15 hf H locs ls hP hD hS hl
      refine lv_aload_n hx hb dX7_mean_78 rfl (lv_at hl 0 rfl) ?_
      refine va_get (D := D) (ci := 7) (v := .ref (a 7 0)) (C := RX7) (T := TX7) (N := 13) hx hb htw WW_wsX70 hown hKX.1 hP 0 rfl rfl 8 (Nat.le_of_ble_eq_true rfl) (htw _ mF_RX7_58) (fun _ h9 => h9) rfl dX7_mean_79 ?_
      refine lv_lload_n hx hb dX7_mean_82 rfl (lv_at hl 3 rfl) ?_
      refine lv_iload_n hx hb dX7_mean_83 rfl (lv_at hl 2 rfl) ?_
      refine zc_RSl (As := [.int x7]) (rest := [.long x15, .ref (a 7 0)]) hx hb hml hown htw (ctX7_sixes l D ac cs   x7   _ rfl) (g_S mM_RX7_248 mT_yX7_sixes mN_RX7 mC_yX7_sixes) (hd_yX7_sixes) ⟨rfl, rfl⟩ ⟨(Nat.le_of_ble_eq_true rfl), (Nat.le_of_ble_eq_true rfl)⟩ hKX hC hS zP0 rfl hl.1 rfl (Nat.le_of_ble_eq_true rfl) ⟨Nat.zero_le _, Nat.zero_le _⟩ dX7_mean_84 ?_
      obtain ⟨u19, hu19⟩ : ∃ y : Fr, y = Fr_put x15 (K_sixes x7) := ⟨_, rfl⟩
      have hf := z_let_u hu19 hf
      refine zc_MVvT (As := [.long x15, .long (K_sixes x7)]) (rest := []) (wr := koW ac a ko ++ (txW ac (a 1) tx ++ (shW ac (a 2) now ++ (shW ac (a 3) u3.1 ++ (teW ac (a 4) (a 1) (a 10) te ++ (paW ac a pa ++ (fcW ac (a 6) w5 w6 u3.2 ++ (frW ac (a 8) tp ++ (reW ac (a 9) re ++ (shW ac (a 40) k0 ++ (shW ac (a 41) k1 ++ (shW ac (a 10) ti)))))))))))) (wsc := frW ac (a 7) to) (wsc' := frW ac (a 7) u19) hx hb hml hown htw (ctX1_put l D ac cs (a 7) H.size to x15 (K_sixes x7)   u19 hu19.symm) (g_V mM_RX7_202 mI_yX1_put mS_RX1_yX1_put_yX1_put mN_RX1 mC_yX1_put) rfl (hd_yX1_put) ⟨rfl, rfl⟩ ⟨(Nat.le_of_ble_eq_true rfl), (Nat.le_of_ble_eq_true rfl)⟩ hKX hC hS hA hP hD [21] [0, 1, 2, 3, 4, 5, 6, 7, 8, 9, 10, 11, 12, 13, 14, 15, 16, 17, 18, 19, 20, 22, 23, 24, 25, 26, 27, 28, 29, 30, 31, 32, 33, 34, 35, 36, 37] rfl (by decide) rfl (by decide) (by decide) 1 rfl rfl rfl hl.1 rfl (Nat.le_of_ble_eq_true rfl) ⟨Nat.zero_le _, Nat.zero_le _⟩ dX7_mean_87 (fun H locs hP hD hS => ?_)
      have hP : va_P D vwCl ((koW ac a ko ++ (txW ac (a 1) tx ++ (shW ac (a 2) now ++ (shW ac (a 3) u3.1 ++ (teW ac (a 4) (a 1) (a 10) te ++ (paW ac a pa ++ (fcW ac (a 6) w5 w6 u3.2 ++ (frW ac (a 7) u19 ++ (frW ac (a 8) tp ++ (reW ac (a 9) re ++ (shW ac (a 40) k0 ++ (shW ac (a 41) k1 ++ (shW ac (a 10) ti))))))))))))) ++ ringW ac a rg) H := zsubPT hP [0, 1, 2, 3, 4, 5, 6, 7, 8, 9, 10, 11, 12, 13, 14, 15, 16, 17, 18, 19, 20, 37, 21, 22, 23, 24, 25, 26, 27, 28, 29, 30, 31, 32, 33, 34, 35, 36] rfl
      have hD : va_D A ((koW ac a ko ++ (txW ac (a 1) tx ++ (shW ac (a 2) now ++ (shW ac (a 3) u3.1 ++ (teW ac (a 4) (a 1) (a 10) te ++ (paW ac a pa ++ (fcW ac (a 6) w5 w6 u3.2 ++ (frW ac (a 7) u19 ++ (frW ac (a 8) tp ++ (reW ac (a 9) re ++ (shW ac (a 40) k0 ++ (shW ac (a 41) k1 ++ (shW ac (a 10) ti))))))))))))) ++ ringW ac a rg) := zsubDT hD [0, 1, 2, 3, 4, 5, 6, 7, 8, 9, 10, 11, 12, 13, 14, 15, 16, 17, 18, 19, 20, 37, 21, 22, 23, 24, 25, 26, 27, 28, 29, 30, 31, 32, 33, 34, 35, 36] (by decide) rfl
      refine lv_aload_n hx hb dX7_mean_90 rfl (lv_at hl 0 rfl) ?_
      refine va_get (D := D) (ci := 7) (v := .ref (a 7 0)) (C := RX7) (T := TX7) (N := 13) hx hb htw WW_wsX70 hown hKX.1 hP 0 rfl rfl 8 (Nat.le_of_ble_eq_true rfl) (htw _ mF_RX7_58) (fun _ h9 => h9) rfl dX7_mean_91 ?_
      obtain ⟨u20, hu20, hf⟩ := z_bd_u hf
      refine zc_MVvT (As := []) (rest := []) (wr := koW ac a ko ++ (txW ac (a 1) tx ++ (shW ac (a 2) now ++ (shW ac (a 3) u3.1 ++ (teW ac (a 4) (a 1) (a 10) te ++ (paW ac a pa ++ (fcW ac (a 6) w5 w6 u3.2 ++ (frW ac (a 8) tp ++ (reW ac (a 9) re ++ (shW ac (a 40) k0 ++ (shW ac (a 41) k1 ++ (shW ac (a 10) ti)))))))))))) (wsc := frW ac (a 7) u19) (wsc' := frW ac (a 7) u20) hx hb hml hown htw (ctX1_reduce l D ac cs (a 7) H.size u19    F u20 hu20) (g_V mM_RX7_208 mI_yX1_reduce mS_RX1_yX1_reduce_yX1_reduce mN_RX1 mC_yX1_reduce) rfl (hd_yX1_reduce) ⟨rfl, rfl⟩ ⟨(Nat.le_of_ble_eq_true rfl), (Nat.le_of_ble_eq_true rfl)⟩ hKX hC hS hA hP hD [21] [0, 1, 2, 3, 4, 5, 6, 7, 8, 9, 10, 11, 12, 13, 14, 15, 16, 17, 18, 19, 20, 22, 23, 24, 25, 26, 27, 28, 29, 30, 31, 32, 33, 34, 35, 36, 37] rfl (by decide) rfl (by decide) (by decide) 1 rfl rfl rfl hl.1 rfl (Nat.le_of_ble_eq_true rfl) ⟨Nat.zero_le _, Nat.zero_le _⟩ dX7_mean_94 (fun H locs hP hD hS => ?_)
      have hP : va_P D vwCl ((koW ac a ko ++ (txW ac (a 1) tx ++ (shW ac (a 2) now ++ (shW ac (a 3) u3.1 ++ (teW ac (a 4) (a 1) (a 10) te ++ (paW ac a pa ++ (fcW ac (a 6) w5 w6 u3.2 ++ (frW ac (a 7) u20 ++ (frW ac (a 8) tp ++ (reW ac (a 9) re ++ (shW ac (a 40) k0 ++ (shW ac (a 41) k1 ++ (shW ac (a 10) ti))))))))))))) ++ ringW ac a rg) H := zsubPT hP [0, 1, 2, 3, 4, 5, 6, 7, 8, 9, 10, 11, 12, 13, 14, 15, 16, 17, 18, 19, 20, 37, 21, 22, 23, 24, 25, 26, 27, 28, 29, 30, 31, 32, 33, 34, 35, 36] rfl
      have hD : va_D A ((koW ac a ko ++ (txW ac (a 1) tx ++ (shW ac (a 2) now ++ (shW ac (a 3) u3.1 ++ (teW ac (a 4) (a 1) (a 10) te ++ (paW ac a pa ++ (fcW ac (a 6) w5 w6 u3.2 ++ (frW ac (a 7) u20 ++ (frW ac (a 8) tp ++ (reW ac (a 9) re ++ (shW ac (a 40) k0 ++ (shW ac (a 41) k1 ++ (shW ac (a 10) ti))))))))))))) ++ ringW ac a rg) := zsubDT hD [0, 1, 2, 3, 4, 5, 6, 7, 8, 9, 10, 11, 12, 13, 14, 15, 16, 17, 18, 19, 20, 37, 21, 22, 23, 24, 25, 26, 27, 28, 29, 30, 31, 32, 33, 34, 35, 36] (by decide) rfl
      refine lv_aload_n hx hb dX7_mean_97 rfl (lv_at hl 0 rfl) ?_
      refine va_get (D := D) (ci := 7) (v := .ref (a 7 0)) (C := RX7) (T := TX7) (N := 13) hx hb htw WW_wsX70 hown hKX.1 hP 0 rfl rfl 8 (Nat.le_of_ble_eq_true rfl) (htw _ mF_RX7_58) (fun _ h9 => h9) rfl dX7_mean_98 ?_
      refine lv_iload_n hx hb dX7_mean_101 rfl (lv_at hl 1 rfl) ?_
      refine zc_RVl (As := [.int a1]) (rest := []) hx hb hml hown htw (ctX1_part l D ac cs (a 7) u20 a1   _ rfl) (g_V mM_RX7_211 mI_yX1_part mS_RX1_yX1_part_yX1_part mN_RX1 mC_yX1_part) rfl (hd_yX1_part) ⟨rfl, rfl⟩ ⟨(Nat.le_of_ble_eq_true rfl), (Nat.le_of_ble_eq_true rfl)⟩ hKX hC hS (hP.sub [21] rfl) 1 rfl rfl rfl hl.1 rfl (Nat.le_of_ble_eq_true rfl) ⟨Nat.zero_le _, Nat.zero_le _⟩ dX7_mean_102 ?_
      obtain rfl := Option.some.inj hf
      exact zr_MlX (w5, w6) hx hb hr hlocks hP hD hS dX7_mean_105
    · have hf := z_p c2 hf
      refine lv_ldc2 (v := (-1)) hx hb hown (htw _ mG_RX7_183) dX7_mean_17 ?_
      obtain rfl := Option.some.inj hf
      exact zr_MlX (w1, w2) hx hb hr hlocks hP hD hS dX7_mean_20

theorem hd_yX7_setTrialRow : hdY yX7_setTrialRow 2 := by decide +kernel
def K_setTrialRow_L11 (now : Sh) (a1 : Int32) (a2 : Int32) (x1 : Int32) : Nat → Int32 → Sh → Option (Sh)
  | 0, _, _ => none
  | n5 + 1, x2, sh3 => if x1 ≤ x2 then (some sh3) else (z_let (Sh_setSkill sh3 a1 x2 (Sh_skillOf now a1 (K_digitAt a2 x2 x1))) (fun u8 : Sh => z_let (x2 + 1) (fun x9 : Int32 => K_setTrialRow_L11 now a1 a2 x1 n5 x9 u8)))
def K_setTrialRow (F : Nat) (now : Sh) (tr : Sh) (a1 : Int32) (a2 : Int32) : Option (Sh) := z_let (sh_shooters now) (fun x1 : Int32 => K_setTrialRow_L11 now a1 a2 x1 F 0 tr)
set_option maxHeartbeats 4000000 in
set_option maxRecDepth 100000 in
theorem ctX7_setTrialRow (l : Launch) (D : va_G) (ac cs : Nat → Nat) (a : Nat → Nat → Nat) (w1 w2 : Nat) (sz : Nat) (ko : Ko) (tx : Tx) (now : Sh) (tr : Sh) (te : Te) (pa : Pa) (fc : Fc) (to : Fr) (tp : Fr) (re : Re) (k0 : Sh) (k1 : Sh) (ti : Sh) (rg : Nat → Sh) (a1 : Int32) (a2 : Int32) (F : Nat) (res : Sh) (hf : K_setTrialRow F now tr a1 a2 = some res) : Met l yX7_setTrialRow (cWW yX7_setTrialRow cX7_setTrialRow 5 none) { frames := 2, cells := 0, slots := 0, locals := 43 } (zM D ac cs [.ref (a 0 0), .int a1, .int a2] ((koW ac a ko ++ (txW ac (a 1) tx ++ (shW ac (a 2) now ++ (shW ac (a 3) tr ++ (teW ac (a 4) (a 1) (a 10) te ++ (paW ac a pa ++ (fcW ac (a 6) w1 w2 fc ++ (frW ac (a 7) to ++ (frW ac (a 8) tp ++ (reW ac (a 9) re ++ (shW ac (a 40) k0 ++ (shW ac (a 41) k1 ++ (shW ac (a 10) ti))))))))))))) ++ ringW ac a rg) sz) (va_Qv (fun _ : Unit => True) (fun _ => zB D (va_A ((koW ac a ko ++ (txW ac (a 1) tx ++ (shW ac (a 2) now ++ (shW ac (a 3) tr ++ (teW ac (a 4) (a 1) (a 10) te ++ (paW ac a pa ++ (fcW ac (a 6) w1 w2 fc ++ (frW ac (a 7) to ++ (frW ac (a 8) tp ++ (reW ac (a 9) re ++ (shW ac (a 40) k0 ++ (shW ac (a 41) k1 ++ (shW ac (a 10) ti))))))))))))) ++ ringW ac a rg) sz) ((koW ac a ko ++ (txW ac (a 1) tx ++ (shW ac (a 2) now ++ (shW ac (a 3) res ++ (teW ac (a 4) (a 1) (a 10) te ++ (paW ac a pa ++ (fcW ac (a 6) w1 w2 fc ++ (frW ac (a 7) to ++ (frW ac (a 8) tp ++ (reW ac (a 9) re ++ (shW ac (a 40) k0 ++ (shW ac (a 41) k1 ++ (shW ac (a 10) ti))))))))))))) ++ ringW ac a rg)) (va_A ((koW ac a ko ++ (txW ac (a 1) tx ++ (shW ac (a 2) now ++ (shW ac (a 3) tr ++ (teW ac (a 4) (a 1) (a 10) te ++ (paW ac a pa ++ (fcW ac (a 6) w1 w2 fc ++ (frW ac (a 7) to ++ (frW ac (a 8) tp ++ (reW ac (a 9) re ++ (shW ac (a 40) k0 ++ (shW ac (a 41) k1 ++ (shW ac (a 10) ti))))))))))))) ++ ringW ac a rg) sz)) 0 0 (va_A ((koW ac a ko ++ (txW ac (a 1) tx ++ (shW ac (a 2) now ++ (shW ac (a 3) tr ++ (teW ac (a 4) (a 1) (a 10) te ++ (paW ac a pa ++ (fcW ac (a 6) w1 w2 fc ++ (frW ac (a 7) to ++ (frW ac (a 8) tp ++ (reW ac (a 9) re ++ (shW ac (a 40) k0 ++ (shW ac (a 41) k1 ++ (shW ac (a 10) ti))))))))))))) ++ ringW ac a rg) sz) := by
  refine Met.ofW (cc := cX7_setTrialRow) (maxL := 5) (ret := none) (by decide) rfl ?_
  intro p e s m args below meth c s₁ B hml hv
  obtain ⟨rfl, hsz, hP, hKX, hD0, hC⟩ := hv
  have hx := B.exec
  have hb := B.bytes
  have hr := B.returns
  have hts := atoms_spec (ws := cWW yX7_setTrialRow cX7_setTrialRow 5 none) B.pre
  have htw : ∀ w ∈ WW, w.before _ s = true := fun w h => hts w (List.mem_cons_of_mem _ h)
  have hown : s.vm.findClass RX7 = some m.cls := findClass_of_methodNamed B.named
  have hlocks := B.notSynchronized
  clear hts B
  subst hsz
  have hD := hD0.self (sz := s.heap.size)
  generalize hAe : va_A ((koW ac a ko ++ (txW ac (a 1) tx ++ (shW ac (a 2) now ++ (shW ac (a 3) tr ++ (teW ac (a 4) (a 1) (a 10) te ++ (paW ac a pa ++ (fcW ac (a 6) w1 w2 fc ++ (frW ac (a 7) to ++ (frW ac (a 8) tp ++ (reW ac (a 9) re ++ (shW ac (a 40) k0 ++ (shW ac (a 41) k1 ++ (shW ac (a 10) ti))))))))))))) ++ ringW ac a rg) s.heap.size = A at hD hC ⊢
  have hA : ∀ q : Nat, s.heap.size ≤ q → A q := fun q h => by rw [← hAe]; exact Or.inr h
  have hS : va_S A s.heap s.heap [] := va_S.rf
  clear hD0 hAe
  have hP : va_P D vwCl ((koW ac a ko ++ (txW ac (a 1) tx ++ (shW ac (a 2) now ++ (shW ac (a 3) tr ++ (teW ac (a 4) (a 1) (a 10) te ++ (paW ac a pa ++ (fcW ac (a 6) w1 w2 fc ++ (frW ac (a 7) to ++ (frW ac (a 8) tp ++ (reW ac (a 9) re ++ (shW ac (a 40) k0 ++ (shW ac (a 41) k1 ++ (shW ac (a 10) ti))))))))))))) ++ ringW ac a rg) s.heap := hP
  have hl := lv_entry ([.ref (a 0 0), .int a1, .int a2]) (n := 5) (Nat.le_of_ble_eq_true rfl)
  rw [lg_entry_eq]
  generalize (lg_sl ([.ref (a 0 0), .int a1, .int a2]) ++ List.replicate (5 - (lg_sl ([.ref (a 0 0), .int a1, .int a2])).length) Slot.unset).toArray = ls at hl ⊢
  have hl : lv_has ls 5 [(0, .ref (a 0 0)), (1, .int a1), (2, .int a2)] := hl
  unfold K_setTrialRow at hf
  show W p l e ({ frames := 2, cells := 0, slots := 0, locals := 43 } : Room) s m _ below meth c s.heap [] 0 0 _ (F0 m 0 ls [])
  refine lv_aload_n hx hb dX7_setTrialRow_0 rfl (lv_at hl 0 rfl) ?_
  refine va_get (D := D) (ci := 7) (v := .ref (a 2 0)) (C := RX7) (T := TX7) (N := 13) hx hb htw WW_wsX70 hown hKX.1 hP 0 rfl rfl 2 (Nat.le_of_ble_eq_true rfl) (htw _ mF_RX7_26) (fun _ h9 => h9) rfl dX7_setTrialRow_1 ?_
  refine va_getN (D := D) (ci := 4) (v := .int (sh_shooters now)) (C := RX4) (T := TX4) (N := 10) hx hb htw WW_wsX40 hown hKX.1 hP 6 rfl rfl 0 (Nat.le_of_ble_eq_true rfl) (va_Nw.use rfl (hKX.2 _ (List.mem_of_getElem? (i := 3) rfl))) (fun _ h9 => h9) rfl dX7_setTrialRow_4 ?_
  refine lv_topi (fun x1 hx1 => ?_)
  have hf := z_let_u hx1 hf
  refine lv_istore_n (lv' := [(3, .int x1), (0, .ref (a 0 0)), (1, .int a1), (2, .int a2)]) hx hb dX7_setTrialRow_7 rfl hl (Nat.le_of_ble_eq_true rfl) rfl (fun ls hl => ?_)
  refine lv_iconst (v := 0) hx hb dX7_setTrialRow_8 rfl ?_
  refine lv_istore (lv' := [(4, .int 0), (3, .int x1), (0, .ref (a 0 0)), (1, .int a1), (2, .int a2)]) hx hb dX7_setTrialRow_9 hl (Nat.le_of_ble_eq_true rfl) rfl (fun ls hl => ?_)
  have hL4 : ∀ (n5 : Nat) (x2 : Int32) (sh3 : Sh), K_setTrialRow_L11 now a1 a2 x1 n5 x2 sh3 = some res → ∀ (H : Heap) (locs : List Loc) (ls : Array Slot), va_P D vwCl ((koW ac a ko ++ (txW ac (a 1) tx ++ (shW ac (a 2) now ++ (shW ac (a 3) sh3 ++ (teW ac (a 4) (a 1) (a 10) te ++ (paW ac a pa ++ (fcW ac (a 6) w1 w2 fc ++ (frW ac (a 7) to ++ (frW ac (a 8) tp ++ (reW ac (a 9) re ++ (shW ac (a 40) k0 ++ (shW ac (a 41) k1 ++ (shW ac (a 10) ti))))))))))))) ++ ringW ac a rg) H → va_D A ((koW ac a ko ++ (txW ac (a 1) tx ++ (shW ac (a 2) now ++ (shW ac (a 3) sh3 ++ (teW ac (a 4) (a 1) (a 10) te ++ (paW ac a pa ++ (fcW ac (a 6) w1 w2 fc ++ (frW ac (a 7) to ++ (frW ac (a 8) tp ++ (reW ac (a 9) re ++ (shW ac (a 40) k0 ++ (shW ac (a 41) k1 ++ (shW ac (a 10) ti))))))))))))) ++ ringW ac a rg) → va_S A s.heap H locs → lv_has ls 5 [(0, .ref (a 0 0)), (1, .int a1), (2, .int a2), (3, .int x1), (4, .int x2)] → W p l e ({ frames := 2, cells := 0, slots := 0, locals := 43 } : Room) s m (([.ref (a 0 0), .int a1, .int a2] : List Value).toArray) below meth c H locs 0 0 (MQ below (va_Qv (fun _ : Unit => True) (fun _ => zB D A ((koW ac a ko ++ (txW ac (a 1) tx ++ (shW ac (a 2) now ++ (shW ac (a 3) res ++ (teW ac (a 4) (a 1) (a 10) te ++ (paW ac a pa ++ (fcW ac (a 6) w1 w2 fc ++ (frW ac (a 7) to ++ (frW ac (a 8) tp ++ (reW ac (a 9) re ++ (shW ac (a 40) k0 ++ (shW ac (a 41) k1 ++ (shW ac (a 10) ti))))))))))))) ++ ringW ac a rg)) A) ([.ref (a 0 0), .int a1, .int a2] : List Value).toArray s 0 0 A) (F0 m 11 ls []) := by
    intro n5
    induction n5 with
    | zero => intro x2 sh3 hf; rw [K_setTrialRow_L11] at hf; cases hf
    | succ n5 ih6 =>
      intro x2 sh3 hf H locs ls hP hD hS hl
      rw [K_setTrialRow_L11] at hf
      refine lv_iload hx hb dX7_setTrialRow_11 (lv_at hl 4 rfl) ?_
      refine lv_iload_n hx hb dX7_setTrialRow_13 rfl (lv_at hl 3 rfl) ?_
      refine lv_icmp_ge (tgt := 48) hx hb dX7_setTrialRow_14 (by decide) (fun c7 => ?_) (fun c7 => ?_)
      · have hf := z_p c7 hf
        obtain rfl := Option.some.inj hf
        exact zr_Mv hx hb hr hlocks hP hD hS dX7_setTrialRow_48
      · have hf := z_n c7 hf
        refine lv_aload_n hx hb dX7_setTrialRow_17 rfl (lv_at hl 0 rfl) ?_
        refine va_get (D := D) (ci := 7) (v := .ref (a 3 0)) (C := RX7) (T := TX7) (N := 13) hx hb htw WW_wsX70 hown hKX.1 hP 0 rfl rfl 3 (Nat.le_of_ble_eq_true rfl) (htw _ mF_RX7_30) (fun _ h9 => h9) rfl dX7_setTrialRow_18 ?_
        refine lv_iload_n hx hb dX7_setTrialRow_21 rfl (lv_at hl 1 rfl) ?_
        refine lv_iload hx hb dX7_setTrialRow_22 (lv_at hl 4 rfl) ?_
        refine lv_aload_n hx hb dX7_setTrialRow_24 rfl (lv_at hl 0 rfl) ?_
        refine va_get (D := D) (ci := 7) (v := .ref (a 2 0)) (C := RX7) (T := TX7) (N := 13) hx hb htw WW_wsX70 hown hKX.1 hP 0 rfl rfl 2 (Nat.le_of_ble_eq_true rfl) (htw _ mF_RX7_26) (fun _ h9 => h9) rfl dX7_setTrialRow_25 ?_
        refine lv_iload_n hx hb dX7_setTrialRow_28 rfl (lv_at hl 1 rfl) ?_
        refine lv_iload_n hx hb dX7_setTrialRow_29 rfl (lv_at hl 2 rfl) ?_
        refine lv_iload hx hb dX7_setTrialRow_30 (lv_at hl 4 rfl) ?_
        refine lv_iload_n hx hb dX7_setTrialRow_32 rfl (lv_at hl 3 rfl) ?_
        refine zc_RSi (As := [.int a2, .int x2, .int x1]) (rest := [.int a1, .ref (a 2 0), .int x2, .int a1, .ref (a 3 0)]) hx hb hml hown htw (ctX7_digitAt l D ac cs   a2 x2 x1   _ rfl) (g_S mM_RX7_361 mT_yX7_digitAt mN_RX7 mC_yX7_digitAt) (hd_yX7_digitAt) ⟨rfl, rfl⟩ ⟨(Nat.le_of_ble_eq_true rfl), (Nat.le_of_ble_eq_true rfl)⟩ hKX hC hS zP0 rfl hl.1 rfl (Nat.le_of_ble_eq_true rfl) ⟨Nat.zero_le _, Nat.zero_le _⟩ dX7_setTrialRow_33 ?_
        refine zc_RVi (As := [.int a1, .int (K_digitAt a2 x2 x1)]) (rest := [.int x2, .int a1, .ref (a 3 0)]) hx hb hml hown htw (ctX4_skillOf l D ac cs (a 2) now a1 (K_digitAt a2 x2 x1)   _ rfl) (g_V mM_RX7_122 mI_yX4_skillOf mS_RX4_yX4_skillOf_yX4_skillOf mN_RX4 mC_yX4_skillOf) rfl (hd_yX4_skillOf) ⟨rfl, rfl⟩ ⟨(Nat.le_of_ble_eq_true rfl), (Nat.le_of_ble_eq_true rfl)⟩ hKX hC hS (hP.sub [6, 7, 8] rfl) 4 rfl rfl rfl hl.1 rfl (Nat.le_of_ble_eq_true rfl) ⟨Nat.zero_le _, Nat.zero_le _⟩ dX7_setTrialRow_36 ?_
        obtain ⟨u8, hu8⟩ : ∃ y : Sh, y = Sh_setSkill sh3 a1 x2 (Sh_skillOf now a1 (K_digitAt a2 x2 x1)) := ⟨_, rfl⟩
        have hf := z_let_u hu8 hf
        refine zc_MVvT (As := [.int a1, .int x2, .int (Sh_skillOf now a1 (K_digitAt a2 x2 x1))]) (rest := []) (wr := koW ac a ko ++ (txW ac (a 1) tx ++ (shW ac (a 2) now ++ (teW ac (a 4) (a 1) (a 10) te ++ (paW ac a pa ++ (fcW ac (a 6) w1 w2 fc ++ (frW ac (a 7) to ++ (frW ac (a 8) tp ++ (reW ac (a 9) re ++ (shW ac (a 40) k0 ++ (shW ac (a 41) k1 ++ (shW ac (a 10) ti)))))))))))) (wsc := shW ac (a 3) sh3) (wsc' := shW ac (a 3) u8) hx hb hml hown htw (ctX4_setSkill l D ac cs (a 3) H.size sh3 a1 x2 (Sh_skillOf now a1 (K_digitAt a2 x2 x1))   u8 hu8.symm) (g_V mM_RX7_155 mI_yX4_setSkill mS_RX4_yX4_setSkill_yX4_setSkill mN_RX4 mC_yX4_setSkill) rfl (hd_yX4_setSkill) ⟨rfl, rfl⟩ ⟨(Nat.le_of_ble_eq_true rfl), (Nat.le_of_ble_eq_true rfl)⟩ hKX hC hS hA hP hD [9, 10, 11] [0, 1, 2, 3, 4, 5, 6, 7, 8, 12, 13, 14, 15, 16, 17, 18, 19, 20, 21, 22, 23, 24, 25, 26, 27, 28, 29, 30, 31, 32, 33, 34, 35, 36, 37] rfl (by decide) rfl (by decide) (by decide) 4 rfl rfl rfl hl.1 rfl (Nat.le_of_ble_eq_true rfl) ⟨Nat.zero_le _, Nat.zero_le _⟩ dX7_setTrialRow_39 (fun H locs hP hD hS => ?_)
        have hP : va_P D vwCl ((koW ac a ko ++ (txW ac (a 1) tx ++ (shW ac (a 2) now ++ (shW ac (a 3) u8 ++ (teW ac (a 4) (a 1) (a 10) te ++ (paW ac a pa ++ (fcW ac (a 6) w1 w2 fc ++ (frW ac (a 7) to ++ (frW ac (a 8) tp ++ (reW ac (a 9) re ++ (shW ac (a 40) k0 ++ (shW ac (a 41) k1 ++ (shW ac (a 10) ti))))))))))))) ++ ringW ac a rg) H := zsubPT hP [0, 1, 2, 3, 4, 5, 6, 7, 8, 35, 36, 37, 9, 10, 11, 12, 13, 14, 15, 16, 17, 18, 19, 20, 21, 22, 23, 24, 25, 26, 27, 28, 29, 30, 31, 32, 33, 34] rfl
        have hD : va_D A ((koW ac a ko ++ (txW ac (a 1) tx ++ (shW ac (a 2) now ++ (shW ac (a 3) u8 ++ (teW ac (a 4) (a 1) (a 10) te ++ (paW ac a pa ++ (fcW ac (a 6) w1 w2 fc ++ (frW ac (a 7) to ++ (frW ac (a 8) tp ++ (reW ac (a 9) re ++ (shW ac (a 40) k0 ++ (shW ac (a 41) k1 ++ (shW ac (a 10) ti))))))))))))) ++ ringW ac a rg) := zsubDT hD [0, 1, 2, 3, 4, 5, 6, 7, 8, 35, 36, 37, 9, 10, 11, 12, 13, 14, 15, 16, 17, 18, 19, 20, 21, 22, 23, 24, 25, 26, 27, 28, 29, 30, 31, 32, 33, 34] (by decide) rfl
        obtain ⟨x9, hx9⟩ : ∃ y : Int32, y = (x2 + 1) := ⟨_, rfl⟩
        have hf := z_let_u hx9 hf
        refine lv_iinc (v := x9) (lv' := [(4, .int x9), (0, .ref (a 0 0)), (1, .int a1), (2, .int a2), (3, .int x1)]) hx hb dX7_setTrialRow_42 hl (k := 4) rfl (by rw [hx9]; rfl) (Nat.le_of_ble_eq_true rfl) rfl (fun ls hl => ?_)
        refine lv_goto (tgt := 11) hx hb dX7_setTrialRow_45 (by decide) ?_
        exact ih6 x9 u8 hf _ _ ls  hP hD hS (lv_sub hl [1, 2, 3, 4, 0] rfl)
  refine hL4  F 0 tr hf _ _ ls  hP hD hS (lv_sub hl [2, 3, 4, 1, 0] rfl)

theorem hd_yX7_oddsOf : hdY yX7_oddsOf 3 := by decide +kernel
def K_oddsOf (F : Nat) (now : Sh) (tr : Sh) (fc : Fc) (to : Fr) (a1 : Int32) (a2 : Int32) (a3 : Int32) : Option (Int64 × Sh × Fc × Fr) := if K_isSideTold now a1 = 0 then (some ((-1), tr, fc, to)) else (if K_isPart a3 = 0 then (some ((-1), tr, fc, to)) else (z_bd (K_isRow F a2 (sh_shooters now)) (fun r3 : Int32 => if r3 = 0 then (some ((-1), tr, fc, to)) else (z_bd (K_takeStart F now tr) (fun u5 : Sh => z_bd (K_setTrialRow F now u5 a1 a2) (fun u6 : Sh => z_bd (Fc_look F fc u6) (fun u7 : Fc => z_bd (K_tellOdds F u7 a1 a3) (fun u11 : Int64 × Fr => some (u11.1, u6, u7, u11.2)))))))))
set_option maxHeartbeats 4000000 in
set_option maxRecDepth 100000 in
theorem ctX7_oddsOf (l : Launch) (D : va_G) (ac cs : Nat → Nat) (a : Nat → Nat → Nat) (w1 w2 : Nat) (sz : Nat) (ko : Ko) (tx : Tx) (now : Sh) (tr : Sh) (te : Te) (pa : Pa) (fc : Fc) (to : Fr) (tp : Fr) (re : Re) (k0 : Sh) (k1 : Sh) (ti : Sh) (rg : Nat → Sh) (a1 : Int32) (a2 : Int32) (a3 : Int32) (F : Nat) (res : Int64 × Sh × Fc × Fr) (hf : K_oddsOf F now tr fc to a1 a2 a3 = some res) : Met l yX7_oddsOf (cWW yX7_oddsOf cX7_oddsOf 4 (some .long)) { frames := 7, cells := 0, slots := 0, locals := 159 } (zM D ac cs [.ref (a 0 0), .int a1, .int a2, .int a3] ((koW ac a ko ++ (txW ac (a 1) tx ++ (shW ac (a 2) now ++ (shW ac (a 3) tr ++ (teW ac (a 4) (a 1) (a 10) te ++ (paW ac a pa ++ (fcW ac (a 6) w1 w2 fc ++ (frW ac (a 7) to ++ (frW ac (a 8) tp ++ (reW ac (a 9) re ++ (shW ac (a 40) k0 ++ (shW ac (a 41) k1 ++ (shW ac (a 10) ti))))))))))))) ++ ringW ac a rg) sz) (va_Ql (fun r (_ : Nat × Nat) => r = res.1) (fun u => zB D (va_A ((koW ac a ko ++ (txW ac (a 1) tx ++ (shW ac (a 2) now ++ (shW ac (a 3) tr ++ (teW ac (a 4) (a 1) (a 10) te ++ (paW ac a pa ++ (fcW ac (a 6) w1 w2 fc ++ (frW ac (a 7) to ++ (frW ac (a 8) tp ++ (reW ac (a 9) re ++ (shW ac (a 40) k0 ++ (shW ac (a 41) k1 ++ (shW ac (a 10) ti))))))))))))) ++ ringW ac a rg) sz) ((koW ac a ko ++ (txW ac (a 1) tx ++ (shW ac (a 2) now ++ (shW ac (a 3) res.2.1 ++ (teW ac (a 4) (a 1) (a 10) te ++ (paW ac a pa ++ (fcW ac (a 6) u.1 u.2 res.2.2.1 ++ (frW ac (a 7) res.2.2.2 ++ (frW ac (a 8) tp ++ (reW ac (a 9) re ++ (shW ac (a 40) k0 ++ (shW ac (a 41) k1 ++ (shW ac (a 10) ti))))))))))))) ++ ringW ac a rg)) (va_A ((koW ac a ko ++ (txW ac (a 1) tx ++ (shW ac (a 2) now ++ (shW ac (a 3) tr ++ (teW ac (a 4) (a 1) (a 10) te ++ (paW ac a pa ++ (fcW ac (a 6) w1 w2 fc ++ (frW ac (a 7) to ++ (frW ac (a 8) tp ++ (reW ac (a 9) re ++ (shW ac (a 40) k0 ++ (shW ac (a 41) k1 ++ (shW ac (a 10) ti))))))))))))) ++ ringW ac a rg) sz)) 0 0 (va_A ((koW ac a ko ++ (txW ac (a 1) tx ++ (shW ac (a 2) now ++ (shW ac (a 3) tr ++ (teW ac (a 4) (a 1) (a 10) te ++ (paW ac a pa ++ (fcW ac (a 6) w1 w2 fc ++ (frW ac (a 7) to ++ (frW ac (a 8) tp ++ (reW ac (a 9) re ++ (shW ac (a 40) k0 ++ (shW ac (a 41) k1 ++ (shW ac (a 10) ti))))))))))))) ++ ringW ac a rg) sz) := by
  refine Met.ofW (cc := cX7_oddsOf) (maxL := 4) (ret := (some .long)) (by decide) rfl ?_
  intro p e s m args below meth c s₁ B hml hv
  obtain ⟨rfl, hsz, hP, hKX, hD0, hC⟩ := hv
  have hx := B.exec
  have hb := B.bytes
  have hr := B.returns
  have hts := atoms_spec (ws := cWW yX7_oddsOf cX7_oddsOf 4 (some .long)) B.pre
  have htw : ∀ w ∈ WW, w.before _ s = true := fun w h => hts w (List.mem_cons_of_mem _ h)
  have hown : s.vm.findClass RX7 = some m.cls := findClass_of_methodNamed B.named
  have hlocks := B.notSynchronized
  clear hts B
  subst hsz
  have hD := hD0.self (sz := s.heap.size)
  generalize hAe : va_A ((koW ac a ko ++ (txW ac (a 1) tx ++ (shW ac (a 2) now ++ (shW ac (a 3) tr ++ (teW ac (a 4) (a 1) (a 10) te ++ (paW ac a pa ++ (fcW ac (a 6) w1 w2 fc ++ (frW ac (a 7) to ++ (frW ac (a 8) tp ++ (reW ac (a 9) re ++ (shW ac (a 40) k0 ++ (shW ac (a 41) k1 ++ (shW ac (a 10) ti))))))))))))) ++ ringW ac a rg) s.heap.size = A at hD hC ⊢
  have hA : ∀ q : Nat, s.heap.size ≤ q → A q := fun q h => by rw [← hAe]; exact Or.inr h
  have hS : va_S A s.heap s.heap [] := va_S.rf
  clear hD0 hAe
  have hP : va_P D vwCl ((koW ac a ko ++ (txW ac (a 1) tx ++ (shW ac (a 2) now ++ (shW ac (a 3) tr ++ (teW ac (a 4) (a 1) (a 10) te ++ (paW ac a pa ++ (fcW ac (a 6) w1 w2 fc ++ (frW ac (a 7) to ++ (frW ac (a 8) tp ++ (reW ac (a 9) re ++ (shW ac (a 40) k0 ++ (shW ac (a 41) k1 ++ (shW ac (a 10) ti))))))))))))) ++ ringW ac a rg) s.heap := hP
  have hl := lv_entry ([.ref (a 0 0), .int a1, .int a2, .int a3]) (n := 4) (Nat.le_of_ble_eq_true rfl)
  rw [lg_entry_eq]
  generalize (lg_sl ([.ref (a 0 0), .int a1, .int a2, .int a3]) ++ List.replicate (4 - (lg_sl ([.ref (a 0 0), .int a1, .int a2, .int a3])).length) Slot.unset).toArray = ls at hl ⊢
  have hl : lv_has ls 4 [(0, .ref (a 0 0)), (1, .int a1), (2, .int a2), (3, .int a3)] := hl
  unfold K_oddsOf at hf
  show W p l e ({ frames := 7, cells := 0, slots := 0, locals := 159 } : Room) s m _ below meth c s.heap [] 0 0 _ (F0 m 0 ls [])
  refine lv_aload_n hx hb dX7_oddsOf_0 rfl (lv_at hl 0 rfl) ?_
  refine lv_iload_n hx hb dX7_oddsOf_1 rfl (lv_at hl 1 rfl) ?_
  refine zc_RVi (As := [.int a1]) (rest := []) hx hb hml hown htw (ctX7_isSideTold l D ac cs a w1 w2 ko tx now tr te pa fc to tp re k0 k1 ti rg a1   _ rfl) (g_V mM_RX7_107 mI_yX7_isSideTold mS_RX7_yX7_isSideTold_yX7_isSideTold mN_RX7 mC_yX7_isSideTold) rfl (hd_yX7_isSideTold) ⟨rfl, rfl⟩ ⟨(Nat.le_of_ble_eq_true rfl), (Nat.le_of_ble_eq_true rfl)⟩ hKX hC hS hP 7 rfl rfl rfl hl.1 rfl (Nat.le_of_ble_eq_true rfl) ⟨Nat.zero_le _, Nat.zero_le _⟩ dX7_oddsOf_2 ?_
  refine lv_if_eq (tgt := 29) hx hb dX7_oddsOf_5 (by decide) (fun c1 => ?_) (fun c1 => ?_)
  · have hf := z_p c1 hf
    refine lv_ldc2 (v := (-1)) hx hb hown (htw _ mG_RX7_183) dX7_oddsOf_29 ?_
    obtain rfl := Option.some.inj hf
    exact zr_MlX (w1, w2) hx hb hr hlocks hP hD hS dX7_oddsOf_32
  · have hf := z_n c1 hf
    refine lv_iload_n hx hb dX7_oddsOf_8 rfl (lv_at hl 3 rfl) ?_
    refine zc_RSi (As := [.int a3]) (rest := []) hx hb hml hown htw (ctX7_isPart l D ac cs   a3   _ rfl) (g_S mM_RX7_180 mT_yX7_isPart mN_RX7 mC_yX7_isPart) (hd_yX7_isPart) ⟨rfl, rfl⟩ ⟨(Nat.le_of_ble_eq_true rfl), (Nat.le_of_ble_eq_true rfl)⟩ hKX hC hS zP0 rfl hl.1 rfl (Nat.le_of_ble_eq_true rfl) ⟨Nat.zero_le _, Nat.zero_le _⟩ dX7_oddsOf_9 ?_
    refine lv_if_eq (tgt := 29) hx hb dX7_oddsOf_12 (by decide) (fun c2 => ?_) (fun c2 => ?_)
    · have hf := z_p c2 hf
      refine lv_ldc2 (v := (-1)) hx hb hown (htw _ mG_RX7_183) dX7_oddsOf_29 ?_
      obtain rfl := Option.some.inj hf
      exact zr_MlX (w1, w2) hx hb hr hlocks hP hD hS dX7_oddsOf_32
    · have hf := z_n c2 hf
      refine lv_iload_n hx hb dX7_oddsOf_15 rfl (lv_at hl 2 rfl) ?_
      refine lv_aload_n hx hb dX7_oddsOf_16 rfl (lv_at hl 0 rfl) ?_
      refine va_get (D := D) (ci := 7) (v := .ref (a 2 0)) (C := RX7) (T := TX7) (N := 13) hx hb htw WW_wsX70 hown hKX.1 hP 0 rfl rfl 2 (Nat.le_of_ble_eq_true rfl) (htw _ mF_RX7_26) (fun _ h9 => h9) rfl dX7_oddsOf_17 ?_
      refine va_getN (D := D) (ci := 4) (v := .int (sh_shooters now)) (C := RX4) (T := TX4) (N := 10) hx hb htw WW_wsX40 hown hKX.1 hP 6 rfl rfl 0 (Nat.le_of_ble_eq_true rfl) (va_Nw.use rfl (hKX.2 _ (List.mem_of_getElem? (i := 3) rfl))) (fun _ h9 => h9) rfl dX7_oddsOf_20 ?_
      obtain ⟨r3, hr3, hf⟩ := z_bd_u hf
      refine zc_RSi (As := [.int a2, .int (sh_shooters now)]) (rest := []) hx hb hml hown htw (ctX7_isRow l D ac cs   a2 (sh_shooters now)   F _ hr3) (g_S mM_RX7_251 mT_yX7_isRow mN_RX7 mC_yX7_isRow) (hd_yX7_isRow) ⟨rfl, rfl⟩ ⟨(Nat.le_of_ble_eq_true rfl), (Nat.le_of_ble_eq_true rfl)⟩ hKX hC hS zP0 rfl hl.1 rfl (Nat.le_of_ble_eq_true rfl) ⟨Nat.zero_le _, Nat.zero_le _⟩ dX7_oddsOf_23 ?_
      refine lv_if_ne (tgt := 33) hx hb dX7_oddsOf_26 (by decide) (fun c4 => ?_) (fun c4 => ?_)
      · have hf := z_n c4 hf
        refine lv_aload_n hx hb dX7_oddsOf_33 rfl (lv_at hl 0 rfl) ?_
        obtain ⟨u5, hu5, hf⟩ := z_bd_u hf
        refine zc_MVvT (E := (koW ac a ko ++ (txW ac (a 1) tx ++ (shW ac (a 2) now ++ (shW ac (a 3) tr ++ (teW ac (a 4) (a 1) (a 10) te ++ (paW ac a pa ++ (fcW ac (a 6) w1 w2 fc ++ (frW ac (a 7) to ++ (frW ac (a 8) tp ++ (reW ac (a 9) re ++ (shW ac (a 40) k0 ++ (shW ac (a 41) k1 ++ (shW ac (a 10) ti))))))))))))) ++ ringW ac a rg) (TT := []) (As := []) (rest := []) (wr := []) (wsc := (koW ac a ko ++ (txW ac (a 1) tx ++ (shW ac (a 2) now ++ (shW ac (a 3) tr ++ (teW ac (a 4) (a 1) (a 10) te ++ (paW ac a pa ++ (fcW ac (a 6) w1 w2 fc ++ (frW ac (a 7) to ++ (frW ac (a 8) tp ++ (reW ac (a 9) re ++ (shW ac (a 40) k0 ++ (shW ac (a 41) k1 ++ (shW ac (a 10) ti))))))))))))) ++ ringW ac a rg) (wsc' := (koW ac a ko ++ (txW ac (a 1) tx ++ (shW ac (a 2) now ++ (shW ac (a 3) u5 ++ (teW ac (a 4) (a 1) (a 10) te ++ (paW ac a pa ++ (fcW ac (a 6) w1 w2 fc ++ (frW ac (a 7) to ++ (frW ac (a 8) tp ++ (reW ac (a 9) re ++ (shW ac (a 40) k0 ++ (shW ac (a 41) k1 ++ (shW ac (a 10) ti))))))))))))) ++ ringW ac a rg) hx hb hml hown htw (ctX7_takeStart l D ac cs a w1 w2 s.heap.size ko tx now tr te pa fc to tp re k0 k1 ti rg    F u5 hu5) (g_V mM_RX7_255 mI_yX7_takeStart mS_RX7_yX7_takeStart_yX7_takeStart mN_RX7 mC_yX7_takeStart) rfl (hd_yX7_takeStart) ⟨rfl, rfl⟩ ⟨(Nat.le_of_ble_eq_true rfl), (Nat.le_of_ble_eq_true rfl)⟩ hKX hC hS hA (zP_nil hP) (zD_nil hD) (List.range _) [] (zrange _) (zndr _) rfl rfl (fun _ h => by cases h) 7 rfl rfl rfl hl.1 rfl (Nat.le_of_ble_eq_true rfl) ⟨Nat.zero_le _, Nat.zero_le _⟩ dX7_oddsOf_34 (fun H locs hP hD hS => ?_)
        have hP : va_P D vwCl ((koW ac a ko ++ (txW ac (a 1) tx ++ (shW ac (a 2) now ++ (shW ac (a 3) u5 ++ (teW ac (a 4) (a 1) (a 10) te ++ (paW ac a pa ++ (fcW ac (a 6) w1 w2 fc ++ (frW ac (a 7) to ++ (frW ac (a 8) tp ++ (reW ac (a 9) re ++ (shW ac (a 40) k0 ++ (shW ac (a 41) k1 ++ (shW ac (a 10) ti))))))))))))) ++ ringW ac a rg) H := zP_un hP
        have hD : va_D A ((koW ac a ko ++ (txW ac (a 1) tx ++ (shW ac (a 2) now ++ (shW ac (a 3) u5 ++ (teW ac (a 4) (a 1) (a 10) te ++ (paW ac a pa ++ (fcW ac (a 6) w1 w2 fc ++ (frW ac (a 7) to ++ (frW ac (a 8) tp ++ (reW ac (a 9) re ++ (shW ac (a 40) k0 ++ (shW ac (a 41) k1 ++ (shW ac (a 10) ti))))))))))))) ++ ringW ac a rg) := zD_un hD
        refine lv_aload_n hx hb dX7_oddsOf_37 rfl (lv_at hl 0 rfl) ?_
        refine lv_iload_n hx hb dX7_oddsOf_38 rfl (lv_at hl 1 rfl) ?_
        refine lv_iload_n hx hb dX7_oddsOf_39 rfl (lv_at hl 2 rfl) ?_
        obtain ⟨u6, hu6, hf⟩ := z_bd_u hf
        refine zc_MVvT (E := (koW ac a ko ++ (txW ac (a 1) tx ++ (shW ac (a 2) now ++ (shW ac (a 3) u5 ++ (teW ac (a 4) (a 1) (a 10) te ++ (paW ac a pa ++ (fcW ac (a 6) w1 w2 fc ++ (frW ac (a 7) to ++ (frW ac (a 8) tp ++ (reW ac (a 9) re ++ (shW ac (a 40) k0 ++ (shW ac (a 41) k1 ++ (shW ac (a 10) ti))))))))))))) ++ ringW ac a rg) (TT := []) (As := [.int a1, .int a2]) (rest := []) (wr := []) (wsc := (koW ac a ko ++ (txW ac (a 1) tx ++ (shW ac (a 2) now ++ (shW ac (a 3) u5 ++ (teW ac (a 4) (a 1) (a 10) te ++ (paW ac a pa ++ (fcW ac (a 6) w1 w2 fc ++ (frW ac (a 7) to ++ (frW ac (a 8) tp ++ (reW ac (a 9) re ++ (shW ac (a 40) k0 ++ (shW ac (a 41) k1 ++ (shW ac (a 10) ti))))))))))))) ++ ringW ac a rg) (wsc' := (koW ac a ko ++ (txW ac (a 1) tx ++ (shW ac (a 2) now ++ (shW ac (a 3) u6 ++ (teW ac (a 4) (a 1) (a 10) te ++ (paW ac a pa ++ (fcW ac (a 6) w1 w2 fc ++ (frW ac (a 7) to ++ (frW ac (a 8) tp ++ (reW ac (a 9) re ++ (shW ac (a 40) k0 ++ (shW ac (a 41) k1 ++ (shW ac (a 10) ti))))))))))))) ++ ringW ac a rg) hx hb hml hown htw (ctX7_setTrialRow l D ac cs a w1 w2 H.size ko tx now u5 te pa fc to tp re k0 k1 ti rg a1 a2   F u6 hu6) (g_V mM_RX7_258 mI_yX7_setTrialRow mS_RX7_yX7_setTrialRow_yX7_setTrialRow mN_RX7 mC_yX7_setTrialRow) rfl (hd_yX7_setTrialRow) ⟨rfl, rfl⟩ ⟨(Nat.le_of_ble_eq_true rfl), (Nat.le_of_ble_eq_true rfl)⟩ hKX hC hS hA (zP_nil hP) (zD_nil hD) (List.range _) [] (zrange _) (zndr _) rfl rfl (fun _ h => by cases h) 7 rfl rfl rfl hl.1 rfl (Nat.le_of_ble_eq_true rfl) ⟨Nat.zero_le _, Nat.zero_le _⟩ dX7_oddsOf_40 (fun H locs hP hD hS => ?_)
        have hP : va_P D vwCl ((koW ac a ko ++ (txW ac (a 1) tx ++ (shW ac (a 2) now ++ (shW ac (a 3) u6 ++ (teW ac (a 4) (a 1) (a 10) te ++ (paW ac a pa ++ (fcW ac (a 6) w1 w2 fc ++ (frW ac (a 7) to ++ (frW ac (a 8) tp ++ (reW ac (a 9) re ++ (shW ac (a 40) k0 ++ (shW ac (a 41) k1 ++ (shW ac (a 10) ti))))))))))))) ++ ringW ac a rg) H := zP_un hP
        have hD : va_D A ((koW ac a ko ++ (txW ac (a 1) tx ++ (shW ac (a 2) now ++ (shW ac (a 3) u6 ++ (teW ac (a 4) (a 1) (a 10) te ++ (paW ac a pa ++ (fcW ac (a 6) w1 w2 fc ++ (frW ac (a 7) to ++ (frW ac (a 8) tp ++ (reW ac (a 9) re ++ (shW ac (a 40) k0 ++ (shW ac (a 41) k1 ++ (shW ac (a 10) ti))))))))))))) ++ ringW ac a rg) := zD_un hD
        refine lv_aload_n hx hb dX7_oddsOf_43 rfl (lv_at hl 0 rfl) ?_
        refine va_get (D := D) (ci := 7) (v := .ref (a 6 0)) (C := RX7) (T := TX7) (N := 13) hx hb htw WW_wsX70 hown hKX.1 hP 0 rfl rfl 7 (Nat.le_of_ble_eq_true rfl) (htw _ mF_RX7_51) (fun _ h9 => h9) rfl dX7_oddsOf_44 ?_
        refine lv_aload_n hx hb dX7_oddsOf_47 rfl (lv_at hl 0 rfl) ?_
        refine va_get (D := D) (ci := 7) (v := .ref (a 3 0)) (C := RX7) (T := TX7) (N := 13) hx hb htw WW_wsX70 hown hKX.1 hP 0 rfl rfl 3 (Nat.le_of_ble_eq_true rfl) (htw _ mF_RX7_30) (fun _ h9 => h9) rfl dX7_oddsOf_48 ?_
        obtain ⟨u7, hu7, hf⟩ := z_bd_u hf
        refine zc_MVvXT (As := [.ref (a 3 0)]) (rest := []) (wr := koW ac a ko ++ (txW ac (a 1) tx ++ (shW ac (a 2) now ++ (teW ac (a 4) (a 1) (a 10) te ++ (paW ac a pa ++ (frW ac (a 7) to ++ (frW ac (a 8) tp ++ (reW ac (a 9) re ++ (shW ac (a 40) k0 ++ (shW ac (a 41) k1 ++ (shW ac (a 10) ti))))))))))) (wsc := fcW ac (a 6) w1 w2 fc ++ (shW ac (a 3) u6)) (wsc' := fun u8 : Nat × Nat => fcW ac (a 6) u8.1 u8.2 u7 ++ (shW ac (a 3) u6)) hx hb hml hown htw (ctX0_look l D ac cs (a 6) w1 w2 (a 3) H.size fc u6    F u7 hu7) (g_V mM_RX7_185 mI_yX0_look mS_RX0_yX0_look_yX0_look mN_RX0 mC_yX0_look) rfl (hd_yX0_look) ⟨rfl, rfl⟩ ⟨(Nat.le_of_ble_eq_true rfl), (Nat.le_of_ble_eq_true rfl)⟩ hKX hC hS hA hP hD [16, 17, 18, 19, 20, 9, 10, 11] [0, 1, 2, 3, 4, 5, 6, 7, 8, 12, 13, 14, 15, 21, 22, 23, 24, 25, 26, 27, 28, 29, 30, 31, 32, 33, 34, 35, 36, 37] rfl (by decide) rfl (by decide) (by decide) 0 rfl rfl rfl hl.1 rfl (Nat.le_of_ble_eq_true rfl) ⟨Nat.zero_le _, Nat.zero_le _⟩ dX7_oddsOf_51 (fun u8 H locs hP hD hS => ?_)
        obtain ⟨w9, w10⟩ := u8
        have hP : va_P D vwCl ((koW ac a ko ++ (txW ac (a 1) tx ++ (shW ac (a 2) now ++ (shW ac (a 3) u6 ++ (teW ac (a 4) (a 1) (a 10) te ++ (paW ac a pa ++ (fcW ac (a 6) w9 w10 u7 ++ (frW ac (a 7) to ++ (frW ac (a 8) tp ++ (reW ac (a 9) re ++ (shW ac (a 40) k0 ++ (shW ac (a 41) k1 ++ (shW ac (a 10) ti))))))))))))) ++ ringW ac a rg) H := zsubPT hP [0, 1, 2, 3, 4, 5, 6, 7, 8, 35, 36, 37, 9, 10, 11, 12, 30, 31, 32, 33, 34, 13, 14, 15, 16, 17, 18, 19, 20, 21, 22, 23, 24, 25, 26, 27, 28, 29] rfl
        have hD : va_D A ((koW ac a ko ++ (txW ac (a 1) tx ++ (shW ac (a 2) now ++ (shW ac (a 3) u6 ++ (teW ac (a 4) (a 1) (a 10) te ++ (paW ac a pa ++ (fcW ac (a 6) w9 w10 u7 ++ (frW ac (a 7) to ++ (frW ac (a 8) tp ++ (reW ac (a 9) re ++ (shW ac (a 40) k0 ++ (shW ac (a 41) k1 ++ (shW ac (a 10) ti))))))))))))) ++ ringW ac a rg) := zsubDT hD [0, 1, 2, 3, 4, 5, 6, 7, 8, 35, 36, 37, 9, 10, 11, 12, 30, 31, 32, 33, 34, 13, 14, 15, 16, 17, 18, 19, 20, 21, 22, 23, 24, 25, 26, 27, 28, 29] (by decide) rfl
        refine lv_aload_n hx hb dX7_oddsOf_54 rfl (lv_at hl 0 rfl) ?_
        refine lv_iload_n hx hb dX7_oddsOf_55 rfl (lv_at hl 1 rfl) ?_
        refine lv_iload_n hx hb dX7_oddsOf_56 rfl (lv_at hl 3 rfl) ?_
        obtain ⟨u11, hu11, hf⟩ := z_bd_u hf
        refine zc_MVlT (E := (koW ac a ko ++ (txW ac (a 1) tx ++ (shW ac (a 2) now ++ (shW ac (a 3) u6 ++ (teW ac (a 4) (a 1) (a 10) te ++ (paW ac a pa ++ (fcW ac (a 6) w9 w10 u7 ++ (frW ac (a 7) to ++ (frW ac (a 8) tp ++ (reW ac (a 9) re ++ (shW ac (a 40) k0 ++ (shW ac (a 41) k1 ++ (shW ac (a 10) ti))))))))))))) ++ ringW ac a rg) (TT := []) (As := [.int a1, .int a3]) (rest := []) (wr := []) (wsc := (koW ac a ko ++ (txW ac (a 1) tx ++ (shW ac (a 2) now ++ (shW ac (a 3) u6 ++ (teW ac (a 4) (a 1) (a 10) te ++ (paW ac a pa ++ (fcW ac (a 6) w9 w10 u7 ++ (frW ac (a 7) to ++ (frW ac (a 8) tp ++ (reW ac (a 9) re ++ (shW ac (a 40) k0 ++ (shW ac (a 41) k1 ++ (shW ac (a 10) ti))))))))))))) ++ ringW ac a rg) (wsc' := (koW ac a ko ++ (txW ac (a 1) tx ++ (shW ac (a 2) now ++ (shW ac (a 3) u6 ++ (teW ac (a 4) (a 1) (a 10) te ++ (paW ac a pa ++ (fcW ac (a 6) w9 w10 u7 ++ (frW ac (a 7) u11.2 ++ (frW ac (a 8) tp ++ (reW ac (a 9) re ++ (shW ac (a 40) k0 ++ (shW ac (a 41) k1 ++ (shW ac (a 10) ti))))))))))))) ++ ringW ac a rg) hx hb hml hown htw (ctX7_tellOdds l D ac cs a w9 w10 H.size ko tx now u6 te pa u7 to tp re k0 k1 ti rg a1 a3   F u11 hu11) (g_V mM_RX7_188 mI_yX7_tellOdds mS_RX7_yX7_tellOdds_yX7_tellOdds mN_RX7 mC_yX7_tellOdds) rfl (hd_yX7_tellOdds) ⟨rfl, rfl⟩ ⟨(Nat.le_of_ble_eq_true rfl), (Nat.le_of_ble_eq_true rfl)⟩ hKX hC hS hA (zP_nil hP) (zD_nil hD) (List.range _) [] (zrange _) (zndr _) rfl rfl (fun _ h => by cases h) 7 rfl rfl rfl hl.1 rfl (Nat.le_of_ble_eq_true rfl) ⟨Nat.zero_le _, Nat.zero_le _⟩ dX7_oddsOf_57 (fun H locs hP hD hS => ?_)
        have hP : va_P D vwCl ((koW ac a ko ++ (txW ac (a 1) tx ++ (shW ac (a 2) now ++ (shW ac (a 3) u6 ++ (teW ac (a 4) (a 1) (a 10) te ++ (paW ac a pa ++ (fcW ac (a 6) w9 w10 u7 ++ (frW ac (a 7) u11.2 ++ (frW ac (a 8) tp ++ (reW ac (a 9) re ++ (shW ac (a 40) k0 ++ (shW ac (a 41) k1 ++ (shW ac (a 10) ti))))))))))))) ++ ringW ac a rg) H := zP_un hP
        have hD : va_D A ((koW ac a ko ++ (txW ac (a 1) tx ++ (shW ac (a 2) now ++ (shW ac (a 3) u6 ++ (teW ac (a 4) (a 1) (a 10) te ++ (paW ac a pa ++ (fcW ac (a 6) w9 w10 u7 ++ (frW ac (a 7) u11.2 ++ (frW ac (a 8) tp ++ (reW ac (a 9) re ++ (shW ac (a 40) k0 ++ (shW ac (a 41) k1 ++ (shW ac (a 10) ti))))))))))))) ++ ringW ac a rg) := zD_un hD
        obtain rfl := Option.some.inj hf
        exact zr_MlX (w9, w10) hx hb hr hlocks hP hD hS dX7_oddsOf_60
      · have hf := z_p c4 hf
        refine lv_ldc2 (v := (-1)) hx hb hown (htw _ mG_RX7_183) dX7_oddsOf_29 ?_
        obtain rfl := Option.some.inj hf
        exact zr_MlX (w1, w2) hx hb hr hlocks hP hD hS dX7_oddsOf_32

theorem hd_yX7_best : hdY yX7_best 1 := by decide +kernel
def K_best_L30 (F : Nat) (now : Sh) (a1 : Int32) (x3 : Int32) : Nat → Int32 → Int32 → Sh → Fc → Fr → Option (Int32 × Sh × Fc × Fr)
  | 0, _, _, _, _, _ => none
  | n12 + 1, x6, x7, sh8, fc9, fr10 => if x3 ≤ x7 then (some (x6, sh8, fc9, fr10)) else (z_bd (K_rowAt F x7 (sh_shooters now)) (fun r15 : Int32 => z_bd (K_setTrialRow F now sh8 a1 r15) (fun u16 : Sh => z_bd (Fc_look F fc9 u16) (fun u17 : Fc => z_jn (fun _ : Unit => z_let (Fr_put (Fc_winsOf u17 a1) (fc_whole u17)) (fun u23 : Fr => z_let (x7 + 1) (fun x24 : Int32 => K_best_L30 F now a1 x3 n12 r15 x24 u16 u17 u23))) (fun k21 => if x7 = 0 then (k21 ()) else (z_bd (Fc_oddsAgainst F u17 fr10 a1) (fun r26 : Int32 => if r26 ≤ 0 then (z_let (x7 + 1) (fun x28 : Int32 => K_best_L30 F now a1 x3 n12 x6 x28 u16 u17 fr10)) else (k21 ()))))))))
def K_best (F : Nat) (now : Sh) (tr : Sh) (fc : Fc) (tp : Fr) (a1 : Int32) : Option (Int32 × Sh × Fc × Fr) := if K_isSideTold now a1 = 0 then (some ((-1), tr, fc, tp)) else (z_bd (K_takeStart F now tr) (fun u2 : Sh => z_let (K_rowsOf (sh_shooters now)) (fun x3 : Int32 => K_best_L30 F now a1 x3 F (-1) 0 u2 fc tp)))
set_option maxHeartbeats 4000000 in
set_option maxRecDepth 100000 in
theorem ctX7_best (l : Launch) (D : va_G) (ac cs : Nat → Nat) (a : Nat → Nat → Nat) (w1 w2 : Nat) (sz : Nat) (ko : Ko) (tx : Tx) (now : Sh) (tr : Sh) (te : Te) (pa : Pa) (fc : Fc) (to : Fr) (tp : Fr) (re : Re) (k0 : Sh) (k1 : Sh) (ti : Sh) (rg : Nat → Sh) (a1 : Int32) (F : Nat) (res : Int32 × Sh × Fc × Fr) (hf : K_best F now tr fc tp a1 = some res) : Met l yX7_best (cWW yX7_best cX7_best 6 (some .int)) { frames := 7, cells := 0, slots := 0, locals := 159 } (zM D ac cs [.ref (a 0 0), .int a1] ((koW ac a ko ++ (txW ac (a 1) tx ++ (shW ac (a 2) now ++ (shW ac (a 3) tr ++ (teW ac (a 4) (a 1) (a 10) te ++ (paW ac a pa ++ (fcW ac (a 6) w1 w2 fc ++ (frW ac (a 7) to ++ (frW ac (a 8) tp ++ (reW ac (a 9) re ++ (shW ac (a 40) k0 ++ (shW ac (a 41) k1 ++ (shW ac (a 10) ti))))))))))))) ++ ringW ac a rg) sz) (va_Qi (fun r (_ : Nat × Nat) => r = res.1) (fun u => zB D (va_A ((koW ac a ko ++ (txW ac (a 1) tx ++ (shW ac (a 2) now ++ (shW ac (a 3) tr ++ (teW ac (a 4) (a 1) (a 10) te ++ (paW ac a pa ++ (fcW ac (a 6) w1 w2 fc ++ (frW ac (a 7) to ++ (frW ac (a 8) tp ++ (reW ac (a 9) re ++ (shW ac (a 40) k0 ++ (shW ac (a 41) k1 ++ (shW ac (a 10) ti))))))))))))) ++ ringW ac a rg) sz) ((koW ac a ko ++ (txW ac (a 1) tx ++ (shW ac (a 2) now ++ (shW ac (a 3) res.2.1 ++ (teW ac (a 4) (a 1) (a 10) te ++ (paW ac a pa ++ (fcW ac (a 6) u.1 u.2 res.2.2.1 ++ (frW ac (a 7) to ++ (frW ac (a 8) res.2.2.2 ++ (reW ac (a 9) re ++ (shW ac (a 40) k0 ++ (shW ac (a 41) k1 ++ (shW ac (a 10) ti))))))))))))) ++ ringW ac a rg)) (va_A ((koW ac a ko ++ (txW ac (a 1) tx ++ (shW ac (a 2) now ++ (shW ac (a 3) tr ++ (teW ac (a 4) (a 1) (a 10) te ++ (paW ac a pa ++ (fcW ac (a 6) w1 w2 fc ++ (frW ac (a 7) to ++ (frW ac (a 8) tp ++ (reW ac (a 9) re ++ (shW ac (a 40) k0 ++ (shW ac (a 41) k1 ++ (shW ac (a 10) ti))))))))))))) ++ ringW ac a rg) sz)) 0 0 (va_A ((koW ac a ko ++ (txW ac (a 1) tx ++ (shW ac (a 2) now ++ (shW ac (a 3) tr ++ (teW ac (a 4) (a 1) (a 10) te ++ (paW ac a pa ++ (fcW ac (a 6) w1 w2 fc ++ (frW ac (a 7) to ++ (frW ac (a 8) tp ++ (reW ac (a 9) re ++ (shW ac (a 40) k0 ++ (shW ac (a 41) k1 ++ (shW ac (a 10) ti))))))))))))) ++ ringW ac a rg) sz) := by
  refine Met.ofW (cc := cX7_best) (maxL := 6) (ret := (some .int)) (by decide) rfl ?_
  intro p e s m args below meth c s₁ B hml hv
  obtain ⟨rfl, hsz, hP, hKX, hD0, hC⟩ := hv
  have hx := B.exec
  have hb := B.bytes
  have hr := B.returns
  have hts := atoms_spec (ws := cWW yX7_best cX7_best 6 (some .int)) B.pre
  have htw : ∀ w ∈ WW, w.before _ s = true := fun w h => hts w (List.mem_cons_of_mem _ h)
  have hown : s.vm.findClass RX7 = some m.cls := findClass_of_methodNamed B.named
  have hlocks := B.notSynchronized
  clear hts B
  subst hsz
  have hD := hD0.self (sz := s.heap.size)
  generalize hAe : va_A ((koW ac a ko ++ (txW ac (a 1) tx ++ (shW ac (a 2) now ++ (shW ac (a 3) tr ++ (teW ac (a 4) (a 1) (a 10) te ++ (paW ac a pa ++ (fcW ac (a 6) w1 w2 fc ++ (frW ac (a 7) to ++ (frW ac (a 8) tp ++ (reW ac (a 9) re ++ (shW ac (a 40) k0 ++ (shW ac (a 41) k1 ++ (shW ac (a 10) ti))))))))))))) ++ ringW ac a rg) s.heap.size = A at hD hC ⊢
  have hA : ∀ q : Nat, s.heap.size ≤ q → A q := fun q h => by rw [← hAe]; exact Or.inr h
  have hS : va_S A s.heap s.heap [] := va_S.rf
  clear hD0 hAe
  have hP : va_P D vwCl ((koW ac a ko ++ (txW ac (a 1) tx ++ (shW ac (a 2) now ++ (shW ac (a 3) tr ++ (teW ac (a 4) (a 1) (a 10) te ++ (paW ac a pa ++ (fcW ac (a 6) w1 w2 fc ++ (frW ac (a 7) to ++ (frW ac (a 8) tp ++ (reW ac (a 9) re ++ (shW ac (a 40) k0 ++ (shW ac (a 41) k1 ++ (shW ac (a 10) ti))))))))))))) ++ ringW ac a rg) s.heap := hP
  have hl := lv_entry ([.ref (a 0 0), .int a1]) (n := 6) (Nat.le_of_ble_eq_true rfl)
  rw [lg_entry_eq]
  generalize (lg_sl ([.ref (a 0 0), .int a1]) ++ List.replicate (6 - (lg_sl ([.ref (a 0 0), .int a1])).length) Slot.unset).toArray = ls at hl ⊢
  have hl : lv_has ls 6 [(0, .ref (a 0 0)), (1, .int a1)] := hl
  unfold K_best at hf
  show W p l e ({ frames := 7, cells := 0, slots := 0, locals := 159 } : Room) s m _ below meth c s.heap [] 0 0 _ (F0 m 0 ls [])
  refine lv_aload_n hx hb dX7_best_0 rfl (lv_at hl 0 rfl) ?_
  refine lv_iload_n hx hb dX7_best_1 rfl (lv_at hl 1 rfl) ?_
  refine zc_RVi (As := [.int a1]) (rest := []) hx hb hml hown htw (ctX7_isSideTold l D ac cs a w1 w2 ko tx now tr te pa fc to tp re k0 k1 ti rg a1   _ rfl) (g_V mM_RX7_107 mI_yX7_isSideTold mS_RX7_yX7_isSideTold_yX7_isSideTold mN_RX7 mC_yX7_isSideTold) rfl (hd_yX7_isSideTold) ⟨rfl, rfl⟩ ⟨(Nat.le_of_ble_eq_true rfl), (Nat.le_of_ble_eq_true rfl)⟩ hKX hC hS hP 7 rfl rfl rfl hl.1 rfl (Nat.le_of_ble_eq_true rfl) ⟨Nat.zero_le _, Nat.zero_le _⟩ dX7_best_2 ?_
  refine lv_if_ne (tgt := 10) hx hb dX7_best_5 (by decide) (fun c1 => ?_) (fun c1 => ?_)
  · have hf := z_n c1 hf
    refine lv_aload_n hx hb dX7_best_10 rfl (lv_at hl 0 rfl) ?_
    obtain ⟨u2, hu2, hf⟩ := z_bd_u hf
    refine zc_MVvT (E := (koW ac a ko ++ (txW ac (a 1) tx ++ (shW ac (a 2) now ++ (shW ac (a 3) tr ++ (teW ac (a 4) (a 1) (a 10) te ++ (paW ac a pa ++ (fcW ac (a 6) w1 w2 fc ++ (frW ac (a 7) to ++ (frW ac (a 8) tp ++ (reW ac (a 9) re ++ (shW ac (a 40) k0 ++ (shW ac (a 41) k1 ++ (shW ac (a 10) ti))))))))))))) ++ ringW ac a rg) (TT := []) (As := []) (rest := []) (wr := []) (wsc := (koW ac a ko ++ (txW ac (a 1) tx ++ (shW ac (a 2) now ++ (shW ac (a 3) tr ++ (teW ac (a 4) (a 1) (a 10) te ++ (paW ac a pa ++ (fcW ac (a 6) w1 w2 fc ++ (frW ac (a 7) to ++ (frW ac (a 8) tp ++ (reW ac (a 9) re ++ (shW ac (a 40) k0 ++ (shW ac (a 41) k1 ++ (shW ac (a 10) ti))))))))))))) ++ ringW ac a rg) (wsc' := (koW ac a ko ++ (txW ac (a 1) tx ++ (shW ac (a 2) now ++ (shW ac (a 3) u2 ++ (teW ac (a 4) (a 1) (a 10) te ++ (paW ac a pa ++ (fcW ac (a 6) w1 w2 fc ++ (frW ac (a 7) to ++ (frW ac (a 8) tp ++ (reW ac (a 9) re ++ (shW ac (a 40) k0 ++ (shW ac (a 41) k1 ++ (shW ac (a 10) ti))))))))))))) ++ ringW ac a rg) hx hb hml hown htw (ctX7_takeStart l D ac cs a w1 w2 s.heap.size ko tx now tr te pa fc to tp re k0 k1 ti rg    F u2 hu2) (g_V mM_RX7_255 mI_yX7_takeStart mS_RX7_yX7_takeStart_yX7_takeStart mN_RX7 mC_yX7_takeStart) rfl (hd_yX7_takeStart) ⟨rfl, rfl⟩ ⟨(Nat.le_of_ble_eq_true rfl), (Nat.le_of_ble_eq_true rfl)⟩ hKX hC hS hA (zP_nil hP) (zD_nil hD) (List.range _) [] (zrange _) (zndr _) rfl rfl (fun _ h => by cases h) 7 rfl rfl rfl hl.1 rfl (Nat.le_of_ble_eq_true rfl) ⟨Nat.zero_le _, Nat.zero_le _⟩ dX7_best_11 (fun H locs hP hD hS => ?_)
    have hP : va_P D vwCl ((koW ac a ko ++ (txW ac (a 1) tx ++ (shW ac (a 2) now ++ (shW ac (a 3) u2 ++ (teW ac (a 4) (a 1) (a 10) te ++ (paW ac a pa ++ (fcW ac (a 6) w1 w2 fc ++ (frW ac (a 7) to ++ (frW ac (a 8) tp ++ (reW ac (a 9) re ++ (shW ac (a 40) k0 ++ (shW ac (a 41) k1 ++ (shW ac (a 10) ti))))))))))))) ++ ringW ac a rg) H := zP_un hP
    have hD : va_D A ((koW ac a ko ++ (txW ac (a 1) tx ++ (shW ac (a 2) now ++ (shW ac (a 3) u2 ++ (teW ac (a 4) (a 1) (a 10) te ++ (paW ac a pa ++ (fcW ac (a 6) w1 w2 fc ++ (frW ac (a 7) to ++ (frW ac (a 8) tp ++ (reW ac (a 9) re ++ (shW ac (a 40) k0 ++ (shW ac (a 41) k1 ++ (shW ac (a 10) ti))))))))))))) ++ ringW ac a rg) := zD_un hD
    refine lv_iconst (v := (-1)) hx hb dX7_best_14 rfl ?_
    refine lv_istore_n (lv' := [(2, .int (-1)), (0, .ref (a 0 0)), (1, .int a1)]) hx hb dX7_best_15 rfl hl (Nat.le_of_ble_eq_true rfl) rfl (fun ls hl => ?_)
    refine lv_aload_n hx hb dX7_best_16 rfl (lv_at hl 1 rfl) ?_
    refine va_get (D := D) (ci := 7) (v := .ref (a 2 0)) (C := RX7) (T := TX7) (N := 13) hx hb htw WW_wsX70 hown hKX.1 hP 0 rfl rfl 2 (Nat.le_of_ble_eq_true rfl) (htw _ mF_RX7_26) (fun _ h9 => h9) rfl dX7_best_17 ?_
    refine va_getN (D := D) (ci := 4) (v := .int (sh_shooters now)) (C := RX4) (T := TX4) (N := 10) hx hb htw WW_wsX40 hown hKX.1 hP 6 rfl rfl 0 (Nat.le_of_ble_eq_true rfl) (va_Nw.use rfl (hKX.2 _ (List.mem_of_getElem? (i := 3) rfl))) (fun _ h9 => h9) rfl dX7_best_20 ?_
    refine zc_RSi (As := [.int (sh_shooters now)]) (rest := []) hx hb hml hown htw (ctX7_rowsOf l D ac cs   (sh_shooters now)   _ rfl) (g_S mM_RX7_261 mT_yX7_rowsOf mN_RX7 mC_yX7_rowsOf) (hd_yX7_rowsOf) ⟨rfl, rfl⟩ ⟨(Nat.le_of_ble_eq_true rfl), (Nat.le_of_ble_eq_true rfl)⟩ hKX hC hS zP0 rfl hl.1 rfl (Nat.le_of_ble_eq_true rfl) ⟨Nat.zero_le _, Nat.zero_le _⟩ dX7_best_23 ?_
    refine lv_topi (fun x3 hx3 => ?_)
    have hf := z_let_u hx3 hf
    refine lv_istore_n (lv' := [(3, .int x3), (2, .int (-1)), (0, .ref (a 0 0)), (1, .int a1)]) hx hb dX7_best_26 rfl hl (Nat.le_of_ble_eq_true rfl) rfl (fun ls hl => ?_)
    refine lv_iconst (v := 0) hx hb dX7_best_27 rfl ?_
    refine lv_istore (lv' := [(4, .int 0), (3, .int x3), (2, .int (-1)), (0, .ref (a 0 0)), (1, .int a1)]) hx hb dX7_best_28 hl (Nat.le_of_ble_eq_true rfl) rfl (fun ls hl => ?_)
    have hL11 : ∀ (n12 : Nat) (x6 : Int32) (x7 : Int32) (sh8 : Sh) (fc9 : Fc) (fr10 : Fr), K_best_L30 F now a1 x3 n12 x6 x7 sh8 fc9 fr10 = some res → ∀ (H : Heap) (locs : List Loc) (ls : Array Slot) (w4 w5 : Nat), va_P D vwCl ((koW ac a ko ++ (txW ac (a 1) tx ++ (shW ac (a 2) now ++ (shW ac (a 3) sh8 ++ (teW ac (a 4) (a 1) (a 10) te ++ (paW ac a pa ++ (fcW ac (a 6) w4 w5 fc9 ++ (frW ac (a 7) to ++ (frW ac (a 8) fr10 ++ (reW ac (a 9) re ++ (shW ac (a 40) k0 ++ (shW ac (a 41) k1 ++ (shW ac (a 10) ti))))))))))))) ++ ringW ac a rg) H → va_D A ((koW ac a ko ++ (txW ac (a 1) tx ++ (shW ac (a 2) now ++ (shW ac (a 3) sh8 ++ (teW ac (a 4) (a 1) (a 10) te ++ (paW ac a pa ++ (fcW ac (a 6) w4 w5 fc9 ++ (frW ac (a 7) to ++ (frW ac (a 8) fr10 ++ (reW ac (a 9) re ++ (shW ac (a 40) k0 ++ (shW ac (a 41) k1 ++ (shW ac (a 10) ti))))))))))))) ++ ringW ac a rg) → va_S A s.heap H locs → lv_has ls 6 [(0, .ref (a 0 0)), (1, .int a1), (2, .int x6), (3, .int x3), (4, .int x7)] → W p l e ({ frames := 7, cells := 0, slots := 0, locals := 159 } : Room) s m (([.ref (a 0 0), .int a1] : List Value).toArray) below meth c H locs 0 0 (MQ below (va_Qi (fun r (_ : Nat × Nat) => r = res.1) (fun u => zB D A ((koW ac a ko ++ (txW ac (a 1) tx ++ (shW ac (a 2) now ++ (shW ac (a 3) res.2.1 ++ (teW ac (a 4) (a 1) (a 10) te ++ (paW ac a pa ++ (fcW ac (a 6) u.1 u.2 res.2.2.1 ++ (frW ac (a 7) to ++ (frW ac (a 8) res.2.2.2 ++ (reW ac (a 9) re ++ (shW ac (a 40) k0 ++ (shW ac (a 41) k1 ++ (shW ac (a 10) ti))))))))))))) ++ ringW ac a rg)) A) ([.ref (a 0 0), .int a1] : List Value).toArray s 0 0 A) (F0 m 30 ls []) := by
      intro n12
      induction n12 with
      | zero => intro x6 x7 sh8 fc9 fr10 hf; rw [K_best_L30] at hf; cases hf
      | succ n12 ih13 =>
        intro x6 x7 sh8 fc9 fr10 hf H locs ls w4 w5 hP hD hS hl
        rw [K_best_L30] at hf
        refine lv_iload hx hb dX7_best_30 (lv_at hl 4 rfl) ?_
        refine lv_iload_n hx hb dX7_best_32 rfl (lv_at hl 3 rfl) ?_
        refine lv_icmp_ge (tgt := 119) hx hb dX7_best_33 (by decide) (fun c14 => ?_) (fun c14 => ?_)
        · have hf := z_p c14 hf
          refine lv_iload_n hx hb dX7_best_119 rfl (lv_at hl 2 rfl) ?_
          obtain rfl := Option.some.inj hf
          exact zr_MiX (w4, w5) hx hb hr hlocks hP hD hS dX7_best_120
        · have hf := z_n c14 hf
          refine lv_iload hx hb dX7_best_36 (lv_at hl 4 rfl) ?_
          refine lv_aload_n hx hb dX7_best_38 rfl (lv_at hl 0 rfl) ?_
          refine va_get (D := D) (ci := 7) (v := .ref (a 2 0)) (C := RX7) (T := TX7) (N := 13) hx hb htw WW_wsX70 hown hKX.1 hP 0 rfl rfl 2 (Nat.le_of_ble_eq_true rfl) (htw _ mF_RX7_26) (fun _ h9 => h9) rfl dX7_best_39 ?_
          refine va_getN (D := D) (ci := 4) (v := .int (sh_shooters now)) (C := RX4) (T := TX4) (N := 10) hx hb htw WW_wsX40 hown hKX.1 hP 6 rfl rfl 0 (Nat.le_of_ble_eq_true rfl) (va_Nw.use rfl (hKX.2 _ (List.mem_of_getElem? (i := 3) rfl))) (fun _ h9 => h9) rfl dX7_best_42 ?_
          obtain ⟨r15, hr15, hf⟩ := z_bd_u hf
          refine zc_RSi (As := [.int x7, .int (sh_shooters now)]) (rest := []) hx hb hml hown htw (ctX7_rowAt l D ac cs   x7 (sh_shooters now)   F _ hr15) (g_S mM_RX7_264 mT_yX7_rowAt mN_RX7 mC_yX7_rowAt) (hd_yX7_rowAt) ⟨rfl, rfl⟩ ⟨(Nat.le_of_ble_eq_true rfl), (Nat.le_of_ble_eq_true rfl)⟩ hKX hC hS zP0 rfl hl.1 rfl (Nat.le_of_ble_eq_true rfl) ⟨Nat.zero_le _, Nat.zero_le _⟩ dX7_best_45 ?_
          refine lv_istore (lv' := [(5, .int r15), (0, .ref (a 0 0)), (1, .int a1), (2, .int x6), (3, .int x3), (4, .int x7)]) hx hb dX7_best_48 hl (Nat.le_of_ble_eq_true rfl) rfl (fun ls hl => ?_)
          refine lv_aload_n hx hb dX7_best_50 rfl (lv_at hl 1 rfl) ?_
          refine lv_iload_n hx hb dX7_best_51 rfl (lv_at hl 2 rfl) ?_
          refine lv_iload hx hb dX7_best_52 (lv_at hl 0 rfl) ?_
          obtain ⟨u16, hu16, hf⟩ := z_bd_u hf
          refine zc_MVvT (E := (koW ac a ko ++ (txW ac (a 1) tx ++ (shW ac (a 2) now ++ (shW ac (a 3) sh8 ++ (teW ac (a 4) (a 1) (a 10) te ++ (paW ac a pa ++ (fcW ac (a 6) w4 w5 fc9 ++ (frW ac (a 7) to ++ (frW ac (a 8) fr10 ++ (reW ac (a 9) re ++ (shW ac (a 40) k0 ++ (shW ac (a 41) k1 ++ (shW ac (a 10) ti))))))))))))) ++ ringW ac a rg) (TT := []) (As := [.int a1, .int r15]) (rest := []) (wr := []) (wsc := (koW ac a ko ++ (txW ac (a 1) tx ++ (shW ac (a 2) now ++ (shW ac (a 3) sh8 ++ (teW ac (a 4) (a 1) (a 10) te ++ (paW ac a pa ++ (fcW ac (a 6) w4 w5 fc9 ++ (frW ac (a 7) to ++ (frW ac (a 8) fr10 ++ (reW ac (a 9) re ++ (shW ac (a 40) k0 ++ (shW ac (a 41) k1 ++ (shW ac (a 10) ti))))))))))))) ++ ringW ac a rg) (wsc' := (koW ac a ko ++ (txW ac (a 1) tx ++ (shW ac (a 2) now ++ (shW ac (a 3) u16 ++ (teW ac (a 4) (a 1) (a 10) te ++ (paW ac a pa ++ (fcW ac (a 6) w4 w5 fc9 ++ (frW ac (a 7) to ++ (frW ac (a 8) fr10 ++ (reW ac (a 9) re ++ (shW ac (a 40) k0 ++ (shW ac (a 41) k1 ++ (shW ac (a 10) ti))))))))))))) ++ ringW ac a rg) hx hb hml hown htw (ctX7_setTrialRow l D ac cs a w4 w5 H.size ko tx now sh8 te pa fc9 to fr10 re k0 k1 ti rg a1 r15   F u16 hu16) (g_V mM_RX7_258 mI_yX7_setTrialRow mS_RX7_yX7_setTrialRow_yX7_setTrialRow mN_RX7 mC_yX7_setTrialRow) rfl (hd_yX7_setTrialRow) ⟨rfl, rfl⟩ ⟨(Nat.le_of_ble_eq_true rfl), (Nat.le_of_ble_eq_true rfl)⟩ hKX hC hS hA (zP_nil hP) (zD_nil hD) (List.range _) [] (zrange _) (zndr _) rfl rfl (fun _ h => by cases h) 7 rfl rfl rfl hl.1 rfl (Nat.le_of_ble_eq_true rfl) ⟨Nat.zero_le _, Nat.zero_le _⟩ dX7_best_54 (fun H locs hP hD hS => ?_)
          have hP : va_P D vwCl ((koW ac a ko ++ (txW ac (a 1) tx ++ (shW ac (a 2) now ++ (shW ac (a 3) u16 ++ (teW ac (a 4) (a 1) (a 10) te ++ (paW ac a pa ++ (fcW ac (a 6) w4 w5 fc9 ++ (frW ac (a 7) to ++ (frW ac (a 8) fr10 ++ (reW ac (a 9) re ++ (shW ac (a 40) k0 ++ (shW ac (a 41) k1 ++ (shW ac (a 10) ti))))))))))))) ++ ringW ac a rg) H := zP_un hP
          have hD : va_D A ((koW ac a ko ++ (txW ac (a 1) tx ++ (shW ac (a 2) now ++ (shW ac (a 3) u16 ++ (teW ac (a 4) (a 1) (a 10) te ++ (paW ac a pa ++ (fcW ac (a 6) w4 w5 fc9 ++ (frW ac (a 7) to ++ (frW ac (a 8) fr10 ++ (reW ac (a 9) re ++ (shW ac (a 40) k0 ++ (shW ac (a 41) k1 ++ (shW ac (a 10) ti))))))))))))) ++ ringW ac a rg) := zD_un hD
          refine lv_aload_n hx hb dX7_best_57 rfl (lv_at hl 1 rfl) ?_
          refine va_get (D := D) (ci := 7) (v := .ref (a 6 0)) (C := RX7) (T := TX7) (N := 13) hx hb htw WW_wsX70 hown hKX.1 hP 0 rfl rfl 7 (Nat.le_of_ble_eq_true rfl) (htw _ mF_RX7_51) (fun _ h9 => h9) rfl dX7_best_58 ?_
          refine lv_aload_n hx hb dX7_best_61 rfl (lv_at hl 1 rfl) ?_
          refine va_get (D := D) (ci := 7) (v := .ref (a 3 0)) (C := RX7) (T := TX7) (N := 13) hx hb htw WW_wsX70 hown hKX.1 hP 0 rfl rfl 3 (Nat.le_of_ble_eq_true rfl) (htw _ mF_RX7_30) (fun _ h9 => h9) rfl dX7_best_62 ?_
          obtain ⟨u17, hu17, hf⟩ := z_bd_u hf
          refine zc_MVvXT (As := [.ref (a 3 0)]) (rest := []) (wr := koW ac a ko ++ (txW ac (a 1) tx ++ (shW ac (a 2) now ++ (teW ac (a 4) (a 1) (a 10) te ++ (paW ac a pa ++ (frW ac (a 7) to ++ (frW ac (a 8) fr10 ++ (reW ac (a 9) re ++ (shW ac (a 40) k0 ++ (shW ac (a 41) k1 ++ (shW ac (a 10) ti))))))))))) (wsc := fcW ac (a 6) w4 w5 fc9 ++ (shW ac (a 3) u16)) (wsc' := fun u18 : Nat × Nat => fcW ac (a 6) u18.1 u18.2 u17 ++ (shW ac (a 3) u16)) hx hb hml hown htw (ctX0_look l D ac cs (a 6) w4 w5 (a 3) H.size fc9 u16    F u17 hu17) (g_V mM_RX7_185 mI_yX0_look mS_RX0_yX0_look_yX0_look mN_RX0 mC_yX0_look) rfl (hd_yX0_look) ⟨rfl, rfl⟩ ⟨(Nat.le_of_ble_eq_true rfl), (Nat.le_of_ble_eq_true rfl)⟩ hKX hC hS hA hP hD [16, 17, 18, 19, 20, 9, 10, 11] [0, 1, 2, 3, 4, 5, 6, 7, 8, 12, 13, 14, 15, 21, 22, 23, 24, 25, 26, 27, 28, 29, 30, 31, 32, 33, 34, 35, 36, 37] rfl (by decide) rfl (by decide) (by decide) 0 rfl rfl rfl hl.1 rfl (Nat.le_of_ble_eq_true rfl) ⟨Nat.zero_le _, Nat.zero_le _⟩ dX7_best_65 (fun u18 H locs hP hD hS => ?_)
          obtain ⟨w19, w20⟩ := u18
          have hP : va_P D vwCl ((koW ac a ko ++ (txW ac (a 1) tx ++ (shW ac (a 2) now ++ (shW ac (a 3) u16 ++ (teW ac (a 4) (a 1) (a 10) te ++ (paW ac a pa ++ (fcW ac (a 6) w19 w20 u17 ++ (frW ac (a 7) to ++ (frW ac (a 8) fr10 ++ (reW ac (a 9) re ++ (shW ac (a 40) k0 ++ (shW ac (a 41) k1 ++ (shW ac (a 10) ti))))))))))))) ++ ringW ac a rg) H := zsubPT hP [0, 1, 2, 3, 4, 5, 6, 7, 8, 35, 36, 37, 9, 10, 11, 12, 30, 31, 32, 33, 34, 13, 14, 15, 16, 17, 18, 19, 20, 21, 22, 23, 24, 25, 26, 27, 28, 29] rfl
          have hD : va_D A ((koW ac a ko ++ (txW ac (a 1) tx ++ (shW ac (a 2) now ++ (shW ac (a 3) u16 ++ (teW ac (a 4) (a 1) (a 10) te ++ (paW ac a pa ++ (fcW ac (a 6) w19 w20 u17 ++ (frW ac (a 7) to ++ (frW ac (a 8) fr10 ++ (reW ac (a 9) re ++ (shW ac (a 40) k0 ++ (shW ac (a 41) k1 ++ (shW ac (a 10) ti))))))))))))) ++ ringW ac a rg) := zsubDT hD [0, 1, 2, 3, 4, 5, 6, 7, 8, 35, 36, 37, 9, 10, 11, 12, 30, 31, 32, 33, 34, 13, 14, 15, 16, 17, 18, 19, 20, 21, 22, 23, 24, 25, 26, 27, 28, 29] (by decide) rfl
          refine lv_iload hx hb dX7_best_68 (lv_at hl 5 rfl) ?_
          obtain ⟨k21, hk21, hf⟩ := z_jn_u hf
          have hj22 : k21 () = some res → ∀ (H : Heap) (locs : List Loc) (ls : Array Slot), va_P D vwCl ((koW ac a ko ++ (txW ac (a 1) tx ++ (shW ac (a 2) now ++ (shW ac (a 3) u16 ++ (teW ac (a 4) (a 1) (a 10) te ++ (paW ac a pa ++ (fcW ac (a 6) w19 w20 u17 ++ (frW ac (a 7) to ++ (frW ac (a 8) fr10 ++ (reW ac (a 9) re ++ (shW ac (a 40) k0 ++ (shW ac (a 41) k1 ++ (shW ac (a 10) ti))))))))))))) ++ ringW ac a rg) H → va_D A ((koW ac a ko ++ (txW ac (a 1) tx ++ (shW ac (a 2) now ++ (shW ac (a 3) u16 ++ (teW ac (a 4) (a 1) (a 10) te ++ (paW ac a pa ++ (fcW ac (a 6) w19 w20 u17 ++ (frW ac (a 7) to ++ (frW ac (a 8) fr10 ++ (reW ac (a 9) re ++ (shW ac (a 40) k0 ++ (shW ac (a 41) k1 ++ (shW ac (a 10) ti))))))))))))) ++ ringW ac a rg) → va_S A s.heap H locs → lv_has ls 6 [(0, .ref (a 0 0)), (1, .int a1), (3, .int x3), (4, .int x7), (5, .int r15)] → W p l e ({ frames := 7, cells := 0, slots := 0, locals := 159 } : Room) s m (([.ref (a 0 0), .int a1] : List Value).toArray) below meth c H locs 0 0 (MQ below (va_Qi (fun r (_ : Nat × Nat) => r = res.1) (fun u => zB D A ((koW ac a ko ++ (txW ac (a 1) tx ++ (shW ac (a 2) now ++ (shW ac (a 3) res.2.1 ++ (teW ac (a 4) (a 1) (a 10) te ++ (paW ac a pa ++ (fcW ac (a 6) u.1 u.2 res.2.2.1 ++ (frW ac (a 7) to ++ (frW ac (a 8) res.2.2.2 ++ (reW ac (a 9) re ++ (shW ac (a 40) k0 ++ (shW ac (a 41) k1 ++ (shW ac (a 10) ti))))))))))))) ++ ringW ac a rg)) A) ([.ref (a 0 0), .int a1] : List Value).toArray s 0 0 A) (F0 m 88 ls []) := by
            intro hf H locs ls hP hD hS hl
            have hf := hk21 _ hf
            refine lv_aload_n hx hb dX7_best_88 rfl (lv_at hl 0 rfl) ?_
            refine va_get (D := D) (ci := 7) (v := .ref (a 8 0)) (C := RX7) (T := TX7) (N := 13) hx hb htw WW_wsX70 hown hKX.1 hP 0 rfl rfl 9 (Nat.le_of_ble_eq_true rfl) (htw _ mF_RX7_62) (fun _ h9 => h9) rfl dX7_best_89 ?_
            refine lv_aload_n hx hb dX7_best_92 rfl (lv_at hl 0 rfl) ?_
            refine va_get (D := D) (ci := 7) (v := .ref (a 6 0)) (C := RX7) (T := TX7) (N := 13) hx hb htw WW_wsX70 hown hKX.1 hP 0 rfl rfl 7 (Nat.le_of_ble_eq_true rfl) (htw _ mF_RX7_51) (fun _ h9 => h9) rfl dX7_best_93 ?_
            refine lv_iload_n hx hb dX7_best_96 rfl (lv_at hl 1 rfl) ?_
            refine zc_RVl (As := [.int a1]) (rest := [.ref (a 8 0)]) hx hb hml hown htw (ctX0_winsOf l D ac cs (a 6) w19 w20 u17 a1   _ rfl) (g_V mM_RX7_194 mI_yX0_winsOf mS_RX0_yX0_winsOf_yX0_winsOf mN_RX0 mC_yX0_winsOf) rfl (hd_yX0_winsOf) ⟨rfl, rfl⟩ ⟨(Nat.le_of_ble_eq_true rfl), (Nat.le_of_ble_eq_true rfl)⟩ hKX hC hS (hP.sub [16, 17, 18, 19, 20] rfl) 0 rfl rfl rfl hl.1 rfl (Nat.le_of_ble_eq_true rfl) ⟨Nat.zero_le _, Nat.zero_le _⟩ dX7_best_97 ?_
            refine lv_aload_n hx hb dX7_best_100 rfl (lv_at hl 0 rfl) ?_
            refine va_get (D := D) (ci := 7) (v := .ref (a 6 0)) (C := RX7) (T := TX7) (N := 13) hx hb htw WW_wsX70 hown hKX.1 hP 0 rfl rfl 7 (Nat.le_of_ble_eq_true rfl) (htw _ mF_RX7_51) (fun _ h9 => h9) rfl dX7_best_101 ?_
            refine va_getN (D := D) (ci := 0) (v := .long (fc_whole u17)) (C := RX0) (T := TX0) (N := 15) hx hb htw WW_wsX00 hown hKX.1 hP 16 rfl rfl 14 (Nat.le_of_ble_eq_true rfl) (va_Nw.use rfl (hKX.2 _ (List.mem_of_getElem? (i := 19) rfl))) (fun _ h9 => h9) rfl dX7_best_104 ?_
            obtain ⟨u23, hu23⟩ : ∃ y : Fr, y = Fr_put (Fc_winsOf u17 a1) (fc_whole u17) := ⟨_, rfl⟩
            have hf := z_let_u hu23 hf
            refine zc_MVvT (As := [.long (Fc_winsOf u17 a1), .long (fc_whole u17)]) (rest := []) (wr := koW ac a ko ++ (txW ac (a 1) tx ++ (shW ac (a 2) now ++ (shW ac (a 3) u16 ++ (teW ac (a 4) (a 1) (a 10) te ++ (paW ac a pa ++ (fcW ac (a 6) w19 w20 u17 ++ (frW ac (a 7) to ++ (reW ac (a 9) re ++ (shW ac (a 40) k0 ++ (shW ac (a 41) k1 ++ (shW ac (a 10) ti)))))))))))) (wsc := frW ac (a 8) fr10) (wsc' := frW ac (a 8) u23) hx hb hml hown htw (ctX1_put l D ac cs (a 8) H.size fr10 (Fc_winsOf u17 a1) (fc_whole u17)   u23 hu23.symm) (g_V mM_RX7_202 mI_yX1_put mS_RX1_yX1_put_yX1_put mN_RX1 mC_yX1_put) rfl (hd_yX1_put) ⟨rfl, rfl⟩ ⟨(Nat.le_of_ble_eq_true rfl), (Nat.le_of_ble_eq_true rfl)⟩ hKX hC hS hA hP hD [22] [0, 1, 2, 3, 4, 5, 6, 7, 8, 9, 10, 11, 12, 13, 14, 15, 16, 17, 18, 19, 20, 21, 23, 24, 25, 26, 27, 28, 29, 30, 31, 32, 33, 34, 35, 36, 37] rfl (by decide) rfl (by decide) (by decide) 1 rfl rfl rfl hl.1 rfl (Nat.le_of_ble_eq_true rfl) ⟨Nat.zero_le _, Nat.zero_le _⟩ dX7_best_107 (fun H locs hP hD hS => ?_)
            have hP : va_P D vwCl ((koW ac a ko ++ (txW ac (a 1) tx ++ (shW ac (a 2) now ++ (shW ac (a 3) u16 ++ (teW ac (a 4) (a 1) (a 10) te ++ (paW ac a pa ++ (fcW ac (a 6) w19 w20 u17 ++ (frW ac (a 7) to ++ (frW ac (a 8) u23 ++ (reW ac (a 9) re ++ (shW ac (a 40) k0 ++ (shW ac (a 41) k1 ++ (shW ac (a 10) ti))))))))))))) ++ ringW ac a rg) H := zsubPT hP [0, 1, 2, 3, 4, 5, 6, 7, 8, 9, 10, 11, 12, 13, 14, 15, 16, 17, 18, 19, 20, 21, 37, 22, 23, 24, 25, 26, 27, 28, 29, 30, 31, 32, 33, 34, 35, 36] rfl
            have hD : va_D A ((koW ac a ko ++ (txW ac (a 1) tx ++ (shW ac (a 2) now ++ (shW ac (a 3) u16 ++ (teW ac (a 4) (a 1) (a 10) te ++ (paW ac a pa ++ (fcW ac (a 6) w19 w20 u17 ++ (frW ac (a 7) to ++ (frW ac (a 8) u23 ++ (reW ac (a 9) re ++ (shW ac (a 40) k0 ++ (shW ac (a 41) k1 ++ (shW ac (a 10) ti))))))))))))) ++ ringW ac a rg) := zsubDT hD [0, 1, 2, 3, 4, 5, 6, 7, 8, 9, 10, 11, 12, 13, 14, 15, 16, 17, 18, 19, 20, 21, 37, 22, 23, 24, 25, 26, 27, 28, 29, 30, 31, 32, 33, 34, 35, 36] (by decide) rfl
            refine lv_iload hx hb dX7_best_110 (lv_at hl 4 rfl) ?_
            refine lv_istore_n (lv' := [(2, .int r15), (0, .ref (a 0 0)), (1, .int a1), (3, .int x3), (4, .int x7), (5, .int r15)]) hx hb dX7_best_112 rfl hl (Nat.le_of_ble_eq_true rfl) rfl (fun ls hl => ?_)
            obtain ⟨x24, hx24⟩ : ∃ y : Int32, y = (x7 + 1) := ⟨_, rfl⟩
            have hf := z_let_u hx24 hf
            refine lv_iinc (v := x24) (lv' := [(4, .int x24), (2, .int r15), (0, .ref (a 0 0)), (1, .int a1), (3, .int x3), (5, .int r15)]) hx hb dX7_best_113 hl (k := 4) rfl (by rw [hx24]; rfl) (Nat.le_of_ble_eq_true rfl) rfl (fun ls hl => ?_)
            refine lv_goto (tgt := 30) hx hb dX7_best_116 (by decide) ?_
            exact ih13 r15 x24 u16 u17 u23 hf _ _ ls w19 w20 hP hD hS (lv_sub hl [2, 3, 1, 4, 0] rfl)
          refine lv_if_eq (tgt := 88) hx hb dX7_best_70 (by decide) (fun c25 => ?_) (fun c25 => ?_)
          · have hf := z_p c25 hf
            exact hj22  hf _ _ ls  hP hD hS (lv_sub hl [1, 2, 4, 5, 0] rfl)
          · have hf := z_n c25 hf
            refine lv_aload_n hx hb dX7_best_73 rfl (lv_at hl 1 rfl) ?_
            refine va_get (D := D) (ci := 7) (v := .ref (a 6 0)) (C := RX7) (T := TX7) (N := 13) hx hb htw WW_wsX70 hown hKX.1 hP 0 rfl rfl 7 (Nat.le_of_ble_eq_true rfl) (htw _ mF_RX7_51) (fun _ h9 => h9) rfl dX7_best_74 ?_
            refine lv_iload_n hx hb dX7_best_77 rfl (lv_at hl 2 rfl) ?_
            refine lv_aload_n hx hb dX7_best_78 rfl (lv_at hl 1 rfl) ?_
            refine va_get (D := D) (ci := 7) (v := .ref (a 8 0)) (C := RX7) (T := TX7) (N := 13) hx hb htw WW_wsX70 hown hKX.1 hP 0 rfl rfl 9 (Nat.le_of_ble_eq_true rfl) (htw _ mF_RX7_62) (fun _ h9 => h9) rfl dX7_best_79 ?_
            obtain ⟨r26, hr26, hf⟩ := z_bd_u hf
            refine zc_RVi (As := [.int a1, .ref (a 8 0)]) (rest := []) hx hb hml hown htw (ctX0_oddsAgainst l D ac cs (a 6) w19 w20 (a 8) u17 fr10 a1   F _ hr26) (g_V mM_RX7_267 mI_yX0_oddsAgainst mS_RX0_yX0_oddsAgainst_yX0_oddsAgainst mN_RX0 mC_yX0_oddsAgainst) rfl (hd_yX0_oddsAgainst) ⟨rfl, rfl⟩ ⟨(Nat.le_of_ble_eq_true rfl), (Nat.le_of_ble_eq_true rfl)⟩ hKX hC hS (hP.sub [16, 17, 18, 19, 20, 22] rfl) 0 rfl rfl rfl hl.1 rfl (Nat.le_of_ble_eq_true rfl) ⟨Nat.zero_le _, Nat.zero_le _⟩ dX7_best_82 ?_
            refine lv_if_le (tgt := 113) hx hb dX7_best_85 (by decide) (fun c27 => ?_) (fun c27 => ?_)
            · have hf := z_p c27 hf
              obtain ⟨x28, hx28⟩ : ∃ y : Int32, y = (x7 + 1) := ⟨_, rfl⟩
              have hf := z_let_u hx28 hf
              refine lv_iinc (v := x28) (lv' := [(4, .int x28), (5, .int r15), (0, .ref (a 0 0)), (1, .int a1), (2, .int x6), (3, .int x3)]) hx hb dX7_best_113 hl (k := 5) rfl (by rw [hx28]; rfl) (Nat.le_of_ble_eq_true rfl) rfl (fun ls hl => ?_)
              refine lv_goto (tgt := 30) hx hb dX7_best_116 (by decide) ?_
              exact ih13 x6 x28 u16 u17 fr10 hf _ _ ls w19 w20 hP hD hS (lv_sub hl [2, 3, 4, 5, 0] rfl)
            · have hf := z_n c27 hf
              exact hj22  hf _ _ ls  hP hD hS (lv_sub hl [1, 2, 4, 5, 0] rfl)
    refine hL11  F (-1) 0 u2 fc tp hf _ _ ls w1 w2 hP hD hS (lv_sub hl [3, 4, 2, 1, 0] rfl)
  · have hf := z_p c1 hf
    refine lv_iconst (v := (-1)) hx hb dX7_best_8 rfl ?_
    obtain rfl := Option.some.inj hf
    exact zr_MiX (w1, w2) hx hb hr hlocks hP hD hS dX7_best_9

theorem hd_yX7_bestExchange : hdY yX7_bestExchange 2 := by decide +kernel
def K_bestExchange_L26 (F : Nat) (now : Sh) (a1 : Int32) (a2 : Int32) (x1 : Int32) (x5 : Int32) (kx24 : Int32 → Sh → Fc → Fr → Option (Int32 × Sh × Fc × Fr)) : Nat → Int32 → Int32 → Sh → Fc → Fr → Option (Int32 × Sh × Fc × Fr)
  | 0, _, _, _, _, _ => none
  | n22 + 1, x16, x17, sh18, fc19, fr20 => if x1 ≤ x17 then (kx24 x16 sh18 fc19 fr20) else (z_let (K_swapPlaces a2 x5 x17 x1) (fun x32 : Int32 => z_bd (K_setTrialRow F now sh18 a1 x32) (fun u33 : Sh => z_bd (Fc_look F fc19 u33) (fun u34 : Fc => z_bd (Fc_oddsAgainst F u34 fr20 a1) (fun r38 : Int32 => if r38 ≤ 0 then (z_let (x17 + 1) (fun x40 : Int32 => K_bestExchange_L26 F now a1 a2 x1 x5 kx24 n22 x16 x40 u33 u34 fr20)) else (z_let (Fr_put (Fc_winsOf u34 a1) (fc_whole u34)) (fun u41 : Fr => z_let (x17 + 1) (fun x42 : Int32 => K_bestExchange_L26 F now a1 a2 x1 x5 kx24 n22 x32 x42 u33 u34 u41))))))))
def K_bestExchange_L14 (F : Nat) (now : Sh) (a1 : Int32) (a2 : Int32) (x1 : Int32) : Nat → Int32 → Int32 → Sh → Fc → Fr → Option (Int32 × Sh × Fc × Fr)
  | 0, _, _, _, _, _ => none
  | n10 + 1, x4, x5, sh6, fc7, fr8 => if x1 ≤ x5 then (some (x4, sh6, fc7, fr8)) else (z_let (x5 + 1) (fun x13 : Int32 => K_bestExchange_L26 F now a1 a2 x1 x5 (fun (x27 : Int32) (sh28 : Sh) (fc29 : Fc) (fr30 : Fr) => z_let (x5 + 1) (fun x43 : Int32 => K_bestExchange_L14 F now a1 a2 x1 n10 x27 x43 sh28 fc29 fr30)) F x4 x13 sh6 fc7 fr8))
def K_bestExchange (F : Nat) (now : Sh) (tr : Sh) (fc : Fc) (tp : Fr) (a1 : Int32) (a2 : Int32) : Option (Int32 × Sh × Fc × Fr) := z_let (sh_shooters now) (fun x1 : Int32 => K_bestExchange_L14 F now a1 a2 x1 F a2 0 tr fc tp)
set_option maxHeartbeats 4000000 in
set_option maxRecDepth 100000 in
theorem ctX7_bestExchange (l : Launch) (D : va_G) (ac cs : Nat → Nat) (a : Nat → Nat → Nat) (w1 w2 : Nat) (sz : Nat) (ko : Ko) (tx : Tx) (now : Sh) (tr : Sh) (te : Te) (pa : Pa) (fc : Fc) (to : Fr) (tp : Fr) (re : Re) (k0 : Sh) (k1 : Sh) (ti : Sh) (rg : Nat → Sh) (a1 : Int32) (a2 : Int32) (F : Nat) (res : Int32 × Sh × Fc × Fr) (hf : K_bestExchange F now tr fc tp a1 a2 = some res) : Met l yX7_bestExchange (cWW yX7_bestExchange cX7_bestExchange 8 (some .int)) { frames := 7, cells := 0, slots := 0, locals := 159 } (zM D ac cs [.ref (a 0 0), .int a1, .int a2] ((koW ac a ko ++ (txW ac (a 1) tx ++ (shW ac (a 2) now ++ (shW ac (a 3) tr ++ (teW ac (a 4) (a 1) (a 10) te ++ (paW ac a pa ++ (fcW ac (a 6) w1 w2 fc ++ (frW ac (a 7) to ++ (frW ac (a 8) tp ++ (reW ac (a 9) re ++ (shW ac (a 40) k0 ++ (shW ac (a 41) k1 ++ (shW ac (a 10) ti))))))))))))) ++ ringW ac a rg) sz) (va_Qi (fun r (_ : Nat × Nat) => r = res.1) (fun u => zB D (va_A ((koW ac a ko ++ (txW ac (a 1) tx ++ (shW ac (a 2) now ++ (shW ac (a 3) tr ++ (teW ac (a 4) (a 1) (a 10) te ++ (paW ac a pa ++ (fcW ac (a 6) w1 w2 fc ++ (frW ac (a 7) to ++ (frW ac (a 8) tp ++ (reW ac (a 9) re ++ (shW ac (a 40) k0 ++ (shW ac (a 41) k1 ++ (shW ac (a 10) ti))))))))))))) ++ ringW ac a rg) sz) ((koW ac a ko ++ (txW ac (a 1) tx ++ (shW ac (a 2) now ++ (shW ac (a 3) res.2.1 ++ (teW ac (a 4) (a 1) (a 10) te ++ (paW ac a pa ++ (fcW ac (a 6) u.1 u.2 res.2.2.1 ++ (frW ac (a 7) to ++ (frW ac (a 8) res.2.2.2 ++ (reW ac (a 9) re ++ (shW ac (a 40) k0 ++ (shW ac (a 41) k1 ++ (shW ac (a 10) ti))))))))))))) ++ ringW ac a rg)) (va_A ((koW ac a ko ++ (txW ac (a 1) tx ++ (shW ac (a 2) now ++ (shW ac (a 3) tr ++ (teW ac (a 4) (a 1) (a 10) te ++ (paW ac a pa ++ (fcW ac (a 6) w1 w2 fc ++ (frW ac (a 7) to ++ (frW ac (a 8) tp ++ (reW ac (a 9) re ++ (shW ac (a 40) k0 ++ (shW ac (a 41) k1 ++ (shW ac (a 10) ti))))))))))))) ++ ringW ac a rg) sz)) 0 0 (va_A ((koW ac a ko ++ (txW ac (a 1) tx ++ (shW ac (a 2) now ++ (shW ac (a 3) tr ++ (teW ac (a 4) (a 1) (a 10) te ++ (paW ac a pa ++ (fcW ac (a 6) w1 w2 fc ++ (frW ac (a 7) to ++ (frW ac (a 8) tp ++ (reW ac (a 9) re ++ (shW ac (a 40) k0 ++ (shW ac (a 41) k1 ++ (shW ac (a 10) ti))))))))))))) ++ ringW ac a rg) sz) := by
  refine Met.ofW (cc := cX7_bestExchange) (maxL := 8) (ret := (some .int)) (by decide) rfl ?_
  intro p e s m args below meth c s₁ B hml hv
  obtain ⟨rfl, hsz, hP, hKX, hD0, hC⟩ := hv
  have hx := B.exec
  have hb := B.bytes
  have hr := B.returns
  have hts := atoms_spec (ws := cWW yX7_bestExchange cX7_bestExchange 8 (some .int)) B.pre
  have htw : ∀ w ∈ WW, w.before _ s = true := fun w h => hts w (List.mem_cons_of_mem _ h)
  have hown : s.vm.findClass RX7 = some m.cls := findClass_of_methodNamed B.named
  have hlocks := B.notSynchronized
  clear hts B
  subst hsz
  have hD := hD0.self (sz := s.heap.size)
  generalize hAe : va_A ((koW ac a ko ++ (txW ac (a 1) tx ++ (shW ac (a 2) now ++ (shW ac (a 3) tr ++ (teW ac (a 4) (a 1) (a 10) te ++ (paW ac a pa ++ (fcW ac (a 6) w1 w2 fc ++ (frW ac (a 7) to ++ (frW ac (a 8) tp ++ (reW ac (a 9) re ++ (shW ac (a 40) k0 ++ (shW ac (a 41) k1 ++ (shW ac (a 10) ti))))))))))))) ++ ringW ac a rg) s.heap.size = A at hD hC ⊢
  have hA : ∀ q : Nat, s.heap.size ≤ q → A q := fun q h => by rw [← hAe]; exact Or.inr h
  have hS : va_S A s.heap s.heap [] := va_S.rf
  clear hD0 hAe
  have hP : va_P D vwCl ((koW ac a ko ++ (txW ac (a 1) tx ++ (shW ac (a 2) now ++ (shW ac (a 3) tr ++ (teW ac (a 4) (a 1) (a 10) te ++ (paW ac a pa ++ (fcW ac (a 6) w1 w2 fc ++ (frW ac (a 7) to ++ (frW ac (a 8) tp ++ (reW ac (a 9) re ++ (shW ac (a 40) k0 ++ (shW ac (a 41) k1 ++ (shW ac (a 10) ti))))))))))))) ++ ringW ac a rg) s.heap := hP
  have hl := lv_entry ([.ref (a 0 0), .int a1, .int a2]) (n := 8) (Nat.le_of_ble_eq_true rfl)
  rw [lg_entry_eq]
  generalize (lg_sl ([.ref (a 0 0), .int a1, .int a2]) ++ List.replicate (8 - (lg_sl ([.ref (a 0 0), .int a1, .int a2])).length) Slot.unset).toArray = ls at hl ⊢
  have hl : lv_has ls 8 [(0, .ref (a 0 0)), (1, .int a1), (2, .int a2)] := hl
  unfold K_bestExchange at hf
  show W p l e ({ frames := 7, cells := 0, slots := 0, locals := 159 } : Room) s m _ below meth c s.heap [] 0 0 _ (F0 m 0 ls [])
  refine lv_aload_n hx hb dX7_bestExchange_0 rfl (lv_at hl 0 rfl) ?_
  refine va_get (D := D) (ci := 7) (v := .ref (a 2 0)) (C := RX7) (T := TX7) (N := 13) hx hb htw WW_wsX70 hown hKX.1 hP 0 rfl rfl 2 (Nat.le_of_ble_eq_true rfl) (htw _ mF_RX7_26) (fun _ h9 => h9) rfl dX7_bestExchange_1 ?_
  refine va_getN (D := D) (ci := 4) (v := .int (sh_shooters now)) (C := RX4) (T := TX4) (N := 10) hx hb htw WW_wsX40 hown hKX.1 hP 6 rfl rfl 0 (Nat.le_of_ble_eq_true rfl) (va_Nw.use rfl (hKX.2 _ (List.mem_of_getElem? (i := 3) rfl))) (fun _ h9 => h9) rfl dX7_bestExchange_4 ?_
  refine lv_topi (fun x1 hx1 => ?_)
  have hf := z_let_u hx1 hf
  refine lv_istore_n (lv' := [(3, .int x1), (0, .ref (a 0 0)), (1, .int a1), (2, .int a2)]) hx hb dX7_bestExchange_7 rfl hl (Nat.le_of_ble_eq_true rfl) rfl (fun ls hl => ?_)
  refine lv_iload_n hx hb dX7_bestExchange_8 rfl (lv_at hl 3 rfl) ?_
  refine lv_istore (lv' := [(4, .int a2), (3, .int x1), (0, .ref (a 0 0)), (1, .int a1), (2, .int a2)]) hx hb dX7_bestExchange_9 hl (Nat.le_of_ble_eq_true rfl) rfl (fun ls hl => ?_)
  refine lv_iconst (v := 0) hx hb dX7_bestExchange_11 rfl ?_
  refine lv_istore (lv' := [(5, .int 0), (4, .int a2), (3, .int x1), (0, .ref (a 0 0)), (1, .int a1), (2, .int a2)]) hx hb dX7_bestExchange_12 hl (Nat.le_of_ble_eq_true rfl) rfl (fun ls hl => ?_)
  have hL9 : ∀ (n10 : Nat) (x4 : Int32) (x5 : Int32) (sh6 : Sh) (fc7 : Fc) (fr8 : Fr), K_bestExchange_L14 F now a1 a2 x1 n10 x4 x5 sh6 fc7 fr8 = some res → ∀ (H : Heap) (locs : List Loc) (ls : Array Slot) (w2 w3 : Nat), va_P D vwCl ((koW ac a ko ++ (txW ac (a 1) tx ++ (shW ac (a 2) now ++ (shW ac (a 3) sh6 ++ (teW ac (a 4) (a 1) (a 10) te ++ (paW ac a pa ++ (fcW ac (a 6) w2 w3 fc7 ++ (frW ac (a 7) to ++ (frW ac (a 8) fr8 ++ (reW ac (a 9) re ++ (shW ac (a 40) k0 ++ (shW ac (a 41) k1 ++ (shW ac (a 10) ti))))))))))))) ++ ringW ac a rg) H → va_D A ((koW ac a ko ++ (txW ac (a 1) tx ++ (shW ac (a 2) now ++ (shW ac (a 3) sh6 ++ (teW ac (a 4) (a 1) (a 10) te ++ (paW ac a pa ++ (fcW ac (a 6) w2 w3 fc7 ++ (frW ac (a 7) to ++ (frW ac (a 8) fr8 ++ (reW ac (a 9) re ++ (shW ac (a 40) k0 ++ (shW ac (a 41) k1 ++ (shW ac (a 10) ti))))))))))))) ++ ringW ac a rg) → va_S A s.heap H locs → lv_has ls 8 [(0, .ref (a 0 0)), (1, .int a1), (2, .int a2), (3, .int x1), (4, .int x4), (5, .int x5)] → W p l e ({ frames := 7, cells := 0, slots := 0, locals := 159 } : Room) s m (([.ref (a 0 0), .int a1, .int a2] : List Value).toArray) below meth c H locs 0 0 (MQ below (va_Qi (fun r (_ : Nat × Nat) => r = res.1) (fun u => zB D A ((koW ac a ko ++ (txW ac (a 1) tx ++ (shW ac (a 2) now ++ (shW ac (a 3) res.2.1 ++ (teW ac (a 4) (a 1) (a 10) te ++ (paW ac a pa ++ (fcW ac (a 6) u.1 u.2 res.2.2.1 ++ (frW ac (a 7) to ++ (frW ac (a 8) res.2.2.2 ++ (reW ac (a 9) re ++ (shW ac (a 40) k0 ++ (shW ac (a 41) k1 ++ (shW ac (a 10) ti))))))))))))) ++ ringW ac a rg)) A) ([.ref (a 0 0), .int a1, .int a2] : List Value).toArray s 0 0 A) (F0 m 14 ls []) := by
    intro n10
    induction n10 with
    | zero => intro x4 x5 sh6 fc7 fr8 hf; rw [K_bestExchange_L14] at hf; cases hf
    | succ n10 ih11 =>
      intro x4 x5 sh6 fc7 fr8 hf H locs ls w2 w3 hP hD hS hl
      rw [K_bestExchange_L14] at hf
      refine lv_iload hx hb dX7_bestExchange_14 (lv_at hl 5 rfl) ?_
      refine lv_iload_n hx hb dX7_bestExchange_16 rfl (lv_at hl 3 rfl) ?_
      refine lv_icmp_ge (tgt := 114) hx hb dX7_bestExchange_17 (by decide) (fun c12 => ?_) (fun c12 => ?_)
      · have hf := z_p c12 hf
        refine lv_iload hx hb dX7_bestExchange_114 (lv_at hl 4 rfl) ?_
        obtain rfl := Option.some.inj hf
        exact zr_MiX (w2, w3) hx hb hr hlocks hP hD hS dX7_bestExchange_116
      · have hf := z_n c12 hf
        refine lv_iload hx hb dX7_bestExchange_20 (lv_at hl 5 rfl) ?_
        refine lv_iconst (v := 1) hx hb dX7_bestExchange_22 rfl ?_
        refine lv_iadd hx hb dX7_bestExchange_23 ?_
        refine lv_topi (fun x13 hx13 => ?_)
        have hf := z_let_u hx13 hf
        refine lv_istore (lv' := [(6, .int x13), (0, .ref (a 0 0)), (1, .int a1), (2, .int a2), (3, .int x1), (4, .int x4), (5, .int x5)]) hx hb dX7_bestExchange_24 hl (Nat.le_of_ble_eq_true rfl) rfl (fun ls hl => ?_)
        have hL21 : ∀ (kx24 : Int32 → Sh → Fc → Fr → Option (Int32 × Sh × Fc × Fr)) (hkx24 : ∀ (x27 : Int32) (sh28 : Sh) (fc29 : Fc) (fr30 : Fr), kx24 x27 sh28 fc29 fr30 = some res → ∀ (H : Heap) (locs : List Loc) (ls : Array Slot) (w25 w26 : Nat), va_P D vwCl ((koW ac a ko ++ (txW ac (a 1) tx ++ (shW ac (a 2) now ++ (shW ac (a 3) sh28 ++ (teW ac (a 4) (a 1) (a 10) te ++ (paW ac a pa ++ (fcW ac (a 6) w25 w26 fc29 ++ (frW ac (a 7) to ++ (frW ac (a 8) fr30 ++ (reW ac (a 9) re ++ (shW ac (a 40) k0 ++ (shW ac (a 41) k1 ++ (shW ac (a 10) ti))))))))))))) ++ ringW ac a rg) H → va_D A ((koW ac a ko ++ (txW ac (a 1) tx ++ (shW ac (a 2) now ++ (shW ac (a 3) sh28 ++ (teW ac (a 4) (a 1) (a 10) te ++ (paW ac a pa ++ (fcW ac (a 6) w25 w26 fc29 ++ (frW ac (a 7) to ++ (frW ac (a 8) fr30 ++ (reW ac (a 9) re ++ (shW ac (a 40) k0 ++ (shW ac (a 41) k1 ++ (shW ac (a 10) ti))))))))))))) ++ ringW ac a rg) → va_S A s.heap H locs → lv_has ls 8 [(0, .ref (a 0 0)), (1, .int a1), (2, .int a2), (3, .int x1), (4, .int x27), (5, .int x5)] → W p l e ({ frames := 7, cells := 0, slots := 0, locals := 159 } : Room) s m (([.ref (a 0 0), .int a1, .int a2] : List Value).toArray) below meth c H locs 0 0 (MQ below (va_Qi (fun r (_ : Nat × Nat) => r = res.1) (fun u => zB D A ((koW ac a ko ++ (txW ac (a 1) tx ++ (shW ac (a 2) now ++ (shW ac (a 3) res.2.1 ++ (teW ac (a 4) (a 1) (a 10) te ++ (paW ac a pa ++ (fcW ac (a 6) u.1 u.2 res.2.2.1 ++ (frW ac (a 7) to ++ (frW ac (a 8) res.2.2.2 ++ (reW ac (a 9) re ++ (shW ac (a 40) k0 ++ (shW ac (a 41) k1 ++ (shW ac (a 10) ti))))))))))))) ++ ringW ac a rg)) A) ([.ref (a 0 0), .int a1, .int a2] : List Value).toArray s 0 0 A) (F0 m 108 ls [])) (n22 : Nat) (x16 : Int32) (x17 : Int32) (sh18 : Sh) (fc19 : Fc) (fr20 : Fr), K_bestExchange_L26 F now a1 a2 x1 x5 kx24 n22 x16 x17 sh18 fc19 fr20 = some res → ∀ (H : Heap) (locs : List Loc) (ls : Array Slot) (w14 w15 : Nat), va_P D vwCl ((koW ac a ko ++ (txW ac (a 1) tx ++ (shW ac (a 2) now ++ (shW ac (a 3) sh18 ++ (teW ac (a 4) (a 1) (a 10) te ++ (paW ac a pa ++ (fcW ac (a 6) w14 w15 fc19 ++ (frW ac (a 7) to ++ (frW ac (a 8) fr20 ++ (reW ac (a 9) re ++ (shW ac (a 40) k0 ++ (shW ac (a 41) k1 ++ (shW ac (a 10) ti))))))))))))) ++ ringW ac a rg) H → va_D A ((koW ac a ko ++ (txW ac (a 1) tx ++ (shW ac (a 2) now ++ (shW ac (a 3) sh18 ++ (teW ac (a 4) (a 1) (a 10) te ++ (paW ac a pa ++ (fcW ac (a 6) w14 w15 fc19 ++ (frW ac (a 7) to ++ (frW ac (a 8) fr20 ++ (reW ac (a 9) re ++ (shW ac (a 40) k0 ++ (shW ac (a 41) k1 ++ (shW ac (a 10) ti))))))))))))) ++ ringW ac a rg) → va_S A s.heap H locs → lv_has ls 8 [(0, .ref (a 0 0)), (1, .int a1), (2, .int a2), (3, .int x1), (4, .int x16), (5, .int x5), (6, .int x17)] → W p l e ({ frames := 7, cells := 0, slots := 0, locals := 159 } : Room) s m (([.ref (a 0 0), .int a1, .int a2] : List Value).toArray) below meth c H locs 0 0 (MQ below (va_Qi (fun r (_ : Nat × Nat) => r = res.1) (fun u => zB D A ((koW ac a ko ++ (txW ac (a 1) tx ++ (shW ac (a 2) now ++ (shW ac (a 3) res.2.1 ++ (teW ac (a 4) (a 1) (a 10) te ++ (paW ac a pa ++ (fcW ac (a 6) u.1 u.2 res.2.2.1 ++ (frW ac (a 7) to ++ (frW ac (a 8) res.2.2.2 ++ (reW ac (a 9) re ++ (shW ac (a 40) k0 ++ (shW ac (a 41) k1 ++ (shW ac (a 10) ti))))))))))))) ++ ringW ac a rg)) A) ([.ref (a 0 0), .int a1, .int a2] : List Value).toArray s 0 0 A) (F0 m 26 ls []) := by
          intro kx24 hkx24 n22
          induction n22 with
          | zero => intro x16 x17 sh18 fc19 fr20 hf; rw [K_bestExchange_L26] at hf; cases hf
          | succ n22 ih23 =>
            intro x16 x17 sh18 fc19 fr20 hf H locs ls w14 w15 hP hD hS hl
            rw [K_bestExchange_L26] at hf
            refine lv_iload hx hb dX7_bestExchange_26 (lv_at hl 6 rfl) ?_
            refine lv_iload_n hx hb dX7_bestExchange_28 rfl (lv_at hl 3 rfl) ?_
            refine lv_icmp_ge (tgt := 108) hx hb dX7_bestExchange_29 (by decide) (fun c31 => ?_) (fun c31 => ?_)
            · have hf := z_p c31 hf
              exact hkx24 x16 sh18 fc19 fr20 hf _ _ ls w14 w15 hP hD hS (lv_sub hl [0, 1, 2, 3, 4, 5] rfl)
            · have hf := z_n c31 hf
              refine lv_iload_n hx hb dX7_bestExchange_32 rfl (lv_at hl 2 rfl) ?_
              refine lv_iload hx hb dX7_bestExchange_33 (lv_at hl 5 rfl) ?_
              refine lv_iload hx hb dX7_bestExchange_35 (lv_at hl 6 rfl) ?_
              refine lv_iload_n hx hb dX7_bestExchange_37 rfl (lv_at hl 3 rfl) ?_
              refine zc_RSi (As := [.int a2, .int x5, .int x17, .int x1]) (rest := []) hx hb hml hown htw (ctX7_swapPlaces l D ac cs   a2 x5 x17 x1   _ rfl) (g_S mM_RX7_368 mT_yX7_swapPlaces mN_RX7 mC_yX7_swapPlaces) (hd_yX7_swapPlaces) ⟨rfl, rfl⟩ ⟨(Nat.le_of_ble_eq_true rfl), (Nat.le_of_ble_eq_true rfl)⟩ hKX hC hS zP0 rfl hl.1 rfl (Nat.le_of_ble_eq_true rfl) ⟨Nat.zero_le _, Nat.zero_le _⟩ dX7_bestExchange_38 ?_
              refine lv_topi (fun x32 hx32 => ?_)
              have hf := z_let_u hx32 hf
              refine lv_istore (lv' := [(7, .int x32), (0, .ref (a 0 0)), (1, .int a1), (2, .int a2), (3, .int x1), (4, .int x16), (5, .int x5), (6, .int x17)]) hx hb dX7_bestExchange_41 hl (Nat.le_of_ble_eq_true rfl) rfl (fun ls hl => ?_)
              refine lv_aload_n hx hb dX7_bestExchange_43 rfl (lv_at hl 1 rfl) ?_
              refine lv_iload_n hx hb dX7_bestExchange_44 rfl (lv_at hl 2 rfl) ?_
              refine lv_iload hx hb dX7_bestExchange_45 (lv_at hl 0 rfl) ?_
              obtain ⟨u33, hu33, hf⟩ := z_bd_u hf
              refine zc_MVvT (E := (koW ac a ko ++ (txW ac (a 1) tx ++ (shW ac (a 2) now ++ (shW ac (a 3) sh18 ++ (teW ac (a 4) (a 1) (a 10) te ++ (paW ac a pa ++ (fcW ac (a 6) w14 w15 fc19 ++ (frW ac (a 7) to ++ (frW ac (a 8) fr20 ++ (reW ac (a 9) re ++ (shW ac (a 40) k0 ++ (shW ac (a 41) k1 ++ (shW ac (a 10) ti))))))))))))) ++ ringW ac a rg) (TT := []) (As := [.int a1, .int x32]) (rest := []) (wr := []) (wsc := (koW ac a ko ++ (txW ac (a 1) tx ++ (shW ac (a 2) now ++ (shW ac (a 3) sh18 ++ (teW ac (a 4) (a 1) (a 10) te ++ (paW ac a pa ++ (fcW ac (a 6) w14 w15 fc19 ++ (frW ac (a 7) to ++ (frW ac (a 8) fr20 ++ (reW ac (a 9) re ++ (shW ac (a 40) k0 ++ (shW ac (a 41) k1 ++ (shW ac (a 10) ti))))))))))))) ++ ringW ac a rg) (wsc' := (koW ac a ko ++ (txW ac (a 1) tx ++ (shW ac (a 2) now ++ (shW ac (a 3) u33 ++ (teW ac (a 4) (a 1) (a 10) te ++ (paW ac a pa ++ (fcW ac (a 6) w14 w15 fc19 ++ (frW ac (a 7) to ++ (frW ac (a 8) fr20 ++ (reW ac (a 9) re ++ (shW ac (a 40) k0 ++ (shW ac (a 41) k1 ++ (shW ac (a 10) ti))))))))))))) ++ ringW ac a rg) hx hb hml hown htw (ctX7_setTrialRow l D ac cs a w14 w15 H.size ko tx now sh18 te pa fc19 to fr20 re k0 k1 ti rg a1 x32   F u33 hu33) (g_V mM_RX7_258 mI_yX7_setTrialRow mS_RX7_yX7_setTrialRow_yX7_setTrialRow mN_RX7 mC_yX7_setTrialRow) rfl (hd_yX7_setTrialRow) ⟨rfl, rfl⟩ ⟨(Nat.le_of_ble_eq_true rfl), (Nat.le_of_ble_eq_true rfl)⟩ hKX hC hS hA (zP_nil hP) (zD_nil hD) (List.range _) [] (zrange _) (zndr _) rfl rfl (fun _ h => by cases h) 7 rfl rfl rfl hl.1 rfl (Nat.le_of_ble_eq_true rfl) ⟨Nat.zero_le _, Nat.zero_le _⟩ dX7_bestExchange_47 (fun H locs hP hD hS => ?_)
              have hP : va_P D vwCl ((koW ac a ko ++ (txW ac (a 1) tx ++ (shW ac (a 2) now ++ (shW ac (a 3) u33 ++ (teW ac (a 4) (a 1) (a 10) te ++ (paW ac a pa ++ (fcW ac (a 6) w14 w15 fc19 ++ (frW ac (a 7) to ++ (frW ac (a 8) fr20 ++ (reW ac (a 9) re ++ (shW ac (a 40) k0 ++ (shW ac (a 41) k1 ++ (shW ac (a 10) ti))))))))))))) ++ ringW ac a rg) H := zP_un hP
              have hD : va_D A ((koW ac a ko ++ (txW ac (a 1) tx ++ (shW ac (a 2) now ++ (shW ac (a 3) u33 ++ (teW ac (a 4) (a 1) (a 10) te ++ (paW ac a pa ++ (fcW ac (a 6) w14 w15 fc19 ++ (frW ac (a 7) to ++ (frW ac (a 8) fr20 ++ (reW ac (a 9) re ++ (shW ac (a 40) k0 ++ (shW ac (a 41) k1 ++ (shW ac (a 10) ti))))))))))))) ++ ringW ac a rg) := zD_un hD
              refine lv_aload_n hx hb dX7_bestExchange_50 rfl (lv_at hl 1 rfl) ?_
              refine va_get (D := D) (ci := 7) (v := .ref (a 6 0)) (C := RX7) (T := TX7) (N := 13) hx hb htw WW_wsX70 hown hKX.1 hP 0 rfl rfl 7 (Nat.le_of_ble_eq_true rfl) (htw _ mF_RX7_51) (fun _ h9 => h9) rfl dX7_bestExchange_51 ?_
              refine lv_aload_n hx hb dX7_bestExchange_54 rfl (lv_at hl 1 rfl) ?_
              refine va_get (D := D) (ci := 7) (v := .ref (a 3 0)) (C := RX7) (T := TX7) (N := 13) hx hb htw WW_wsX70 hown hKX.1 hP 0 rfl rfl 3 (Nat.le_of_ble_eq_true rfl) (htw _ mF_RX7_30) (fun _ h9 => h9) rfl dX7_bestExchange_55 ?_
              obtain ⟨u34, hu34, hf⟩ := z_bd_u hf
              refine zc_MVvXT (As := [.ref (a 3 0)]) (rest := []) (wr := koW ac a ko ++ (txW ac (a 1) tx ++ (shW ac (a 2) now ++ (teW ac (a 4) (a 1) (a 10) te ++ (paW ac a pa ++ (frW ac (a 7) to ++ (frW ac (a 8) fr20 ++ (reW ac (a 9) re ++ (shW ac (a 40) k0 ++ (shW ac (a 41) k1 ++ (shW ac (a 10) ti))))))))))) (wsc := fcW ac (a 6) w14 w15 fc19 ++ (shW ac (a 3) u33)) (wsc' := fun u35 : Nat × Nat => fcW ac (a 6) u35.1 u35.2 u34 ++ (shW ac (a 3) u33)) hx hb hml hown htw (ctX0_look l D ac cs (a 6) w14 w15 (a 3) H.size fc19 u33    F u34 hu34) (g_V mM_RX7_185 mI_yX0_look mS_RX0_yX0_look_yX0_look mN_RX0 mC_yX0_look) rfl (hd_yX0_look) ⟨rfl, rfl⟩ ⟨(Nat.le_of_ble_eq_true rfl), (Nat.le_of_ble_eq_true rfl)⟩ hKX hC hS hA hP hD [16, 17, 18, 19, 20, 9, 10, 11] [0, 1, 2, 3, 4, 5, 6, 7, 8, 12, 13, 14, 15, 21, 22, 23, 24, 25, 26, 27, 28, 29, 30, 31, 32, 33, 34, 35, 36, 37] rfl (by decide) rfl (by decide) (by decide) 0 rfl rfl rfl hl.1 rfl (Nat.le_of_ble_eq_true rfl) ⟨Nat.zero_le _, Nat.zero_le _⟩ dX7_bestExchange_58 (fun u35 H locs hP hD hS => ?_)
              obtain ⟨w36, w37⟩ := u35
              have hP : va_P D vwCl ((koW ac a ko ++ (txW ac (a 1) tx ++ (shW ac (a 2) now ++ (shW ac (a 3) u33 ++ (teW ac (a 4) (a 1) (a 10) te ++ (paW ac a pa ++ (fcW ac (a 6) w36 w37 u34 ++ (frW ac (a 7) to ++ (frW ac (a 8) fr20 ++ (reW ac (a 9) re ++ (shW ac (a 40) k0 ++ (shW ac (a 41) k1 ++ (shW ac (a 10) ti))))))))))))) ++ ringW ac a rg) H := zsubPT hP [0, 1, 2, 3, 4, 5, 6, 7, 8, 35, 36, 37, 9, 10, 11, 12, 30, 31, 32, 33, 34, 13, 14, 15, 16, 17, 18, 19, 20, 21, 22, 23, 24, 25, 26, 27, 28, 29] rfl
              have hD : va_D A ((koW ac a ko ++ (txW ac (a 1) tx ++ (shW ac (a 2) now ++ (shW ac (a 3) u33 ++ (teW ac (a 4) (a 1) (a 10) te ++ (paW ac a pa ++ (fcW ac (a 6) w36 w37 u34 ++ (frW ac (a 7) to ++ (frW ac (a 8) fr20 ++ (reW ac (a 9) re ++ (shW ac (a 40) k0 ++ (shW ac (a 41) k1 ++ (shW ac (a 10) ti))))))))))))) ++ ringW ac a rg) := zsubDT hD [0, 1, 2, 3, 4, 5, 6, 7, 8, 35, 36, 37, 9, 10, 11, 12, 30, 31, 32, 33, 34, 13, 14, 15, 16, 17, 18, 19, 20, 21, 22, 23, 24, 25, 26, 27, 28, 29] (by decide) rfl
              refine lv_aload_n hx hb dX7_bestExchange_61 rfl (lv_at hl 1 rfl) ?_
              refine va_get (D := D) (ci := 7) (v := .ref (a 6 0)) (C := RX7) (T := TX7) (N := 13) hx hb htw WW_wsX70 hown hKX.1 hP 0 rfl rfl 7 (Nat.le_of_ble_eq_true rfl) (htw _ mF_RX7_51) (fun _ h9 => h9) rfl dX7_bestExchange_62 ?_
              refine lv_iload_n hx hb dX7_bestExchange_65 rfl (lv_at hl 2 rfl) ?_
              refine lv_aload_n hx hb dX7_bestExchange_66 rfl (lv_at hl 1 rfl) ?_
              refine va_get (D := D) (ci := 7) (v := .ref (a 8 0)) (C := RX7) (T := TX7) (N := 13) hx hb htw WW_wsX70 hown hKX.1 hP 0 rfl rfl 9 (Nat.le_of_ble_eq_true rfl) (htw _ mF_RX7_62) (fun _ h9 => h9) rfl dX7_bestExchange_67 ?_
              obtain ⟨r38, hr38, hf⟩ := z_bd_u hf
              refine zc_RVi (As := [.int a1, .ref (a 8 0)]) (rest := []) hx hb hml hown htw (ctX0_oddsAgainst l D ac cs (a 6) w36 w37 (a 8) u34 fr20 a1   F _ hr38) (g_V mM_RX7_267 mI_yX0_oddsAgainst mS_RX0_yX0_oddsAgainst_yX0_oddsAgainst mN_RX0 mC_yX0_oddsAgainst) rfl (hd_yX0_oddsAgainst) ⟨rfl, rfl⟩ ⟨(Nat.le_of_ble_eq_true rfl), (Nat.le_of_ble_eq_true rfl)⟩ hKX hC hS (hP.sub [16, 17, 18, 19, 20, 22] rfl) 0 rfl rfl rfl hl.1 rfl (Nat.le_of_ble_eq_true rfl) ⟨Nat.zero_le _, Nat.zero_le _⟩ dX7_bestExchange_70 ?_
              refine lv_if_le (tgt := 102) hx hb dX7_bestExchange_73 (by decide) (fun c39 => ?_) (fun c39 => ?_)
              · have hf := z_p c39 hf
                obtain ⟨x40, hx40⟩ : ∃ y : Int32, y = (x17 + 1) := ⟨_, rfl⟩
                have hf := z_let_u hx40 hf
                refine lv_iinc (v := x40) (lv' := [(6, .int x40), (7, .int x32), (0, .ref (a 0 0)), (1, .int a1), (2, .int a2), (3, .int x1), (4, .int x16), (5, .int x5)]) hx hb dX7_bestExchange_102 hl (k := 7) rfl (by rw [hx40]; rfl) (Nat.le_of_ble_eq_true rfl) rfl (fun ls hl => ?_)
                refine lv_goto (tgt := 26) hx hb dX7_bestExchange_105 (by decide) ?_
                exact ih23 x16 x40 u33 u34 fr20 hf _ _ ls w36 w37 hP hD hS (lv_sub hl [2, 3, 4, 5, 6, 7, 0] rfl)
              · have hf := z_n c39 hf
                refine lv_aload_n hx hb dX7_bestExchange_76 rfl (lv_at hl 1 rfl) ?_
                refine va_get (D := D) (ci := 7) (v := .ref (a 8 0)) (C := RX7) (T := TX7) (N := 13) hx hb htw WW_wsX70 hown hKX.1 hP 0 rfl rfl 9 (Nat.le_of_ble_eq_true rfl) (htw _ mF_RX7_62) (fun _ h9 => h9) rfl dX7_bestExchange_77 ?_
                refine lv_aload_n hx hb dX7_bestExchange_80 rfl (lv_at hl 1 rfl) ?_
                refine va_get (D := D) (ci := 7) (v := .ref (a 6 0)) (C := RX7) (T := TX7) (N := 13) hx hb htw WW_wsX70 hown hKX.1 hP 0 rfl rfl 7 (Nat.le_of_ble_eq_true rfl) (htw _ mF_RX7_51) (fun _ h9 => h9) rfl dX7_bestExchange_81 ?_
                refine lv_iload_n hx hb dX7_bestExchange_84 rfl (lv_at hl 2 rfl) ?_
                refine zc_RVl (As := [.int a1]) (rest := [.ref (a 8 0)]) hx hb hml hown htw (ctX0_winsOf l D ac cs (a 6) w36 w37 u34 a1   _ rfl) (g_V mM_RX7_194 mI_yX0_winsOf mS_RX0_yX0_winsOf_yX0_winsOf mN_RX0 mC_yX0_winsOf) rfl (hd_yX0_winsOf) ⟨rfl, rfl⟩ ⟨(Nat.le_of_ble_eq_true rfl), (Nat.le_of_ble_eq_true rfl)⟩ hKX hC hS (hP.sub [16, 17, 18, 19, 20] rfl) 0 rfl rfl rfl hl.1 rfl (Nat.le_of_ble_eq_true rfl) ⟨Nat.zero_le _, Nat.zero_le _⟩ dX7_bestExchange_85 ?_
                refine lv_aload_n hx hb dX7_bestExchange_88 rfl (lv_at hl 1 rfl) ?_
                refine va_get (D := D) (ci := 7) (v := .ref (a 6 0)) (C := RX7) (T := TX7) (N := 13) hx hb htw WW_wsX70 hown hKX.1 hP 0 rfl rfl 7 (Nat.le_of_ble_eq_true rfl) (htw _ mF_RX7_51) (fun _ h9 => h9) rfl dX7_bestExchange_89 ?_
                refine va_getN (D := D) (ci := 0) (v := .long (fc_whole u34)) (C := RX0) (T := TX0) (N := 15) hx hb htw WW_wsX00 hown hKX.1 hP 16 rfl rfl 14 (Nat.le_of_ble_eq_true rfl) (va_Nw.use rfl (hKX.2 _ (List.mem_of_getElem? (i := 19) rfl))) (fun _ h9 => h9) rfl dX7_bestExchange_92 ?_
                obtain ⟨u41, hu41⟩ : ∃ y : Fr, y = Fr_put (Fc_winsOf u34 a1) (fc_whole u34) := ⟨_, rfl⟩
                have hf := z_let_u hu41 hf
                refine zc_MVvT (As := [.long (Fc_winsOf u34 a1), .long (fc_whole u34)]) (rest := []) (wr := koW ac a ko ++ (txW ac (a 1) tx ++ (shW ac (a 2) now ++ (shW ac (a 3) u33 ++ (teW ac (a 4) (a 1) (a 10) te ++ (paW ac a pa ++ (fcW ac (a 6) w36 w37 u34 ++ (frW ac (a 7) to ++ (reW ac (a 9) re ++ (shW ac (a 40) k0 ++ (shW ac (a 41) k1 ++ (shW ac (a 10) ti)))))))))))) (wsc := frW ac (a 8) fr20) (wsc' := frW ac (a 8) u41) hx hb hml hown htw (ctX1_put l D ac cs (a 8) H.size fr20 (Fc_winsOf u34 a1) (fc_whole u34)   u41 hu41.symm) (g_V mM_RX7_202 mI_yX1_put mS_RX1_yX1_put_yX1_put mN_RX1 mC_yX1_put) rfl (hd_yX1_put) ⟨rfl, rfl⟩ ⟨(Nat.le_of_ble_eq_true rfl), (Nat.le_of_ble_eq_true rfl)⟩ hKX hC hS hA hP hD [22] [0, 1, 2, 3, 4, 5, 6, 7, 8, 9, 10, 11, 12, 13, 14, 15, 16, 17, 18, 19, 20, 21, 23, 24, 25, 26, 27, 28, 29, 30, 31, 32, 33, 34, 35, 36, 37] rfl (by decide) rfl (by decide) (by decide) 1 rfl rfl rfl hl.1 rfl (Nat.le_of_ble_eq_true rfl) ⟨Nat.zero_le _, Nat.zero_le _⟩ dX7_bestExchange_95 (fun H locs hP hD hS => ?_)
                have hP : va_P D vwCl ((koW ac a ko ++ (txW ac (a 1) tx ++ (shW ac (a 2) now ++ (shW ac (a 3) u33 ++ (teW ac (a 4) (a 1) (a 10) te ++ (paW ac a pa ++ (fcW ac (a 6) w36 w37 u34 ++ (frW ac (a 7) to ++ (frW ac (a 8) u41 ++ (reW ac (a 9) re ++ (shW ac (a 40) k0 ++ (shW ac (a 41) k1 ++ (shW ac (a 10) ti))))))))))))) ++ ringW ac a rg) H := zsubPT hP [0, 1, 2, 3, 4, 5, 6, 7, 8, 9, 10, 11, 12, 13, 14, 15, 16, 17, 18, 19, 20, 21, 37, 22, 23, 24, 25, 26, 27, 28, 29, 30, 31, 32, 33, 34, 35, 36] rfl
                have hD : va_D A ((koW ac a ko ++ (txW ac (a 1) tx ++ (shW ac (a 2) now ++ (shW ac (a 3) u33 ++ (teW ac (a 4) (a 1) (a 10) te ++ (paW ac a pa ++ (fcW ac (a 6) w36 w37 u34 ++ (frW ac (a 7) to ++ (frW ac (a 8) u41 ++ (reW ac (a 9) re ++ (shW ac (a 40) k0 ++ (shW ac (a 41) k1 ++ (shW ac (a 10) ti))))))))))))) ++ ringW ac a rg) := zsubDT hD [0, 1, 2, 3, 4, 5, 6, 7, 8, 9, 10, 11, 12, 13, 14, 15, 16, 17, 18, 19, 20, 21, 37, 22, 23, 24, 25, 26, 27, 28, 29, 30, 31, 32, 33, 34, 35, 36] (by decide) rfl
                refine lv_iload hx hb dX7_bestExchange_98 (lv_at hl 0 rfl) ?_
                refine lv_istore (lv' := [(4, .int x32), (7, .int x32), (0, .ref (a 0 0)), (1, .int a1), (2, .int a2), (3, .int x1), (5, .int x5), (6, .int x17)]) hx hb dX7_bestExchange_100 hl (Nat.le_of_ble_eq_true rfl) rfl (fun ls hl => ?_)
                obtain ⟨x42, hx42⟩ : ∃ y : Int32, y = (x17 + 1) := ⟨_, rfl⟩
                have hf := z_let_u hx42 hf
                refine lv_iinc (v := x42) (lv' := [(6, .int x42), (4, .int x32), (7, .int x32), (0, .ref (a 0 0)), (1, .int a1), (2, .int a2), (3, .int x1), (5, .int x5)]) hx hb dX7_bestExchange_102 hl (k := 7) rfl (by rw [hx42]; rfl) (Nat.le_of_ble_eq_true rfl) rfl (fun ls hl => ?_)
                refine lv_goto (tgt := 26) hx hb dX7_bestExchange_105 (by decide) ?_
                exact ih23 x32 x42 u33 u34 u41 hf _ _ ls w36 w37 hP hD hS (lv_sub hl [3, 4, 5, 6, 1, 7, 0] rfl)
        refine hL21 _ ?_ F x4 x13 sh6 fc7 fr8 hf _ _ ls w2 w3 hP hD hS (lv_sub hl [1, 2, 3, 4, 5, 6, 0] rfl)
        intro x27 sh28 fc29 fr30 hf H locs ls w25 w26 hP hD hS hl
        obtain ⟨x43, hx43⟩ : ∃ y : Int32, y = (x5 + 1) := ⟨_, rfl⟩
        have hf := z_let_u hx43 hf
        refine lv_iinc (v := x43) (lv' := [(5, .int x43), (0, .ref (a 0 0)), (1, .int a1), (2, .int a2), (3, .int x1), (4, .int x27)]) hx hb dX7_bestExchange_108 hl (k := 5) rfl (by rw [hx43]; rfl) (Nat.le_of_ble_eq_true rfl) rfl (fun ls hl => ?_)
        refine lv_goto (tgt := 14) hx hb dX7_bestExchange_111 (by decide) ?_
        exact ih11 x27 x43 sh28 fc29 fr30 hf _ _ ls w25 w26 hP hD hS (lv_sub hl [1, 2, 3, 4, 5, 0] rfl)
  refine hL9  F a2 0 tr fc tp hf _ _ ls w1 w2 hP hD hS (lv_sub hl [3, 4, 5, 2, 1, 0] rfl)

theorem hd_yX7_climbed : hdY yX7_climbed 2 := by decide +kernel
def K_climbed_L69 (F : Nat) (now : Sh) (a1 : Int32) (kx20 : Int32 → Int32 → Sh → Fc → Fr → Option (Int32 × Sh × Fc × Fr)) (kx21 : Int32 → Int32 → Sh → Fc → Fr → Option (Int32 × Sh × Fc × Fr)) : Nat → Int32 → Int32 → Sh → Fc → Fr → Option (Int32 × Sh × Fc × Fr)
  | 0, _, _, _, _, _ => none
  | n18 + 1, x12, x13, sh14, fc15, fr16 => if 120 ≤ x13 then (kx20 x12 x13 sh14 fc15 fr16) else (z_bd (K_bestExchange F now sh14 fc15 fr16 a1 x12) (fun u37 : Int32 × Sh × Fc × Fr => z_let u37.1 (fun x41 : Int32 => if x41 = x12 then (kx21 x12 x13 u37.2.1 u37.2.2.1 u37.2.2.2) else (z_let (x13 + 1) (fun x43 : Int32 => K_climbed_L69 F now a1 kx20 kx21 n18 x41 x43 u37.2.1 u37.2.2.1 u37.2.2.2)))))
def K_climbed (F : Nat) (now : Sh) (tr : Sh) (fc : Fc) (tp : Fr) (a1 : Int32) (a2 : Int32) : Option (Int32 × Sh × Fc × Fr) := if K_isSideTold now a1 = 0 then (some ((-1), tr, fc, tp)) else (if K_isPart a2 = 0 then (some ((-1), tr, fc, tp)) else (z_bd (K_takeStart F now tr) (fun u3 : Sh => z_bd (Fc_look F fc u3) (fun u4 : Fc => z_let (Fr_put (Fc_winsOf u4 a1) (fc_whole u4)) (fun u8 : Fr => z_bd (K_rowAt F 0 (sh_shooters now)) (fun r9 : Int32 => K_climbed_L69 F now a1 (fun (x24 : Int32) (x25 : Int32) (sh26 : Sh) (fc27 : Fc) (fr28 : Fr) => if a2 = 0 then (some (x24, sh26, fc27, fr28)) else (some (x25, sh26, fc27, fr28))) (fun (x31 : Int32) (x32 : Int32) (sh33 : Sh) (fc34 : Fc) (fr35 : Fr) => if a2 = 0 then (some (x31, sh33, fc34, fr35)) else (some (x32, sh33, fc34, fr35))) F r9 0 u3 u4 u8))))))
set_option maxHeartbeats 4000000 in
set_option maxRecDepth 100000 in
theorem ctX7_climbed (l : Launch) (D : va_G) (ac cs : Nat → Nat) (a : Nat → Nat → Nat) (w1 w2 : Nat) (sz : Nat) (ko : Ko) (tx : Tx) (now : Sh) (tr : Sh) (te : Te) (pa : Pa) (fc : Fc) (to : Fr) (tp : Fr) (re : Re) (k0 : Sh) (k1 : Sh) (ti : Sh) (rg : Nat → Sh) (a1 : Int32) (a2 : Int32) (F : Nat) (res : Int32 × Sh × Fc × Fr) (hf : K_climbed F now tr fc tp a1 a2 = some res) : Met l yX7_climbed (cWW yX7_climbed cX7_climbed 6 (some .int)) { frames := 8, cells := 0, slots := 0, locals := 186 } (zM D ac cs [.ref (a 0 0), .int a1, .int a2] ((koW ac a ko ++ (txW ac (a 1) tx ++ (shW ac (a 2) now ++ (shW ac (a 3) tr ++ (teW ac (a 4) (a 1) (a 10) te ++ (paW ac a pa ++ (fcW ac (a 6) w1 w2 fc ++ (frW ac (a 7) to ++ (frW ac (a 8) tp ++ (reW ac (a 9) re ++ (shW ac (a 40) k0 ++ (shW ac (a 41) k1 ++ (shW ac (a 10) ti))))))))))))) ++ ringW ac a rg) sz) (va_Qi (fun r (_ : Nat × Nat) => r = res.1) (fun u => zB D (va_A ((koW ac a ko ++ (txW ac (a 1) tx ++ (shW ac (a 2) now ++ (shW ac (a 3) tr ++ (teW ac (a 4) (a 1) (a 10) te ++ (paW ac a pa ++ (fcW ac (a 6) w1 w2 fc ++ (frW ac (a 7) to ++ (frW ac (a 8) tp ++ (reW ac (a 9) re ++ (shW ac (a 40) k0 ++ (shW ac (a 41) k1 ++ (shW ac (a 10) ti))))))))))))) ++ ringW ac a rg) sz) ((koW ac a ko ++ (txW ac (a 1) tx ++ (shW ac (a 2) now ++ (shW ac (a 3) res.2.1 ++ (teW ac (a 4) (a 1) (a 10) te ++ (paW ac a pa ++ (fcW ac (a 6) u.1 u.2 res.2.2.1 ++ (frW ac (a 7) to ++ (frW ac (a 8) res.2.2.2 ++ (reW ac (a 9) re ++ (shW ac (a 40) k0 ++ (shW ac (a 41) k1 ++ (shW ac (a 10) ti))))))))))))) ++ ringW ac a rg)) (va_A ((koW ac a ko ++ (txW ac (a 1) tx ++ (shW ac (a 2) now ++ (shW ac (a 3) tr ++ (teW ac (a 4) (a 1) (a 10) te ++ (paW ac a pa ++ (fcW ac (a 6) w1 w2 fc ++ (frW ac (a 7) to ++ (frW ac (a 8) tp ++ (reW ac (a 9) re ++ (shW ac (a 40) k0 ++ (shW ac (a 41) k1 ++ (shW ac (a 10) ti))))))))))))) ++ ringW ac a rg) sz)) 0 0 (va_A ((koW ac a ko ++ (txW ac (a 1) tx ++ (shW ac (a 2) now ++ (shW ac (a 3) tr ++ (teW ac (a 4) (a 1) (a 10) te ++ (paW ac a pa ++ (fcW ac (a 6) w1 w2 fc ++ (frW ac (a 7) to ++ (frW ac (a 8) tp ++ (reW ac (a 9) re ++ (shW ac (a 40) k0 ++ (shW ac (a 41) k1 ++ (shW ac (a 10) ti))))))))))))) ++ ringW ac a rg) sz) := by
  refine Met.ofW (cc := cX7_climbed) (maxL := 6) (ret := (some .int)) (by decide) rfl ?_
  intro p e s m args below meth c s₁ B hml hv
  obtain ⟨rfl, hsz, hP, hKX, hD0, hC⟩ := hv
  have hx := B.exec
  have hb := B.bytes
  have hr := B.returns
  have hts := atoms_spec (ws := cWW yX7_climbed cX7_climbed 6 (some .int)) B.pre
  have htw : ∀ w ∈ WW, w.before _ s = true := fun w h => hts w (List.mem_cons_of_mem _ h)
  have hown : s.vm.findClass RX7 = some m.cls := findClass_of_methodNamed B.named
  have hlocks := B.notSynchronized
  clear hts B
  subst hsz
  have hD := hD0.self (sz := s.heap.size)
  generalize hAe : va_A ((koW ac a ko ++ (txW ac (a 1) tx ++ (shW ac (a 2) now ++ (shW ac (a 3) tr ++ (teW ac (a 4) (a 1) (a 10) te ++ (paW ac a pa ++ (fcW ac (a 6) w1 w2 fc ++ (frW ac (a 7) to ++ (frW ac (a 8) tp ++ (reW ac (a 9) re ++ (shW ac (a 40) k0 ++ (shW ac (a 41) k1 ++ (shW ac (a 10) ti))))))))))))) ++ ringW ac a rg) s.heap.size = A at hD hC ⊢
  have hA : ∀ q : Nat, s.heap.size ≤ q → A q := fun q h => by rw [← hAe]; exact Or.inr h
  have hS : va_S A s.heap s.heap [] := va_S.rf
  clear hD0 hAe
  have hP : va_P D vwCl ((koW ac a ko ++ (txW ac (a 1) tx ++ (shW ac (a 2) now ++ (shW ac (a 3) tr ++ (teW ac (a 4) (a 1) (a 10) te ++ (paW ac a pa ++ (fcW ac (a 6) w1 w2 fc ++ (frW ac (a 7) to ++ (frW ac (a 8) tp ++ (reW ac (a 9) re ++ (shW ac (a 40) k0 ++ (shW ac (a 41) k1 ++ (shW ac (a 10) ti))))))))))))) ++ ringW ac a rg) s.heap := hP
  have hl := lv_entry ([.ref (a 0 0), .int a1, .int a2]) (n := 6) (Nat.le_of_ble_eq_true rfl)
  rw [lg_entry_eq]
  generalize (lg_sl ([.ref (a 0 0), .int a1, .int a2]) ++ List.replicate (6 - (lg_sl ([.ref (a 0 0), .int a1, .int a2])).length) Slot.unset).toArray = ls at hl ⊢
  have hl : lv_has ls 6 [(0, .ref (a 0 0)), (1, .int a1), (2, .int a2)] := hl
  unfold K_climbed at hf
  show W p l e ({ frames := 8, cells := 0, slots := 0, locals := 186 } : Room) s m _ below meth c s.heap [] 0 0 _ (F0 m 0 ls [])
  refine lv_aload_n hx hb dX7_climbed_0 rfl (lv_at hl 0 rfl) ?_
  refine lv_iload_n hx hb dX7_climbed_1 rfl (lv_at hl 1 rfl) ?_
  refine zc_RVi (As := [.int a1]) (rest := []) hx hb hml hown htw (ctX7_isSideTold l D ac cs a w1 w2 ko tx now tr te pa fc to tp re k0 k1 ti rg a1   _ rfl) (g_V mM_RX7_107 mI_yX7_isSideTold mS_RX7_yX7_isSideTold_yX7_isSideTold mN_RX7 mC_yX7_isSideTold) rfl (hd_yX7_isSideTold) ⟨rfl, rfl⟩ ⟨(Nat.le_of_ble_eq_true rfl), (Nat.le_of_ble_eq_true rfl)⟩ hKX hC hS hP 7 rfl rfl rfl hl.1 rfl (Nat.le_of_ble_eq_true rfl) ⟨Nat.zero_le _, Nat.zero_le _⟩ dX7_climbed_2 ?_
  refine lv_if_eq (tgt := 15) hx hb dX7_climbed_5 (by decide) (fun c1 => ?_) (fun c1 => ?_)
  · have hf := z_p c1 hf
    refine lv_iconst (v := (-1)) hx hb dX7_climbed_15 rfl ?_
    obtain rfl := Option.some.inj hf
    exact zr_MiX (w1, w2) hx hb hr hlocks hP hD hS dX7_climbed_16
  · have hf := z_n c1 hf
    refine lv_iload_n hx hb dX7_climbed_8 rfl (lv_at hl 2 rfl) ?_
    refine zc_RSi (As := [.int a2]) (rest := []) hx hb hml hown htw (ctX7_isPart l D ac cs   a2   _ rfl) (g_S mM_RX7_180 mT_yX7_isPart mN_RX7 mC_yX7_isPart) (hd_yX7_isPart) ⟨rfl, rfl⟩ ⟨(Nat.le_of_ble_eq_true rfl), (Nat.le_of_ble_eq_true rfl)⟩ hKX hC hS zP0 rfl hl.1 rfl (Nat.le_of_ble_eq_true rfl) ⟨Nat.zero_le _, Nat.zero_le _⟩ dX7_climbed_9 ?_
    refine lv_if_ne (tgt := 17) hx hb dX7_climbed_12 (by decide) (fun c2 => ?_) (fun c2 => ?_)
    · have hf := z_n c2 hf
      refine lv_aload_n hx hb dX7_climbed_17 rfl (lv_at hl 0 rfl) ?_
      obtain ⟨u3, hu3, hf⟩ := z_bd_u hf
      refine zc_MVvT (E := (koW ac a ko ++ (txW ac (a 1) tx ++ (shW ac (a 2) now ++ (shW ac (a 3) tr ++ (teW ac (a 4) (a 1) (a 10) te ++ (paW ac a pa ++ (fcW ac (a 6) w1 w2 fc ++ (frW ac (a 7) to ++ (frW ac (a 8) tp ++ (reW ac (a 9) re ++ (shW ac (a 40) k0 ++ (shW ac (a 41) k1 ++ (shW ac (a 10) ti))))))))))))) ++ ringW ac a rg) (TT := []) (As := []) (rest := []) (wr := []) (wsc := (koW ac a ko ++ (txW ac (a 1) tx ++ (shW ac (a 2) now ++ (shW ac (a 3) tr ++ (teW ac (a 4) (a 1) (a 10) te ++ (paW ac a pa ++ (fcW ac (a 6) w1 w2 fc ++ (frW ac (a 7) to ++ (frW ac (a 8) tp ++ (reW ac (a 9) re ++ (shW ac (a 40) k0 ++ (shW ac (a 41) k1 ++ (shW ac (a 10) ti))))))))))))) ++ ringW ac a rg) (wsc' := (koW ac a ko ++ (txW ac (a 1) tx ++ (shW ac (a 2) now ++ (shW ac (a 3) u3 ++ (teW ac (a 4) (a 1) (a 10) te ++ (paW ac a pa ++ (fcW ac (a 6) w1 w2 fc ++ (frW ac (a 7) to ++ (frW ac (a 8) tp ++ (reW ac (a 9) re ++ (shW ac (a 40) k0 ++ (shW ac (a 41) k1 ++ (shW ac (a 10) ti))))))))))))) ++ ringW ac a rg) hx hb hml hown htw (ctX7_takeStart l D ac cs a w1 w2 s.heap.size ko tx now tr te pa fc to tp re k0 k1 ti rg    F u3 hu3) (g_V mM_RX7_255 mI_yX7_takeStart mS_RX7_yX7_takeStart_yX7_takeStart mN_RX7 mC_yX7_takeStart) rfl (hd_yX7_takeStart) ⟨rfl, rfl⟩ ⟨(Nat.le_of_ble_eq_true rfl), (Nat.le_of_ble_eq_true rfl)⟩ hKX hC hS hA (zP_nil hP) (zD_nil hD) (List.range _) [] (zrange _) (zndr _) rfl rfl (fun _ h => by cases h) 7 rfl rfl rfl hl.1 rfl (Nat.le_of_ble_eq_true rfl) ⟨Nat.zero_le _, Nat.zero_le _⟩ dX7_climbed_18 (fun H locs hP hD hS => ?_)
      have hP : va_P D vwCl ((koW ac a ko ++ (txW ac (a 1) tx ++ (shW ac (a 2) now ++ (shW ac (a 3) u3 ++ (teW ac (a 4) (a 1) (a 10) te ++ (paW ac a pa ++ (fcW ac (a 6) w1 w2 fc ++ (frW ac (a 7) to ++ (frW ac (a 8) tp ++ (reW ac (a 9) re ++ (shW ac (a 40) k0 ++ (shW ac (a 41) k1 ++ (shW ac (a 10) ti))))))))))))) ++ ringW ac a rg) H := zP_un hP
      have hD : va_D A ((koW ac a ko ++ (txW ac (a 1) tx ++ (shW ac (a 2) now ++ (shW ac (a 3) u3 ++ (teW ac (a 4) (a 1) (a 10) te ++ (paW ac a pa ++ (fcW ac (a 6) w1 w2 fc ++ (frW ac (a 7) to ++ (frW ac (a 8) tp ++ (reW ac (a 9) re ++ (shW ac (a 40) k0 ++ (shW ac (a 41) k1 ++ (shW ac (a 10) ti))))))))))))) ++ ringW ac a rg) := zD_un hD
      refine lv_aload_n hx hb dX7_climbed_21 rfl (lv_at hl 0 rfl) ?_
      refine va_get (D := D) (ci := 7) (v := .ref (a 6 0)) (C := RX7) (T := TX7) (N := 13) hx hb htw WW_wsX70 hown hKX.1 hP 0 rfl rfl 7 (Nat.le_of_ble_eq_true rfl) (htw _ mF_RX7_51) (fun _ h9 => h9) rfl dX7_climbed_22 ?_
      refine lv_aload_n hx hb dX7_climbed_25 rfl (lv_at hl 0 rfl) ?_
      refine va_get (D := D) (ci := 7) (v := .ref (a 3 0)) (C := RX7) (T := TX7) (N := 13) hx hb htw WW_wsX70 hown hKX.1 hP 0 rfl rfl 3 (Nat.le_of_ble_eq_true rfl) (htw _ mF_RX7_30) (fun _ h9 => h9) rfl dX7_climbed_26 ?_
      obtain ⟨u4, hu4, hf⟩ := z_bd_u hf
      refine zc_MVvXT (As := [.ref (a 3 0)]) (rest := []) (wr := koW ac a ko ++ (txW ac (a 1) tx ++ (shW ac (a 2) now ++ (teW ac (a 4) (a 1) (a 10) te ++ (paW ac a pa ++ (frW ac (a 7) to ++ (frW ac (a 8) tp ++ (reW ac (a 9) re ++ (shW ac (a 40) k0 ++ (shW ac (a 41) k1 ++ (shW ac (a 10) ti))))))))))) (wsc := fcW ac (a 6) w1 w2 fc ++ (shW ac (a 3) u3)) (wsc' := fun u5 : Nat × Nat => fcW ac (a 6) u5.1 u5.2 u4 ++ (shW ac (a 3) u3)) hx hb hml hown htw (ctX0_look l D ac cs (a 6) w1 w2 (a 3) H.size fc u3    F u4 hu4) (g_V mM_RX7_185 mI_yX0_look mS_RX0_yX0_look_yX0_look mN_RX0 mC_yX0_look) rfl (hd_yX0_look) ⟨rfl, rfl⟩ ⟨(Nat.le_of_ble_eq_true rfl), (Nat.le_of_ble_eq_true rfl)⟩ hKX hC hS hA hP hD [16, 17, 18, 19, 20, 9, 10, 11] [0, 1, 2, 3, 4, 5, 6, 7, 8, 12, 13, 14, 15, 21, 22, 23, 24, 25, 26, 27, 28, 29, 30, 31, 32, 33, 34, 35, 36, 37] rfl (by decide) rfl (by decide) (by decide) 0 rfl rfl rfl hl.1 rfl (Nat.le_of_ble_eq_true rfl) ⟨Nat.zero_le _, Nat.zero_le _⟩ dX7_climbed_29 (fun u5 H locs hP hD hS => ?_)
      obtain ⟨w6, w7⟩ := u5
      have hP : va_P D vwCl ((koW ac a ko ++ (txW ac (a 1) tx ++ (shW ac (a 2) now ++ (shW ac (a 3) u3 ++ (teW ac (a 4) (a 1) (a 10) te ++ (paW ac a pa ++ (fcW ac (a 6) w6 w7 u4 ++ (frW ac (a 7) to ++ (frW ac (a 8) tp ++ (reW ac (a 9) re ++ (shW ac (a 40) k0 ++ (shW ac (a 41) k1 ++ (shW ac (a 10) ti))))))))))))) ++ ringW ac a rg) H := zsubPT hP [0, 1, 2, 3, 4, 5, 6, 7, 8, 35, 36, 37, 9, 10, 11, 12, 30, 31, 32, 33, 34, 13, 14, 15, 16, 17, 18, 19, 20, 21, 22, 23, 24, 25, 26, 27, 28, 29] rfl
      have hD : va_D A ((koW ac a ko ++ (txW ac (a 1) tx ++ (shW ac (a 2) now ++ (shW ac (a 3) u3 ++ (teW ac (a 4) (a 1) (a 10) te ++ (paW ac a pa ++ (fcW ac (a 6) w6 w7 u4 ++ (frW ac (a 7) to ++ (frW ac (a 8) tp ++ (reW ac (a 9) re ++ (shW ac (a 40) k0 ++ (shW ac (a 41) k1 ++ (shW ac (a 10) ti))))))))))))) ++ ringW ac a rg) := zsubDT hD [0, 1, 2, 3, 4, 5, 6, 7, 8, 35, 36, 37, 9, 10, 11, 12, 30, 31, 32, 33, 34, 13, 14, 15, 16, 17, 18, 19, 20, 21, 22, 23, 24, 25, 26, 27, 28, 29] (by decide) rfl
      refine lv_aload_n hx hb dX7_climbed_32 rfl (lv_at hl 0 rfl) ?_
      refine va_get (D := D) (ci := 7) (v := .ref (a 8 0)) (C := RX7) (T := TX7) (N := 13) hx hb htw WW_wsX70 hown hKX.1 hP 0 rfl rfl 9 (Nat.le_of_ble_eq_true rfl) (htw _ mF_RX7_62) (fun _ h9 => h9) rfl dX7_climbed_33 ?_
      refine lv_aload_n hx hb dX7_climbed_36 rfl (lv_at hl 0 rfl) ?_
      refine va_get (D := D) (ci := 7) (v := .ref (a 6 0)) (C := RX7) (T := TX7) (N := 13) hx hb htw WW_wsX70 hown hKX.1 hP 0 rfl rfl 7 (Nat.le_of_ble_eq_true rfl) (htw _ mF_RX7_51) (fun _ h9 => h9) rfl dX7_climbed_37 ?_
      refine lv_iload_n hx hb dX7_climbed_40 rfl (lv_at hl 1 rfl) ?_
      refine zc_RVl (As := [.int a1]) (rest := [.ref (a 8 0)]) hx hb hml hown htw (ctX0_winsOf l D ac cs (a 6) w6 w7 u4 a1   _ rfl) (g_V mM_RX7_194 mI_yX0_winsOf mS_RX0_yX0_winsOf_yX0_winsOf mN_RX0 mC_yX0_winsOf) rfl (hd_yX0_winsOf) ⟨rfl, rfl⟩ ⟨(Nat.le_of_ble_eq_true rfl), (Nat.le_of_ble_eq_true rfl)⟩ hKX hC hS (hP.sub [16, 17, 18, 19, 20] rfl) 0 rfl rfl rfl hl.1 rfl (Nat.le_of_ble_eq_true rfl) ⟨Nat.zero_le _, Nat.zero_le _⟩ dX7_climbed_41 ?_
      refine lv_aload_n hx hb dX7_climbed_44 rfl (lv_at hl 0 rfl) ?_
      refine va_get (D := D) (ci := 7) (v := .ref (a 6 0)) (C := RX7) (T := TX7) (N := 13) hx hb htw WW_wsX70 hown hKX.1 hP 0 rfl rfl 7 (Nat.le_of_ble_eq_true rfl) (htw _ mF_RX7_51) (fun _ h9 => h9) rfl dX7_climbed_45 ?_
      refine va_getN (D := D) (ci := 0) (v := .long (fc_whole u4)) (C := RX0) (T := TX0) (N := 15) hx hb htw WW_wsX00 hown hKX.1 hP 16 rfl rfl 14 (Nat.le_of_ble_eq_true rfl) (va_Nw.use rfl (hKX.2 _ (List.mem_of_getElem? (i := 19) rfl))) (fun _ h9 => h9) rfl dX7_climbed_48 ?_
      obtain ⟨u8, hu8⟩ : ∃ y : Fr, y = Fr_put (Fc_winsOf u4 a1) (fc_whole u4) := ⟨_, rfl⟩
      have hf := z_let_u hu8 hf
      refine zc_MVvT (As := [.long (Fc_winsOf u4 a1), .long (fc_whole u4)]) (rest := []) (wr := koW ac a ko ++ (txW ac (a 1) tx ++ (shW ac (a 2) now ++ (shW ac (a 3) u3 ++ (teW ac (a 4) (a 1) (a 10) te ++ (paW ac a pa ++ (fcW ac (a 6) w6 w7 u4 ++ (frW ac (a 7) to ++ (reW ac (a 9) re ++ (shW ac (a 40) k0 ++ (shW ac (a 41) k1 ++ (shW ac (a 10) ti)))))))))))) (wsc := frW ac (a 8) tp) (wsc' := frW ac (a 8) u8) hx hb hml hown htw (ctX1_put l D ac cs (a 8) H.size tp (Fc_winsOf u4 a1) (fc_whole u4)   u8 hu8.symm) (g_V mM_RX7_202 mI_yX1_put mS_RX1_yX1_put_yX1_put mN_RX1 mC_yX1_put) rfl (hd_yX1_put) ⟨rfl, rfl⟩ ⟨(Nat.le_of_ble_eq_true rfl), (Nat.le_of_ble_eq_true rfl)⟩ hKX hC hS hA hP hD [22] [0, 1, 2, 3, 4, 5, 6, 7, 8, 9, 10, 11, 12, 13, 14, 15, 16, 17, 18, 19, 20, 21, 23, 24, 25, 26, 27, 28, 29, 30, 31, 32, 33, 34, 35, 36, 37] rfl (by decide) rfl (by decide) (by decide) 1 rfl rfl rfl hl.1 rfl (Nat.le_of_ble_eq_true rfl) ⟨Nat.zero_le _, Nat.zero_le _⟩ dX7_climbed_51 (fun H locs hP hD hS => ?_)
      have hP : va_P D vwCl ((koW ac a ko ++ (txW ac (a 1) tx ++ (shW ac (a 2) now ++ (shW ac (a 3) u3 ++ (teW ac (a 4) (a 1) (a 10) te ++ (paW ac a pa ++ (fcW ac (a 6) w6 w7 u4 ++ (frW ac (a 7) to ++ (frW ac (a 8) u8 ++ (reW ac (a 9) re ++ (shW ac (a 40) k0 ++ (shW ac (a 41) k1 ++ (shW ac (a 10) ti))))))))))))) ++ ringW ac a rg) H := zsubPT hP [0, 1, 2, 3, 4, 5, 6, 7, 8, 9, 10, 11, 12, 13, 14, 15, 16, 17, 18, 19, 20, 21, 37, 22, 23, 24, 25, 26, 27, 28, 29, 30, 31, 32, 33, 34, 35, 36] rfl
      have hD : va_D A ((koW ac a ko ++ (txW ac (a 1) tx ++ (shW ac (a 2) now ++ (shW ac (a 3) u3 ++ (teW ac (a 4) (a 1) (a 10) te ++ (paW ac a pa ++ (fcW ac (a 6) w6 w7 u4 ++ (frW ac (a 7) to ++ (frW ac (a 8) u8 ++ (reW ac (a 9) re ++ (shW ac (a 40) k0 ++ (shW ac (a 41) k1 ++ (shW ac (a 10) ti))))))))))))) ++ ringW ac a rg) := zsubDT hD [0, 1, 2, 3, 4, 5, 6, 7, 8, 9, 10, 11, 12, 13, 14, 15, 16, 17, 18, 19, 20, 21, 37, 22, 23, 24, 25, 26, 27, 28, 29, 30, 31, 32, 33, 34, 35, 36] (by decide) rfl
      refine lv_iconst (v := 0) hx hb dX7_climbed_54 rfl ?_
      refine lv_aload_n hx hb dX7_climbed_55 rfl (lv_at hl 0 rfl) ?_
      refine va_get (D := D) (ci := 7) (v := .ref (a 2 0)) (C := RX7) (T := TX7) (N := 13) hx hb htw WW_wsX70 hown hKX.1 hP 0 rfl rfl 2 (Nat.le_of_ble_eq_true rfl) (htw _ mF_RX7_26) (fun _ h9 => h9) rfl dX7_climbed_56 ?_
      refine va_getN (D := D) (ci := 4) (v := .int (sh_shooters now)) (C := RX4) (T := TX4) (N := 10) hx hb htw WW_wsX40 hown hKX.1 hP 6 rfl rfl 0 (Nat.le_of_ble_eq_true rfl) (va_Nw.use rfl (hKX.2 _ (List.mem_of_getElem? (i := 3) rfl))) (fun _ h9 => h9) rfl dX7_climbed_59 ?_
      obtain ⟨r9, hr9, hf⟩ := z_bd_u hf
      refine zc_RSi (As := [.int 0, .int (sh_shooters now)]) (rest := []) hx hb hml hown htw (ctX7_rowAt l D ac cs   0 (sh_shooters now)   F _ hr9) (g_S mM_RX7_264 mT_yX7_rowAt mN_RX7 mC_yX7_rowAt) (hd_yX7_rowAt) ⟨rfl, rfl⟩ ⟨(Nat.le_of_ble_eq_true rfl), (Nat.le_of_ble_eq_true rfl)⟩ hKX hC hS zP0 rfl hl.1 rfl (Nat.le_of_ble_eq_true rfl) ⟨Nat.zero_le _, Nat.zero_le _⟩ dX7_climbed_62 ?_
      refine lv_istore_n (lv' := [(3, .int r9), (0, .ref (a 0 0)), (1, .int a1), (2, .int a2)]) hx hb dX7_climbed_65 rfl hl (Nat.le_of_ble_eq_true rfl) rfl (fun ls hl => ?_)
      refine lv_iconst (v := 0) hx hb dX7_climbed_66 rfl ?_
      refine lv_istore (lv' := [(4, .int 0), (3, .int r9), (0, .ref (a 0 0)), (1, .int a1), (2, .int a2)]) hx hb dX7_climbed_67 hl (Nat.le_of_ble_eq_true rfl) rfl (fun ls hl => ?_)
      have hL17 : ∀ (kx20 : Int32 → Int32 → Sh → Fc → Fr → Option (Int32 × Sh × Fc × Fr)) (kx21 : Int32 → Int32 → Sh → Fc → Fr → Option (Int32 × Sh × Fc × Fr)) (hkx20 : ∀ (x24 : Int32) (x25 : Int32) (sh26 : Sh) (fc27 : Fc) (fr28 : Fr), kx20 x24 x25 sh26 fc27 fr28 = some res → ∀ (H : Heap) (locs : List Loc) (ls : Array Slot) (w22 w23 : Nat), va_P D vwCl ((koW ac a ko ++ (txW ac (a 1) tx ++ (shW ac (a 2) now ++ (shW ac (a 3) sh26 ++ (teW ac (a 4) (a 1) (a 10) te ++ (paW ac a pa ++ (fcW ac (a 6) w22 w23 fc27 ++ (frW ac (a 7) to ++ (frW ac (a 8) fr28 ++ (reW ac (a 9) re ++ (shW ac (a 40) k0 ++ (shW ac (a 41) k1 ++ (shW ac (a 10) ti))))))))))))) ++ ringW ac a rg) H → va_D A ((koW ac a ko ++ (txW ac (a 1) tx ++ (shW ac (a 2) now ++ (shW ac (a 3) sh26 ++ (teW ac (a 4) (a 1) (a 10) te ++ (paW ac a pa ++ (fcW ac (a 6) w22 w23 fc27 ++ (frW ac (a 7) to ++ (frW ac (a 8) fr28 ++ (reW ac (a 9) re ++ (shW ac (a 40) k0 ++ (shW ac (a 41) k1 ++ (shW ac (a 10) ti))))))))))))) ++ ringW ac a rg) → va_S A s.heap H locs → lv_has ls 6 [(2, .int a2), (3, .int x24), (4, .int x25)] → W p l e ({ frames := 8, cells := 0, slots := 0, locals := 186 } : Room) s m (([.ref (a 0 0), .int a1, .int a2] : List Value).toArray) below meth c H locs 0 0 (MQ below (va_Qi (fun r (_ : Nat × Nat) => r = res.1) (fun u => zB D A ((koW ac a ko ++ (txW ac (a 1) tx ++ (shW ac (a 2) now ++ (shW ac (a 3) res.2.1 ++ (teW ac (a 4) (a 1) (a 10) te ++ (paW ac a pa ++ (fcW ac (a 6) u.1 u.2 res.2.2.1 ++ (frW ac (a 7) to ++ (frW ac (a 8) res.2.2.2 ++ (reW ac (a 9) re ++ (shW ac (a 40) k0 ++ (shW ac (a 41) k1 ++ (shW ac (a 10) ti))))))))))))) ++ ringW ac a rg)) A) ([.ref (a 0 0), .int a1, .int a2] : List Value).toArray s 0 0 A) (F0 m 102 ls [])) (hkx21 : ∀ (x31 : Int32) (x32 : Int32) (sh33 : Sh) (fc34 : Fc) (fr35 : Fr), kx21 x31 x32 sh33 fc34 fr35 = some res → ∀ (H : Heap) (locs : List Loc) (ls : Array Slot) (w29 w30 : Nat), va_P D vwCl ((koW ac a ko ++ (txW ac (a 1) tx ++ (shW ac (a 2) now ++ (shW ac (a 3) sh33 ++ (teW ac (a 4) (a 1) (a 10) te ++ (paW ac a pa ++ (fcW ac (a 6) w29 w30 fc34 ++ (frW ac (a 7) to ++ (frW ac (a 8) fr35 ++ (reW ac (a 9) re ++ (shW ac (a 40) k0 ++ (shW ac (a 41) k1 ++ (shW ac (a 10) ti))))))))))))) ++ ringW ac a rg) H → va_D A ((koW ac a ko ++ (txW ac (a 1) tx ++ (shW ac (a 2) now ++ (shW ac (a 3) sh33 ++ (teW ac (a 4) (a 1) (a 10) te ++ (paW ac a pa ++ (fcW ac (a 6) w29 w30 fc34 ++ (frW ac (a 7) to ++ (frW ac (a 8) fr35 ++ (reW ac (a 9) re ++ (shW ac (a 40) k0 ++ (shW ac (a 41) k1 ++ (shW ac (a 10) ti))))))))))))) ++ ringW ac a rg) → va_S A s.heap H locs → lv_has ls 6 [(2, .int a2), (3, .int x31), (4, .int x32)] → W p l e ({ frames := 8, cells := 0, slots := 0, locals := 186 } : Room) s m (([.ref (a 0 0), .int a1, .int a2] : List Value).toArray) below meth c H locs 0 0 (MQ below (va_Qi (fun r (_ : Nat × Nat) => r = res.1) (fun u => zB D A ((koW ac a ko ++ (txW ac (a 1) tx ++ (shW ac (a 2) now ++ (shW ac (a 3) res.2.1 ++ (teW ac (a 4) (a 1) (a 10) te ++ (paW ac a pa ++ (fcW ac (a 6) u.1 u.2 res.2.2.1 ++ (frW ac (a 7) to ++ (frW ac (a 8) res.2.2.2 ++ (reW ac (a 9) re ++ (shW ac (a 40) k0 ++ (shW ac (a 41) k1 ++ (shW ac (a 10) ti))))))))))))) ++ ringW ac a rg)) A) ([.ref (a 0 0), .int a1, .int a2] : List Value).toArray s 0 0 A) (F0 m 90 ls [])) (n18 : Nat) (x12 : Int32) (x13 : Int32) (sh14 : Sh) (fc15 : Fc) (fr16 : Fr), K_climbed_L69 F now a1 kx20 kx21 n18 x12 x13 sh14 fc15 fr16 = some res → ∀ (H : Heap) (locs : List Loc) (ls : Array Slot) (w10 w11 : Nat), va_P D vwCl ((koW ac a ko ++ (txW ac (a 1) tx ++ (shW ac (a 2) now ++ (shW ac (a 3) sh14 ++ (teW ac (a 4) (a 1) (a 10) te ++ (paW ac a pa ++ (fcW ac (a 6) w10 w11 fc15 ++ (frW ac (a 7) to ++ (frW ac (a 8) fr16 ++ (reW ac (a 9) re ++ (shW ac (a 40) k0 ++ (shW ac (a 41) k1 ++ (shW ac (a 10) ti))))))))))))) ++ ringW ac a rg) H → va_D A ((koW ac a ko ++ (txW ac (a 1) tx ++ (shW ac (a 2) now ++ (shW ac (a 3) sh14 ++ (teW ac (a 4) (a 1) (a 10) te ++ (paW ac a pa ++ (fcW ac (a 6) w10 w11 fc15 ++ (frW ac (a 7) to ++ (frW ac (a 8) fr16 ++ (reW ac (a 9) re ++ (shW ac (a 40) k0 ++ (shW ac (a 41) k1 ++ (shW ac (a 10) ti))))))))))))) ++ ringW ac a rg) → va_S A s.heap H locs → lv_has ls 6 [(0, .ref (a 0 0)), (1, .int a1), (2, .int a2), (3, .int x12), (4, .int x13)] → W p l e ({ frames := 8, cells := 0, slots := 0, locals := 186 } : Room) s m (([.ref (a 0 0), .int a1, .int a2] : List Value).toArray) below meth c H locs 0 0 (MQ below (va_Qi (fun r (_ : Nat × Nat) => r = res.1) (fun u => zB D A ((koW ac a ko ++ (txW ac (a 1) tx ++ (shW ac (a 2) now ++ (shW ac (a 3) res.2.1 ++ (teW ac (a 4) (a 1) (a 10) te ++ (paW ac a pa ++ (fcW ac (a 6) u.1 u.2 res.2.2.1 ++ (frW ac (a 7) to ++ (frW ac (a 8) res.2.2.2 ++ (reW ac (a 9) re ++ (shW ac (a 40) k0 ++ (shW ac (a 41) k1 ++ (shW ac (a 10) ti))))))))))))) ++ ringW ac a rg)) A) ([.ref (a 0 0), .int a1, .int a2] : List Value).toArray s 0 0 A) (F0 m 69 ls []) := by
        intro kx20 kx21 hkx20 hkx21 n18
        induction n18 with
        | zero => intro x12 x13 sh14 fc15 fr16 hf; rw [K_climbed_L69] at hf; cases hf
        | succ n18 ih19 =>
          intro x12 x13 sh14 fc15 fr16 hf H locs ls w10 w11 hP hD hS hl
          rw [K_climbed_L69] at hf
          refine lv_iload hx hb dX7_climbed_69 (lv_at hl 4 rfl) ?_
          refine lv_bipush (v := 120) hx hb dX7_climbed_71 rfl ?_
          refine lv_icmp_ge (tgt := 102) hx hb dX7_climbed_73 (by decide) (fun c36 => ?_) (fun c36 => ?_)
          · have hf := z_p c36 hf
            exact hkx20 x12 x13 sh14 fc15 fr16 hf _ _ ls w10 w11 hP hD hS (lv_sub hl [2, 3, 4] rfl)
          · have hf := z_n c36 hf
            refine lv_aload_n hx hb dX7_climbed_76 rfl (lv_at hl 0 rfl) ?_
            refine lv_iload_n hx hb dX7_climbed_77 rfl (lv_at hl 1 rfl) ?_
            refine lv_iload_n hx hb dX7_climbed_78 rfl (lv_at hl 3 rfl) ?_
            obtain ⟨u37, hu37, hf⟩ := z_bd_u hf
            refine zc_MViXT (E := (koW ac a ko ++ (txW ac (a 1) tx ++ (shW ac (a 2) now ++ (shW ac (a 3) sh14 ++ (teW ac (a 4) (a 1) (a 10) te ++ (paW ac a pa ++ (fcW ac (a 6) w10 w11 fc15 ++ (frW ac (a 7) to ++ (frW ac (a 8) fr16 ++ (reW ac (a 9) re ++ (shW ac (a 40) k0 ++ (shW ac (a 41) k1 ++ (shW ac (a 10) ti))))))))))))) ++ ringW ac a rg) (TT := []) (As := [.int a1, .int x12]) (rest := []) (wr := []) (wsc := (koW ac a ko ++ (txW ac (a 1) tx ++ (shW ac (a 2) now ++ (shW ac (a 3) sh14 ++ (teW ac (a 4) (a 1) (a 10) te ++ (paW ac a pa ++ (fcW ac (a 6) w10 w11 fc15 ++ (frW ac (a 7) to ++ (frW ac (a 8) fr16 ++ (reW ac (a 9) re ++ (shW ac (a 40) k0 ++ (shW ac (a 41) k1 ++ (shW ac (a 10) ti))))))))))))) ++ ringW ac a rg) (wsc' := fun u38 : Nat × Nat => (koW ac a ko ++ (txW ac (a 1) tx ++ (shW ac (a 2) now ++ (shW ac (a 3) u37.2.1 ++ (teW ac (a 4) (a 1) (a 10) te ++ (paW ac a pa ++ (fcW ac (a 6) u38.1 u38.2 u37.2.2.1 ++ (frW ac (a 7) to ++ (frW ac (a 8) u37.2.2.2 ++ (reW ac (a 9) re ++ (shW ac (a 40) k0 ++ (shW ac (a 41) k1 ++ (shW ac (a 10) ti))))))))))))) ++ ringW ac a rg) hx hb hml hown htw (ctX7_bestExchange l D ac cs a w10 w11 H.size ko tx now sh14 te pa fc15 to fr16 re k0 k1 ti rg a1 x12   F u37 hu37) (g_V mM_RX7_271 mI_yX7_bestExchange mS_RX7_yX7_bestExchange_yX7_bestExchange mN_RX7 mC_yX7_bestExchange) rfl (hd_yX7_bestExchange) ⟨rfl, rfl⟩ ⟨(Nat.le_of_ble_eq_true rfl), (Nat.le_of_ble_eq_true rfl)⟩ hKX hC hS hA (zP_nil hP) (zD_nil hD) (List.range _) [] (zrange _) (zndr _) rfl rfl (fun _ h => by cases h) 7 rfl rfl rfl hl.1 rfl (Nat.le_of_ble_eq_true rfl) ⟨Nat.zero_le _, Nat.zero_le _⟩ dX7_climbed_79 (fun u38 H locs hP hD hS => ?_)
            obtain ⟨w39, w40⟩ := u38
            have hP : va_P D vwCl ((koW ac a ko ++ (txW ac (a 1) tx ++ (shW ac (a 2) now ++ (shW ac (a 3) u37.2.1 ++ (teW ac (a 4) (a 1) (a 10) te ++ (paW ac a pa ++ (fcW ac (a 6) w39 w40 u37.2.2.1 ++ (frW ac (a 7) to ++ (frW ac (a 8) u37.2.2.2 ++ (reW ac (a 9) re ++ (shW ac (a 40) k0 ++ (shW ac (a 41) k1 ++ (shW ac (a 10) ti))))))))))))) ++ ringW ac a rg) H := zP_un hP
            have hD : va_D A ((koW ac a ko ++ (txW ac (a 1) tx ++ (shW ac (a 2) now ++ (shW ac (a 3) u37.2.1 ++ (teW ac (a 4) (a 1) (a 10) te ++ (paW ac a pa ++ (fcW ac (a 6) w39 w40 u37.2.2.1 ++ (frW ac (a 7) to ++ (frW ac (a 8) u37.2.2.2 ++ (reW ac (a 9) re ++ (shW ac (a 40) k0 ++ (shW ac (a 41) k1 ++ (shW ac (a 10) ti))))))))))))) ++ ringW ac a rg) := zD_un hD
            refine lv_topi (fun x41 hx41 => ?_)
            have hf := z_let_u hx41 hf
            refine lv_istore (lv' := [(5, .int x41), (0, .ref (a 0 0)), (1, .int a1), (2, .int a2), (3, .int x12), (4, .int x13)]) hx hb dX7_climbed_82 hl (Nat.le_of_ble_eq_true rfl) rfl (fun ls hl => ?_)
            refine lv_iload hx hb dX7_climbed_84 (lv_at hl 0 rfl) ?_
            refine lv_iload_n hx hb dX7_climbed_86 rfl (lv_at hl 4 rfl) ?_
            refine lv_icmp_ne (tgt := 93) hx hb dX7_climbed_87 (by decide) (fun c42 => ?_) (fun c42 => ?_)
            · have hf := z_n c42 hf
              refine lv_iload hx hb dX7_climbed_93 (lv_at hl 0 rfl) ?_
              refine lv_istore_n (lv' := [(3, .int x41), (5, .int x41), (0, .ref (a 0 0)), (1, .int a1), (2, .int a2), (4, .int x13)]) hx hb dX7_climbed_95 rfl hl (Nat.le_of_ble_eq_true rfl) rfl (fun ls hl => ?_)
              obtain ⟨x43, hx43⟩ : ∃ y : Int32, y = (x13 + 1) := ⟨_, rfl⟩
              have hf := z_let_u hx43 hf
              refine lv_iinc (v := x43) (lv' := [(4, .int x43), (3, .int x41), (5, .int x41), (0, .ref (a 0 0)), (1, .int a1), (2, .int a2)]) hx hb dX7_climbed_96 hl (k := 5) rfl (by rw [hx43]; rfl) (Nat.le_of_ble_eq_true rfl) rfl (fun ls hl => ?_)
              refine lv_goto (tgt := 69) hx hb dX7_climbed_99 (by decide) ?_
              exact ih19 x41 x43 u37.2.1 u37.2.2.1 u37.2.2.2 hf _ _ ls w39 w40 hP hD hS (lv_sub hl [3, 4, 5, 1, 0] rfl)
            · have hf := z_p c42 hf
              exact hkx21 x12 x13 u37.2.1 u37.2.2.1 u37.2.2.2 hf _ _ ls w39 w40 hP hD hS (lv_sub hl [3, 4, 5] rfl)
      refine hL17 _ _ ?_ ?_ F r9 0 u3 u4 u8 hf _ _ ls w6 w7 hP hD hS (lv_sub hl [2, 3, 4, 1, 0] rfl)
      · intro x24 x25 sh26 fc27 fr28 hf H locs ls w22 w23 hP hD hS hl
        refine lv_iload_n hx hb dX7_climbed_102 rfl (lv_at hl 0 rfl) ?_
        refine lv_if_ne (tgt := 110) hx hb dX7_climbed_103 (by decide) (fun c44 => ?_) (fun c44 => ?_)
        · have hf := z_n c44 hf
          refine lv_iload hx hb dX7_climbed_110 (lv_at hl 2 rfl) ?_
          obtain rfl := Option.some.inj hf
          exact zr_MiX (w22, w23) hx hb hr hlocks hP hD hS dX7_climbed_112
        · have hf := z_p c44 hf
          refine lv_iload_n hx hb dX7_climbed_106 rfl (lv_at hl 1 rfl) ?_
          refine lv_goto (tgt := 112) hx hb dX7_climbed_107 (by decide) ?_
          obtain rfl := Option.some.inj hf
          exact zr_MiX (w22, w23) hx hb hr hlocks hP hD hS dX7_climbed_112
      · intro x31 x32 sh33 fc34 fr35 hf H locs ls w29 w30 hP hD hS hl
        refine lv_goto (tgt := 102) hx hb dX7_climbed_90 (by decide) ?_
        refine lv_iload_n hx hb dX7_climbed_102 rfl (lv_at hl 0 rfl) ?_
        refine lv_if_ne (tgt := 110) hx hb dX7_climbed_103 (by decide) (fun c45 => ?_) (fun c45 => ?_)
        · have hf := z_n c45 hf
          refine lv_iload hx hb dX7_climbed_110 (lv_at hl 2 rfl) ?_
          obtain rfl := Option.some.inj hf
          exact zr_MiX (w29, w30) hx hb hr hlocks hP hD hS dX7_climbed_112
        · have hf := z_p c45 hf
          refine lv_iload_n hx hb dX7_climbed_106 rfl (lv_at hl 1 rfl) ?_
          refine lv_goto (tgt := 112) hx hb dX7_climbed_107 (by decide) ?_
          obtain rfl := Option.some.inj hf
          exact zr_MiX (w29, w30) hx hb hr hlocks hP hD hS dX7_climbed_112
    · have hf := z_p c2 hf
      refine lv_iconst (v := (-1)) hx hb dX7_climbed_15 rfl ?_
      obtain rfl := Option.some.inj hf
      exact zr_MiX (w1, w2) hx hb hr hlocks hP hD hS dX7_climbed_16

theorem hd_yX7_findRests : hdY yX7_findRests 0 := by decide +kernel
def K_findRests_L50 (F : Nat) (now : Sh) (x2 : Int32) (x3 : Int32) (x7 : Int32) (kx32 : Sh → Fc → Re → Option (Sh × Fc × Re)) : Nat → Int32 → Sh → Fc → Re → Option (Sh × Fc × Re)
  | 0, _, _, _, _ => none
  | n30 + 1, x25, sh26, fc27, re28 => if x3 ≤ x25 then (kx32 sh26 fc27 re28) else (z_bd (K_rowAt F x25 x2) (fun r39 : Int32 => z_bd (K_setTrialRow F now sh26 1 r39) (fun u40 : Sh => z_bd (Fc_look F fc27 u40) (fun u41 : Fc => z_bd (Re_take F re28 u41 x7 x25) (fun u45 : Re => z_let (x25 + 1) (fun x46 : Int32 => K_findRests_L50 F now x2 x3 x7 kx32 n30 x46 u40 u41 u45))))))
def K_findRests_L32 (F : Nat) (now : Sh) (x2 : Int32) (x3 : Int32) (kx14 : Sh → Fc → Re → Option (Sh × Fc × Re)) : Nat → Int32 → Sh → Fc → Re → Option (Sh × Fc × Re)
  | 0, _, _, _, _ => none
  | n12 + 1, x7, sh8, fc9, re10 => if x3 ≤ x7 then (kx14 sh8 fc9 re10) else (z_bd (K_rowAt F x7 x2) (fun r21 : Int32 => z_bd (K_setTrialRow F now sh8 0 r21) (fun u22 : Sh => K_findRests_L50 F now x2 x3 x7 (fun (sh35 : Sh) (fc36 : Fc) (re37 : Re) => z_let (x7 + 1) (fun x47 : Int32 => K_findRests_L32 F now x2 x3 kx14 n12 x47 sh35 fc36 re37)) F 0 u22 fc9 re10)))
def K_findRests (F : Nat) (now : Sh) (tr : Sh) (fc : Fc) (re : Re) : Option (Sh × Fc × Re) := z_bd (K_takeStart F now tr) (fun u1 : Sh => z_let (sh_shooters now) (fun x2 : Int32 => z_let (if 24 < K_rowsOf x2 then 24 else K_rowsOf x2) (fun x3 : Int32 => z_bd (Re_begin F re x3) (fun u4 : Re => K_findRests_L32 F now x2 x3 (fun (sh17 : Sh) (fc18 : Fc) (re19 : Re) => z_bd (Re_firstPair F re19) (fun u48 : Int32 × Re => z_let u48.1 (fun x49 : Int32 => z_bd (K_rowAt F (x49 / 24) x2) (fun r50 : Int32 => z_bd (K_rowAt F (z_rem x49 24) x2) (fun r51 : Int32 => some (sh17, fc18, ((re_winsOfA u48.2), (re_winsOfB u48.2), (re_wholes u48.2), (re_bestOfA u48.2), (re_bestOfB u48.2), (re_rows u48.2), 1, (re_pairs u48.2), r50, r51))))))) F 0 u1 fc u4))))
set_option maxHeartbeats 4000000 in
set_option maxRecDepth 100000 in
theorem ctX7_findRests (l : Launch) (D : va_G) (ac cs : Nat → Nat) (a : Nat → Nat → Nat) (w1 w2 : Nat) (sz : Nat) (ko : Ko) (tx : Tx) (now : Sh) (tr : Sh) (te : Te) (pa : Pa) (fc : Fc) (to : Fr) (tp : Fr) (re : Re) (k0 : Sh) (k1 : Sh) (ti : Sh) (rg : Nat → Sh) (F : Nat) (res : Sh × Fc × Re) (hf : K_findRests F now tr fc re = some res) : Met l yX7_findRests (cWW yX7_findRests cX7_findRests 5 none) { frames := 7, cells := 0, slots := 0, locals := 159 } (zM D ac cs [.ref (a 0 0)] ((koW ac a ko ++ (txW ac (a 1) tx ++ (shW ac (a 2) now ++ (shW ac (a 3) tr ++ (teW ac (a 4) (a 1) (a 10) te ++ (paW ac a pa ++ (fcW ac (a 6) w1 w2 fc ++ (frW ac (a 7) to ++ (frW ac (a 8) tp ++ (reW ac (a 9) re ++ (shW ac (a 40) k0 ++ (shW ac (a 41) k1 ++ (shW ac (a 10) ti))))))))))))) ++ ringW ac a rg) sz) (va_Qv (fun _ : Nat × Nat => True) (fun u => zB D (va_A ((koW ac a ko ++ (txW ac (a 1) tx ++ (shW ac (a 2) now ++ (shW ac (a 3) tr ++ (teW ac (a 4) (a 1) (a 10) te ++ (paW ac a pa ++ (fcW ac (a 6) w1 w2 fc ++ (frW ac (a 7) to ++ (frW ac (a 8) tp ++ (reW ac (a 9) re ++ (shW ac (a 40) k0 ++ (shW ac (a 41) k1 ++ (shW ac (a 10) ti))))))))))))) ++ ringW ac a rg) sz) ((koW ac a ko ++ (txW ac (a 1) tx ++ (shW ac (a 2) now ++ (shW ac (a 3) res.1 ++ (teW ac (a 4) (a 1) (a 10) te ++ (paW ac a pa ++ (fcW ac (a 6) u.1 u.2 res.2.1 ++ (frW ac (a 7) to ++ (frW ac (a 8) tp ++ (reW ac (a 9) res.2.2 ++ (shW ac (a 40) k0 ++ (shW ac (a 41) k1 ++ (shW ac (a 10) ti))))))))))))) ++ ringW ac a rg)) (va_A ((koW ac a ko ++ (txW ac (a 1) tx ++ (shW ac (a 2) now ++ (shW ac (a 3) tr ++ (teW ac (a 4) (a 1) (a 10) te ++ (paW ac a pa ++ (fcW ac (a 6) w1 w2 fc ++ (frW ac (a 7) to ++ (frW ac (a 8) tp ++ (reW ac (a 9) re ++ (shW ac (a 40) k0 ++ (shW ac (a 41) k1 ++ (shW ac (a 10) ti))))))))))))) ++ ringW ac a rg) sz)) 0 0 (va_A ((koW ac a ko ++ (txW ac (a 1) tx ++ (shW ac (a 2) now ++ (shW ac (a 3) tr ++ (teW ac (a 4) (a 1) (a 10) te ++ (paW ac a pa ++ (fcW ac (a 6) w1 w2 fc ++ (frW ac (a 7) to ++ (frW ac (a 8) tp ++ (reW ac (a 9) re ++ (shW ac (a 40) k0 ++ (shW ac (a 41) k1 ++ (shW ac (a 10) ti))))))))))))) ++ ringW ac a rg) sz) := by
  refine Met.ofW (cc := cX7_findRests) (maxL := 5) (ret := none) (by decide) rfl ?_
  intro p e s m args below meth c s₁ B hml hv
  obtain ⟨rfl, hsz, hP, hKX, hD0, hC⟩ := hv
  have hx := B.exec
  have hb := B.bytes
  have hr := B.returns
  have hts := atoms_spec (ws := cWW yX7_findRests cX7_findRests 5 none) B.pre
  have htw : ∀ w ∈ WW, w.before _ s = true := fun w h => hts w (List.mem_cons_of_mem _ h)
  have hown : s.vm.findClass RX7 = some m.cls := findClass_of_methodNamed B.named
  have hlocks := B.notSynchronized
  clear hts B
  subst hsz
  have hD := hD0.self (sz := s.heap.size)
  generalize hAe : va_A ((koW ac a ko ++ (txW ac (a 1) tx ++ (shW ac (a 2) now ++ (shW ac (a 3) tr ++ (teW ac (a 4) (a 1) (a 10) te ++ (paW ac a pa ++ (fcW ac (a 6) w1 w2 fc ++ (frW ac (a 7) to ++ (frW ac (a 8) tp ++ (reW ac (a 9) re ++ (shW ac (a 40) k0 ++ (shW ac (a 41) k1 ++ (shW ac (a 10) ti))))))))))))) ++ ringW ac a rg) s.heap.size = A at hD hC ⊢
  have hA : ∀ q : Nat, s.heap.size ≤ q → A q := fun q h => by rw [← hAe]; exact Or.inr h
  have hS : va_S A s.heap s.heap [] := va_S.rf
  clear hD0 hAe
  have hP : va_P D vwCl ((koW ac a ko ++ (txW ac (a 1) tx ++ (shW ac (a 2) now ++ (shW ac (a 3) tr ++ (teW ac (a 4) (a 1) (a 10) te ++ (paW ac a pa ++ (fcW ac (a 6) w1 w2 fc ++ (frW ac (a 7) to ++ (frW ac (a 8) tp ++ (reW ac (a 9) re ++ (shW ac (a 40) k0 ++ (shW ac (a 41) k1 ++ (shW ac (a 10) ti))))))))))))) ++ ringW ac a rg) s.heap := hP
  have hl := lv_entry ([.ref (a 0 0)]) (n := 5) (Nat.le_of_ble_eq_true rfl)
  rw [lg_entry_eq]
  generalize (lg_sl ([.ref (a 0 0)]) ++ List.replicate (5 - (lg_sl ([.ref (a 0 0)])).length) Slot.unset).toArray = ls at hl ⊢
  have hl : lv_has ls 5 [(0, .ref (a 0 0))] := hl
  unfold K_findRests at hf
  show W p l e ({ frames := 7, cells := 0, slots := 0, locals := 159 } : Room) s m _ below meth c s.heap [] 0 0 _ (F0 m 0 ls [])
  refine lv_aload_n hx hb dX7_findRests_0 rfl (lv_at hl 0 rfl) ?_
  obtain ⟨u1, hu1, hf⟩ := z_bd_u hf
  refine zc_MVvT (E := (koW ac a ko ++ (txW ac (a 1) tx ++ (shW ac (a 2) now ++ (shW ac (a 3) tr ++ (teW ac (a 4) (a 1) (a 10) te ++ (paW ac a pa ++ (fcW ac (a 6) w1 w2 fc ++ (frW ac (a 7) to ++ (frW ac (a 8) tp ++ (reW ac (a 9) re ++ (shW ac (a 40) k0 ++ (shW ac (a 41) k1 ++ (shW ac (a 10) ti))))))))))))) ++ ringW ac a rg) (TT := []) (As := []) (rest := []) (wr := []) (wsc := (koW ac a ko ++ (txW ac (a 1) tx ++ (shW ac (a 2) now ++ (shW ac (a 3) tr ++ (teW ac (a 4) (a 1) (a 10) te ++ (paW ac a pa ++ (fcW ac (a 6) w1 w2 fc ++ (frW ac (a 7) to ++ (frW ac (a 8) tp ++ (reW ac (a 9) re ++ (shW ac (a 40) k0 ++ (shW ac (a 41) k1 ++ (shW ac (a 10) ti))))))))))))) ++ ringW ac a rg) (wsc' := (koW ac a ko ++ (txW ac (a 1) tx ++ (shW ac (a 2) now ++ (shW ac (a 3) u1 ++ (teW ac (a 4) (a 1) (a 10) te ++ (paW ac a pa ++ (fcW ac (a 6) w1 w2 fc ++ (frW ac (a 7) to ++ (frW ac (a 8) tp ++ (reW ac (a 9) re ++ (shW ac (a 40) k0 ++ (shW ac (a 41) k1 ++ (shW ac (a 10) ti))))))))))))) ++ ringW ac a rg) hx hb hml hown htw (ctX7_takeStart l D ac cs a w1 w2 s.heap.size ko tx now tr te pa fc to tp re k0 k1 ti rg    F u1 hu1) (g_V mM_RX7_255 mI_yX7_takeStart mS_RX7_yX7_takeStart_yX7_takeStart mN_RX7 mC_yX7_takeStart) rfl (hd_yX7_takeStart) ⟨rfl, rfl⟩ ⟨(Nat.le_of_ble_eq_true rfl), (Nat.le_of_ble_eq_true rfl)⟩ hKX hC hS hA (zP_nil hP) (zD_nil hD) (List.range _) [] (zrange _) (zndr _) rfl rfl (fun _ h => by cases h) 7 rfl rfl rfl hl.1 rfl (Nat.le_of_ble_eq_true rfl) ⟨Nat.zero_le _, Nat.zero_le _⟩ dX7_findRests_1 (fun H locs hP hD hS => ?_)
  have hP : va_P D vwCl ((koW ac a ko ++ (txW ac (a 1) tx ++ (shW ac (a 2) now ++ (shW ac (a 3) u1 ++ (teW ac (a 4) (a 1) (a 10) te ++ (paW ac a pa ++ (fcW ac (a 6) w1 w2 fc ++ (frW ac (a 7) to ++ (frW ac (a 8) tp ++ (reW ac (a 9) re ++ (shW ac (a 40) k0 ++ (shW ac (a 41) k1 ++ (shW ac (a 10) ti))))))))))))) ++ ringW ac a rg) H := zP_un hP
  have hD : va_D A ((koW ac a ko ++ (txW ac (a 1) tx ++ (shW ac (a 2) now ++ (shW ac (a 3) u1 ++ (teW ac (a 4) (a 1) (a 10) te ++ (paW ac a pa ++ (fcW ac (a 6) w1 w2 fc ++ (frW ac (a 7) to ++ (frW ac (a 8) tp ++ (reW ac (a 9) re ++ (shW ac (a 40) k0 ++ (shW ac (a 41) k1 ++ (shW ac (a 10) ti))))))))))))) ++ ringW ac a rg) := zD_un hD
  refine lv_aload_n hx hb dX7_findRests_4 rfl (lv_at hl 0 rfl) ?_
  refine va_get (D := D) (ci := 7) (v := .ref (a 2 0)) (C := RX7) (T := TX7) (N := 13) hx hb htw WW_wsX70 hown hKX.1 hP 0 rfl rfl 2 (Nat.le_of_ble_eq_true rfl) (htw _ mF_RX7_26) (fun _ h9 => h9) rfl dX7_findRests_5 ?_
  refine va_getN (D := D) (ci := 4) (v := .int (sh_shooters now)) (C := RX4) (T := TX4) (N := 10) hx hb htw WW_wsX40 hown hKX.1 hP 6 rfl rfl 0 (Nat.le_of_ble_eq_true rfl) (va_Nw.use rfl (hKX.2 _ (List.mem_of_getElem? (i := 3) rfl))) (fun _ h9 => h9) rfl dX7_findRests_8 ?_
  refine lv_topi (fun x2 hx2 => ?_)
  have hf := z_let_u hx2 hf
  refine lv_istore_n (lv' := [(1, .int x2), (0, .ref (a 0 0))]) hx hb dX7_findRests_11 rfl hl (Nat.le_of_ble_eq_true rfl) rfl (fun ls hl => ?_)
  refine lv_iload_n hx hb dX7_findRests_12 rfl (lv_at hl 0 rfl) ?_
  refine zc_RSi (As := [.int x2]) (rest := []) hx hb hml hown htw (ctX7_rowsOf l D ac cs   x2   _ rfl) (g_S mM_RX7_261 mT_yX7_rowsOf mN_RX7 mC_yX7_rowsOf) (hd_yX7_rowsOf) ⟨rfl, rfl⟩ ⟨(Nat.le_of_ble_eq_true rfl), (Nat.le_of_ble_eq_true rfl)⟩ hKX hC hS zP0 rfl hl.1 rfl (Nat.le_of_ble_eq_true rfl) ⟨Nat.zero_le _, Nat.zero_le _⟩ dX7_findRests_13 ?_
  refine lv_bipush (v := 24) hx hb dX7_findRests_16 rfl ?_
  refine va_mmin hx hb (hml.trans hl.1.symm) hown (htw _ mM_RX7_372) (htw _ mT_Lib_Math_min_name) (htw _ mN_java_lang_Math) (htw _ mC_Lib_Math_min_name) (Nat.le_of_ble_eq_true rfl) (Nat.le_of_ble_eq_true rfl) (Nat.zero_le _) (Nat.zero_le _) dX7_findRests_18 ?_
  refine lv_topi (fun x3 hx3 => ?_)
  have hf := z_let_u hx3 hf
  refine lv_istore_n (lv' := [(2, .int x3), (1, .int x2), (0, .ref (a 0 0))]) hx hb dX7_findRests_21 rfl hl (Nat.le_of_ble_eq_true rfl) rfl (fun ls hl => ?_)
  refine lv_aload_n hx hb dX7_findRests_22 rfl (lv_at hl 2 rfl) ?_
  refine va_get (D := D) (ci := 7) (v := .ref (a 9 0)) (C := RX7) (T := TX7) (N := 13) hx hb htw WW_wsX70 hown hKX.1 hP 0 rfl rfl 10 (Nat.le_of_ble_eq_true rfl) (htw _ mF_RX7_68) (fun _ h9 => h9) rfl dX7_findRests_23 ?_
  refine lv_iload_n hx hb dX7_findRests_26 rfl (lv_at hl 0 rfl) ?_
  obtain ⟨u4, hu4, hf⟩ := z_bd_u hf
  refine zc_MVvT (As := [.int x3]) (rest := []) (wr := koW ac a ko ++ (txW ac (a 1) tx ++ (shW ac (a 2) now ++ (shW ac (a 3) u1 ++ (teW ac (a 4) (a 1) (a 10) te ++ (paW ac a pa ++ (fcW ac (a 6) w1 w2 fc ++ (frW ac (a 7) to ++ (frW ac (a 8) tp ++ (shW ac (a 40) k0 ++ (shW ac (a 41) k1 ++ (shW ac (a 10) ti)))))))))))) (wsc := reW ac (a 9) re) (wsc' := reW ac (a 9) u4) hx hb hml hown htw (ctX3_begin l D ac cs (a 9) H.size re x3   F u4 hu4) (g_V mM_RX7_375 mI_yX3_begin mS_RX3_yX3_begin_yX3_begin mN_RX3 mC_yX3_begin) rfl (hd_yX3_begin) ⟨rfl, rfl⟩ ⟨(Nat.le_of_ble_eq_true rfl), (Nat.le_of_ble_eq_true rfl)⟩ hKX hC hS hA hP hD [23, 24, 25, 26, 27, 28] [0, 1, 2, 3, 4, 5, 6, 7, 8, 9, 10, 11, 12, 13, 14, 15, 16, 17, 18, 19, 20, 21, 22, 29, 30, 31, 32, 33, 34, 35, 36, 37] rfl (by decide) rfl (by decide) (by decide) 3 rfl rfl rfl hl.1 rfl (Nat.le_of_ble_eq_true rfl) ⟨Nat.zero_le _, Nat.zero_le _⟩ dX7_findRests_27 (fun H locs hP hD hS => ?_)
  have hP : va_P D vwCl ((koW ac a ko ++ (txW ac (a 1) tx ++ (shW ac (a 2) now ++ (shW ac (a 3) u1 ++ (teW ac (a 4) (a 1) (a 10) te ++ (paW ac a pa ++ (fcW ac (a 6) w1 w2 fc ++ (frW ac (a 7) to ++ (frW ac (a 8) tp ++ (reW ac (a 9) u4 ++ (shW ac (a 40) k0 ++ (shW ac (a 41) k1 ++ (shW ac (a 10) ti))))))))))))) ++ ringW ac a rg) H := zsubPT hP [0, 1, 2, 3, 4, 5, 6, 7, 8, 9, 10, 11, 12, 13, 14, 15, 16, 17, 18, 19, 20, 21, 22, 32, 33, 34, 35, 36, 37, 23, 24, 25, 26, 27, 28, 29, 30, 31] rfl
  have hD : va_D A ((koW ac a ko ++ (txW ac (a 1) tx ++ (shW ac (a 2) now ++ (shW ac (a 3) u1 ++ (teW ac (a 4) (a 1) (a 10) te ++ (paW ac a pa ++ (fcW ac (a 6) w1 w2 fc ++ (frW ac (a 7) to ++ (frW ac (a 8) tp ++ (reW ac (a 9) u4 ++ (shW ac (a 40) k0 ++ (shW ac (a 41) k1 ++ (shW ac (a 10) ti))))))))))))) ++ ringW ac a rg) := zsubDT hD [0, 1, 2, 3, 4, 5, 6, 7, 8, 9, 10, 11, 12, 13, 14, 15, 16, 17, 18, 19, 20, 21, 22, 32, 33, 34, 35, 36, 37, 23, 24, 25, 26, 27, 28, 29, 30, 31] (by decide) rfl
  refine lv_iconst (v := 0) hx hb dX7_findRests_30 rfl ?_
  refine lv_istore_n (lv' := [(3, .int 0), (2, .int x3), (1, .int x2), (0, .ref (a 0 0))]) hx hb dX7_findRests_31 rfl hl (Nat.le_of_ble_eq_true rfl) rfl (fun ls hl => ?_)
  have hL11 : ∀ (kx14 : Sh → Fc → Re → Option (Sh × Fc × Re)) (hkx14 : ∀ (sh17 : Sh) (fc18 : Fc) (re19 : Re), kx14 sh17 fc18 re19 = some res → ∀ (H : Heap) (locs : List Loc) (ls : Array Slot) (w15 w16 : Nat), va_P D vwCl ((koW ac a ko ++ (txW ac (a 1) tx ++ (shW ac (a 2) now ++ (shW ac (a 3) sh17 ++ (teW ac (a 4) (a 1) (a 10) te ++ (paW ac a pa ++ (fcW ac (a 6) w15 w16 fc18 ++ (frW ac (a 7) to ++ (frW ac (a 8) tp ++ (reW ac (a 9) re19 ++ (shW ac (a 40) k0 ++ (shW ac (a 41) k1 ++ (shW ac (a 10) ti))))))))))))) ++ ringW ac a rg) H → va_D A ((koW ac a ko ++ (txW ac (a 1) tx ++ (shW ac (a 2) now ++ (shW ac (a 3) sh17 ++ (teW ac (a 4) (a 1) (a 10) te ++ (paW ac a pa ++ (fcW ac (a 6) w15 w16 fc18 ++ (frW ac (a 7) to ++ (frW ac (a 8) tp ++ (reW ac (a 9) re19 ++ (shW ac (a 40) k0 ++ (shW ac (a 41) k1 ++ (shW ac (a 10) ti))))))))))))) ++ ringW ac a rg) → va_S A s.heap H locs → lv_has ls 5 [(0, .ref (a 0 0)), (1, .int x2)] → W p l e ({ frames := 7, cells := 0, slots := 0, locals := 159 } : Room) s m (([.ref (a 0 0)] : List Value).toArray) below meth c H locs 0 0 (MQ below (va_Qv (fun _ : Nat × Nat => True) (fun u => zB D A ((koW ac a ko ++ (txW ac (a 1) tx ++ (shW ac (a 2) now ++ (shW ac (a 3) res.1 ++ (teW ac (a 4) (a 1) (a 10) te ++ (paW ac a pa ++ (fcW ac (a 6) u.1 u.2 res.2.1 ++ (frW ac (a 7) to ++ (frW ac (a 8) tp ++ (reW ac (a 9) res.2.2 ++ (shW ac (a 40) k0 ++ (shW ac (a 41) k1 ++ (shW ac (a 10) ti))))))))))))) ++ ringW ac a rg)) A) ([.ref (a 0 0)] : List Value).toArray s 0 0 A) (F0 m 104 ls [])) (n12 : Nat) (x7 : Int32) (sh8 : Sh) (fc9 : Fc) (re10 : Re), K_findRests_L32 F now x2 x3 kx14 n12 x7 sh8 fc9 re10 = some res → ∀ (H : Heap) (locs : List Loc) (ls : Array Slot) (w5 w6 : Nat), va_P D vwCl ((koW ac a ko ++ (txW ac (a 1) tx ++ (shW ac (a 2) now ++ (shW ac (a 3) sh8 ++ (teW ac (a 4) (a 1) (a 10) te ++ (paW ac a pa ++ (fcW ac (a 6) w5 w6 fc9 ++ (frW ac (a 7) to ++ (frW ac (a 8) tp ++ (reW ac (a 9) re10 ++ (shW ac (a 40) k0 ++ (shW ac (a 41) k1 ++ (shW ac (a 10) ti))))))))))))) ++ ringW ac a rg) H → va_D A ((koW ac a ko ++ (txW ac (a 1) tx ++ (shW ac (a 2) now ++ (shW ac (a 3) sh8 ++ (teW ac (a 4) (a 1) (a 10) te ++ (paW ac a pa ++ (fcW ac (a 6) w5 w6 fc9 ++ (frW ac (a 7) to ++ (frW ac (a 8) tp ++ (reW ac (a 9) re10 ++ (shW ac (a 40) k0 ++ (shW ac (a 41) k1 ++ (shW ac (a 10) ti))))))))))))) ++ ringW ac a rg) → va_S A s.heap H locs → lv_has ls 5 [(0, .ref (a 0 0)), (1, .int x2), (2, .int x3), (3, .int x7)] → W p l e ({ frames := 7, cells := 0, slots := 0, locals := 159 } : Room) s m (([.ref (a 0 0)] : List Value).toArray) below meth c H locs 0 0 (MQ below (va_Qv (fun _ : Nat × Nat => True) (fun u => zB D A ((koW ac a ko ++ (txW ac (a 1) tx ++ (shW ac (a 2) now ++ (shW ac (a 3) res.1 ++ (teW ac (a 4) (a 1) (a 10) te ++ (paW ac a pa ++ (fcW ac (a 6) u.1 u.2 res.2.1 ++ (frW ac (a 7) to ++ (frW ac (a 8) tp ++ (reW ac (a 9) res.2.2 ++ (shW ac (a 40) k0 ++ (shW ac (a 41) k1 ++ (shW ac (a 10) ti))))))))))))) ++ ringW ac a rg)) A) ([.ref (a 0 0)] : List Value).toArray s 0 0 A) (F0 m 32 ls []) := by
    intro kx14 hkx14 n12
    induction n12 with
    | zero => intro x7 sh8 fc9 re10 hf; rw [K_findRests_L32] at hf; cases hf
    | succ n12 ih13 =>
      intro x7 sh8 fc9 re10 hf H locs ls w5 w6 hP hD hS hl
      rw [K_findRests_L32] at hf
      refine lv_iload_n hx hb dX7_findRests_32 rfl (lv_at hl 3 rfl) ?_
      refine lv_iload_n hx hb dX7_findRests_33 rfl (lv_at hl 2 rfl) ?_
      refine lv_icmp_ge (tgt := 104) hx hb dX7_findRests_34 (by decide) (fun c20 => ?_) (fun c20 => ?_)
      · have hf := z_p c20 hf
        exact hkx14 sh8 fc9 re10 hf _ _ ls w5 w6 hP hD hS (lv_sub hl [0, 1] rfl)
      · have hf := z_n c20 hf
        refine lv_aload_n hx hb dX7_findRests_37 rfl (lv_at hl 0 rfl) ?_
        refine lv_iconst (v := 0) hx hb dX7_findRests_38 rfl ?_
        refine lv_iload_n hx hb dX7_findRests_39 rfl (lv_at hl 3 rfl) ?_
        refine lv_iload_n hx hb dX7_findRests_40 rfl (lv_at hl 1 rfl) ?_
        obtain ⟨r21, hr21, hf⟩ := z_bd_u hf
        refine zc_RSi (As := [.int x7, .int x2]) (rest := [.int 0, .ref (a 0 0)]) hx hb hml hown htw (ctX7_rowAt l D ac cs   x7 x2   F _ hr21) (g_S mM_RX7_264 mT_yX7_rowAt mN_RX7 mC_yX7_rowAt) (hd_yX7_rowAt) ⟨rfl, rfl⟩ ⟨(Nat.le_of_ble_eq_true rfl), (Nat.le_of_ble_eq_true rfl)⟩ hKX hC hS zP0 rfl hl.1 rfl (Nat.le_of_ble_eq_true rfl) ⟨Nat.zero_le _, Nat.zero_le _⟩ dX7_findRests_41 ?_
        obtain ⟨u22, hu22, hf⟩ := z_bd_u hf
        refine zc_MVvT (E := (koW ac a ko ++ (txW ac (a 1) tx ++ (shW ac (a 2) now ++ (shW ac (a 3) sh8 ++ (teW ac (a 4) (a 1) (a 10) te ++ (paW ac a pa ++ (fcW ac (a 6) w5 w6 fc9 ++ (frW ac (a 7) to ++ (frW ac (a 8) tp ++ (reW ac (a 9) re10 ++ (shW ac (a 40) k0 ++ (shW ac (a 41) k1 ++ (shW ac (a 10) ti))))))))))))) ++ ringW ac a rg) (TT := []) (As := [.int 0, .int r21]) (rest := []) (wr := []) (wsc := (koW ac a ko ++ (txW ac (a 1) tx ++ (shW ac (a 2) now ++ (shW ac (a 3) sh8 ++ (teW ac (a 4) (a 1) (a 10) te ++ (paW ac a pa ++ (fcW ac (a 6) w5 w6 fc9 ++ (frW ac (a 7) to ++ (frW ac (a 8) tp ++ (reW ac (a 9) re10 ++ (shW ac (a 40) k0 ++ (shW ac (a 41) k1 ++ (shW ac (a 10) ti))))))))))))) ++ ringW ac a rg) (wsc' := (koW ac a ko ++ (txW ac (a 1) tx ++ (shW ac (a 2) now ++ (shW ac (a 3) u22 ++ (teW ac (a 4) (a 1) (a 10) te ++ (paW ac a pa ++ (fcW ac (a 6) w5 w6 fc9 ++ (frW ac (a 7) to ++ (frW ac (a 8) tp ++ (reW ac (a 9) re10 ++ (shW ac (a 40) k0 ++ (shW ac (a 41) k1 ++ (shW ac (a 10) ti))))))))))))) ++ ringW ac a rg) hx hb hml hown htw (ctX7_setTrialRow l D ac cs a w5 w6 H.size ko tx now sh8 te pa fc9 to tp re10 k0 k1 ti rg 0 r21   F u22 hu22) (g_V mM_RX7_258 mI_yX7_setTrialRow mS_RX7_yX7_setTrialRow_yX7_setTrialRow mN_RX7 mC_yX7_setTrialRow) rfl (hd_yX7_setTrialRow) ⟨rfl, rfl⟩ ⟨(Nat.le_of_ble_eq_true rfl), (Nat.le_of_ble_eq_true rfl)⟩ hKX hC hS hA (zP_nil hP) (zD_nil hD) (List.range _) [] (zrange _) (zndr _) rfl rfl (fun _ h => by cases h) 7 rfl rfl rfl hl.1 rfl (Nat.le_of_ble_eq_true rfl) ⟨Nat.zero_le _, Nat.zero_le _⟩ dX7_findRests_44 (fun H locs hP hD hS => ?_)
        have hP : va_P D vwCl ((koW ac a ko ++ (txW ac (a 1) tx ++ (shW ac (a 2) now ++ (shW ac (a 3) u22 ++ (teW ac (a 4) (a 1) (a 10) te ++ (paW ac a pa ++ (fcW ac (a 6) w5 w6 fc9 ++ (frW ac (a 7) to ++ (frW ac (a 8) tp ++ (reW ac (a 9) re10 ++ (shW ac (a 40) k0 ++ (shW ac (a 41) k1 ++ (shW ac (a 10) ti))))))))))))) ++ ringW ac a rg) H := zP_un hP
        have hD : va_D A ((koW ac a ko ++ (txW ac (a 1) tx ++ (shW ac (a 2) now ++ (shW ac (a 3) u22 ++ (teW ac (a 4) (a 1) (a 10) te ++ (paW ac a pa ++ (fcW ac (a 6) w5 w6 fc9 ++ (frW ac (a 7) to ++ (frW ac (a 8) tp ++ (reW ac (a 9) re10 ++ (shW ac (a 40) k0 ++ (shW ac (a 41) k1 ++ (shW ac (a 10) ti))))))))))))) ++ ringW ac a rg) := zD_un hD
        refine lv_iconst (v := 0) hx hb dX7_findRests_47 rfl ?_
        refine lv_istore (lv' := [(4, .int 0), (0, .ref (a 0 0)), (1, .int x2), (2, .int x3), (3, .int x7)]) hx hb dX7_findRests_48 hl (Nat.le_of_ble_eq_true rfl) rfl (fun ls hl => ?_)
        have hL29 : ∀ (kx32 : Sh → Fc → Re → Option (Sh × Fc × Re)) (hkx32 : ∀ (sh35 : Sh) (fc36 : Fc) (re37 : Re), kx32 sh35 fc36 re37 = some res → ∀ (H : Heap) (locs : List Loc) (ls : Array Slot) (w33 w34 : Nat), va_P D vwCl ((koW ac a ko ++ (txW ac (a 1) tx ++ (shW ac (a 2) now ++ (shW ac (a 3) sh35 ++ (teW ac (a 4) (a 1) (a 10) te ++ (paW ac a pa ++ (fcW ac (a 6) w33 w34 fc36 ++ (frW ac (a 7) to ++ (frW ac (a 8) tp ++ (reW ac (a 9) re37 ++ (shW ac (a 40) k0 ++ (shW ac (a 41) k1 ++ (shW ac (a 10) ti))))))))))))) ++ ringW ac a rg) H → va_D A ((koW ac a ko ++ (txW ac (a 1) tx ++ (shW ac (a 2) now ++ (shW ac (a 3) sh35 ++ (teW ac (a 4) (a 1) (a 10) te ++ (paW ac a pa ++ (fcW ac (a 6) w33 w34 fc36 ++ (frW ac (a 7) to ++ (frW ac (a 8) tp ++ (reW ac (a 9) re37 ++ (shW ac (a 40) k0 ++ (shW ac (a 41) k1 ++ (shW ac (a 10) ti))))))))))))) ++ ringW ac a rg) → va_S A s.heap H locs → lv_has ls 5 [(0, .ref (a 0 0)), (1, .int x2), (2, .int x3), (3, .int x7)] → W p l e ({ frames := 7, cells := 0, slots := 0, locals := 159 } : Room) s m (([.ref (a 0 0)] : List Value).toArray) below meth c H locs 0 0 (MQ below (va_Qv (fun _ : Nat × Nat => True) (fun u => zB D A ((koW ac a ko ++ (txW ac (a 1) tx ++ (shW ac (a 2) now ++ (shW ac (a 3) res.1 ++ (teW ac (a 4) (a 1) (a 10) te ++ (paW ac a pa ++ (fcW ac (a 6) u.1 u.2 res.2.1 ++ (frW ac (a 7) to ++ (frW ac (a 8) tp ++ (reW ac (a 9) res.2.2 ++ (shW ac (a 40) k0 ++ (shW ac (a 41) k1 ++ (shW ac (a 10) ti))))))))))))) ++ ringW ac a rg)) A) ([.ref (a 0 0)] : List Value).toArray s 0 0 A) (F0 m 98 ls [])) (n30 : Nat) (x25 : Int32) (sh26 : Sh) (fc27 : Fc) (re28 : Re), K_findRests_L50 F now x2 x3 x7 kx32 n30 x25 sh26 fc27 re28 = some res → ∀ (H : Heap) (locs : List Loc) (ls : Array Slot) (w23 w24 : Nat), va_P D vwCl ((koW ac a ko ++ (txW ac (a 1) tx ++ (shW ac (a 2) now ++ (shW ac (a 3) sh26 ++ (teW ac (a 4) (a 1) (a 10) te ++ (paW ac a pa ++ (fcW ac (a 6) w23 w24 fc27 ++ (frW ac (a 7) to ++ (frW ac (a 8) tp ++ (reW ac (a 9) re28 ++ (shW ac (a 40) k0 ++ (shW ac (a 41) k1 ++ (shW ac (a 10) ti))))))))))))) ++ ringW ac a rg) H → va_D A ((koW ac a ko ++ (txW ac (a 1) tx ++ (shW ac (a 2) now ++ (shW ac (a 3) sh26 ++ (teW ac (a 4) (a 1) (a 10) te ++ (paW ac a pa ++ (fcW ac (a 6) w23 w24 fc27 ++ (frW ac (a 7) to ++ (frW ac (a 8) tp ++ (reW ac (a 9) re28 ++ (shW ac (a 40) k0 ++ (shW ac (a 41) k1 ++ (shW ac (a 10) ti))))))))))))) ++ ringW ac a rg) → va_S A s.heap H locs → lv_has ls 5 [(0, .ref (a 0 0)), (1, .int x2), (2, .int x3), (3, .int x7), (4, .int x25)] → W p l e ({ frames := 7, cells := 0, slots := 0, locals := 159 } : Room) s m (([.ref (a 0 0)] : List Value).toArray) below meth c H locs 0 0 (MQ below (va_Qv (fun _ : Nat × Nat => True) (fun u => zB D A ((koW ac a ko ++ (txW ac (a 1) tx ++ (shW ac (a 2) now ++ (shW ac (a 3) res.1 ++ (teW ac (a 4) (a 1) (a 10) te ++ (paW ac a pa ++ (fcW ac (a 6) u.1 u.2 res.2.1 ++ (frW ac (a 7) to ++ (frW ac (a 8) tp ++ (reW ac (a 9) res.2.2 ++ (shW ac (a 40) k0 ++ (shW ac (a 41) k1 ++ (shW ac (a 10) ti))))))))))))) ++ ringW ac a rg)) A) ([.ref (a 0 0)] : List Value).toArray s 0 0 A) (F0 m 50 ls []) := by
          intro kx32 hkx32 n30
          induction n30 with
          | zero => intro x25 sh26 fc27 re28 hf; rw [K_findRests_L50] at hf; cases hf
          | succ n30 ih31 =>
            intro x25 sh26 fc27 re28 hf H locs ls w23 w24 hP hD hS hl
            rw [K_findRests_L50] at hf
            refine lv_iload hx hb dX7_findRests_50 (lv_at hl 4 rfl) ?_
            refine lv_iload_n hx hb dX7_findRests_52 rfl (lv_at hl 2 rfl) ?_
            refine lv_icmp_ge (tgt := 98) hx hb dX7_findRests_53 (by decide) (fun c38 => ?_) (fun c38 => ?_)
            · have hf := z_p c38 hf
              exact hkx32 sh26 fc27 re28 hf _ _ ls w23 w24 hP hD hS (lv_sub hl [0, 1, 2, 3] rfl)
            · have hf := z_n c38 hf
              refine lv_aload_n hx hb dX7_findRests_56 rfl (lv_at hl 0 rfl) ?_
              refine lv_iconst (v := 1) hx hb dX7_findRests_57 rfl ?_
              refine lv_iload hx hb dX7_findRests_58 (lv_at hl 4 rfl) ?_
              refine lv_iload_n hx hb dX7_findRests_60 rfl (lv_at hl 1 rfl) ?_
              obtain ⟨r39, hr39, hf⟩ := z_bd_u hf
              refine zc_RSi (As := [.int x25, .int x2]) (rest := [.int 1, .ref (a 0 0)]) hx hb hml hown htw (ctX7_rowAt l D ac cs   x25 x2   F _ hr39) (g_S mM_RX7_264 mT_yX7_rowAt mN_RX7 mC_yX7_rowAt) (hd_yX7_rowAt) ⟨rfl, rfl⟩ ⟨(Nat.le_of_ble_eq_true rfl), (Nat.le_of_ble_eq_true rfl)⟩ hKX hC hS zP0 rfl hl.1 rfl (Nat.le_of_ble_eq_true rfl) ⟨Nat.zero_le _, Nat.zero_le _⟩ dX7_findRests_61 ?_
              obtain ⟨u40, hu40, hf⟩ := z_bd_u hf
              refine zc_MVvT (E := (koW ac a ko ++ (txW ac (a 1) tx ++ (shW ac (a 2) now ++ (shW ac (a 3) sh26 ++ (teW ac (a 4) (a 1) (a 10) te ++ (paW ac a pa ++ (fcW ac (a 6) w23 w24 fc27 ++ (frW ac (a 7) to ++ (frW ac (a 8) tp ++ (reW ac (a 9) re28 ++ (shW ac (a 40) k0 ++ (shW ac (a 41) k1 ++ (shW ac (a 10) ti))))))))))))) ++ ringW ac a rg) (TT := []) (As := [.int 1, .int r39]) (rest := []) (wr := []) (wsc := (koW ac a ko ++ (txW ac (a 1) tx ++ (shW ac (a 2) now ++ (shW ac (a 3) sh26 ++ (teW ac (a 4) (a 1) (a 10) te ++ (paW ac a pa ++ (fcW ac (a 6) w23 w24 fc27 ++ (frW ac (a 7) to ++ (frW ac (a 8) tp ++ (reW ac (a 9) re28 ++ (shW ac (a 40) k0 ++ (shW ac (a 41) k1 ++ (shW ac (a 10) ti))))))))))))) ++ ringW ac a rg) (wsc' := (koW ac a ko ++ (txW ac (a 1) tx ++ (shW ac (a 2) now ++ (shW ac (a 3) u40 ++ (teW ac (a 4) (a 1) (a 10) te ++ (paW ac a pa ++ (fcW ac (a 6) w23 w24 fc27 ++ (frW ac (a 7) to ++ (frW ac (a 8) tp ++ (reW ac (a 9) re28 ++ (shW ac (a 40) k0 ++ (shW ac (a 41) k1 ++ (shW ac (a 10) ti))))))))))))) ++ ringW ac a rg) hx hb hml hown htw (ctX7_setTrialRow l D ac cs a w23 w24 H.size ko tx now sh26 te pa fc27 to tp re28 k0 k1 ti rg 1 r39   F u40 hu40) (g_V mM_RX7_258 mI_yX7_setTrialRow mS_RX7_yX7_setTrialRow_yX7_setTrialRow mN_RX7 mC_yX7_setTrialRow) rfl (hd_yX7_setTrialRow) ⟨rfl, rfl⟩ ⟨(Nat.le_of_ble_eq_true rfl), (Nat.le_of_ble_eq_true rfl)⟩ hKX hC hS hA (zP_nil hP) (zD_nil hD) (List.range _) [] (zrange _) (zndr _) rfl rfl (fun _ h => by cases h) 7 rfl rfl rfl hl.1 rfl (Nat.le_of_ble_eq_true rfl) ⟨Nat.zero_le _, Nat.zero_le _⟩ dX7_findRests_64 (fun H locs hP hD hS => ?_)
              have hP : va_P D vwCl ((koW ac a ko ++ (txW ac (a 1) tx ++ (shW ac (a 2) now ++ (shW ac (a 3) u40 ++ (teW ac (a 4) (a 1) (a 10) te ++ (paW ac a pa ++ (fcW ac (a 6) w23 w24 fc27 ++ (frW ac (a 7) to ++ (frW ac (a 8) tp ++ (reW ac (a 9) re28 ++ (shW ac (a 40) k0 ++ (shW ac (a 41) k1 ++ (shW ac (a 10) ti))))))))))))) ++ ringW ac a rg) H := zP_un hP
              have hD : va_D A ((koW ac a ko ++ (txW ac (a 1) tx ++ (shW ac (a 2) now ++ (shW ac (a 3) u40 ++ (teW ac (a 4) (a 1) (a 10) te ++ (paW ac a pa ++ (fcW ac (a 6) w23 w24 fc27 ++ (frW ac (a 7) to ++ (frW ac (a 8) tp ++ (reW ac (a 9) re28 ++ (shW ac (a 40) k0 ++ (shW ac (a 41) k1 ++ (shW ac (a 10) ti))))))))))))) ++ ringW ac a rg) := zD_un hD
              refine lv_aload_n hx hb dX7_findRests_67 rfl (lv_at hl 0 rfl) ?_
              refine va_get (D := D) (ci := 7) (v := .ref (a 6 0)) (C := RX7) (T := TX7) (N := 13) hx hb htw WW_wsX70 hown hKX.1 hP 0 rfl rfl 7 (Nat.le_of_ble_eq_true rfl) (htw _ mF_RX7_51) (fun _ h9 => h9) rfl dX7_findRests_68 ?_
              refine lv_aload_n hx hb dX7_findRests_71 rfl (lv_at hl 0 rfl) ?_
              refine va_get (D := D) (ci := 7) (v := .ref (a 3 0)) (C := RX7) (T := TX7) (N := 13) hx hb htw WW_wsX70 hown hKX.1 hP 0 rfl rfl 3 (Nat.le_of_ble_eq_true rfl) (htw _ mF_RX7_30) (fun _ h9 => h9) rfl dX7_findRests_72 ?_
              obtain ⟨u41, hu41, hf⟩ := z_bd_u hf
              refine zc_MVvXT (As := [.ref (a 3 0)]) (rest := []) (wr := koW ac a ko ++ (txW ac (a 1) tx ++ (shW ac (a 2) now ++ (teW ac (a 4) (a 1) (a 10) te ++ (paW ac a pa ++ (frW ac (a 7) to ++ (frW ac (a 8) tp ++ (reW ac (a 9) re28 ++ (shW ac (a 40) k0 ++ (shW ac (a 41) k1 ++ (shW ac (a 10) ti))))))))))) (wsc := fcW ac (a 6) w23 w24 fc27 ++ (shW ac (a 3) u40)) (wsc' := fun u42 : Nat × Nat => fcW ac (a 6) u42.1 u42.2 u41 ++ (shW ac (a 3) u40)) hx hb hml hown htw (ctX0_look l D ac cs (a 6) w23 w24 (a 3) H.size fc27 u40    F u41 hu41) (g_V mM_RX7_185 mI_yX0_look mS_RX0_yX0_look_yX0_look mN_RX0 mC_yX0_look) rfl (hd_yX0_look) ⟨rfl, rfl⟩ ⟨(Nat.le_of_ble_eq_true rfl), (Nat.le_of_ble_eq_true rfl)⟩ hKX hC hS hA hP hD [16, 17, 18, 19, 20, 9, 10, 11] [0, 1, 2, 3, 4, 5, 6, 7, 8, 12, 13, 14, 15, 21, 22, 23, 24, 25, 26, 27, 28, 29, 30, 31, 32, 33, 34, 35, 36, 37] rfl (by decide) rfl (by decide) (by decide) 0 rfl rfl rfl hl.1 rfl (Nat.le_of_ble_eq_true rfl) ⟨Nat.zero_le _, Nat.zero_le _⟩ dX7_findRests_75 (fun u42 H locs hP hD hS => ?_)
              obtain ⟨w43, w44⟩ := u42
              have hP : va_P D vwCl ((koW ac a ko ++ (txW ac (a 1) tx ++ (shW ac (a 2) now ++ (shW ac (a 3) u40 ++ (teW ac (a 4) (a 1) (a 10) te ++ (paW ac a pa ++ (fcW ac (a 6) w43 w44 u41 ++ (frW ac (a 7) to ++ (frW ac (a 8) tp ++ (reW ac (a 9) re28 ++ (shW ac (a 40) k0 ++ (shW ac (a 41) k1 ++ (shW ac (a 10) ti))))))))))))) ++ ringW ac a rg) H := zsubPT hP [0, 1, 2, 3, 4, 5, 6, 7, 8, 35, 36, 37, 9, 10, 11, 12, 30, 31, 32, 33, 34, 13, 14, 15, 16, 17, 18, 19, 20, 21, 22, 23, 24, 25, 26, 27, 28, 29] rfl
              have hD : va_D A ((koW ac a ko ++ (txW ac (a 1) tx ++ (shW ac (a 2) now ++ (shW ac (a 3) u40 ++ (teW ac (a 4) (a 1) (a 10) te ++ (paW ac a pa ++ (fcW ac (a 6) w43 w44 u41 ++ (frW ac (a 7) to ++ (frW ac (a 8) tp ++ (reW ac (a 9) re28 ++ (shW ac (a 40) k0 ++ (shW ac (a 41) k1 ++ (shW ac (a 10) ti))))))))))))) ++ ringW ac a rg) := zsubDT hD [0, 1, 2, 3, 4, 5, 6, 7, 8, 35, 36, 37, 9, 10, 11, 12, 30, 31, 32, 33, 34, 13, 14, 15, 16, 17, 18, 19, 20, 21, 22, 23, 24, 25, 26, 27, 28, 29] (by decide) rfl
              refine lv_aload_n hx hb dX7_findRests_78 rfl (lv_at hl 0 rfl) ?_
              refine va_get (D := D) (ci := 7) (v := .ref (a 9 0)) (C := RX7) (T := TX7) (N := 13) hx hb htw WW_wsX70 hown hKX.1 hP 0 rfl rfl 10 (Nat.le_of_ble_eq_true rfl) (htw _ mF_RX7_68) (fun _ h9 => h9) rfl dX7_findRests_79 ?_
              refine lv_iload_n hx hb dX7_findRests_82 rfl (lv_at hl 3 rfl) ?_
              refine lv_iload hx hb dX7_findRests_83 (lv_at hl 4 rfl) ?_
              refine lv_aload_n hx hb dX7_findRests_85 rfl (lv_at hl 0 rfl) ?_
              refine va_get (D := D) (ci := 7) (v := .ref (a 6 0)) (C := RX7) (T := TX7) (N := 13) hx hb htw WW_wsX70 hown hKX.1 hP 0 rfl rfl 7 (Nat.le_of_ble_eq_true rfl) (htw _ mF_RX7_51) (fun _ h9 => h9) rfl dX7_findRests_86 ?_
              obtain ⟨u45, hu45, hf⟩ := z_bd_u hf
              refine zc_MVvT (As := [.int x7, .int x25, .ref (a 6 0)]) (rest := []) (wr := koW ac a ko ++ (txW ac (a 1) tx ++ (shW ac (a 2) now ++ (shW ac (a 3) u40 ++ (teW ac (a 4) (a 1) (a 10) te ++ (paW ac a pa ++ (frW ac (a 7) to ++ (frW ac (a 8) tp ++ (shW ac (a 40) k0 ++ (shW ac (a 41) k1 ++ (shW ac (a 10) ti))))))))))) (wsc := reW ac (a 9) re28 ++ (fcW ac (a 6) w43 w44 u41)) (wsc' := reW ac (a 9) u45 ++ (fcW ac (a 6) w43 w44 u41)) hx hb hml hown htw (ctX3_take l D ac cs (a 9) (a 6) w43 w44 H.size re28 u41 x7 x25   F u45 hu45) (g_V mM_RX7_378 mI_yX3_take mS_RX3_yX3_take_yX3_take mN_RX3 mC_yX3_take) rfl (hd_yX3_take) ⟨rfl, rfl⟩ ⟨(Nat.le_of_ble_eq_true rfl), (Nat.le_of_ble_eq_true rfl)⟩ hKX hC hS hA hP hD [23, 24, 25, 26, 27, 28, 16, 17, 18, 19, 20] [0, 1, 2, 3, 4, 5, 6, 7, 8, 9, 10, 11, 12, 13, 14, 15, 21, 22, 29, 30, 31, 32, 33, 34, 35, 36, 37] rfl (by decide) rfl (by decide) (by decide) 3 rfl rfl rfl hl.1 rfl (Nat.le_of_ble_eq_true rfl) ⟨Nat.zero_le _, Nat.zero_le _⟩ dX7_findRests_89 (fun H locs hP hD hS => ?_)
              have hP : va_P D vwCl ((koW ac a ko ++ (txW ac (a 1) tx ++ (shW ac (a 2) now ++ (shW ac (a 3) u40 ++ (teW ac (a 4) (a 1) (a 10) te ++ (paW ac a pa ++ (fcW ac (a 6) w43 w44 u41 ++ (frW ac (a 7) to ++ (frW ac (a 8) tp ++ (reW ac (a 9) u45 ++ (shW ac (a 40) k0 ++ (shW ac (a 41) k1 ++ (shW ac (a 10) ti))))))))))))) ++ ringW ac a rg) H := zsubPT hP [0, 1, 2, 3, 4, 5, 6, 7, 8, 9, 10, 11, 12, 13, 14, 15, 33, 34, 35, 36, 37, 16, 17, 27, 28, 29, 30, 31, 32, 18, 19, 20, 21, 22, 23, 24, 25, 26] rfl
              have hD : va_D A ((koW ac a ko ++ (txW ac (a 1) tx ++ (shW ac (a 2) now ++ (shW ac (a 3) u40 ++ (teW ac (a 4) (a 1) (a 10) te ++ (paW ac a pa ++ (fcW ac (a 6) w43 w44 u41 ++ (frW ac (a 7) to ++ (frW ac (a 8) tp ++ (reW ac (a 9) u45 ++ (shW ac (a 40) k0 ++ (shW ac (a 41) k1 ++ (shW ac (a 10) ti))))))))))))) ++ ringW ac a rg) := zsubDT hD [0, 1, 2, 3, 4, 5, 6, 7, 8, 9, 10, 11, 12, 13, 14, 15, 33, 34, 35, 36, 37, 16, 17, 27, 28, 29, 30, 31, 32, 18, 19, 20, 21, 22, 23, 24, 25, 26] (by decide) rfl
              obtain ⟨x46, hx46⟩ : ∃ y : Int32, y = (x25 + 1) := ⟨_, rfl⟩
              have hf := z_let_u hx46 hf
              refine lv_iinc (v := x46) (lv' := [(4, .int x46), (0, .ref (a 0 0)), (1, .int x2), (2, .int x3), (3, .int x7)]) hx hb dX7_findRests_92 hl (k := 4) rfl (by rw [hx46]; rfl) (Nat.le_of_ble_eq_true rfl) rfl (fun ls hl => ?_)
              refine lv_goto (tgt := 50) hx hb dX7_findRests_95 (by decide) ?_
              exact ih31 x46 u40 u41 u45 hf _ _ ls w43 w44 hP hD hS (lv_sub hl [1, 2, 3, 4, 0] rfl)
        refine hL29 _ ?_ F 0 u22 fc9 re10 hf _ _ ls w5 w6 hP hD hS (lv_sub hl [1, 2, 3, 4, 0] rfl)
        intro sh35 fc36 re37 hf H locs ls w33 w34 hP hD hS hl
        obtain ⟨x47, hx47⟩ : ∃ y : Int32, y = (x7 + 1) := ⟨_, rfl⟩
        have hf := z_let_u hx47 hf
        refine lv_iinc (v := x47) (lv' := [(3, .int x47), (0, .ref (a 0 0)), (1, .int x2), (2, .int x3)]) hx hb dX7_findRests_98 hl (k := 3) rfl (by rw [hx47]; rfl) (Nat.le_of_ble_eq_true rfl) rfl (fun ls hl => ?_)
        refine lv_goto (tgt := 32) hx hb dX7_findRests_101 (by decide) ?_
        exact ih13 x47 sh35 fc36 re37 hf _ _ ls w33 w34 hP hD hS (lv_sub hl [1, 2, 3, 0] rfl)
  refine hL11 _ ?_ F 0 u1 fc u4 hf _ _ ls w1 w2 hP hD hS (lv_sub hl [3, 2, 1, 0] rfl)
  intro sh17 fc18 re19 hf H locs ls w15 w16 hP hD hS hl
  refine lv_aload_n hx hb dX7_findRests_104 rfl (lv_at hl 0 rfl) ?_
  refine va_get (D := D) (ci := 7) (v := .ref (a 9 0)) (C := RX7) (T := TX7) (N := 13) hx hb htw WW_wsX70 hown hKX.1 hP 0 rfl rfl 10 (Nat.le_of_ble_eq_true rfl) (htw _ mF_RX7_68) (fun _ h9 => h9) rfl dX7_findRests_105 ?_
  obtain ⟨u48, hu48, hf⟩ := z_bd_u hf
  refine zc_MViT (As := []) (rest := []) (wr := koW ac a ko ++ (txW ac (a 1) tx ++ (shW ac (a 2) now ++ (shW ac (a 3) sh17 ++ (teW ac (a 4) (a 1) (a 10) te ++ (paW ac a pa ++ (fcW ac (a 6) w15 w16 fc18 ++ (frW ac (a 7) to ++ (frW ac (a 8) tp ++ (shW ac (a 40) k0 ++ (shW ac (a 41) k1 ++ (shW ac (a 10) ti)))))))))))) (wsc := reW ac (a 9) re19) (wsc' := reW ac (a 9) u48.2) hx hb hml hown htw (ctX3_firstPair l D ac cs (a 9) H.size re19    F u48 hu48) (g_V mM_RX7_381 mI_yX3_firstPair mS_RX3_yX3_firstPair_yX3_firstPair mN_RX3 mC_yX3_firstPair) rfl (hd_yX3_firstPair) ⟨rfl, rfl⟩ ⟨(Nat.le_of_ble_eq_true rfl), (Nat.le_of_ble_eq_true rfl)⟩ hKX hC hS hA hP hD [23, 24, 25, 26, 27, 28] [0, 1, 2, 3, 4, 5, 6, 7, 8, 9, 10, 11, 12, 13, 14, 15, 16, 17, 18, 19, 20, 21, 22, 29, 30, 31, 32, 33, 34, 35, 36, 37] rfl (by decide) rfl (by decide) (by decide) 3 rfl rfl rfl hl.1 rfl (Nat.le_of_ble_eq_true rfl) ⟨Nat.zero_le _, Nat.zero_le _⟩ dX7_findRests_108 (fun H locs hP hD hS => ?_)
  have hP : va_P D vwCl ((koW ac a ko ++ (txW ac (a 1) tx ++ (shW ac (a 2) now ++ (shW ac (a 3) sh17 ++ (teW ac (a 4) (a 1) (a 10) te ++ (paW ac a pa ++ (fcW ac (a 6) w15 w16 fc18 ++ (frW ac (a 7) to ++ (frW ac (a 8) tp ++ (reW ac (a 9) u48.2 ++ (shW ac (a 40) k0 ++ (shW ac (a 41) k1 ++ (shW ac (a 10) ti))))))))))))) ++ ringW ac a rg) H := zsubPT hP [0, 1, 2, 3, 4, 5, 6, 7, 8, 9, 10, 11, 12, 13, 14, 15, 16, 17, 18, 19, 20, 21, 22, 32, 33, 34, 35, 36, 37, 23, 24, 25, 26, 27, 28, 29, 30, 31] rfl
  have hD : va_D A ((koW ac a ko ++ (txW ac (a 1) tx ++ (shW ac (a 2) now ++ (shW ac (a 3) sh17 ++ (teW ac (a 4) (a 1) (a 10) te ++ (paW ac a pa ++ (fcW ac (a 6) w15 w16 fc18 ++ (frW ac (a 7) to ++ (frW ac (a 8) tp ++ (reW ac (a 9) u48.2 ++ (shW ac (a 40) k0 ++ (shW ac (a 41) k1 ++ (shW ac (a 10) ti))))))))))))) ++ ringW ac a rg) := zsubDT hD [0, 1, 2, 3, 4, 5, 6, 7, 8, 9, 10, 11, 12, 13, 14, 15, 16, 17, 18, 19, 20, 21, 22, 32, 33, 34, 35, 36, 37, 23, 24, 25, 26, 27, 28, 29, 30, 31] (by decide) rfl
  refine lv_topi (fun x49 hx49 => ?_)
  have hf := z_let_u hx49 hf
  refine lv_istore_n (lv' := [(3, .int x49), (0, .ref (a 0 0)), (1, .int x2)]) hx hb dX7_findRests_111 rfl hl (Nat.le_of_ble_eq_true rfl) rfl (fun ls hl => ?_)
  refine lv_aload_n hx hb dX7_findRests_112 rfl (lv_at hl 1 rfl) ?_
  refine va_get (D := D) (ci := 7) (v := .ref (a 9 0)) (C := RX7) (T := TX7) (N := 13) hx hb htw WW_wsX70 hown hKX.1 hP 0 rfl rfl 10 (Nat.le_of_ble_eq_true rfl) (htw _ mF_RX7_68) (fun _ h9 => h9) rfl dX7_findRests_113 ?_
  refine lv_iload_n hx hb dX7_findRests_116 rfl (lv_at hl 0 rfl) ?_
  refine lv_bipush (v := 24) hx hb dX7_findRests_117 rfl ?_
  refine lv_idiv hx hb dX7_findRests_119 (by decide) ?_
  refine lv_iload_n hx hb dX7_findRests_120 rfl (lv_at hl 2 rfl) ?_
  obtain ⟨r50, hr50, hf⟩ := z_bd_u hf
  refine zc_RSi (As := [.int (x49 / 24), .int x2]) (rest := [.ref (a 9 0)]) hx hb hml hown htw (ctX7_rowAt l D ac cs   (x49 / 24) x2   F _ hr50) (g_S mM_RX7_264 mT_yX7_rowAt mN_RX7 mC_yX7_rowAt) (hd_yX7_rowAt) ⟨rfl, rfl⟩ ⟨(Nat.le_of_ble_eq_true rfl), (Nat.le_of_ble_eq_true rfl)⟩ hKX hC hS zP0 rfl hl.1 rfl (Nat.le_of_ble_eq_true rfl) ⟨Nat.zero_le _, Nat.zero_le _⟩ dX7_findRests_121 ?_
  refine va_putN (D := D) (ci := 3) (v := .int r50) (ty := tyX3 8) (C := RX3) (T := TX3) (N := 10) hx hb htw WW_wsX30 tyX3 tyX3_ok nmX3 hown hKX.1 hP hD hS 23 rfl rfl 8 (Nat.le_of_ble_eq_true rfl) (va_Nw.use rfl (hKX.2 _ (List.mem_of_getElem? (i := 26) rfl))) (fun _ h9 => h9) rfl (tyX3_ok 8 (Nat.le_of_ble_eq_true rfl)) rfl rfl (Nat.le_of_ble_eq_true rfl) dX7_findRests_124 (fun H locs hP hD hS => ?_)
  have hP : va_P D vwCl ((koW ac a ko ++ (txW ac (a 1) tx ++ (shW ac (a 2) now ++ (shW ac (a 3) sh17 ++ (teW ac (a 4) (a 1) (a 10) te ++ (paW ac a pa ++ (fcW ac (a 6) w15 w16 fc18 ++ (frW ac (a 7) to ++ (frW ac (a 8) tp ++ (reW ac (a 9) ((re_winsOfA u48.2), (re_winsOfB u48.2), (re_wholes u48.2), (re_bestOfA u48.2), (re_bestOfB u48.2), (re_rows u48.2), (re_known u48.2), (re_pairs u48.2), r50, (re_rowOfB u48.2)) ++ (shW ac (a 40) k0 ++ (shW ac (a 41) k1 ++ (shW ac (a 10) ti))))))))))))) ++ ringW ac a rg) H := hP
  have hD : va_D A ((koW ac a ko ++ (txW ac (a 1) tx ++ (shW ac (a 2) now ++ (shW ac (a 3) sh17 ++ (teW ac (a 4) (a 1) (a 10) te ++ (paW ac a pa ++ (fcW ac (a 6) w15 w16 fc18 ++ (frW ac (a 7) to ++ (frW ac (a 8) tp ++ (reW ac (a 9) ((re_winsOfA u48.2), (re_winsOfB u48.2), (re_wholes u48.2), (re_bestOfA u48.2), (re_bestOfB u48.2), (re_rows u48.2), (re_known u48.2), (re_pairs u48.2), r50, (re_rowOfB u48.2)) ++ (shW ac (a 40) k0 ++ (shW ac (a 41) k1 ++ (shW ac (a 10) ti))))))))))))) ++ ringW ac a rg) := hD
  refine lv_aload_n hx hb dX7_findRests_127 rfl (lv_at hl 1 rfl) ?_
  refine va_get (D := D) (ci := 7) (v := .ref (a 9 0)) (C := RX7) (T := TX7) (N := 13) hx hb htw WW_wsX70 hown hKX.1 hP 0 rfl rfl 10 (Nat.le_of_ble_eq_true rfl) (htw _ mF_RX7_68) (fun _ h9 => h9) rfl dX7_findRests_128 ?_
  refine lv_iload_n hx hb dX7_findRests_131 rfl (lv_at hl 0 rfl) ?_
  refine lv_bipush (v := 24) hx hb dX7_findRests_132 rfl ?_
  refine zv_irem hx hb dX7_findRests_134 (by decide) ?_
  refine lv_iload_n hx hb dX7_findRests_135 rfl (lv_at hl 2 rfl) ?_
  obtain ⟨r51, hr51, hf⟩ := z_bd_u hf
  refine zc_RSi (As := [.int (z_rem x49 24), .int x2]) (rest := [.ref (a 9 0)]) hx hb hml hown htw (ctX7_rowAt l D ac cs   (z_rem x49 24) x2   F _ hr51) (g_S mM_RX7_264 mT_yX7_rowAt mN_RX7 mC_yX7_rowAt) (hd_yX7_rowAt) ⟨rfl, rfl⟩ ⟨(Nat.le_of_ble_eq_true rfl), (Nat.le_of_ble_eq_true rfl)⟩ hKX hC hS zP0 rfl hl.1 rfl (Nat.le_of_ble_eq_true rfl) ⟨Nat.zero_le _, Nat.zero_le _⟩ dX7_findRests_136 ?_
  refine va_putN (D := D) (ci := 3) (v := .int r51) (ty := tyX3 9) (C := RX3) (T := TX3) (N := 10) hx hb htw WW_wsX30 tyX3 tyX3_ok nmX3 hown hKX.1 hP hD hS 23 rfl rfl 9 (Nat.le_of_ble_eq_true rfl) (va_Nw.use rfl (hKX.2 _ (List.mem_of_getElem? (i := 27) rfl))) (fun _ h9 => h9) rfl (tyX3_ok 9 (Nat.le_of_ble_eq_true rfl)) rfl rfl (Nat.le_of_ble_eq_true rfl) dX7_findRests_139 (fun H locs hP hD hS => ?_)
  have hP : va_P D vwCl ((koW ac a ko ++ (txW ac (a 1) tx ++ (shW ac (a 2) now ++ (shW ac (a 3) sh17 ++ (teW ac (a 4) (a 1) (a 10) te ++ (paW ac a pa ++ (fcW ac (a 6) w15 w16 fc18 ++ (frW ac (a 7) to ++ (frW ac (a 8) tp ++ (reW ac (a 9) ((re_winsOfA u48.2), (re_winsOfB u48.2), (re_wholes u48.2), (re_bestOfA u48.2), (re_bestOfB u48.2), (re_rows u48.2), (re_known u48.2), (re_pairs u48.2), r50, r51) ++ (shW ac (a 40) k0 ++ (shW ac (a 41) k1 ++ (shW ac (a 10) ti))))))))))))) ++ ringW ac a rg) H := hP
  have hD : va_D A ((koW ac a ko ++ (txW ac (a 1) tx ++ (shW ac (a 2) now ++ (shW ac (a 3) sh17 ++ (teW ac (a 4) (a 1) (a 10) te ++ (paW ac a pa ++ (fcW ac (a 6) w15 w16 fc18 ++ (frW ac (a 7) to ++ (frW ac (a 8) tp ++ (reW ac (a 9) ((re_winsOfA u48.2), (re_winsOfB u48.2), (re_wholes u48.2), (re_bestOfA u48.2), (re_bestOfB u48.2), (re_rows u48.2), (re_known u48.2), (re_pairs u48.2), r50, r51) ++ (shW ac (a 40) k0 ++ (shW ac (a 41) k1 ++ (shW ac (a 10) ti))))))))))))) ++ ringW ac a rg) := hD
  refine lv_aload_n hx hb dX7_findRests_142 rfl (lv_at hl 1 rfl) ?_
  refine va_get (D := D) (ci := 7) (v := .ref (a 9 0)) (C := RX7) (T := TX7) (N := 13) hx hb htw WW_wsX70 hown hKX.1 hP 0 rfl rfl 10 (Nat.le_of_ble_eq_true rfl) (htw _ mF_RX7_68) (fun _ h9 => h9) rfl dX7_findRests_143 ?_
  refine lv_iconst (v := 1) hx hb dX7_findRests_146 rfl ?_
  refine va_putN (D := D) (ci := 3) (v := .int 1) (ty := tyX3 6) (C := RX3) (T := TX3) (N := 10) hx hb htw WW_wsX30 tyX3 tyX3_ok nmX3 hown hKX.1 hP hD hS 23 rfl rfl 6 (Nat.le_of_ble_eq_true rfl) (va_Nw.use rfl (hKX.2 _ (List.mem_of_getElem? (i := 24) rfl))) (fun _ h9 => h9) rfl (tyX3_ok 6 (Nat.le_of_ble_eq_true rfl)) (z_b_n z_b1) (z_b_f z_b1) (Nat.le_of_ble_eq_true rfl) dX7_findRests_147 (fun H locs hP hD hS => ?_)
  have hP : va_P D vwCl ((koW ac a ko ++ (txW ac (a 1) tx ++ (shW ac (a 2) now ++ (shW ac (a 3) sh17 ++ (teW ac (a 4) (a 1) (a 10) te ++ (paW ac a pa ++ (fcW ac (a 6) w15 w16 fc18 ++ (frW ac (a 7) to ++ (frW ac (a 8) tp ++ (reW ac (a 9) ((re_winsOfA u48.2), (re_winsOfB u48.2), (re_wholes u48.2), (re_bestOfA u48.2), (re_bestOfB u48.2), (re_rows u48.2), 1, (re_pairs u48.2), r50, r51) ++ (shW ac (a 40) k0 ++ (shW ac (a 41) k1 ++ (shW ac (a 10) ti))))))))))))) ++ ringW ac a rg) H := hP
  have hD : va_D A ((koW ac a ko ++ (txW ac (a 1) tx ++ (shW ac (a 2) now ++ (shW ac (a 3) sh17 ++ (teW ac (a 4) (a 1) (a 10) te ++ (paW ac a pa ++ (fcW ac (a 6) w15 w16 fc18 ++ (frW ac (a 7) to ++ (frW ac (a 8) tp ++ (reW ac (a 9) ((re_winsOfA u48.2), (re_winsOfB u48.2), (re_wholes u48.2), (re_bestOfA u48.2), (re_bestOfB u48.2), (re_rows u48.2), 1, (re_pairs u48.2), r50, r51) ++ (shW ac (a 40) k0 ++ (shW ac (a 41) k1 ++ (shW ac (a 10) ti))))))))))))) ++ ringW ac a rg) := hD
  obtain rfl := Option.some.inj hf
  exact zr_MvX (w15, w16) hx hb hr hlocks hP hD hS dX7_findRests_150

theorem hd_yX7_rests : hdY yX7_rests 1 := by decide +kernel
def K_rests (F : Nat) (now : Sh) (tr : Sh) (fc : Fc) (re : Re) (a1 : Int32) : Option (Int32 × Sh × Fc × Re) := if (sh_shooters now) = 0 then (some ((-1), tr, fc, re)) else (if a1 < 0 then (some ((-1), tr, fc, re)) else (if a1 ≤ 2 then (if (sh_shooters now) < 5 then (z_jn (fun u_k10 : Sh × Fc × Re => if a1 = 0 then (some ((re_pairs u_k10.2.2), u_k10.1, u_k10.2.1, u_k10.2.2)) else (if (re_pairs u_k10.2.2) = 0 then (some ((-2), u_k10.1, u_k10.2.1, u_k10.2.2)) else (if a1 = 1 then (some ((re_rowOfA u_k10.2.2), u_k10.1, u_k10.2.1, u_k10.2.2)) else (some ((re_rowOfB u_k10.2.2), u_k10.1, u_k10.2.1, u_k10.2.2))))) (fun k10 => if (re_known re) = 0 then (z_bd (K_findRests F now tr fc re) (fun u16 : Sh × Fc × Re => k10 (u16.1, u16.2.1, u16.2.2))) else (k10 (tr, fc, re)))) else (some ((-3), tr, fc, re))) else (some ((-1), tr, fc, re))))
set_option maxHeartbeats 4000000 in
set_option maxRecDepth 100000 in
theorem ctX7_rests (l : Launch) (D : va_G) (ac cs : Nat → Nat) (a : Nat → Nat → Nat) (w1 w2 : Nat) (sz : Nat) (ko : Ko) (tx : Tx) (now : Sh) (tr : Sh) (te : Te) (pa : Pa) (fc : Fc) (to : Fr) (tp : Fr) (re : Re) (k0 : Sh) (k1 : Sh) (ti : Sh) (rg : Nat → Sh) (a1 : Int32) (F : Nat) (res : Int32 × Sh × Fc × Re) (hf : K_rests F now tr fc re a1 = some res) : Met l yX7_rests (cWW yX7_rests cX7_rests 2 (some .int)) { frames := 8, cells := 0, slots := 0, locals := 183 } (zM D ac cs [.ref (a 0 0), .int a1] ((koW ac a ko ++ (txW ac (a 1) tx ++ (shW ac (a 2) now ++ (shW ac (a 3) tr ++ (teW ac (a 4) (a 1) (a 10) te ++ (paW ac a pa ++ (fcW ac (a 6) w1 w2 fc ++ (frW ac (a 7) to ++ (frW ac (a 8) tp ++ (reW ac (a 9) re ++ (shW ac (a 40) k0 ++ (shW ac (a 41) k1 ++ (shW ac (a 10) ti))))))))))))) ++ ringW ac a rg) sz) (va_Qi (fun r (_ : Nat × Nat) => r = res.1) (fun u => zB D (va_A ((koW ac a ko ++ (txW ac (a 1) tx ++ (shW ac (a 2) now ++ (shW ac (a 3) tr ++ (teW ac (a 4) (a 1) (a 10) te ++ (paW ac a pa ++ (fcW ac (a 6) w1 w2 fc ++ (frW ac (a 7) to ++ (frW ac (a 8) tp ++ (reW ac (a 9) re ++ (shW ac (a 40) k0 ++ (shW ac (a 41) k1 ++ (shW ac (a 10) ti))))))))))))) ++ ringW ac a rg) sz) ((koW ac a ko ++ (txW ac (a 1) tx ++ (shW ac (a 2) now ++ (shW ac (a 3) res.2.1 ++ (teW ac (a 4) (a 1) (a 10) te ++ (paW ac a pa ++ (fcW ac (a 6) u.1 u.2 res.2.2.1 ++ (frW ac (a 7) to ++ (frW ac (a 8) tp ++ (reW ac (a 9) res.2.2.2 ++ (shW ac (a 40) k0 ++ (shW ac (a 41) k1 ++ (shW ac (a 10) ti))))))))))))) ++ ringW ac a rg)) (va_A ((koW ac a ko ++ (txW ac (a 1) tx ++ (shW ac (a 2) now ++ (shW ac (a 3) tr ++ (teW ac (a 4) (a 1) (a 10) te ++ (paW ac a pa ++ (fcW ac (a 6) w1 w2 fc ++ (frW ac (a 7) to ++ (frW ac (a 8) tp ++ (reW ac (a 9) re ++ (shW ac (a 40) k0 ++ (shW ac (a 41) k1 ++ (shW ac (a 10) ti))))))))))))) ++ ringW ac a rg) sz)) 0 0 (va_A ((koW ac a ko ++ (txW ac (a 1) tx ++ (shW ac (a 2) now ++ (shW ac (a 3) tr ++ (teW ac (a 4) (a 1) (a 10) te ++ (paW ac a pa ++ (fcW ac (a 6) w1 w2 fc ++ (frW ac (a 7) to ++ (frW ac (a 8) tp ++ (reW ac (a 9) re ++ (shW ac (a 40) k0 ++ (shW ac (a 41) k1 ++ (shW ac (a 10) ti))))))))))))) ++ ringW ac a rg) sz) := by
  refine Met.ofW (cc := cX7_rests) (maxL := 2) (ret := (some .int)) (by decide) rfl ?_
  intro p e s m args below meth c s₁ B hml hv
  obtain ⟨rfl, hsz, hP, hKX, hD0, hC⟩ := hv
  have hx := B.exec
  have hb := B.bytes
  have hr := B.returns
  have hts := atoms_spec (ws := cWW yX7_rests cX7_rests 2 (some .int)) B.pre
  have htw : ∀ w ∈ WW, w.before _ s = true := fun w h => hts w (List.mem_cons_of_mem _ h)
  have hown : s.vm.findClass RX7 = some m.cls := findClass_of_methodNamed B.named
  have hlocks := B.notSynchronized
  clear hts B
  subst hsz
  have hD := hD0.self (sz := s.heap.size)
  generalize hAe : va_A ((koW ac a ko ++ (txW ac (a 1) tx ++ (shW ac (a 2) now ++ (shW ac (a 3) tr ++ (teW ac (a 4) (a 1) (a 10) te ++ (paW ac a pa ++ (fcW ac (a 6) w1 w2 fc ++ (frW ac (a 7) to ++ (frW ac (a 8) tp ++ (reW ac (a 9) re ++ (shW ac (a 40) k0 ++ (shW ac (a 41) k1 ++ (shW ac (a 10) ti))))))))))))) ++ ringW ac a rg) s.heap.size = A at hD hC ⊢
  have hA : ∀ q : Nat, s.heap.size ≤ q → A q := fun q h => by rw [← hAe]; exact Or.inr h
  have hS : va_S A s.heap s.heap [] := va_S.rf
  clear hD0 hAe
  have hP : va_P D vwCl ((koW ac a ko ++ (txW ac (a 1) tx ++ (shW ac (a 2) now ++ (shW ac (a 3) tr ++ (teW ac (a 4) (a 1) (a 10) te ++ (paW ac a pa ++ (fcW ac (a 6) w1 w2 fc ++ (frW ac (a 7) to ++ (frW ac (a 8) tp ++ (reW ac (a 9) re ++ (shW ac (a 40) k0 ++ (shW ac (a 41) k1 ++ (shW ac (a 10) ti))))))))))))) ++ ringW ac a rg) s.heap := hP
  have hl := lv_entry ([.ref (a 0 0), .int a1]) (n := 2) (Nat.le_of_ble_eq_true rfl)
  rw [lg_entry_eq]
  generalize (lg_sl ([.ref (a 0 0), .int a1]) ++ List.replicate (2 - (lg_sl ([.ref (a 0 0), .int a1])).length) Slot.unset).toArray = ls at hl ⊢
  have hl : lv_has ls 2 [(0, .ref (a 0 0)), (1, .int a1)] := hl
  unfold K_rests at hf
  show W p l e ({ frames := 8, cells := 0, slots := 0, locals := 183 } : Room) s m _ below meth c s.heap [] 0 0 _ (F0 m 0 ls [])
  refine lv_aload_n hx hb dX7_rests_0 rfl (lv_at hl 0 rfl) ?_
  refine va_get (D := D) (ci := 7) (v := .ref (a 2 0)) (C := RX7) (T := TX7) (N := 13) hx hb htw WW_wsX70 hown hKX.1 hP 0 rfl rfl 2 (Nat.le_of_ble_eq_true rfl) (htw _ mF_RX7_26) (fun _ h9 => h9) rfl dX7_rests_1 ?_
  refine va_getN (D := D) (ci := 4) (v := .int (sh_shooters now)) (C := RX4) (T := TX4) (N := 10) hx hb htw WW_wsX40 hown hKX.1 hP 6 rfl rfl 0 (Nat.le_of_ble_eq_true rfl) (va_Nw.use rfl (hKX.2 _ (List.mem_of_getElem? (i := 3) rfl))) (fun _ h9 => h9) rfl dX7_rests_4 ?_
  refine lv_if_eq (tgt := 19) hx hb dX7_rests_7 (by decide) (fun c1 => ?_) (fun c1 => ?_)
  · have hf := z_p c1 hf
    refine lv_iconst (v := (-1)) hx hb dX7_rests_19 rfl ?_
    obtain rfl := Option.some.inj hf
    exact zr_MiX (w1, w2) hx hb hr hlocks hP hD hS dX7_rests_20
  · have hf := z_n c1 hf
    refine lv_iload_n hx hb dX7_rests_10 rfl (lv_at hl 1 rfl) ?_
    refine lv_if_lt (tgt := 19) hx hb dX7_rests_11 (by decide) (fun c2 => ?_) (fun c2 => ?_)
    · have hf := z_p c2 hf
      refine lv_iconst (v := (-1)) hx hb dX7_rests_19 rfl ?_
      obtain rfl := Option.some.inj hf
      exact zr_MiX (w1, w2) hx hb hr hlocks hP hD hS dX7_rests_20
    · have hf := z_n c2 hf
      refine lv_iload_n hx hb dX7_rests_14 rfl (lv_at hl 1 rfl) ?_
      refine lv_iconst (v := 2) hx hb dX7_rests_15 rfl ?_
      refine lv_icmp_le (tgt := 21) hx hb dX7_rests_16 (by decide) (fun c3 => ?_) (fun c3 => ?_)
      · have hf := z_p c3 hf
        refine lv_aload_n hx hb dX7_rests_21 rfl (lv_at hl 0 rfl) ?_
        refine va_get (D := D) (ci := 7) (v := .ref (a 2 0)) (C := RX7) (T := TX7) (N := 13) hx hb htw WW_wsX70 hown hKX.1 hP 0 rfl rfl 2 (Nat.le_of_ble_eq_true rfl) (htw _ mF_RX7_26) (fun _ h9 => h9) rfl dX7_rests_22 ?_
        refine va_getN (D := D) (ci := 4) (v := .int (sh_shooters now)) (C := RX4) (T := TX4) (N := 10) hx hb htw WW_wsX40 hown hKX.1 hP 6 rfl rfl 0 (Nat.le_of_ble_eq_true rfl) (va_Nw.use rfl (hKX.2 _ (List.mem_of_getElem? (i := 3) rfl))) (fun _ h9 => h9) rfl dX7_rests_25 ?_
        refine lv_iconst (v := 5) hx hb dX7_rests_28 rfl ?_
        refine lv_icmp_lt (tgt := 35) hx hb dX7_rests_29 (by decide) (fun c4 => ?_) (fun c4 => ?_)
        · have hf := z_p c4 hf
          refine lv_aload_n hx hb dX7_rests_35 rfl (lv_at hl 0 rfl) ?_
          refine va_get (D := D) (ci := 7) (v := .ref (a 9 0)) (C := RX7) (T := TX7) (N := 13) hx hb htw WW_wsX70 hown hKX.1 hP 0 rfl rfl 10 (Nat.le_of_ble_eq_true rfl) (htw _ mF_RX7_68) (fun _ h9 => h9) rfl dX7_rests_36 ?_
          refine va_getN (D := D) (ci := 3) (v := .int (re_known re)) (C := RX3) (T := TX3) (N := 10) hx hb htw WW_wsX30 hown hKX.1 hP 23 rfl rfl 6 (Nat.le_of_ble_eq_true rfl) (va_Nw.use rfl (hKX.2 _ (List.mem_of_getElem? (i := 24) rfl))) (fun _ h9 => h9) rfl dX7_rests_39 ?_
          obtain ⟨k10, hk10, hf⟩ := z_jn_u hf
          have hj11 : ∀ (sh7 : Sh) (fc8 : Fc) (re9 : Re), k10 (sh7, fc8, re9) = some res → ∀ (H : Heap) (locs : List Loc) (ls : Array Slot) (w5 w6 : Nat), va_P D vwCl ((koW ac a ko ++ (txW ac (a 1) tx ++ (shW ac (a 2) now ++ (shW ac (a 3) sh7 ++ (teW ac (a 4) (a 1) (a 10) te ++ (paW ac a pa ++ (fcW ac (a 6) w5 w6 fc8 ++ (frW ac (a 7) to ++ (frW ac (a 8) tp ++ (reW ac (a 9) re9 ++ (shW ac (a 40) k0 ++ (shW ac (a 41) k1 ++ (shW ac (a 10) ti))))))))))))) ++ ringW ac a rg) H → va_D A ((koW ac a ko ++ (txW ac (a 1) tx ++ (shW ac (a 2) now ++ (shW ac (a 3) sh7 ++ (teW ac (a 4) (a 1) (a 10) te ++ (paW ac a pa ++ (fcW ac (a 6) w5 w6 fc8 ++ (frW ac (a 7) to ++ (frW ac (a 8) tp ++ (reW ac (a 9) re9 ++ (shW ac (a 40) k0 ++ (shW ac (a 41) k1 ++ (shW ac (a 10) ti))))))))))))) ++ ringW ac a rg) → va_S A s.heap H locs → lv_has ls 2 [(0, .ref (a 0 0)), (1, .int a1)] → W p l e ({ frames := 8, cells := 0, slots := 0, locals := 183 } : Room) s m (([.ref (a 0 0), .int a1] : List Value).toArray) below meth c H locs 0 0 (MQ below (va_Qi (fun r (_ : Nat × Nat) => r = res.1) (fun u => zB D A ((koW ac a ko ++ (txW ac (a 1) tx ++ (shW ac (a 2) now ++ (shW ac (a 3) res.2.1 ++ (teW ac (a 4) (a 1) (a 10) te ++ (paW ac a pa ++ (fcW ac (a 6) u.1 u.2 res.2.2.1 ++ (frW ac (a 7) to ++ (frW ac (a 8) tp ++ (reW ac (a 9) res.2.2.2 ++ (shW ac (a 40) k0 ++ (shW ac (a 41) k1 ++ (shW ac (a 10) ti))))))))))))) ++ ringW ac a rg)) A) ([.ref (a 0 0), .int a1] : List Value).toArray s 0 0 A) (F0 m 49 ls []) := by
            intro sh7 fc8 re9 hf H locs ls w5 w6 hP hD hS hl
            have hf := hk10 _ hf
            refine lv_iload_n hx hb dX7_rests_49 rfl (lv_at hl 1 rfl) ?_
            refine lv_if_ne (tgt := 61) hx hb dX7_rests_50 (by decide) (fun c12 => ?_) (fun c12 => ?_)
            · have hf := z_n c12 hf
              refine lv_aload_n hx hb dX7_rests_61 rfl (lv_at hl 0 rfl) ?_
              refine va_get (D := D) (ci := 7) (v := .ref (a 9 0)) (C := RX7) (T := TX7) (N := 13) hx hb htw WW_wsX70 hown hKX.1 hP 0 rfl rfl 10 (Nat.le_of_ble_eq_true rfl) (htw _ mF_RX7_68) (fun _ h9 => h9) rfl dX7_rests_62 ?_
              refine va_getN (D := D) (ci := 3) (v := .int (re_pairs re9)) (C := RX3) (T := TX3) (N := 10) hx hb htw WW_wsX30 hown hKX.1 hP 23 rfl rfl 7 (Nat.le_of_ble_eq_true rfl) (va_Nw.use rfl (hKX.2 _ (List.mem_of_getElem? (i := 25) rfl))) (fun _ h9 => h9) rfl dX7_rests_65 ?_
              refine lv_if_ne (tgt := 74) hx hb dX7_rests_68 (by decide) (fun c13 => ?_) (fun c13 => ?_)
              · have hf := z_n c13 hf
                refine lv_iload_n hx hb dX7_rests_74 rfl (lv_at hl 1 rfl) ?_
                refine lv_iconst (v := 1) hx hb dX7_rests_75 rfl ?_
                refine lv_icmp_ne (tgt := 89) hx hb dX7_rests_76 (by decide) (fun c14 => ?_) (fun c14 => ?_)
                · have hf := z_n c14 hf
                  refine lv_aload_n hx hb dX7_rests_89 rfl (lv_at hl 0 rfl) ?_
                  refine va_get (D := D) (ci := 7) (v := .ref (a 9 0)) (C := RX7) (T := TX7) (N := 13) hx hb htw WW_wsX70 hown hKX.1 hP 0 rfl rfl 10 (Nat.le_of_ble_eq_true rfl) (htw _ mF_RX7_68) (fun _ h9 => h9) rfl dX7_rests_90 ?_
                  refine va_getN (D := D) (ci := 3) (v := .int (re_rowOfB re9)) (C := RX3) (T := TX3) (N := 10) hx hb htw WW_wsX30 hown hKX.1 hP 23 rfl rfl 9 (Nat.le_of_ble_eq_true rfl) (va_Nw.use rfl (hKX.2 _ (List.mem_of_getElem? (i := 27) rfl))) (fun _ h9 => h9) rfl dX7_rests_93 ?_
                  obtain rfl := Option.some.inj hf
                  exact zr_MiX (w5, w6) hx hb hr hlocks hP hD hS dX7_rests_96
                · have hf := z_p c14 hf
                  refine lv_aload_n hx hb dX7_rests_79 rfl (lv_at hl 0 rfl) ?_
                  refine va_get (D := D) (ci := 7) (v := .ref (a 9 0)) (C := RX7) (T := TX7) (N := 13) hx hb htw WW_wsX70 hown hKX.1 hP 0 rfl rfl 10 (Nat.le_of_ble_eq_true rfl) (htw _ mF_RX7_68) (fun _ h9 => h9) rfl dX7_rests_80 ?_
                  refine va_getN (D := D) (ci := 3) (v := .int (re_rowOfA re9)) (C := RX3) (T := TX3) (N := 10) hx hb htw WW_wsX30 hown hKX.1 hP 23 rfl rfl 8 (Nat.le_of_ble_eq_true rfl) (va_Nw.use rfl (hKX.2 _ (List.mem_of_getElem? (i := 26) rfl))) (fun _ h9 => h9) rfl dX7_rests_83 ?_
                  refine lv_goto (tgt := 96) hx hb dX7_rests_86 (by decide) ?_
                  obtain rfl := Option.some.inj hf
                  exact zr_MiX (w5, w6) hx hb hr hlocks hP hD hS dX7_rests_96
              · have hf := z_p c13 hf
                refine lv_bipush (v := (-2)) hx hb dX7_rests_71 rfl ?_
                obtain rfl := Option.some.inj hf
                exact zr_MiX (w5, w6) hx hb hr hlocks hP hD hS dX7_rests_73
            · have hf := z_p c12 hf
              refine lv_aload_n hx hb dX7_rests_53 rfl (lv_at hl 0 rfl) ?_
              refine va_get (D := D) (ci := 7) (v := .ref (a 9 0)) (C := RX7) (T := TX7) (N := 13) hx hb htw WW_wsX70 hown hKX.1 hP 0 rfl rfl 10 (Nat.le_of_ble_eq_true rfl) (htw _ mF_RX7_68) (fun _ h9 => h9) rfl dX7_rests_54 ?_
              refine va_getN (D := D) (ci := 3) (v := .int (re_pairs re9)) (C := RX3) (T := TX3) (N := 10) hx hb htw WW_wsX30 hown hKX.1 hP 23 rfl rfl 7 (Nat.le_of_ble_eq_true rfl) (va_Nw.use rfl (hKX.2 _ (List.mem_of_getElem? (i := 25) rfl))) (fun _ h9 => h9) rfl dX7_rests_57 ?_
              obtain rfl := Option.some.inj hf
              exact zr_MiX (w5, w6) hx hb hr hlocks hP hD hS dX7_rests_60
          refine lv_if_ne (tgt := 49) hx hb dX7_rests_42 (by decide) (fun c15 => ?_) (fun c15 => ?_)
          · have hf := z_n c15 hf
            exact hj11 tr fc re hf _ _ ls w1 w2 hP hD hS (lv_sub hl [0, 1] rfl)
          · have hf := z_p c15 hf
            refine lv_aload_n hx hb dX7_rests_45 rfl (lv_at hl 0 rfl) ?_
            obtain ⟨u16, hu16, hf⟩ := z_bd_u hf
            refine zc_MVvXT (E := (koW ac a ko ++ (txW ac (a 1) tx ++ (shW ac (a 2) now ++ (shW ac (a 3) tr ++ (teW ac (a 4) (a 1) (a 10) te ++ (paW ac a pa ++ (fcW ac (a 6) w1 w2 fc ++ (frW ac (a 7) to ++ (frW ac (a 8) tp ++ (reW ac (a 9) re ++ (shW ac (a 40) k0 ++ (shW ac (a 41) k1 ++ (shW ac (a 10) ti))))))))))))) ++ ringW ac a rg) (TT := []) (As := []) (rest := []) (wr := []) (wsc := (koW ac a ko ++ (txW ac (a 1) tx ++ (shW ac (a 2) now ++ (shW ac (a 3) tr ++ (teW ac (a 4) (a 1) (a 10) te ++ (paW ac a pa ++ (fcW ac (a 6) w1 w2 fc ++ (frW ac (a 7) to ++ (frW ac (a 8) tp ++ (reW ac (a 9) re ++ (shW ac (a 40) k0 ++ (shW ac (a 41) k1 ++ (shW ac (a 10) ti))))))))))))) ++ ringW ac a rg) (wsc' := fun u17 : Nat × Nat => (koW ac a ko ++ (txW ac (a 1) tx ++ (shW ac (a 2) now ++ (shW ac (a 3) u16.1 ++ (teW ac (a 4) (a 1) (a 10) te ++ (paW ac a pa ++ (fcW ac (a 6) u17.1 u17.2 u16.2.1 ++ (frW ac (a 7) to ++ (frW ac (a 8) tp ++ (reW ac (a 9) u16.2.2 ++ (shW ac (a 40) k0 ++ (shW ac (a 41) k1 ++ (shW ac (a 10) ti))))))))))))) ++ ringW ac a rg) hx hb hml hown htw (ctX7_findRests l D ac cs a w1 w2 s.heap.size ko tx now tr te pa fc to tp re k0 k1 ti rg    F u16 hu16) (g_V mM_RX7_274 mI_yX7_findRests mS_RX7_yX7_findRests_yX7_findRests mN_RX7 mC_yX7_findRests) rfl (hd_yX7_findRests) ⟨rfl, rfl⟩ ⟨(Nat.le_of_ble_eq_true rfl), (Nat.le_of_ble_eq_true rfl)⟩ hKX hC hS hA (zP_nil hP) (zD_nil hD) (List.range _) [] (zrange _) (zndr _) rfl rfl (fun _ h => by cases h) 7 rfl rfl rfl hl.1 rfl (Nat.le_of_ble_eq_true rfl) ⟨Nat.zero_le _, Nat.zero_le _⟩ dX7_rests_46 (fun u17 H locs hP hD hS => ?_)
            obtain ⟨w18, w19⟩ := u17
            have hP : va_P D vwCl ((koW ac a ko ++ (txW ac (a 1) tx ++ (shW ac (a 2) now ++ (shW ac (a 3) u16.1 ++ (teW ac (a 4) (a 1) (a 10) te ++ (paW ac a pa ++ (fcW ac (a 6) w18 w19 u16.2.1 ++ (frW ac (a 7) to ++ (frW ac (a 8) tp ++ (reW ac (a 9) u16.2.2 ++ (shW ac (a 40) k0 ++ (shW ac (a 41) k1 ++ (shW ac (a 10) ti))))))))))))) ++ ringW ac a rg) H := zP_un hP
            have hD : va_D A ((koW ac a ko ++ (txW ac (a 1) tx ++ (shW ac (a 2) now ++ (shW ac (a 3) u16.1 ++ (teW ac (a 4) (a 1) (a 10) te ++ (paW ac a pa ++ (fcW ac (a 6) w18 w19 u16.2.1 ++ (frW ac (a 7) to ++ (frW ac (a 8) tp ++ (reW ac (a 9) u16.2.2 ++ (shW ac (a 40) k0 ++ (shW ac (a 41) k1 ++ (shW ac (a 10) ti))))))))))))) ++ ringW ac a rg) := zD_un hD
            exact hj11 u16.1 u16.2.1 u16.2.2 hf _ _ ls w18 w19 hP hD hS (lv_sub hl [0, 1] rfl)
        · have hf := z_n c4 hf
          refine lv_bipush (v := (-3)) hx hb dX7_rests_32 rfl ?_
          obtain rfl := Option.some.inj hf
          exact zr_MiX (w1, w2) hx hb hr hlocks hP hD hS dX7_rests_34
      · have hf := z_n c3 hf
        refine lv_iconst (v := (-1)) hx hb dX7_rests_19 rfl ?_
        obtain rfl := Option.some.inj hf
        exact zr_MiX (w1, w2) hx hb hr hlocks hP hD hS dX7_rests_20

theorem hd_yX7_chooseCorner : hdY yX7_chooseCorner 3 := by decide +kernel
def K_chooseCorner (F : Nat) (a1 : Int32) (a2 : Int32) (a3 : Int32) : Option (Fr × Fr) := z_let (if 0 < (a1 - a3) then (a1 - a3) else 0) (fun x1 : Int32 => z_let (if 0 < (a2 - a3) then (a2 - a3) else 0) (fun x2 : Int32 => z_let (a1 - x1) (fun x3 : Int32 => z_let (a2 - x2) (fun x4 : Int32 => z_let (x3 + x4) (fun x5 : Int32 => z_jn (fun u_k8 : Fr × Fr => z_bd (Fr_reduce F u_k8.1) (fun u10 : Fr => z_bd (Fr_reduce F u_k8.2) (fun u11 : Fr => some (u10, u11)))) (fun k8 => if x5 = 0 then (z_let (Fr_put ((if a1 < a2 then a2 else a1).toInt64) 6) (fun u25 : Fr => z_let (if a1 < a2 then 0 else 1) (fun v26 : Int64 => z_let (Fr_put v26 1) (fun u30 : Fr => k8 (u25, u30))))) else (z_let ((a2 * x5) - (x4 * (a2 - x1))) (fun x13 : Int32 => z_jn (fun _ : Unit => if x13 < (x2 * x5) then (z_let (Fr_put x2.toInt64 6) (fun u17 : Fr => z_let (Fr_put 0 1) (fun u18 : Fr => k8 (u17, u18)))) else (z_let (Fr_put x13.toInt64 (6 * x5.toInt64)) (fun u19 : Fr => z_let (Fr_put x4.toInt64 x5.toInt64) (fun u20 : Fr => k8 (u19, u20))))) (fun k14 => if (x1 * x5) < x13 then (k14 ()) else (if x1 < x2 then (k14 ()) else (z_let (Fr_put x1.toInt64 6) (fun u23 : Fr => z_let (Fr_put 1 1) (fun u24 : Fr => k8 (u23, u24))))))))))))))
set_option maxHeartbeats 4000000 in
set_option maxRecDepth 100000 in
theorem ctX7_chooseCorner (l : Launch) (D : va_G) (ac cs : Nat → Nat) (a : Nat → Nat → Nat) (w1 w2 : Nat) (sz : Nat) (ko : Ko) (tx : Tx) (now : Sh) (tr : Sh) (te : Te) (pa : Pa) (fc : Fc) (to : Fr) (tp : Fr) (re : Re) (k0 : Sh) (k1 : Sh) (ti : Sh) (rg : Nat → Sh) (a1 : Int32) (a2 : Int32) (a3 : Int32) (F : Nat) (res : Fr × Fr) (hf : K_chooseCorner F a1 a2 a3 = some res) : Met l yX7_chooseCorner (cWW yX7_chooseCorner cX7_chooseCorner 10 none) { frames := 1, cells := 0, slots := 0, locals := 27 } (zM D ac cs [.ref (a 0 0), .int a1, .int a2, .int a3] ((koW ac a ko ++ (txW ac (a 1) tx ++ (shW ac (a 2) now ++ (shW ac (a 3) tr ++ (teW ac (a 4) (a 1) (a 10) te ++ (paW ac a pa ++ (fcW ac (a 6) w1 w2 fc ++ (frW ac (a 7) to ++ (frW ac (a 8) tp ++ (reW ac (a 9) re ++ (shW ac (a 40) k0 ++ (shW ac (a 41) k1 ++ (shW ac (a 10) ti))))))))))))) ++ ringW ac a rg) sz) (va_Qv (fun _ : Unit => True) (fun _ => zB D (va_A ((koW ac a ko ++ (txW ac (a 1) tx ++ (shW ac (a 2) now ++ (shW ac (a 3) tr ++ (teW ac (a 4) (a 1) (a 10) te ++ (paW ac a pa ++ (fcW ac (a 6) w1 w2 fc ++ (frW ac (a 7) to ++ (frW ac (a 8) tp ++ (reW ac (a 9) re ++ (shW ac (a 40) k0 ++ (shW ac (a 41) k1 ++ (shW ac (a 10) ti))))))))))))) ++ ringW ac a rg) sz) ((koW ac a ko ++ (txW ac (a 1) tx ++ (shW ac (a 2) now ++ (shW ac (a 3) tr ++ (teW ac (a 4) (a 1) (a 10) te ++ (paW ac a pa ++ (fcW ac (a 6) w1 w2 fc ++ (frW ac (a 7) res.1 ++ (frW ac (a 8) res.2 ++ (reW ac (a 9) re ++ (shW ac (a 40) k0 ++ (shW ac (a 41) k1 ++ (shW ac (a 10) ti))))))))))))) ++ ringW ac a rg)) (va_A ((koW ac a ko ++ (txW ac (a 1) tx ++ (shW ac (a 2) now ++ (shW ac (a 3) tr ++ (teW ac (a 4) (a 1) (a 10) te ++ (paW ac a pa ++ (fcW ac (a 6) w1 w2 fc ++ (frW ac (a 7) to ++ (frW ac (a 8) tp ++ (reW ac (a 9) re ++ (shW ac (a 40) k0 ++ (shW ac (a 41) k1 ++ (shW ac (a 10) ti))))))))))))) ++ ringW ac a rg) sz)) 0 0 (va_A ((koW ac a ko ++ (txW ac (a 1) tx ++ (shW ac (a 2) now ++ (shW ac (a 3) tr ++ (teW ac (a 4) (a 1) (a 10) te ++ (paW ac a pa ++ (fcW ac (a 6) w1 w2 fc ++ (frW ac (a 7) to ++ (frW ac (a 8) tp ++ (reW ac (a 9) re ++ (shW ac (a 40) k0 ++ (shW ac (a 41) k1 ++ (shW ac (a 10) ti))))))))))))) ++ ringW ac a rg) sz) := by
  refine Met.ofW (cc := cX7_chooseCorner) (maxL := 10) (ret := none) (by decide) rfl ?_
  intro p e s m args below meth c s₁ B hml hv
  obtain ⟨rfl, hsz, hP, hKX, hD0, hC⟩ := hv
  have hx := B.exec
  have hb := B.bytes
  have hr := B.returns
  have hts := atoms_spec (ws := cWW yX7_chooseCorner cX7_chooseCorner 10 none) B.pre
  have htw : ∀ w ∈ WW, w.before _ s = true := fun w h => hts w (List.mem_cons_of_mem _ h)
  have hown : s.vm.findClass RX7 = some m.cls := findClass_of_methodNamed B.named
  have hlocks := B.notSynchronized
  clear hts B
  subst hsz
  have hD := hD0.self (sz := s.heap.size)
  generalize hAe : va_A ((koW ac a ko ++ (txW ac (a 1) tx ++ (shW ac (a 2) now ++ (shW ac (a 3) tr ++ (teW ac (a 4) (a 1) (a 10) te ++ (paW ac a pa ++ (fcW ac (a 6) w1 w2 fc ++ (frW ac (a 7) to ++ (frW ac (a 8) tp ++ (reW ac (a 9) re ++ (shW ac (a 40) k0 ++ (shW ac (a 41) k1 ++ (shW ac (a 10) ti))))))))))))) ++ ringW ac a rg) s.heap.size = A at hD hC ⊢
  have hA : ∀ q : Nat, s.heap.size ≤ q → A q := fun q h => by rw [← hAe]; exact Or.inr h
  have hS : va_S A s.heap s.heap [] := va_S.rf
  clear hD0 hAe
  have hP : va_P D vwCl ((koW ac a ko ++ (txW ac (a 1) tx ++ (shW ac (a 2) now ++ (shW ac (a 3) tr ++ (teW ac (a 4) (a 1) (a 10) te ++ (paW ac a pa ++ (fcW ac (a 6) w1 w2 fc ++ (frW ac (a 7) to ++ (frW ac (a 8) tp ++ (reW ac (a 9) re ++ (shW ac (a 40) k0 ++ (shW ac (a 41) k1 ++ (shW ac (a 10) ti))))))))))))) ++ ringW ac a rg) s.heap := hP
  have hl := lv_entry ([.ref (a 0 0), .int a1, .int a2, .int a3]) (n := 10) (Nat.le_of_ble_eq_true rfl)
  rw [lg_entry_eq]
  generalize (lg_sl ([.ref (a 0 0), .int a1, .int a2, .int a3]) ++ List.replicate (10 - (lg_sl ([.ref (a 0 0), .int a1, .int a2, .int a3])).length) Slot.unset).toArray = ls at hl ⊢
  have hl : lv_has ls 10 [(0, .ref (a 0 0)), (1, .int a1), (2, .int a2), (3, .int a3)] := hl
  unfold K_chooseCorner at hf
  show W p l e ({ frames := 1, cells := 0, slots := 0, locals := 27 } : Room) s m _ below meth c s.heap [] 0 0 _ (F0 m 0 ls [])
  refine lv_iconst (v := 0) hx hb dX7_chooseCorner_0 rfl ?_
  refine lv_iload_n hx hb dX7_chooseCorner_1 rfl (lv_at hl 1 rfl) ?_
  refine lv_iload_n hx hb dX7_chooseCorner_2 rfl (lv_at hl 3 rfl) ?_
  refine lv_isub hx hb dX7_chooseCorner_3 ?_
  refine va_mmax hx hb (hml.trans hl.1.symm) hown (htw _ mM_RX7_299) (htw _ mT_Lib_Math_max_name) (htw _ mN_java_lang_Math) (htw _ mC_Lib_Math_max_name) (Nat.le_of_ble_eq_true rfl) (Nat.le_of_ble_eq_true rfl) (Nat.zero_le _) (Nat.zero_le _) dX7_chooseCorner_4 ?_
  refine lv_topi (fun x1 hx1 => ?_)
  have hf := z_let_u hx1 hf
  refine lv_istore (lv' := [(4, .int x1), (0, .ref (a 0 0)), (1, .int a1), (2, .int a2), (3, .int a3)]) hx hb dX7_chooseCorner_7 hl (Nat.le_of_ble_eq_true rfl) rfl (fun ls hl => ?_)
  refine lv_iconst (v := 0) hx hb dX7_chooseCorner_9 rfl ?_
  refine lv_iload_n hx hb dX7_chooseCorner_10 rfl (lv_at hl 3 rfl) ?_
  refine lv_iload_n hx hb dX7_chooseCorner_11 rfl (lv_at hl 4 rfl) ?_
  refine lv_isub hx hb dX7_chooseCorner_12 ?_
  refine va_mmax hx hb (hml.trans hl.1.symm) hown (htw _ mM_RX7_299) (htw _ mT_Lib_Math_max_name) (htw _ mN_java_lang_Math) (htw _ mC_Lib_Math_max_name) (Nat.le_of_ble_eq_true rfl) (Nat.le_of_ble_eq_true rfl) (Nat.zero_le _) (Nat.zero_le _) dX7_chooseCorner_13 ?_
  refine lv_topi (fun x2 hx2 => ?_)
  have hf := z_let_u hx2 hf
  refine lv_istore (lv' := [(5, .int x2), (4, .int x1), (0, .ref (a 0 0)), (1, .int a1), (2, .int a2), (3, .int a3)]) hx hb dX7_chooseCorner_16 hl (Nat.le_of_ble_eq_true rfl) rfl (fun ls hl => ?_)
  refine lv_iload_n hx hb dX7_chooseCorner_18 rfl (lv_at hl 3 rfl) ?_
  refine lv_iload hx hb dX7_chooseCorner_19 (lv_at hl 1 rfl) ?_
  refine lv_isub hx hb dX7_chooseCorner_21 ?_
  refine lv_topi (fun x3 hx3 => ?_)
  have hf := z_let_u hx3 hf
  refine lv_istore (lv' := [(6, .int x3), (5, .int x2), (4, .int x1), (0, .ref (a 0 0)), (1, .int a1), (2, .int a2), (3, .int a3)]) hx hb dX7_chooseCorner_22 hl (Nat.le_of_ble_eq_true rfl) rfl (fun ls hl => ?_)
  refine lv_iload_n hx hb dX7_chooseCorner_24 rfl (lv_at hl 5 rfl) ?_
  refine lv_iload hx hb dX7_chooseCorner_25 (lv_at hl 1 rfl) ?_
  refine lv_isub hx hb dX7_chooseCorner_27 ?_
  refine lv_topi (fun x4 hx4 => ?_)
  have hf := z_let_u hx4 hf
  refine lv_istore (lv' := [(7, .int x4), (6, .int x3), (5, .int x2), (4, .int x1), (0, .ref (a 0 0)), (1, .int a1), (2, .int a2), (3, .int a3)]) hx hb dX7_chooseCorner_28 hl (Nat.le_of_ble_eq_true rfl) rfl (fun ls hl => ?_)
  refine lv_iload hx hb dX7_chooseCorner_30 (lv_at hl 1 rfl) ?_
  refine lv_iload hx hb dX7_chooseCorner_32 (lv_at hl 0 rfl) ?_
  refine lv_iadd hx hb dX7_chooseCorner_34 ?_
  refine lv_topi (fun x5 hx5 => ?_)
  have hf := z_let_u hx5 hf
  refine lv_istore (lv' := [(8, .int x5), (7, .int x4), (6, .int x3), (5, .int x2), (4, .int x1), (0, .ref (a 0 0)), (1, .int a1), (2, .int a2), (3, .int a3)]) hx hb dX7_chooseCorner_35 hl (Nat.le_of_ble_eq_true rfl) rfl (fun ls hl => ?_)
  refine lv_iload hx hb dX7_chooseCorner_37 (lv_at hl 0 rfl) ?_
  obtain ⟨k8, hk8, hf⟩ := z_jn_u hf
  have hj9 : ∀ (fr6 : Fr) (fr7 : Fr), k8 (fr6, fr7) = some res → ∀ (H : Heap) (locs : List Loc) (ls : Array Slot), va_P D vwCl ((koW ac a ko ++ (txW ac (a 1) tx ++ (shW ac (a 2) now ++ (shW ac (a 3) tr ++ (teW ac (a 4) (a 1) (a 10) te ++ (paW ac a pa ++ (fcW ac (a 6) w1 w2 fc ++ (frW ac (a 7) fr6 ++ (frW ac (a 8) fr7 ++ (reW ac (a 9) re ++ (shW ac (a 40) k0 ++ (shW ac (a 41) k1 ++ (shW ac (a 10) ti))))))))))))) ++ ringW ac a rg) H → va_D A ((koW ac a ko ++ (txW ac (a 1) tx ++ (shW ac (a 2) now ++ (shW ac (a 3) tr ++ (teW ac (a 4) (a 1) (a 10) te ++ (paW ac a pa ++ (fcW ac (a 6) w1 w2 fc ++ (frW ac (a 7) fr6 ++ (frW ac (a 8) fr7 ++ (reW ac (a 9) re ++ (shW ac (a 40) k0 ++ (shW ac (a 41) k1 ++ (shW ac (a 10) ti))))))))))))) ++ ringW ac a rg) → va_S A s.heap H locs → lv_has ls 10 [(0, .ref (a 0 0))] → W p l e ({ frames := 1, cells := 0, slots := 0, locals := 27 } : Room) s m (([.ref (a 0 0), .int a1, .int a2, .int a3] : List Value).toArray) below meth c H locs 0 0 (MQ below (va_Qv (fun _ : Unit => True) (fun _ => zB D A ((koW ac a ko ++ (txW ac (a 1) tx ++ (shW ac (a 2) now ++ (shW ac (a 3) tr ++ (teW ac (a 4) (a 1) (a 10) te ++ (paW ac a pa ++ (fcW ac (a 6) w1 w2 fc ++ (frW ac (a 7) res.1 ++ (frW ac (a 8) res.2 ++ (reW ac (a 9) re ++ (shW ac (a 40) k0 ++ (shW ac (a 41) k1 ++ (shW ac (a 10) ti))))))))))))) ++ ringW ac a rg)) A) ([.ref (a 0 0), .int a1, .int a2, .int a3] : List Value).toArray s 0 0 A) (F0 m 200 ls []) := by
    intro fr6 fr7 hf H locs ls hP hD hS hl
    have hf := hk8 _ hf
    refine lv_aload_n hx hb dX7_chooseCorner_200 rfl (lv_at hl 0 rfl) ?_
    refine va_get (D := D) (ci := 7) (v := .ref (a 7 0)) (C := RX7) (T := TX7) (N := 13) hx hb htw WW_wsX70 hown hKX.1 hP 0 rfl rfl 8 (Nat.le_of_ble_eq_true rfl) (htw _ mF_RX7_58) (fun _ h9 => h9) rfl dX7_chooseCorner_201 ?_
    obtain ⟨u10, hu10, hf⟩ := z_bd_u hf
    refine zc_MVvT (As := []) (rest := []) (wr := koW ac a ko ++ (txW ac (a 1) tx ++ (shW ac (a 2) now ++ (shW ac (a 3) tr ++ (teW ac (a 4) (a 1) (a 10) te ++ (paW ac a pa ++ (fcW ac (a 6) w1 w2 fc ++ (frW ac (a 8) fr7 ++ (reW ac (a 9) re ++ (shW ac (a 40) k0 ++ (shW ac (a 41) k1 ++ (shW ac (a 10) ti)))))))))))) (wsc := frW ac (a 7) fr6) (wsc' := frW ac (a 7) u10) hx hb hml hown htw (ctX1_reduce l D ac cs (a 7) H.size fr6    F u10 hu10) (g_V mM_RX7_208 mI_yX1_reduce mS_RX1_yX1_reduce_yX1_reduce mN_RX1 mC_yX1_reduce) rfl (hd_yX1_reduce) ⟨rfl, rfl⟩ ⟨(Nat.le_of_ble_eq_true rfl), (Nat.le_of_ble_eq_true rfl)⟩ hKX hC hS hA hP hD [21] [0, 1, 2, 3, 4, 5, 6, 7, 8, 9, 10, 11, 12, 13, 14, 15, 16, 17, 18, 19, 20, 22, 23, 24, 25, 26, 27, 28, 29, 30, 31, 32, 33, 34, 35, 36, 37] rfl (by decide) rfl (by decide) (by decide) 1 rfl rfl rfl hl.1 rfl (Nat.le_of_ble_eq_true rfl) ⟨Nat.zero_le _, Nat.zero_le _⟩ dX7_chooseCorner_204 (fun H locs hP hD hS => ?_)
    have hP : va_P D vwCl ((koW ac a ko ++ (txW ac (a 1) tx ++ (shW ac (a 2) now ++ (shW ac (a 3) tr ++ (teW ac (a 4) (a 1) (a 10) te ++ (paW ac a pa ++ (fcW ac (a 6) w1 w2 fc ++ (frW ac (a 7) u10 ++ (frW ac (a 8) fr7 ++ (reW ac (a 9) re ++ (shW ac (a 40) k0 ++ (shW ac (a 41) k1 ++ (shW ac (a 10) ti))))))))))))) ++ ringW ac a rg) H := zsubPT hP [0, 1, 2, 3, 4, 5, 6, 7, 8, 9, 10, 11, 12, 13, 14, 15, 16, 17, 18, 19, 20, 37, 21, 22, 23, 24, 25, 26, 27, 28, 29, 30, 31, 32, 33, 34, 35, 36] rfl
    have hD : va_D A ((koW ac a ko ++ (txW ac (a 1) tx ++ (shW ac (a 2) now ++ (shW ac (a 3) tr ++ (teW ac (a 4) (a 1) (a 10) te ++ (paW ac a pa ++ (fcW ac (a 6) w1 w2 fc ++ (frW ac (a 7) u10 ++ (frW ac (a 8) fr7 ++ (reW ac (a 9) re ++ (shW ac (a 40) k0 ++ (shW ac (a 41) k1 ++ (shW ac (a 10) ti))))))))))))) ++ ringW ac a rg) := zsubDT hD [0, 1, 2, 3, 4, 5, 6, 7, 8, 9, 10, 11, 12, 13, 14, 15, 16, 17, 18, 19, 20, 37, 21, 22, 23, 24, 25, 26, 27, 28, 29, 30, 31, 32, 33, 34, 35, 36] (by decide) rfl
    refine lv_aload_n hx hb dX7_chooseCorner_207 rfl (lv_at hl 0 rfl) ?_
    refine va_get (D := D) (ci := 7) (v := .ref (a 8 0)) (C := RX7) (T := TX7) (N := 13) hx hb htw WW_wsX70 hown hKX.1 hP 0 rfl rfl 9 (Nat.le_of_ble_eq_true rfl) (htw _ mF_RX7_62) (fun _ h9 => h9) rfl dX7_chooseCorner_208 ?_
    obtain ⟨u11, hu11, hf⟩ := z_bd_u hf
    refine zc_MVvT (As := []) (rest := []) (wr := koW ac a ko ++ (txW ac (a 1) tx ++ (shW ac (a 2) now ++ (shW ac (a 3) tr ++ (teW ac (a 4) (a 1) (a 10) te ++ (paW ac a pa ++ (fcW ac (a 6) w1 w2 fc ++ (frW ac (a 7) u10 ++ (reW ac (a 9) re ++ (shW ac (a 40) k0 ++ (shW ac (a 41) k1 ++ (shW ac (a 10) ti)))))))))))) (wsc := frW ac (a 8) fr7) (wsc' := frW ac (a 8) u11) hx hb hml hown htw (ctX1_reduce l D ac cs (a 8) H.size fr7    F u11 hu11) (g_V mM_RX7_208 mI_yX1_reduce mS_RX1_yX1_reduce_yX1_reduce mN_RX1 mC_yX1_reduce) rfl (hd_yX1_reduce) ⟨rfl, rfl⟩ ⟨(Nat.le_of_ble_eq_true rfl), (Nat.le_of_ble_eq_true rfl)⟩ hKX hC hS hA hP hD [22] [0, 1, 2, 3, 4, 5, 6, 7, 8, 9, 10, 11, 12, 13, 14, 15, 16, 17, 18, 19, 20, 21, 23, 24, 25, 26, 27, 28, 29, 30, 31, 32, 33, 34, 35, 36, 37] rfl (by decide) rfl (by decide) (by decide) 1 rfl rfl rfl hl.1 rfl (Nat.le_of_ble_eq_true rfl) ⟨Nat.zero_le _, Nat.zero_le _⟩ dX7_chooseCorner_211 (fun H locs hP hD hS => ?_)
    have hP : va_P D vwCl ((koW ac a ko ++ (txW ac (a 1) tx ++ (shW ac (a 2) now ++ (shW ac (a 3) tr ++ (teW ac (a 4) (a 1) (a 10) te ++ (paW ac a pa ++ (fcW ac (a 6) w1 w2 fc ++ (frW ac (a 7) u10 ++ (frW ac (a 8) u11 ++ (reW ac (a 9) re ++ (shW ac (a 40) k0 ++ (shW ac (a 41) k1 ++ (shW ac (a 10) ti))))))))))))) ++ ringW ac a rg) H := zsubPT hP [0, 1, 2, 3, 4, 5, 6, 7, 8, 9, 10, 11, 12, 13, 14, 15, 16, 17, 18, 19, 20, 21, 37, 22, 23, 24, 25, 26, 27, 28, 29, 30, 31, 32, 33, 34, 35, 36] rfl
    have hD : va_D A ((koW ac a ko ++ (txW ac (a 1) tx ++ (shW ac (a 2) now ++ (shW ac (a 3) tr ++ (teW ac (a 4) (a 1) (a 10) te ++ (paW ac a pa ++ (fcW ac (a 6) w1 w2 fc ++ (frW ac (a 7) u10 ++ (frW ac (a 8) u11 ++ (reW ac (a 9) re ++ (shW ac (a 40) k0 ++ (shW ac (a 41) k1 ++ (shW ac (a 10) ti))))))))))))) ++ ringW ac a rg) := zsubDT hD [0, 1, 2, 3, 4, 5, 6, 7, 8, 9, 10, 11, 12, 13, 14, 15, 16, 17, 18, 19, 20, 21, 37, 22, 23, 24, 25, 26, 27, 28, 29, 30, 31, 32, 33, 34, 35, 36] (by decide) rfl
    obtain rfl := Option.some.inj hf
    exact zr_Mv hx hb hr hlocks hP hD hS dX7_chooseCorner_214
  refine lv_if_ne (tgt := 79) hx hb dX7_chooseCorner_39 (by decide) (fun c12 => ?_) (fun c12 => ?_)
  · have hf := z_n c12 hf
    refine lv_iload_n hx hb dX7_chooseCorner_79 rfl (lv_at hl 7 rfl) ?_
    refine lv_iload hx hb dX7_chooseCorner_80 (lv_at hl 0 rfl) ?_
    refine lv_imul hx hb dX7_chooseCorner_82 ?_
    refine lv_iload hx hb dX7_chooseCorner_83 (lv_at hl 1 rfl) ?_
    refine lv_iload_n hx hb dX7_chooseCorner_85 rfl (lv_at hl 7 rfl) ?_
    refine lv_iload hx hb dX7_chooseCorner_86 (lv_at hl 4 rfl) ?_
    refine lv_isub hx hb dX7_chooseCorner_88 ?_
    refine lv_imul hx hb dX7_chooseCorner_89 ?_
    refine lv_isub hx hb dX7_chooseCorner_90 ?_
    refine lv_topi (fun x13 hx13 => ?_)
    have hf := z_let_u hx13 hf
    refine lv_istore (lv' := [(9, .int x13), (8, .int x5), (7, .int x4), (6, .int x3), (5, .int x2), (4, .int x1), (0, .ref (a 0 0)), (1, .int a1), (2, .int a2), (3, .int a3)]) hx hb dX7_chooseCorner_91 hl (Nat.le_of_ble_eq_true rfl) rfl (fun ls hl => ?_)
    refine lv_iload hx hb dX7_chooseCorner_93 (lv_at hl 5 rfl) ?_
    refine lv_iload hx hb dX7_chooseCorner_95 (lv_at hl 1 rfl) ?_
    refine lv_imul hx hb dX7_chooseCorner_97 ?_
    refine lv_iload hx hb dX7_chooseCorner_98 (lv_at hl 0 rfl) ?_
    obtain ⟨k14, hk14, hf⟩ := z_jn_u hf
    have hj15 : k14 () = some res → ∀ (H : Heap) (locs : List Loc) (ls : Array Slot), va_P D vwCl ((koW ac a ko ++ (txW ac (a 1) tx ++ (shW ac (a 2) now ++ (shW ac (a 3) tr ++ (teW ac (a 4) (a 1) (a 10) te ++ (paW ac a pa ++ (fcW ac (a 6) w1 w2 fc ++ (frW ac (a 7) to ++ (frW ac (a 8) tp ++ (reW ac (a 9) re ++ (shW ac (a 40) k0 ++ (shW ac (a 41) k1 ++ (shW ac (a 10) ti))))))))))))) ++ ringW ac a rg) H → va_D A ((koW ac a ko ++ (txW ac (a 1) tx ++ (shW ac (a 2) now ++ (shW ac (a 3) tr ++ (teW ac (a 4) (a 1) (a 10) te ++ (paW ac a pa ++ (fcW ac (a 6) w1 w2 fc ++ (frW ac (a 7) to ++ (frW ac (a 8) tp ++ (reW ac (a 9) re ++ (shW ac (a 40) k0 ++ (shW ac (a 41) k1 ++ (shW ac (a 10) ti))))))))))))) ++ ringW ac a rg) → va_S A s.heap H locs → lv_has ls 10 [(0, .ref (a 0 0)), (5, .int x2), (7, .int x4), (8, .int x5), (9, .int x13)] → W p l e ({ frames := 1, cells := 0, slots := 0, locals := 27 } : Room) s m (([.ref (a 0 0), .int a1, .int a2, .int a3] : List Value).toArray) below meth c H locs 0 0 (MQ below (va_Qv (fun _ : Unit => True) (fun _ => zB D A ((koW ac a ko ++ (txW ac (a 1) tx ++ (shW ac (a 2) now ++ (shW ac (a 3) tr ++ (teW ac (a 4) (a 1) (a 10) te ++ (paW ac a pa ++ (fcW ac (a 6) w1 w2 fc ++ (frW ac (a 7) res.1 ++ (frW ac (a 8) res.2 ++ (reW ac (a 9) re ++ (shW ac (a 40) k0 ++ (shW ac (a 41) k1 ++ (shW ac (a 10) ti))))))))))))) ++ ringW ac a rg)) A) ([.ref (a 0 0), .int a1, .int a2, .int a3] : List Value).toArray s 0 0 A) (F0 m 135 ls []) := by
      intro hf H locs ls hP hD hS hl
      have hf := hk14 _ hf
      refine lv_iload hx hb dX7_chooseCorner_135 (lv_at hl 4 rfl) ?_
      refine lv_iload hx hb dX7_chooseCorner_137 (lv_at hl 1 rfl) ?_
      refine lv_iload hx hb dX7_chooseCorner_139 (lv_at hl 3 rfl) ?_
      refine lv_imul hx hb dX7_chooseCorner_141 ?_
      refine lv_icmp_lt (tgt := 178) hx hb dX7_chooseCorner_142 (by decide) (fun c16 => ?_) (fun c16 => ?_)
      · have hf := z_p c16 hf
        refine lv_aload_n hx hb dX7_chooseCorner_178 rfl (lv_at hl 0 rfl) ?_
        refine va_get (D := D) (ci := 7) (v := .ref (a 7 0)) (C := RX7) (T := TX7) (N := 13) hx hb htw WW_wsX70 hown hKX.1 hP 0 rfl rfl 8 (Nat.le_of_ble_eq_true rfl) (htw _ mF_RX7_58) (fun _ h9 => h9) rfl dX7_chooseCorner_179 ?_
        refine lv_iload hx hb dX7_chooseCorner_182 (lv_at hl 1 rfl) ?_
        refine lv_i2l hx hb dX7_chooseCorner_184 rfl ?_
        refine lv_ldc2 (v := 6) hx hb hown (htw _ mG_RX7_384) dX7_chooseCorner_185 ?_
        obtain ⟨u17, hu17⟩ : ∃ y : Fr, y = Fr_put x2.toInt64 6 := ⟨_, rfl⟩
        have hf := z_let_u hu17 hf
        refine zc_MVvT (As := [.long x2.toInt64, .long 6]) (rest := []) (wr := koW ac a ko ++ (txW ac (a 1) tx ++ (shW ac (a 2) now ++ (shW ac (a 3) tr ++ (teW ac (a 4) (a 1) (a 10) te ++ (paW ac a pa ++ (fcW ac (a 6) w1 w2 fc ++ (frW ac (a 8) tp ++ (reW ac (a 9) re ++ (shW ac (a 40) k0 ++ (shW ac (a 41) k1 ++ (shW ac (a 10) ti)))))))))))) (wsc := frW ac (a 7) to) (wsc' := frW ac (a 7) u17) hx hb hml hown htw (ctX1_put l D ac cs (a 7) H.size to x2.toInt64 6   u17 hu17.symm) (g_V mM_RX7_202 mI_yX1_put mS_RX1_yX1_put_yX1_put mN_RX1 mC_yX1_put) rfl (hd_yX1_put) ⟨rfl, rfl⟩ ⟨(Nat.le_of_ble_eq_true rfl), (Nat.le_of_ble_eq_true rfl)⟩ hKX hC hS hA hP hD [21] [0, 1, 2, 3, 4, 5, 6, 7, 8, 9, 10, 11, 12, 13, 14, 15, 16, 17, 18, 19, 20, 22, 23, 24, 25, 26, 27, 28, 29, 30, 31, 32, 33, 34, 35, 36, 37] rfl (by decide) rfl (by decide) (by decide) 1 rfl rfl rfl hl.1 rfl (Nat.le_of_ble_eq_true rfl) ⟨Nat.zero_le _, Nat.zero_le _⟩ dX7_chooseCorner_188 (fun H locs hP hD hS => ?_)
        have hP : va_P D vwCl ((koW ac a ko ++ (txW ac (a 1) tx ++ (shW ac (a 2) now ++ (shW ac (a 3) tr ++ (teW ac (a 4) (a 1) (a 10) te ++ (paW ac a pa ++ (fcW ac (a 6) w1 w2 fc ++ (frW ac (a 7) u17 ++ (frW ac (a 8) tp ++ (reW ac (a 9) re ++ (shW ac (a 40) k0 ++ (shW ac (a 41) k1 ++ (shW ac (a 10) ti))))))))))))) ++ ringW ac a rg) H := zsubPT hP [0, 1, 2, 3, 4, 5, 6, 7, 8, 9, 10, 11, 12, 13, 14, 15, 16, 17, 18, 19, 20, 37, 21, 22, 23, 24, 25, 26, 27, 28, 29, 30, 31, 32, 33, 34, 35, 36] rfl
        have hD : va_D A ((koW ac a ko ++ (txW ac (a 1) tx ++ (shW ac (a 2) now ++ (shW ac (a 3) tr ++ (teW ac (a 4) (a 1) (a 10) te ++ (paW ac a pa ++ (fcW ac (a 6) w1 w2 fc ++ (frW ac (a 7) u17 ++ (frW ac (a 8) tp ++ (reW ac (a 9) re ++ (shW ac (a 40) k0 ++ (shW ac (a 41) k1 ++ (shW ac (a 10) ti))))))))))))) ++ ringW ac a rg) := zsubDT hD [0, 1, 2, 3, 4, 5, 6, 7, 8, 9, 10, 11, 12, 13, 14, 15, 16, 17, 18, 19, 20, 37, 21, 22, 23, 24, 25, 26, 27, 28, 29, 30, 31, 32, 33, 34, 35, 36] (by decide) rfl
        refine lv_aload_n hx hb dX7_chooseCorner_191 rfl (lv_at hl 0 rfl) ?_
        refine va_get (D := D) (ci := 7) (v := .ref (a 8 0)) (C := RX7) (T := TX7) (N := 13) hx hb htw WW_wsX70 hown hKX.1 hP 0 rfl rfl 9 (Nat.le_of_ble_eq_true rfl) (htw _ mF_RX7_62) (fun _ h9 => h9) rfl dX7_chooseCorner_192 ?_
        refine lv_lconst (v := 0) hx hb dX7_chooseCorner_195 rfl ?_
        refine lv_lconst (v := 1) hx hb dX7_chooseCorner_196 rfl ?_
        obtain ⟨u18, hu18⟩ : ∃ y : Fr, y = Fr_put 0 1 := ⟨_, rfl⟩
        have hf := z_let_u hu18 hf
        refine zc_MVvT (As := [.long 0, .long 1]) (rest := []) (wr := koW ac a ko ++ (txW ac (a 1) tx ++ (shW ac (a 2) now ++ (shW ac (a 3) tr ++ (teW ac (a 4) (a 1) (a 10) te ++ (paW ac a pa ++ (fcW ac (a 6) w1 w2 fc ++ (frW ac (a 7) u17 ++ (reW ac (a 9) re ++ (shW ac (a 40) k0 ++ (shW ac (a 41) k1 ++ (shW ac (a 10) ti)))))))))))) (wsc := frW ac (a 8) tp) (wsc' := frW ac (a 8) u18) hx hb hml hown htw (ctX1_put l D ac cs (a 8) H.size tp 0 1   u18 hu18.symm) (g_V mM_RX7_202 mI_yX1_put mS_RX1_yX1_put_yX1_put mN_RX1 mC_yX1_put) rfl (hd_yX1_put) ⟨rfl, rfl⟩ ⟨(Nat.le_of_ble_eq_true rfl), (Nat.le_of_ble_eq_true rfl)⟩ hKX hC hS hA hP hD [22] [0, 1, 2, 3, 4, 5, 6, 7, 8, 9, 10, 11, 12, 13, 14, 15, 16, 17, 18, 19, 20, 21, 23, 24, 25, 26, 27, 28, 29, 30, 31, 32, 33, 34, 35, 36, 37] rfl (by decide) rfl (by decide) (by decide) 1 rfl rfl rfl hl.1 rfl (Nat.le_of_ble_eq_true rfl) ⟨Nat.zero_le _, Nat.zero_le _⟩ dX7_chooseCorner_197 (fun H locs hP hD hS => ?_)
        have hP : va_P D vwCl ((koW ac a ko ++ (txW ac (a 1) tx ++ (shW ac (a 2) now ++ (shW ac (a 3) tr ++ (teW ac (a 4) (a 1) (a 10) te ++ (paW ac a pa ++ (fcW ac (a 6) w1 w2 fc ++ (frW ac (a 7) u17 ++ (frW ac (a 8) u18 ++ (reW ac (a 9) re ++ (shW ac (a 40) k0 ++ (shW ac (a 41) k1 ++ (shW ac (a 10) ti))))))))))))) ++ ringW ac a rg) H := zsubPT hP [0, 1, 2, 3, 4, 5, 6, 7, 8, 9, 10, 11, 12, 13, 14, 15, 16, 17, 18, 19, 20, 21, 37, 22, 23, 24, 25, 26, 27, 28, 29, 30, 31, 32, 33, 34, 35, 36] rfl
        have hD : va_D A ((koW ac a ko ++ (txW ac (a 1) tx ++ (shW ac (a 2) now ++ (shW ac (a 3) tr ++ (teW ac (a 4) (a 1) (a 10) te ++ (paW ac a pa ++ (fcW ac (a 6) w1 w2 fc ++ (frW ac (a 7) u17 ++ (frW ac (a 8) u18 ++ (reW ac (a 9) re ++ (shW ac (a 40) k0 ++ (shW ac (a 41) k1 ++ (shW ac (a 10) ti))))))))))))) ++ ringW ac a rg) := zsubDT hD [0, 1, 2, 3, 4, 5, 6, 7, 8, 9, 10, 11, 12, 13, 14, 15, 16, 17, 18, 19, 20, 21, 37, 22, 23, 24, 25, 26, 27, 28, 29, 30, 31, 32, 33, 34, 35, 36] (by decide) rfl
        exact hj9 u17 u18 hf _ _ ls  hP hD hS (lv_sub hl [0] rfl)
      · have hf := z_n c16 hf
        refine lv_aload_n hx hb dX7_chooseCorner_145 rfl (lv_at hl 0 rfl) ?_
        refine va_get (D := D) (ci := 7) (v := .ref (a 7 0)) (C := RX7) (T := TX7) (N := 13) hx hb htw WW_wsX70 hown hKX.1 hP 0 rfl rfl 8 (Nat.le_of_ble_eq_true rfl) (htw _ mF_RX7_58) (fun _ h9 => h9) rfl dX7_chooseCorner_146 ?_
        refine lv_iload hx hb dX7_chooseCorner_149 (lv_at hl 4 rfl) ?_
        refine lv_i2l hx hb dX7_chooseCorner_151 rfl ?_
        refine lv_ldc2 (v := 6) hx hb hown (htw _ mG_RX7_384) dX7_chooseCorner_152 ?_
        refine lv_iload hx hb dX7_chooseCorner_155 (lv_at hl 3 rfl) ?_
        refine lv_i2l hx hb dX7_chooseCorner_157 rfl ?_
        refine lv_lmul hx hb dX7_chooseCorner_158 ?_
        obtain ⟨u19, hu19⟩ : ∃ y : Fr, y = Fr_put x13.toInt64 (6 * x5.toInt64) := ⟨_, rfl⟩
        have hf := z_let_u hu19 hf
        refine zc_MVvT (As := [.long x13.toInt64, .long (6 * x5.toInt64)]) (rest := []) (wr := koW ac a ko ++ (txW ac (a 1) tx ++ (shW ac (a 2) now ++ (shW ac (a 3) tr ++ (teW ac (a 4) (a 1) (a 10) te ++ (paW ac a pa ++ (fcW ac (a 6) w1 w2 fc ++ (frW ac (a 8) tp ++ (reW ac (a 9) re ++ (shW ac (a 40) k0 ++ (shW ac (a 41) k1 ++ (shW ac (a 10) ti)))))))))))) (wsc := frW ac (a 7) to) (wsc' := frW ac (a 7) u19) hx hb hml hown htw (ctX1_put l D ac cs (a 7) H.size to x13.toInt64 (6 * x5.toInt64)   u19 hu19.symm) (g_V mM_RX7_202 mI_yX1_put mS_RX1_yX1_put_yX1_put mN_RX1 mC_yX1_put) rfl (hd_yX1_put) ⟨rfl, rfl⟩ ⟨(Nat.le_of_ble_eq_true rfl), (Nat.le_of_ble_eq_true rfl)⟩ hKX hC hS hA hP hD [21] [0, 1, 2, 3, 4, 5, 6, 7, 8, 9, 10, 11, 12, 13, 14, 15, 16, 17, 18, 19, 20, 22, 23, 24, 25, 26, 27, 28, 29, 30, 31, 32, 33, 34, 35, 36, 37] rfl (by decide) rfl (by decide) (by decide) 1 rfl rfl rfl hl.1 rfl (Nat.le_of_ble_eq_true rfl) ⟨Nat.zero_le _, Nat.zero_le _⟩ dX7_chooseCorner_159 (fun H locs hP hD hS => ?_)
        have hP : va_P D vwCl ((koW ac a ko ++ (txW ac (a 1) tx ++ (shW ac (a 2) now ++ (shW ac (a 3) tr ++ (teW ac (a 4) (a 1) (a 10) te ++ (paW ac a pa ++ (fcW ac (a 6) w1 w2 fc ++ (frW ac (a 7) u19 ++ (frW ac (a 8) tp ++ (reW ac (a 9) re ++ (shW ac (a 40) k0 ++ (shW ac (a 41) k1 ++ (shW ac (a 10) ti))))))))))))) ++ ringW ac a rg) H := zsubPT hP [0, 1, 2, 3, 4, 5, 6, 7, 8, 9, 10, 11, 12, 13, 14, 15, 16, 17, 18, 19, 20, 37, 21, 22, 23, 24, 25, 26, 27, 28, 29, 30, 31, 32, 33, 34, 35, 36] rfl
        have hD : va_D A ((koW ac a ko ++ (txW ac (a 1) tx ++ (shW ac (a 2) now ++ (shW ac (a 3) tr ++ (teW ac (a 4) (a 1) (a 10) te ++ (paW ac a pa ++ (fcW ac (a 6) w1 w2 fc ++ (frW ac (a 7) u19 ++ (frW ac (a 8) tp ++ (reW ac (a 9) re ++ (shW ac (a 40) k0 ++ (shW ac (a 41) k1 ++ (shW ac (a 10) ti))))))))))))) ++ ringW ac a rg) := zsubDT hD [0, 1, 2, 3, 4, 5, 6, 7, 8, 9, 10, 11, 12, 13, 14, 15, 16, 17, 18, 19, 20, 37, 21, 22, 23, 24, 25, 26, 27, 28, 29, 30, 31, 32, 33, 34, 35, 36] (by decide) rfl
        refine lv_aload_n hx hb dX7_chooseCorner_162 rfl (lv_at hl 0 rfl) ?_
        refine va_get (D := D) (ci := 7) (v := .ref (a 8 0)) (C := RX7) (T := TX7) (N := 13) hx hb htw WW_wsX70 hown hKX.1 hP 0 rfl rfl 9 (Nat.le_of_ble_eq_true rfl) (htw _ mF_RX7_62) (fun _ h9 => h9) rfl dX7_chooseCorner_163 ?_
        refine lv_iload hx hb dX7_chooseCorner_166 (lv_at hl 2 rfl) ?_
        refine lv_i2l hx hb dX7_chooseCorner_168 rfl ?_
        refine lv_iload hx hb dX7_chooseCorner_169 (lv_at hl 3 rfl) ?_
        refine lv_i2l hx hb dX7_chooseCorner_171 rfl ?_
        obtain ⟨u20, hu20⟩ : ∃ y : Fr, y = Fr_put x4.toInt64 x5.toInt64 := ⟨_, rfl⟩
        have hf := z_let_u hu20 hf
        refine zc_MVvT (As := [.long x4.toInt64, .long x5.toInt64]) (rest := []) (wr := koW ac a ko ++ (txW ac (a 1) tx ++ (shW ac (a 2) now ++ (shW ac (a 3) tr ++ (teW ac (a 4) (a 1) (a 10) te ++ (paW ac a pa ++ (fcW ac (a 6) w1 w2 fc ++ (frW ac (a 7) u19 ++ (reW ac (a 9) re ++ (shW ac (a 40) k0 ++ (shW ac (a 41) k1 ++ (shW ac (a 10) ti)))))))))))) (wsc := frW ac (a 8) tp) (wsc' := frW ac (a 8) u20) hx hb hml hown htw (ctX1_put l D ac cs (a 8) H.size tp x4.toInt64 x5.toInt64   u20 hu20.symm) (g_V mM_RX7_202 mI_yX1_put mS_RX1_yX1_put_yX1_put mN_RX1 mC_yX1_put) rfl (hd_yX1_put) ⟨rfl, rfl⟩ ⟨(Nat.le_of_ble_eq_true rfl), (Nat.le_of_ble_eq_true rfl)⟩ hKX hC hS hA hP hD [22] [0, 1, 2, 3, 4, 5, 6, 7, 8, 9, 10, 11, 12, 13, 14, 15, 16, 17, 18, 19, 20, 21, 23, 24, 25, 26, 27, 28, 29, 30, 31, 32, 33, 34, 35, 36, 37] rfl (by decide) rfl (by decide) (by decide) 1 rfl rfl rfl hl.1 rfl (Nat.le_of_ble_eq_true rfl) ⟨Nat.zero_le _, Nat.zero_le _⟩ dX7_chooseCorner_172 (fun H locs hP hD hS => ?_)
        have hP : va_P D vwCl ((koW ac a ko ++ (txW ac (a 1) tx ++ (shW ac (a 2) now ++ (shW ac (a 3) tr ++ (teW ac (a 4) (a 1) (a 10) te ++ (paW ac a pa ++ (fcW ac (a 6) w1 w2 fc ++ (frW ac (a 7) u19 ++ (frW ac (a 8) u20 ++ (reW ac (a 9) re ++ (shW ac (a 40) k0 ++ (shW ac (a 41) k1 ++ (shW ac (a 10) ti))))))))))))) ++ ringW ac a rg) H := zsubPT hP [0, 1, 2, 3, 4, 5, 6, 7, 8, 9, 10, 11, 12, 13, 14, 15, 16, 17, 18, 19, 20, 21, 37, 22, 23, 24, 25, 26, 27, 28, 29, 30, 31, 32, 33, 34, 35, 36] rfl
        have hD : va_D A ((koW ac a ko ++ (txW ac (a 1) tx ++ (shW ac (a 2) now ++ (shW ac (a 3) tr ++ (teW ac (a 4) (a 1) (a 10) te ++ (paW ac a pa ++ (fcW ac (a 6) w1 w2 fc ++ (frW ac (a 7) u19 ++ (frW ac (a 8) u20 ++ (reW ac (a 9) re ++ (shW ac (a 40) k0 ++ (shW ac (a 41) k1 ++ (shW ac (a 10) ti))))))))))))) ++ ringW ac a rg) := zsubDT hD [0, 1, 2, 3, 4, 5, 6, 7, 8, 9, 10, 11, 12, 13, 14, 15, 16, 17, 18, 19, 20, 21, 37, 22, 23, 24, 25, 26, 27, 28, 29, 30, 31, 32, 33, 34, 35, 36] (by decide) rfl
        refine lv_goto (tgt := 200) hx hb dX7_chooseCorner_175 (by decide) ?_
        exact hj9 u19 u20 hf _ _ ls  hP hD hS (lv_sub hl [0] rfl)
    refine lv_icmp_lt (tgt := 135) hx hb dX7_chooseCorner_100 (by decide) (fun c21 => ?_) (fun c21 => ?_)
    · have hf := z_p c21 hf
      exact hj15  hf _ _ ls  hP hD hS (lv_sub hl [6, 4, 2, 1, 0] rfl)
    · have hf := z_n c21 hf
      refine lv_iload hx hb dX7_chooseCorner_103 (lv_at hl 5 rfl) ?_
      refine lv_iload hx hb dX7_chooseCorner_105 (lv_at hl 4 rfl) ?_
      refine lv_icmp_lt (tgt := 135) hx hb dX7_chooseCorner_107 (by decide) (fun c22 => ?_) (fun c22 => ?_)
      · have hf := z_p c22 hf
        exact hj15  hf _ _ ls  hP hD hS (lv_sub hl [6, 4, 2, 1, 0] rfl)
      · have hf := z_n c22 hf
        refine lv_aload_n hx hb dX7_chooseCorner_110 rfl (lv_at hl 6 rfl) ?_
        refine va_get (D := D) (ci := 7) (v := .ref (a 7 0)) (C := RX7) (T := TX7) (N := 13) hx hb htw WW_wsX70 hown hKX.1 hP 0 rfl rfl 8 (Nat.le_of_ble_eq_true rfl) (htw _ mF_RX7_58) (fun _ h9 => h9) rfl dX7_chooseCorner_111 ?_
        refine lv_iload hx hb dX7_chooseCorner_114 (lv_at hl 5 rfl) ?_
        refine lv_i2l hx hb dX7_chooseCorner_116 rfl ?_
        refine lv_ldc2 (v := 6) hx hb hown (htw _ mG_RX7_384) dX7_chooseCorner_117 ?_
        obtain ⟨u23, hu23⟩ : ∃ y : Fr, y = Fr_put x1.toInt64 6 := ⟨_, rfl⟩
        have hf := z_let_u hu23 hf
        refine zc_MVvT (As := [.long x1.toInt64, .long 6]) (rest := []) (wr := koW ac a ko ++ (txW ac (a 1) tx ++ (shW ac (a 2) now ++ (shW ac (a 3) tr ++ (teW ac (a 4) (a 1) (a 10) te ++ (paW ac a pa ++ (fcW ac (a 6) w1 w2 fc ++ (frW ac (a 8) tp ++ (reW ac (a 9) re ++ (shW ac (a 40) k0 ++ (shW ac (a 41) k1 ++ (shW ac (a 10) ti)))))))))))) (wsc := frW ac (a 7) to) (wsc' := frW ac (a 7) u23) hx hb hml hown htw (ctX1_put l D ac cs (a 7) s.heap.size to x1.toInt64 6   u23 hu23.symm) (g_V mM_RX7_202 mI_yX1_put mS_RX1_yX1_put_yX1_put mN_RX1 mC_yX1_put) rfl (hd_yX1_put) ⟨rfl, rfl⟩ ⟨(Nat.le_of_ble_eq_true rfl), (Nat.le_of_ble_eq_true rfl)⟩ hKX hC hS hA hP hD [21] [0, 1, 2, 3, 4, 5, 6, 7, 8, 9, 10, 11, 12, 13, 14, 15, 16, 17, 18, 19, 20, 22, 23, 24, 25, 26, 27, 28, 29, 30, 31, 32, 33, 34, 35, 36, 37] rfl (by decide) rfl (by decide) (by decide) 1 rfl rfl rfl hl.1 rfl (Nat.le_of_ble_eq_true rfl) ⟨Nat.zero_le _, Nat.zero_le _⟩ dX7_chooseCorner_120 (fun H locs hP hD hS => ?_)
        have hP : va_P D vwCl ((koW ac a ko ++ (txW ac (a 1) tx ++ (shW ac (a 2) now ++ (shW ac (a 3) tr ++ (teW ac (a 4) (a 1) (a 10) te ++ (paW ac a pa ++ (fcW ac (a 6) w1 w2 fc ++ (frW ac (a 7) u23 ++ (frW ac (a 8) tp ++ (reW ac (a 9) re ++ (shW ac (a 40) k0 ++ (shW ac (a 41) k1 ++ (shW ac (a 10) ti))))))))))))) ++ ringW ac a rg) H := zsubPT hP [0, 1, 2, 3, 4, 5, 6, 7, 8, 9, 10, 11, 12, 13, 14, 15, 16, 17, 18, 19, 20, 37, 21, 22, 23, 24, 25, 26, 27, 28, 29, 30, 31, 32, 33, 34, 35, 36] rfl
        have hD : va_D A ((koW ac a ko ++ (txW ac (a 1) tx ++ (shW ac (a 2) now ++ (shW ac (a 3) tr ++ (teW ac (a 4) (a 1) (a 10) te ++ (paW ac a pa ++ (fcW ac (a 6) w1 w2 fc ++ (frW ac (a 7) u23 ++ (frW ac (a 8) tp ++ (reW ac (a 9) re ++ (shW ac (a 40) k0 ++ (shW ac (a 41) k1 ++ (shW ac (a 10) ti))))))))))))) ++ ringW ac a rg) := zsubDT hD [0, 1, 2, 3, 4, 5, 6, 7, 8, 9, 10, 11, 12, 13, 14, 15, 16, 17, 18, 19, 20, 37, 21, 22, 23, 24, 25, 26, 27, 28, 29, 30, 31, 32, 33, 34, 35, 36] (by decide) rfl
        refine lv_aload_n hx hb dX7_chooseCorner_123 rfl (lv_at hl 6 rfl) ?_
        refine va_get (D := D) (ci := 7) (v := .ref (a 8 0)) (C := RX7) (T := TX7) (N := 13) hx hb htw WW_wsX70 hown hKX.1 hP 0 rfl rfl 9 (Nat.le_of_ble_eq_true rfl) (htw _ mF_RX7_62) (fun _ h9 => h9) rfl dX7_chooseCorner_124 ?_
        refine lv_lconst (v := 1) hx hb dX7_chooseCorner_127 rfl ?_
        refine lv_lconst (v := 1) hx hb dX7_chooseCorner_128 rfl ?_
        obtain ⟨u24, hu24⟩ : ∃ y : Fr, y = Fr_put 1 1 := ⟨_, rfl⟩
        have hf := z_let_u hu24 hf
        refine zc_MVvT (As := [.long 1, .long 1]) (rest := []) (wr := koW ac a ko ++ (txW ac (a 1) tx ++ (shW ac (a 2) now ++ (shW ac (a 3) tr ++ (teW ac (a 4) (a 1) (a 10) te ++ (paW ac a pa ++ (fcW ac (a 6) w1 w2 fc ++ (frW ac (a 7) u23 ++ (reW ac (a 9) re ++ (shW ac (a 40) k0 ++ (shW ac (a 41) k1 ++ (shW ac (a 10) ti)))))))))))) (wsc := frW ac (a 8) tp) (wsc' := frW ac (a 8) u24) hx hb hml hown htw (ctX1_put l D ac cs (a 8) H.size tp 1 1   u24 hu24.symm) (g_V mM_RX7_202 mI_yX1_put mS_RX1_yX1_put_yX1_put mN_RX1 mC_yX1_put) rfl (hd_yX1_put) ⟨rfl, rfl⟩ ⟨(Nat.le_of_ble_eq_true rfl), (Nat.le_of_ble_eq_true rfl)⟩ hKX hC hS hA hP hD [22] [0, 1, 2, 3, 4, 5, 6, 7, 8, 9, 10, 11, 12, 13, 14, 15, 16, 17, 18, 19, 20, 21, 23, 24, 25, 26, 27, 28, 29, 30, 31, 32, 33, 34, 35, 36, 37] rfl (by decide) rfl (by decide) (by decide) 1 rfl rfl rfl hl.1 rfl (Nat.le_of_ble_eq_true rfl) ⟨Nat.zero_le _, Nat.zero_le _⟩ dX7_chooseCorner_129 (fun H locs hP hD hS => ?_)
        have hP : va_P D vwCl ((koW ac a ko ++ (txW ac (a 1) tx ++ (shW ac (a 2) now ++ (shW ac (a 3) tr ++ (teW ac (a 4) (a 1) (a 10) te ++ (paW ac a pa ++ (fcW ac (a 6) w1 w2 fc ++ (frW ac (a 7) u23 ++ (frW ac (a 8) u24 ++ (reW ac (a 9) re ++ (shW ac (a 40) k0 ++ (shW ac (a 41) k1 ++ (shW ac (a 10) ti))))))))))))) ++ ringW ac a rg) H := zsubPT hP [0, 1, 2, 3, 4, 5, 6, 7, 8, 9, 10, 11, 12, 13, 14, 15, 16, 17, 18, 19, 20, 21, 37, 22, 23, 24, 25, 26, 27, 28, 29, 30, 31, 32, 33, 34, 35, 36] rfl
        have hD : va_D A ((koW ac a ko ++ (txW ac (a 1) tx ++ (shW ac (a 2) now ++ (shW ac (a 3) tr ++ (teW ac (a 4) (a 1) (a 10) te ++ (paW ac a pa ++ (fcW ac (a 6) w1 w2 fc ++ (frW ac (a 7) u23 ++ (frW ac (a 8) u24 ++ (reW ac (a 9) re ++ (shW ac (a 40) k0 ++ (shW ac (a 41) k1 ++ (shW ac (a 10) ti))))))))))))) ++ ringW ac a rg) := zsubDT hD [0, 1, 2, 3, 4, 5, 6, 7, 8, 9, 10, 11, 12, 13, 14, 15, 16, 17, 18, 19, 20, 21, 37, 22, 23, 24, 25, 26, 27, 28, 29, 30, 31, 32, 33, 34, 35, 36] (by decide) rfl
        refine lv_goto (tgt := 200) hx hb dX7_chooseCorner_132 (by decide) ?_
        exact hj9 u23 u24 hf _ _ ls  hP hD hS (lv_sub hl [6] rfl)
  · have hf := z_p c12 hf
    refine lv_aload_n hx hb dX7_chooseCorner_42 rfl (lv_at hl 5 rfl) ?_
    refine va_get (D := D) (ci := 7) (v := .ref (a 7 0)) (C := RX7) (T := TX7) (N := 13) hx hb htw WW_wsX70 hown hKX.1 hP 0 rfl rfl 8 (Nat.le_of_ble_eq_true rfl) (htw _ mF_RX7_58) (fun _ h9 => h9) rfl dX7_chooseCorner_43 ?_
    refine lv_iload_n hx hb dX7_chooseCorner_46 rfl (lv_at hl 6 rfl) ?_
    refine lv_iload_n hx hb dX7_chooseCorner_47 rfl (lv_at hl 7 rfl) ?_
    refine va_mmax hx hb (hml.trans hl.1.symm) hown (htw _ mM_RX7_299) (htw _ mT_Lib_Math_max_name) (htw _ mN_java_lang_Math) (htw _ mC_Lib_Math_max_name) (Nat.le_of_ble_eq_true rfl) (Nat.le_of_ble_eq_true rfl) (Nat.zero_le _) (Nat.zero_le _) dX7_chooseCorner_48 ?_
    refine lv_i2l hx hb dX7_chooseCorner_51 rfl ?_
    refine lv_ldc2 (v := 6) hx hb hown (htw _ mG_RX7_384) dX7_chooseCorner_52 ?_
    obtain ⟨u25, hu25⟩ : ∃ y : Fr, y = Fr_put ((if a1 < a2 then a2 else a1).toInt64) 6 := ⟨_, rfl⟩
    have hf := z_let_u hu25 hf
    refine zc_MVvT (As := [.long ((if a1 < a2 then a2 else a1).toInt64), .long 6]) (rest := []) (wr := koW ac a ko ++ (txW ac (a 1) tx ++ (shW ac (a 2) now ++ (shW ac (a 3) tr ++ (teW ac (a 4) (a 1) (a 10) te ++ (paW ac a pa ++ (fcW ac (a 6) w1 w2 fc ++ (frW ac (a 8) tp ++ (reW ac (a 9) re ++ (shW ac (a 40) k0 ++ (shW ac (a 41) k1 ++ (shW ac (a 10) ti)))))))))))) (wsc := frW ac (a 7) to) (wsc' := frW ac (a 7) u25) hx hb hml hown htw (ctX1_put l D ac cs (a 7) s.heap.size to ((if a1 < a2 then a2 else a1).toInt64) 6   u25 hu25.symm) (g_V mM_RX7_202 mI_yX1_put mS_RX1_yX1_put_yX1_put mN_RX1 mC_yX1_put) rfl (hd_yX1_put) ⟨rfl, rfl⟩ ⟨(Nat.le_of_ble_eq_true rfl), (Nat.le_of_ble_eq_true rfl)⟩ hKX hC hS hA hP hD [21] [0, 1, 2, 3, 4, 5, 6, 7, 8, 9, 10, 11, 12, 13, 14, 15, 16, 17, 18, 19, 20, 22, 23, 24, 25, 26, 27, 28, 29, 30, 31, 32, 33, 34, 35, 36, 37] rfl (by decide) rfl (by decide) (by decide) 1 rfl rfl rfl hl.1 rfl (Nat.le_of_ble_eq_true rfl) ⟨Nat.zero_le _, Nat.zero_le _⟩ dX7_chooseCorner_55 (fun H locs hP hD hS => ?_)
    have hP : va_P D vwCl ((koW ac a ko ++ (txW ac (a 1) tx ++ (shW ac (a 2) now ++ (shW ac (a 3) tr ++ (teW ac (a 4) (a 1) (a 10) te ++ (paW ac a pa ++ (fcW ac (a 6) w1 w2 fc ++ (frW ac (a 7) u25 ++ (frW ac (a 8) tp ++ (reW ac (a 9) re ++ (shW ac (a 40) k0 ++ (shW ac (a 41) k1 ++ (shW ac (a 10) ti))))))))))))) ++ ringW ac a rg) H := zsubPT hP [0, 1, 2, 3, 4, 5, 6, 7, 8, 9, 10, 11, 12, 13, 14, 15, 16, 17, 18, 19, 20, 37, 21, 22, 23, 24, 25, 26, 27, 28, 29, 30, 31, 32, 33, 34, 35, 36] rfl
    have hD : va_D A ((koW ac a ko ++ (txW ac (a 1) tx ++ (shW ac (a 2) now ++ (shW ac (a 3) tr ++ (teW ac (a 4) (a 1) (a 10) te ++ (paW ac a pa ++ (fcW ac (a 6) w1 w2 fc ++ (frW ac (a 7) u25 ++ (frW ac (a 8) tp ++ (reW ac (a 9) re ++ (shW ac (a 40) k0 ++ (shW ac (a 41) k1 ++ (shW ac (a 10) ti))))))))))))) ++ ringW ac a rg) := zsubDT hD [0, 1, 2, 3, 4, 5, 6, 7, 8, 9, 10, 11, 12, 13, 14, 15, 16, 17, 18, 19, 20, 37, 21, 22, 23, 24, 25, 26, 27, 28, 29, 30, 31, 32, 33, 34, 35, 36] (by decide) rfl
    refine lv_aload_n hx hb dX7_chooseCorner_58 rfl (lv_at hl 5 rfl) ?_
    refine va_get (D := D) (ci := 7) (v := .ref (a 8 0)) (C := RX7) (T := TX7) (N := 13) hx hb htw WW_wsX70 hown hKX.1 hP 0 rfl rfl 9 (Nat.le_of_ble_eq_true rfl) (htw _ mF_RX7_62) (fun _ h9 => h9) rfl dX7_chooseCorner_59 ?_
    refine lv_iload_n hx hb dX7_chooseCorner_62 rfl (lv_at hl 6 rfl) ?_
    refine lv_iload_n hx hb dX7_chooseCorner_63 rfl (lv_at hl 7 rfl) ?_
    have hj28 : ∀ (v26 : Int64), v26 = (if a1 < a2 then 0 else 1) → ∀ (H : Heap) (locs : List Loc) (ls : Array Slot), va_P D vwCl ((koW ac a ko ++ (txW ac (a 1) tx ++ (shW ac (a 2) now ++ (shW ac (a 3) tr ++ (teW ac (a 4) (a 1) (a 10) te ++ (paW ac a pa ++ (fcW ac (a 6) w1 w2 fc ++ (frW ac (a 7) u25 ++ (frW ac (a 8) tp ++ (reW ac (a 9) re ++ (shW ac (a 40) k0 ++ (shW ac (a 41) k1 ++ (shW ac (a 10) ti))))))))))))) ++ ringW ac a rg) H → va_D A ((koW ac a ko ++ (txW ac (a 1) tx ++ (shW ac (a 2) now ++ (shW ac (a 3) tr ++ (teW ac (a 4) (a 1) (a 10) te ++ (paW ac a pa ++ (fcW ac (a 6) w1 w2 fc ++ (frW ac (a 7) u25 ++ (frW ac (a 8) tp ++ (reW ac (a 9) re ++ (shW ac (a 40) k0 ++ (shW ac (a 41) k1 ++ (shW ac (a 10) ti))))))))))))) ++ ringW ac a rg) → va_S A s.heap H locs → lv_has ls 10 [(0, .ref (a 0 0))] → W p l e ({ frames := 1, cells := 0, slots := 0, locals := 27 } : Room) s m (([.ref (a 0 0), .int a1, .int a2, .int a3] : List Value).toArray) below meth c H locs 0 0 (MQ below (va_Qv (fun _ : Unit => True) (fun _ => zB D A ((koW ac a ko ++ (txW ac (a 1) tx ++ (shW ac (a 2) now ++ (shW ac (a 3) tr ++ (teW ac (a 4) (a 1) (a 10) te ++ (paW ac a pa ++ (fcW ac (a 6) w1 w2 fc ++ (frW ac (a 7) res.1 ++ (frW ac (a 8) res.2 ++ (reW ac (a 9) re ++ (shW ac (a 40) k0 ++ (shW ac (a 41) k1 ++ (shW ac (a 10) ti))))))))))))) ++ ringW ac a rg)) A) ([.ref (a 0 0), .int a1, .int a2, .int a3] : List Value).toArray s 0 0 A) (F0 m 72 ls [.long v26, .ref (a 8 0)]) := by
      intro v26 hv26 H locs ls hP hD hS hl
      have hf := z_let_u hv26 hf
      refine lv_lconst (v := 1) hx hb dX7_chooseCorner_72 rfl ?_
      obtain ⟨u30, hu30⟩ : ∃ y : Fr, y = Fr_put v26 1 := ⟨_, rfl⟩
      have hf := z_let_u hu30 hf
      refine zc_MVvT (As := [.long v26, .long 1]) (rest := []) (wr := koW ac a ko ++ (txW ac (a 1) tx ++ (shW ac (a 2) now ++ (shW ac (a 3) tr ++ (teW ac (a 4) (a 1) (a 10) te ++ (paW ac a pa ++ (fcW ac (a 6) w1 w2 fc ++ (frW ac (a 7) u25 ++ (reW ac (a 9) re ++ (shW ac (a 40) k0 ++ (shW ac (a 41) k1 ++ (shW ac (a 10) ti)))))))))))) (wsc := frW ac (a 8) tp) (wsc' := frW ac (a 8) u30) hx hb hml hown htw (ctX1_put l D ac cs (a 8) H.size tp v26 1   u30 hu30.symm) (g_V mM_RX7_202 mI_yX1_put mS_RX1_yX1_put_yX1_put mN_RX1 mC_yX1_put) rfl (hd_yX1_put) ⟨rfl, rfl⟩ ⟨(Nat.le_of_ble_eq_true rfl), (Nat.le_of_ble_eq_true rfl)⟩ hKX hC hS hA hP hD [22] [0, 1, 2, 3, 4, 5, 6, 7, 8, 9, 10, 11, 12, 13, 14, 15, 16, 17, 18, 19, 20, 21, 23, 24, 25, 26, 27, 28, 29, 30, 31, 32, 33, 34, 35, 36, 37] rfl (by decide) rfl (by decide) (by decide) 1 rfl rfl rfl hl.1 rfl (Nat.le_of_ble_eq_true rfl) ⟨Nat.zero_le _, Nat.zero_le _⟩ dX7_chooseCorner_73 (fun H locs hP hD hS => ?_)
      have hP : va_P D vwCl ((koW ac a ko ++ (txW ac (a 1) tx ++ (shW ac (a 2) now ++ (shW ac (a 3) tr ++ (teW ac (a 4) (a 1) (a 10) te ++ (paW ac a pa ++ (fcW ac (a 6) w1 w2 fc ++ (frW ac (a 7) u25 ++ (frW ac (a 8) u30 ++ (reW ac (a 9) re ++ (shW ac (a 40) k0 ++ (shW ac (a 41) k1 ++ (shW ac (a 10) ti))))))))))))) ++ ringW ac a rg) H := zsubPT hP [0, 1, 2, 3, 4, 5, 6, 7, 8, 9, 10, 11, 12, 13, 14, 15, 16, 17, 18, 19, 20, 21, 37, 22, 23, 24, 25, 26, 27, 28, 29, 30, 31, 32, 33, 34, 35, 36] rfl
      have hD : va_D A ((koW ac a ko ++ (txW ac (a 1) tx ++ (shW ac (a 2) now ++ (shW ac (a 3) tr ++ (teW ac (a 4) (a 1) (a 10) te ++ (paW ac a pa ++ (fcW ac (a 6) w1 w2 fc ++ (frW ac (a 7) u25 ++ (frW ac (a 8) u30 ++ (reW ac (a 9) re ++ (shW ac (a 40) k0 ++ (shW ac (a 41) k1 ++ (shW ac (a 10) ti))))))))))))) ++ ringW ac a rg) := zsubDT hD [0, 1, 2, 3, 4, 5, 6, 7, 8, 9, 10, 11, 12, 13, 14, 15, 16, 17, 18, 19, 20, 21, 37, 22, 23, 24, 25, 26, 27, 28, 29, 30, 31, 32, 33, 34, 35, 36] (by decide) rfl
      refine lv_goto (tgt := 200) hx hb dX7_chooseCorner_76 (by decide) ?_
      exact hj9 u25 u30 hf _ _ ls  hP hD hS (lv_sub hl [0] rfl)
    refine lv_icmp_lt (tgt := 71) hx hb dX7_chooseCorner_64 (by decide) (fun c29 => ?_) (fun c29 => ?_)
    · skip
      refine lv_lconst (v := 0) hx hb dX7_chooseCorner_71 rfl ?_
      exact hj28 0 (if_pos c29).symm _ _ ls hP hD hS (lv_sub hl [5] rfl)
    · skip
      refine lv_lconst (v := 1) hx hb dX7_chooseCorner_67 rfl ?_
      refine lv_goto (tgt := 72) hx hb dX7_chooseCorner_68 (by decide) ?_
      exact hj28 1 (if_neg c29).symm _ _ ls hP hD hS (lv_sub hl [5] rfl)

theorem hd_yX7_guess : hdY yX7_guess 4 := by decide +kernel
def K_guess (F : Nat) (to : Fr) (tp : Fr) (a1 : Int32) (a2 : Int32) (a3 : Int32) (a4 : Int32) : Option (Int32 × Fr × Fr) := if K_isSkill a1 = 0 then (some ((-1), to, tp)) else (if K_isSkill a2 = 0 then (some ((-1), to, tp)) else (if K_isSkill a3 = 0 then (some ((-1), to, tp)) else (if a4 < 0 then (some ((-1), to, tp)) else (if a4 ≤ 3 then (z_bd (K_chooseCorner F a1 a2 a3) (fun u6 : Fr × Fr => if 2 ≤ a4 then (some ((Fr_part u6.2 (a4 - 2)).toInt32, u6.1, u6.2)) else (some ((Fr_part u6.1 a4).toInt32, u6.1, u6.2)))) else (some ((-1), to, tp))))))
set_option maxHeartbeats 4000000 in
set_option maxRecDepth 100000 in
theorem ctX7_guess (l : Launch) (D : va_G) (ac cs : Nat → Nat) (a : Nat → Nat → Nat) (w1 w2 : Nat) (sz : Nat) (ko : Ko) (tx : Tx) (now : Sh) (tr : Sh) (te : Te) (pa : Pa) (fc : Fc) (to : Fr) (tp : Fr) (re : Re) (k0 : Sh) (k1 : Sh) (ti : Sh) (rg : Nat → Sh) (a1 : Int32) (a2 : Int32) (a3 : Int32) (a4 : Int32) (F : Nat) (res : Int32 × Fr × Fr) (hf : K_guess F to tp a1 a2 a3 a4 = some res) : Met l yX7_guess (cWW yX7_guess cX7_guess 5 (some .int)) { frames := 2, cells := 0, slots := 0, locals := 56 } (zM D ac cs [.ref (a 0 0), .int a1, .int a2, .int a3, .int a4] ((koW ac a ko ++ (txW ac (a 1) tx ++ (shW ac (a 2) now ++ (shW ac (a 3) tr ++ (teW ac (a 4) (a 1) (a 10) te ++ (paW ac a pa ++ (fcW ac (a 6) w1 w2 fc ++ (frW ac (a 7) to ++ (frW ac (a 8) tp ++ (reW ac (a 9) re ++ (shW ac (a 40) k0 ++ (shW ac (a 41) k1 ++ (shW ac (a 10) ti))))))))))))) ++ ringW ac a rg) sz) (va_Qi (fun r (_ : Unit) => r = res.1) (fun _ => zB D (va_A ((koW ac a ko ++ (txW ac (a 1) tx ++ (shW ac (a 2) now ++ (shW ac (a 3) tr ++ (teW ac (a 4) (a 1) (a 10) te ++ (paW ac a pa ++ (fcW ac (a 6) w1 w2 fc ++ (frW ac (a 7) to ++ (frW ac (a 8) tp ++ (reW ac (a 9) re ++ (shW ac (a 40) k0 ++ (shW ac (a 41) k1 ++ (shW ac (a 10) ti))))))))))))) ++ ringW ac a rg) sz) ((koW ac a ko ++ (txW ac (a 1) tx ++ (shW ac (a 2) now ++ (shW ac (a 3) tr ++ (teW ac (a 4) (a 1) (a 10) te ++ (paW ac a pa ++ (fcW ac (a 6) w1 w2 fc ++ (frW ac (a 7) res.2.1 ++ (frW ac (a 8) res.2.2 ++ (reW ac (a 9) re ++ (shW ac (a 40) k0 ++ (shW ac (a 41) k1 ++ (shW ac (a 10) ti))))))))))))) ++ ringW ac a rg)) (va_A ((koW ac a ko ++ (txW ac (a 1) tx ++ (shW ac (a 2) now ++ (shW ac (a 3) tr ++ (teW ac (a 4) (a 1) (a 10) te ++ (paW ac a pa ++ (fcW ac (a 6) w1 w2 fc ++ (frW ac (a 7) to ++ (frW ac (a 8) tp ++ (reW ac (a 9) re ++ (shW ac (a 40) k0 ++ (shW ac (a 41) k1 ++ (shW ac (a 10) ti))))))))))))) ++ ringW ac a rg) sz)) 0 0 (va_A ((koW ac a ko ++ (txW ac (a 1) tx ++ (shW ac (a 2) now ++ (shW ac (a 3) tr ++ (teW ac (a 4) (a 1) (a 10) te ++ (paW ac a pa ++ (fcW ac (a 6) w1 w2 fc ++ (frW ac (a 7) to ++ (frW ac (a 8) tp ++ (reW ac (a 9) re ++ (shW ac (a 40) k0 ++ (shW ac (a 41) k1 ++ (shW ac (a 10) ti))))))))))))) ++ ringW ac a rg) sz) := by
  refine Met.ofW (cc := cX7_guess) (maxL := 5) (ret := (some .int)) (by decide) rfl ?_
  intro p e s m args below meth c s₁ B hml hv
  obtain ⟨rfl, hsz, hP, hKX, hD0, hC⟩ := hv
  have hx := B.exec
  have hb := B.bytes
  have hr := B.returns
  have hts := atoms_spec (ws := cWW yX7_guess cX7_guess 5 (some .int)) B.pre
  have htw : ∀ w ∈ WW, w.before _ s = true := fun w h => hts w (List.mem_cons_of_mem _ h)
  have hown : s.vm.findClass RX7 = some m.cls := findClass_of_methodNamed B.named
  have hlocks := B.notSynchronized
  clear hts B
  subst hsz
  have hD := hD0.self (sz := s.heap.size)
  generalize hAe : va_A ((koW ac a ko ++ (txW ac (a 1) tx ++ (shW ac (a 2) now ++ (shW ac (a 3) tr ++ (teW ac (a 4) (a 1) (a 10) te ++ (paW ac a pa ++ (fcW ac (a 6) w1 w2 fc ++ (frW ac (a 7) to ++ (frW ac (a 8) tp ++ (reW ac (a 9) re ++ (shW ac (a 40) k0 ++ (shW ac (a 41) k1 ++ (shW ac (a 10) ti))))))))))))) ++ ringW ac a rg) s.heap.size = A at hD hC ⊢
  have hA : ∀ q : Nat, s.heap.size ≤ q → A q := fun q h => by rw [← hAe]; exact Or.inr h
  have hS : va_S A s.heap s.heap [] := va_S.rf
  clear hD0 hAe
  have hP : va_P D vwCl ((koW ac a ko ++ (txW ac (a 1) tx ++ (shW ac (a 2) now ++ (shW ac (a 3) tr ++ (teW ac (a 4) (a 1) (a 10) te ++ (paW ac a pa ++ (fcW ac (a 6) w1 w2 fc ++ (frW ac (a 7) to ++ (frW ac (a 8) tp ++ (reW ac (a 9) re ++ (shW ac (a 40) k0 ++ (shW ac (a 41) k1 ++ (shW ac (a 10) ti))))))))))))) ++ ringW ac a rg) s.heap := hP
  have hl := lv_entry ([.ref (a 0 0), .int a1, .int a2, .int a3, .int a4]) (n := 5) (Nat.le_of_ble_eq_true rfl)
  rw [lg_entry_eq]
  generalize (lg_sl ([.ref (a 0 0), .int a1, .int a2, .int a3, .int a4]) ++ List.replicate (5 - (lg_sl ([.ref (a 0 0), .int a1, .int a2, .int a3, .int a4])).length) Slot.unset).toArray = ls at hl ⊢
  have hl : lv_has ls 5 [(0, .ref (a 0 0)), (1, .int a1), (2, .int a2), (3, .int a3), (4, .int a4)] := hl
  unfold K_guess at hf
  show W p l e ({ frames := 2, cells := 0, slots := 0, locals := 56 } : Room) s m _ below meth c s.heap [] 0 0 _ (F0 m 0 ls [])
  refine lv_iload_n hx hb dX7_guess_0 rfl (lv_at hl 1 rfl) ?_
  refine zc_RSi (As := [.int a1]) (rest := []) hx hb hml hown htw (ctX7_isSkill l D ac cs   a1   _ rfl) (g_S mM_RX7_286 mT_yX7_isSkill mN_RX7 mC_yX7_isSkill) (hd_yX7_isSkill) ⟨rfl, rfl⟩ ⟨(Nat.le_of_ble_eq_true rfl), (Nat.le_of_ble_eq_true rfl)⟩ hKX hC hS zP0 rfl hl.1 rfl (Nat.le_of_ble_eq_true rfl) ⟨Nat.zero_le _, Nat.zero_le _⟩ dX7_guess_1 ?_
  refine lv_if_eq (tgt := 32) hx hb dX7_guess_4 (by decide) (fun c1 => ?_) (fun c1 => ?_)
  · have hf := z_p c1 hf
    refine lv_iconst (v := (-1)) hx hb dX7_guess_32 rfl ?_
    obtain rfl := Option.some.inj hf
    exact zr_Mi hx hb hr hlocks hP hD hS dX7_guess_33
  · have hf := z_n c1 hf
    refine lv_iload_n hx hb dX7_guess_7 rfl (lv_at hl 2 rfl) ?_
    refine zc_RSi (As := [.int a2]) (rest := []) hx hb hml hown htw (ctX7_isSkill l D ac cs   a2   _ rfl) (g_S mM_RX7_286 mT_yX7_isSkill mN_RX7 mC_yX7_isSkill) (hd_yX7_isSkill) ⟨rfl, rfl⟩ ⟨(Nat.le_of_ble_eq_true rfl), (Nat.le_of_ble_eq_true rfl)⟩ hKX hC hS zP0 rfl hl.1 rfl (Nat.le_of_ble_eq_true rfl) ⟨Nat.zero_le _, Nat.zero_le _⟩ dX7_guess_8 ?_
    refine lv_if_eq (tgt := 32) hx hb dX7_guess_11 (by decide) (fun c2 => ?_) (fun c2 => ?_)
    · have hf := z_p c2 hf
      refine lv_iconst (v := (-1)) hx hb dX7_guess_32 rfl ?_
      obtain rfl := Option.some.inj hf
      exact zr_Mi hx hb hr hlocks hP hD hS dX7_guess_33
    · have hf := z_n c2 hf
      refine lv_iload_n hx hb dX7_guess_14 rfl (lv_at hl 3 rfl) ?_
      refine zc_RSi (As := [.int a3]) (rest := []) hx hb hml hown htw (ctX7_isSkill l D ac cs   a3   _ rfl) (g_S mM_RX7_286 mT_yX7_isSkill mN_RX7 mC_yX7_isSkill) (hd_yX7_isSkill) ⟨rfl, rfl⟩ ⟨(Nat.le_of_ble_eq_true rfl), (Nat.le_of_ble_eq_true rfl)⟩ hKX hC hS zP0 rfl hl.1 rfl (Nat.le_of_ble_eq_true rfl) ⟨Nat.zero_le _, Nat.zero_le _⟩ dX7_guess_15 ?_
      refine lv_if_eq (tgt := 32) hx hb dX7_guess_18 (by decide) (fun c3 => ?_) (fun c3 => ?_)
      · have hf := z_p c3 hf
        refine lv_iconst (v := (-1)) hx hb dX7_guess_32 rfl ?_
        obtain rfl := Option.some.inj hf
        exact zr_Mi hx hb hr hlocks hP hD hS dX7_guess_33
      · have hf := z_n c3 hf
        refine lv_iload hx hb dX7_guess_21 (lv_at hl 4 rfl) ?_
        refine lv_if_lt (tgt := 32) hx hb dX7_guess_23 (by decide) (fun c4 => ?_) (fun c4 => ?_)
        · have hf := z_p c4 hf
          refine lv_iconst (v := (-1)) hx hb dX7_guess_32 rfl ?_
          obtain rfl := Option.some.inj hf
          exact zr_Mi hx hb hr hlocks hP hD hS dX7_guess_33
        · have hf := z_n c4 hf
          refine lv_iload hx hb dX7_guess_26 (lv_at hl 4 rfl) ?_
          refine lv_iconst (v := 3) hx hb dX7_guess_28 rfl ?_
          refine lv_icmp_le (tgt := 34) hx hb dX7_guess_29 (by decide) (fun c5 => ?_) (fun c5 => ?_)
          · have hf := z_p c5 hf
            refine lv_aload_n hx hb dX7_guess_34 rfl (lv_at hl 0 rfl) ?_
            refine lv_iload_n hx hb dX7_guess_35 rfl (lv_at hl 1 rfl) ?_
            refine lv_iload_n hx hb dX7_guess_36 rfl (lv_at hl 2 rfl) ?_
            refine lv_iload_n hx hb dX7_guess_37 rfl (lv_at hl 3 rfl) ?_
            obtain ⟨u6, hu6, hf⟩ := z_bd_u hf
            refine zc_MVvT (E := (koW ac a ko ++ (txW ac (a 1) tx ++ (shW ac (a 2) now ++ (shW ac (a 3) tr ++ (teW ac (a 4) (a 1) (a 10) te ++ (paW ac a pa ++ (fcW ac (a 6) w1 w2 fc ++ (frW ac (a 7) to ++ (frW ac (a 8) tp ++ (reW ac (a 9) re ++ (shW ac (a 40) k0 ++ (shW ac (a 41) k1 ++ (shW ac (a 10) ti))))))))))))) ++ ringW ac a rg) (TT := []) (As := [.int a1, .int a2, .int a3]) (rest := []) (wr := []) (wsc := (koW ac a ko ++ (txW ac (a 1) tx ++ (shW ac (a 2) now ++ (shW ac (a 3) tr ++ (teW ac (a 4) (a 1) (a 10) te ++ (paW ac a pa ++ (fcW ac (a 6) w1 w2 fc ++ (frW ac (a 7) to ++ (frW ac (a 8) tp ++ (reW ac (a 9) re ++ (shW ac (a 40) k0 ++ (shW ac (a 41) k1 ++ (shW ac (a 10) ti))))))))))))) ++ ringW ac a rg) (wsc' := (koW ac a ko ++ (txW ac (a 1) tx ++ (shW ac (a 2) now ++ (shW ac (a 3) tr ++ (teW ac (a 4) (a 1) (a 10) te ++ (paW ac a pa ++ (fcW ac (a 6) w1 w2 fc ++ (frW ac (a 7) u6.1 ++ (frW ac (a 8) u6.2 ++ (reW ac (a 9) re ++ (shW ac (a 40) k0 ++ (shW ac (a 41) k1 ++ (shW ac (a 10) ti))))))))))))) ++ ringW ac a rg) hx hb hml hown htw (ctX7_chooseCorner l D ac cs a w1 w2 s.heap.size ko tx now tr te pa fc to tp re k0 k1 ti rg a1 a2 a3   F u6 hu6) (g_V mM_RX7_289 mI_yX7_chooseCorner mS_RX7_yX7_chooseCorner_yX7_chooseCorner mN_RX7 mC_yX7_chooseCorner) rfl (hd_yX7_chooseCorner) ⟨rfl, rfl⟩ ⟨(Nat.le_of_ble_eq_true rfl), (Nat.le_of_ble_eq_true rfl)⟩ hKX hC hS hA (zP_nil hP) (zD_nil hD) (List.range _) [] (zrange _) (zndr _) rfl rfl (fun _ h => by cases h) 7 rfl rfl rfl hl.1 rfl (Nat.le_of_ble_eq_true rfl) ⟨Nat.zero_le _, Nat.zero_le _⟩ dX7_guess_38 (fun H locs hP hD hS => ?_)
            have hP : va_P D vwCl ((koW ac a ko ++ (txW ac (a 1) tx ++ (shW ac (a 2) now ++ (shW ac (a 3) tr ++ (teW ac (a 4) (a 1) (a 10) te ++ (paW ac a pa ++ (fcW ac (a 6) w1 w2 fc ++ (frW ac (a 7) u6.1 ++ (frW ac (a 8) u6.2 ++ (reW ac (a 9) re ++ (shW ac (a 40) k0 ++ (shW ac (a 41) k1 ++ (shW ac (a 10) ti))))))))))))) ++ ringW ac a rg) H := zP_un hP
            have hD : va_D A ((koW ac a ko ++ (txW ac (a 1) tx ++ (shW ac (a 2) now ++ (shW ac (a 3) tr ++ (teW ac (a 4) (a 1) (a 10) te ++ (paW ac a pa ++ (fcW ac (a 6) w1 w2 fc ++ (frW ac (a 7) u6.1 ++ (frW ac (a 8) u6.2 ++ (reW ac (a 9) re ++ (shW ac (a 40) k0 ++ (shW ac (a 41) k1 ++ (shW ac (a 10) ti))))))))))))) ++ ringW ac a rg) := zD_un hD
            refine lv_iload hx hb dX7_guess_41 (lv_at hl 4 rfl) ?_
            refine lv_iconst (v := 2) hx hb dX7_guess_43 rfl ?_
            refine lv_icmp_ge (tgt := 59) hx hb dX7_guess_44 (by decide) (fun c7 => ?_) (fun c7 => ?_)
            · have hf := z_p c7 hf
              refine lv_aload_n hx hb dX7_guess_59 rfl (lv_at hl 0 rfl) ?_
              refine va_get (D := D) (ci := 7) (v := .ref (a 8 0)) (C := RX7) (T := TX7) (N := 13) hx hb htw WW_wsX70 hown hKX.1 hP 0 rfl rfl 9 (Nat.le_of_ble_eq_true rfl) (htw _ mF_RX7_62) (fun _ h9 => h9) rfl dX7_guess_60 ?_
              refine lv_iload hx hb dX7_guess_63 (lv_at hl 4 rfl) ?_
              refine lv_iconst (v := 2) hx hb dX7_guess_65 rfl ?_
              refine lv_isub hx hb dX7_guess_66 ?_
              refine zc_RVl (As := [.int (a4 - 2)]) (rest := []) hx hb hml hown htw (ctX1_part l D ac cs (a 8) u6.2 (a4 - 2)   _ rfl) (g_V mM_RX7_211 mI_yX1_part mS_RX1_yX1_part_yX1_part mN_RX1 mC_yX1_part) rfl (hd_yX1_part) ⟨rfl, rfl⟩ ⟨(Nat.le_of_ble_eq_true rfl), (Nat.le_of_ble_eq_true rfl)⟩ hKX hC hS (hP.sub [22] rfl) 1 rfl rfl rfl hl.1 rfl (Nat.le_of_ble_eq_true rfl) ⟨Nat.zero_le _, Nat.zero_le _⟩ dX7_guess_67 ?_
              refine lv_l2i hx hb dX7_guess_70 rfl ?_
              obtain rfl := Option.some.inj hf
              exact zr_Mi hx hb hr hlocks hP hD hS dX7_guess_71
            · have hf := z_n c7 hf
              refine lv_aload_n hx hb dX7_guess_47 rfl (lv_at hl 0 rfl) ?_
              refine va_get (D := D) (ci := 7) (v := .ref (a 7 0)) (C := RX7) (T := TX7) (N := 13) hx hb htw WW_wsX70 hown hKX.1 hP 0 rfl rfl 8 (Nat.le_of_ble_eq_true rfl) (htw _ mF_RX7_58) (fun _ h9 => h9) rfl dX7_guess_48 ?_
              refine lv_iload hx hb dX7_guess_51 (lv_at hl 4 rfl) ?_
              refine zc_RVl (As := [.int a4]) (rest := []) hx hb hml hown htw (ctX1_part l D ac cs (a 7) u6.1 a4   _ rfl) (g_V mM_RX7_211 mI_yX1_part mS_RX1_yX1_part_yX1_part mN_RX1 mC_yX1_part) rfl (hd_yX1_part) ⟨rfl, rfl⟩ ⟨(Nat.le_of_ble_eq_true rfl), (Nat.le_of_ble_eq_true rfl)⟩ hKX hC hS (hP.sub [21] rfl) 1 rfl rfl rfl hl.1 rfl (Nat.le_of_ble_eq_true rfl) ⟨Nat.zero_le _, Nat.zero_le _⟩ dX7_guess_53 ?_
              refine lv_goto (tgt := 70) hx hb dX7_guess_56 (by decide) ?_
              refine lv_l2i hx hb dX7_guess_70 rfl ?_
              obtain rfl := Option.some.inj hf
              exact zr_Mi hx hb hr hlocks hP hD hS dX7_guess_71
          · have hf := z_n c5 hf
            refine lv_iconst (v := (-1)) hx hb dX7_guess_32 rfl ?_
            obtain rfl := Option.some.inj hf
            exact zr_Mi hx hb hr hlocks hP hD hS dX7_guess_33

theorem hd_yX7_isSideTold : hdY yX7_isSideTold 1 := by decide +kernel
def K_isSideTold (now : Sh) (a1 : Int32) : Int32 := if (sh_shooters now) ≤ 0 then 0 else (if K_isSide a1 = 0 then 0 else 1)
set_option maxHeartbeats 4000000 in
set_option maxRecDepth 100000 in
theorem ctX7_isSideTold (l : Launch) (D : va_G) (ac cs : Nat → Nat) (a : Nat → Nat → Nat) (w1 w2 : Nat) (ko : Ko) (tx : Tx) (now : Sh) (tr : Sh) (te : Te) (pa : Pa) (fc : Fc) (to : Fr) (tp : Fr) (re : Re) (k0 : Sh) (k1 : Sh) (ti : Sh) (rg : Nat → Sh) (a1 : Int32) (res : Int32) (hf : K_isSideTold now a1 = res) : Met l yX7_isSideTold (cWW yX7_isSideTold cX7_isSideTold 2 (some .boolean)) { frames := 1, cells := 0, slots := 0, locals := 20 } (zR D ac cs [.ref (a 0 0), .int a1] ((koW ac a ko ++ (txW ac (a 1) tx ++ (shW ac (a 2) now ++ (shW ac (a 3) tr ++ (teW ac (a 4) (a 1) (a 10) te ++ (paW ac a pa ++ (fcW ac (a 6) w1 w2 fc ++ (frW ac (a 7) to ++ (frW ac (a 8) tp ++ (reW ac (a 9) re ++ (shW ac (a 40) k0 ++ (shW ac (a 41) k1 ++ (shW ac (a 10) ti))))))))))))) ++ ringW ac a rg)) (vp_Si (fun r => r = res)) 0 0 (fun _ => False) := by
  refine Met.ofW (cc := cX7_isSideTold) (maxL := 2) (ret := (some .boolean)) (by decide) rfl ?_
  intro p e s m args below meth c s₁ B hml hv
  obtain ⟨rfl, hP, hKX, hC⟩ := hv
  have hx := B.exec
  have hb := B.bytes
  have hr := B.returns
  have hts := atoms_spec (ws := cWW yX7_isSideTold cX7_isSideTold 2 (some .boolean)) B.pre
  have htw : ∀ w ∈ WW, w.before _ s = true := fun w h => hts w (List.mem_cons_of_mem _ h)
  have hown : s.vm.findClass RX7 = some m.cls := findClass_of_methodNamed B.named
  have hlocks := B.notSynchronized
  clear hts B
  have hS : va_S (fun _ => False) s.heap s.heap [] := va_S.rf
  have hl := lv_entry ([.ref (a 0 0), .int a1]) (n := 2) (Nat.le_of_ble_eq_true rfl)
  rw [lg_entry_eq]
  generalize (lg_sl ([.ref (a 0 0), .int a1]) ++ List.replicate (2 - (lg_sl ([.ref (a 0 0), .int a1])).length) Slot.unset).toArray = ls at hl ⊢
  have hl : lv_has ls 2 [(0, .ref (a 0 0)), (1, .int a1)] := hl
  unfold K_isSideTold at hf
  show W p l e ({ frames := 1, cells := 0, slots := 0, locals := 20 } : Room) s m _ below meth c s.heap [] 0 0 _ (F0 m 0 ls [])
  refine lv_aload_n hx hb dX7_isSideTold_0 rfl (lv_at hl 0 rfl) ?_
  refine va_get (D := D) (ci := 7) (v := .ref (a 2 0)) (C := RX7) (T := TX7) (N := 13) hx hb htw WW_wsX70 hown hKX.1 hP 0 rfl rfl 2 (Nat.le_of_ble_eq_true rfl) (htw _ mF_RX7_26) (fun _ h9 => h9) rfl dX7_isSideTold_1 ?_
  refine va_getN (D := D) (ci := 4) (v := .int (sh_shooters now)) (C := RX4) (T := TX4) (N := 10) hx hb htw WW_wsX40 hown hKX.1 hP 6 rfl rfl 0 (Nat.le_of_ble_eq_true rfl) (va_Nw.use rfl (hKX.2 _ (List.mem_of_getElem? (i := 3) rfl))) (fun _ h9 => h9) rfl dX7_isSideTold_4 ?_
  refine lv_if_le (tgt := 21) hx hb dX7_isSideTold_7 (by decide) (fun c1 => ?_) (fun c1 => ?_)
  · have hf := z_p c1 hf
    refine lv_iconst (v := 0) hx hb dX7_isSideTold_21 rfl ?_
    exact zr_Rz hx hb hr hlocks (z_b_n z_b0) hf dX7_isSideTold_22
  · have hf := z_n c1 hf
    refine lv_iload_n hx hb dX7_isSideTold_10 rfl (lv_at hl 1 rfl) ?_
    refine zc_RSi (As := [.int a1]) (rest := []) hx hb hml hown htw (ctX7_isSide l D ac cs   a1   _ rfl) (g_S mM_RX7_214 mT_yX7_isSide mN_RX7 mC_yX7_isSide) (hd_yX7_isSide) ⟨rfl, rfl⟩ ⟨(Nat.le_of_ble_eq_true rfl), (Nat.le_of_ble_eq_true rfl)⟩ hKX hC hS zP0 rfl hl.1 rfl (Nat.le_of_ble_eq_true rfl) ⟨Nat.zero_le _, Nat.zero_le _⟩ dX7_isSideTold_11 ?_
    refine lv_if_eq (tgt := 21) hx hb dX7_isSideTold_14 (by decide) (fun c2 => ?_) (fun c2 => ?_)
    · have hf := z_p c2 hf
      refine lv_iconst (v := 0) hx hb dX7_isSideTold_21 rfl ?_
      exact zr_Rz hx hb hr hlocks (z_b_n z_b0) hf dX7_isSideTold_22
    · have hf := z_n c2 hf
      refine lv_iconst (v := 1) hx hb dX7_isSideTold_17 rfl ?_
      refine lv_goto (tgt := 22) hx hb dX7_isSideTold_18 (by decide) ?_
      exact zr_Rz hx hb hr hlocks (z_b_n z_b1) hf dX7_isSideTold_22
theorem b_K_isSideTold (now : Sh) (a1 : Int32) : z_b (K_isSideTold now a1) = true := by
  unfold K_isSideTold
  (repeat' (first | split | (unfold z_let; dsimp only) | (unfold z_jn; dsimp only))) <;> first | decide +kernel | apply b_K_isSide

theorem hd_yX7_isShooter : hdY yX7_isShooter 1 := by decide +kernel
def K_isShooter (now : Sh) (a1 : Int32) : Int32 := if a1 < 0 then 0 else (if (sh_shooters now) ≤ a1 then 0 else 1)
set_option maxHeartbeats 4000000 in
set_option maxRecDepth 100000 in
theorem ctX7_isShooter (l : Launch) (D : va_G) (ac cs : Nat → Nat) (a : Nat → Nat → Nat) (w1 w2 : Nat) (ko : Ko) (tx : Tx) (now : Sh) (tr : Sh) (te : Te) (pa : Pa) (fc : Fc) (to : Fr) (tp : Fr) (re : Re) (k0 : Sh) (k1 : Sh) (ti : Sh) (rg : Nat → Sh) (a1 : Int32) (res : Int32) (hf : K_isShooter now a1 = res) : Met l yX7_isShooter (cWW yX7_isShooter cX7_isShooter 2 (some .boolean)) { frames := 0, cells := 0, slots := 0, locals := 0 } (zR D ac cs [.ref (a 0 0), .int a1] ((koW ac a ko ++ (txW ac (a 1) tx ++ (shW ac (a 2) now ++ (shW ac (a 3) tr ++ (teW ac (a 4) (a 1) (a 10) te ++ (paW ac a pa ++ (fcW ac (a 6) w1 w2 fc ++ (frW ac (a 7) to ++ (frW ac (a 8) tp ++ (reW ac (a 9) re ++ (shW ac (a 40) k0 ++ (shW ac (a 41) k1 ++ (shW ac (a 10) ti))))))))))))) ++ ringW ac a rg)) (vp_Si (fun r => r = res)) 0 0 (fun _ => False) := by
  refine Met.ofW (cc := cX7_isShooter) (maxL := 2) (ret := (some .boolean)) (by decide) rfl ?_
  intro p e s m args below meth c s₁ B hml hv
  obtain ⟨rfl, hP, hKX, hC⟩ := hv
  have hx := B.exec
  have hb := B.bytes
  have hr := B.returns
  have hts := atoms_spec (ws := cWW yX7_isShooter cX7_isShooter 2 (some .boolean)) B.pre
  have htw : ∀ w ∈ WW, w.before _ s = true := fun w h => hts w (List.mem_cons_of_mem _ h)
  have hown : s.vm.findClass RX7 = some m.cls := findClass_of_methodNamed B.named
  have hlocks := B.notSynchronized
  clear hts B
  have hS : va_S (fun _ => False) s.heap s.heap [] := va_S.rf
  have hl := lv_entry ([.ref (a 0 0), .int a1]) (n := 2) (Nat.le_of_ble_eq_true rfl)
  rw [lg_entry_eq]
  generalize (lg_sl ([.ref (a 0 0), .int a1]) ++ List.replicate (2 - (lg_sl ([.ref (a 0 0), .int a1])).length) Slot.unset).toArray = ls at hl ⊢
  have hl : lv_has ls 2 [(0, .ref (a 0 0)), (1, .int a1)] := hl
  unfold K_isShooter at hf
  show W p l e ({ frames := 0, cells := 0, slots := 0, locals := 0 } : Room) s m _ below meth c s.heap [] 0 0 _ (F0 m 0 ls [])
  refine lv_iload_n hx hb dX7_isShooter_0 rfl (lv_at hl 1 rfl) ?_
  refine lv_if_lt (tgt := 19) hx hb dX7_isShooter_1 (by decide) (fun c1 => ?_) (fun c1 => ?_)
  · have hf := z_p c1 hf
    refine lv_iconst (v := 0) hx hb dX7_isShooter_19 rfl ?_
    exact zr_Rz hx hb hr hlocks (z_b_n z_b0) hf dX7_isShooter_20
  · have hf := z_n c1 hf
    refine lv_iload_n hx hb dX7_isShooter_4 rfl (lv_at hl 1 rfl) ?_
    refine lv_aload_n hx hb dX7_isShooter_5 rfl (lv_at hl 0 rfl) ?_
    refine va_get (D := D) (ci := 7) (v := .ref (a 2 0)) (C := RX7) (T := TX7) (N := 13) hx hb htw WW_wsX70 hown hKX.1 hP 0 rfl rfl 2 (Nat.le_of_ble_eq_true rfl) (htw _ mF_RX7_26) (fun _ h9 => h9) rfl dX7_isShooter_6 ?_
    refine va_getN (D := D) (ci := 4) (v := .int (sh_shooters now)) (C := RX4) (T := TX4) (N := 10) hx hb htw WW_wsX40 hown hKX.1 hP 6 rfl rfl 0 (Nat.le_of_ble_eq_true rfl) (va_Nw.use rfl (hKX.2 _ (List.mem_of_getElem? (i := 3) rfl))) (fun _ h9 => h9) rfl dX7_isShooter_9 ?_
    refine lv_icmp_ge (tgt := 19) hx hb dX7_isShooter_12 (by decide) (fun c2 => ?_) (fun c2 => ?_)
    · have hf := z_p c2 hf
      refine lv_iconst (v := 0) hx hb dX7_isShooter_19 rfl ?_
      exact zr_Rz hx hb hr hlocks (z_b_n z_b0) hf dX7_isShooter_20
    · have hf := z_n c2 hf
      refine lv_iconst (v := 1) hx hb dX7_isShooter_15 rfl ?_
      refine lv_goto (tgt := 20) hx hb dX7_isShooter_16 (by decide) ?_
      exact zr_Rz hx hb hr hlocks (z_b_n z_b1) hf dX7_isShooter_20
theorem b_K_isShooter (now : Sh) (a1 : Int32) : z_b (K_isShooter now a1) = true := by
  unfold K_isShooter
  (repeat' (first | split | (unfold z_let; dsimp only) | (unfold z_jn; dsimp only))) <;> first | decide +kernel

theorem hd_yX7_remember : hdY yX7_remember 0 := by decide +kernel
def K_remember (F : Nat) (now : Sh) (pa : Pa) (re : Re) (rg : Nat → Sh) : Option (Pa × Re × (Nat → Sh)) := z_bd (Pa_push F pa now rg) (fun u1 : Pa × (Nat → Sh) => some (u1.1, ((re_winsOfA re), (re_winsOfB re), (re_wholes re), (re_bestOfA re), (re_bestOfB re), (re_rows re), 0, (re_pairs re), (re_rowOfA re), (re_rowOfB re)), u1.2))
set_option maxHeartbeats 4000000 in
set_option maxRecDepth 100000 in
theorem ctX7_remember (l : Launch) (D : va_G) (ac cs : Nat → Nat) (a : Nat → Nat → Nat) (w1 w2 : Nat) (sz : Nat) (ko : Ko) (tx : Tx) (now : Sh) (tr : Sh) (te : Te) (pa : Pa) (fc : Fc) (to : Fr) (tp : Fr) (re : Re) (k0 : Sh) (k1 : Sh) (ti : Sh) (rg : Nat → Sh) (F : Nat) (res : Pa × Re × (Nat → Sh)) (hf : K_remember F now pa re rg = some res) : Met l yX7_remember (cWW yX7_remember cX7_remember 1 none) { frames := 2, cells := 0, slots := 0, locals := 43 } (zM D ac cs [.ref (a 0 0)] ((koW ac a ko ++ (txW ac (a 1) tx ++ (shW ac (a 2) now ++ (shW ac (a 3) tr ++ (teW ac (a 4) (a 1) (a 10) te ++ (paW ac a pa ++ (fcW ac (a 6) w1 w2 fc ++ (frW ac (a 7) to ++ (frW ac (a 8) tp ++ (reW ac (a 9) re ++ (shW ac (a 40) k0 ++ (shW ac (a 41) k1 ++ (shW ac (a 10) ti))))))))))))) ++ ringW ac a rg) sz) (va_Qv (fun _ : Unit => True) (fun _ => zB D (va_A ((koW ac a ko ++ (txW ac (a 1) tx ++ (shW ac (a 2) now ++ (shW ac (a 3) tr ++ (teW ac (a 4) (a 1) (a 10) te ++ (paW ac a pa ++ (fcW ac (a 6) w1 w2 fc ++ (frW ac (a 7) to ++ (frW ac (a 8) tp ++ (reW ac (a 9) re ++ (shW ac (a 40) k0 ++ (shW ac (a 41) k1 ++ (shW ac (a 10) ti))))))))))))) ++ ringW ac a rg) sz) ((koW ac a ko ++ (txW ac (a 1) tx ++ (shW ac (a 2) now ++ (shW ac (a 3) tr ++ (teW ac (a 4) (a 1) (a 10) te ++ (paW ac a res.1 ++ (fcW ac (a 6) w1 w2 fc ++ (frW ac (a 7) to ++ (frW ac (a 8) tp ++ (reW ac (a 9) res.2.1 ++ (shW ac (a 40) k0 ++ (shW ac (a 41) k1 ++ (shW ac (a 10) ti))))))))))))) ++ ringW ac a res.2.2)) (va_A ((koW ac a ko ++ (txW ac (a 1) tx ++ (shW ac (a 2) now ++ (shW ac (a 3) tr ++ (teW ac (a 4) (a 1) (a 10) te ++ (paW ac a pa ++ (fcW ac (a 6) w1 w2 fc ++ (frW ac (a 7) to ++ (frW ac (a 8) tp ++ (reW ac (a 9) re ++ (shW ac (a 40) k0 ++ (shW ac (a 41) k1 ++ (shW ac (a 10) ti))))))))))))) ++ ringW ac a rg) sz)) 0 0 (va_A ((koW ac a ko ++ (txW ac (a 1) tx ++ (shW ac (a 2) now ++ (shW ac (a 3) tr ++ (teW ac (a 4) (a 1) (a 10) te ++ (paW ac a pa ++ (fcW ac (a 6) w1 w2 fc ++ (frW ac (a 7) to ++ (frW ac (a 8) tp ++ (reW ac (a 9) re ++ (shW ac (a 40) k0 ++ (shW ac (a 41) k1 ++ (shW ac (a 10) ti))))))))))))) ++ ringW ac a rg) sz) := by
  refine Met.ofW (cc := cX7_remember) (maxL := 1) (ret := none) (by decide) rfl ?_
  intro p e s m args below meth c s₁ B hml hv
  obtain ⟨rfl, hsz, hP, hKX, hD0, hC⟩ := hv
  have hx := B.exec
  have hb := B.bytes
  have hr := B.returns
  have hts := atoms_spec (ws := cWW yX7_remember cX7_remember 1 none) B.pre
  have htw : ∀ w ∈ WW, w.before _ s = true := fun w h => hts w (List.mem_cons_of_mem _ h)
  have hown : s.vm.findClass RX7 = some m.cls := findClass_of_methodNamed B.named
  have hlocks := B.notSynchronized
  clear hts B
  subst hsz
  have hD := hD0.self (sz := s.heap.size)
  generalize hAe : va_A ((koW ac a ko ++ (txW ac (a 1) tx ++ (shW ac (a 2) now ++ (shW ac (a 3) tr ++ (teW ac (a 4) (a 1) (a 10) te ++ (paW ac a pa ++ (fcW ac (a 6) w1 w2 fc ++ (frW ac (a 7) to ++ (frW ac (a 8) tp ++ (reW ac (a 9) re ++ (shW ac (a 40) k0 ++ (shW ac (a 41) k1 ++ (shW ac (a 10) ti))))))))))))) ++ ringW ac a rg) s.heap.size = A at hD hC ⊢
  have hA : ∀ q : Nat, s.heap.size ≤ q → A q := fun q h => by rw [← hAe]; exact Or.inr h
  have hS : va_S A s.heap s.heap [] := va_S.rf
  clear hD0 hAe
  have hP : va_P D vwCl ((koW ac a ko ++ (txW ac (a 1) tx ++ (shW ac (a 2) now ++ (shW ac (a 3) tr ++ (teW ac (a 4) (a 1) (a 10) te ++ (paW ac a pa ++ (fcW ac (a 6) w1 w2 fc ++ (frW ac (a 7) to ++ (frW ac (a 8) tp ++ (reW ac (a 9) re ++ (shW ac (a 40) k0 ++ (shW ac (a 41) k1 ++ (shW ac (a 10) ti))))))))))))) ++ ringW ac a rg) s.heap := hP
  have hl := lv_entry ([.ref (a 0 0)]) (n := 1) (Nat.le_of_ble_eq_true rfl)
  rw [lg_entry_eq]
  generalize (lg_sl ([.ref (a 0 0)]) ++ List.replicate (1 - (lg_sl ([.ref (a 0 0)])).length) Slot.unset).toArray = ls at hl ⊢
  have hl : lv_has ls 1 [(0, .ref (a 0 0))] := hl
  unfold K_remember at hf
  show W p l e ({ frames := 2, cells := 0, slots := 0, locals := 43 } : Room) s m _ below meth c s.heap [] 0 0 _ (F0 m 0 ls [])
  refine lv_aload_n hx hb dX7_remember_0 rfl (lv_at hl 0 rfl) ?_
  refine va_get (D := D) (ci := 7) (v := .ref (a 5 0)) (C := RX7) (T := TX7) (N := 13) hx hb htw WW_wsX70 hown hKX.1 hP 0 rfl rfl 4 (Nat.le_of_ble_eq_true rfl) (htw _ mF_RX7_36) (fun _ h9 => h9) rfl dX7_remember_1 ?_
  refine lv_aload_n hx hb dX7_remember_4 rfl (lv_at hl 0 rfl) ?_
  refine va_get (D := D) (ci := 7) (v := .ref (a 2 0)) (C := RX7) (T := TX7) (N := 13) hx hb htw WW_wsX70 hown hKX.1 hP 0 rfl rfl 2 (Nat.le_of_ble_eq_true rfl) (htw _ mF_RX7_26) (fun _ h9 => h9) rfl dX7_remember_5 ?_
  obtain ⟨u1, hu1, hf⟩ := z_bd_u hf
  refine zc_MVvT (E := (paW ac a pa ++ (shW ac (a 2) now)) ++ ringW ac a rg) (TT := koW ac a ko ++ (txW ac (a 1) tx ++ (shW ac (a 3) tr ++ (teW ac (a 4) (a 1) (a 10) te ++ (fcW ac (a 6) w1 w2 fc ++ (frW ac (a 7) to ++ (frW ac (a 8) tp ++ (reW ac (a 9) re ++ (shW ac (a 40) k0 ++ (shW ac (a 41) k1 ++ (shW ac (a 10) ti))))))))))) (As := [.ref (a 2 0)]) (rest := []) (wr := []) (wsc := (paW ac a pa ++ (shW ac (a 2) now)) ++ ringW ac a rg) (wsc' := (paW ac a u1.1 ++ (shW ac (a 2) now)) ++ ringW ac a u1.2) hx hb hml hown htw (ctX2_push l D ac cs a (a 2) s.heap.size pa now rg    F u1 hu1) (g_V mM_RX7_324 mI_yX2_push mS_RX2_yX2_push_yX2_push mN_RX2 mC_yX2_push) rfl (hd_yX2_push) ⟨rfl, rfl⟩ ⟨(Nat.le_of_ble_eq_true rfl), (Nat.le_of_ble_eq_true rfl)⟩ hKX hC hS hA (zP_perm (zpermT (C := paW ac a pa ++ (shW ac (a 2) now)) (Rr := koW ac a ko ++ (txW ac (a 1) tx ++ (shW ac (a 3) tr ++ (teW ac (a 4) (a 1) (a 10) te ++ (fcW ac (a 6) w1 w2 fc ++ (frW ac (a 7) to ++ (frW ac (a 8) tp ++ (reW ac (a 9) re ++ (shW ac (a 40) k0 ++ (shW ac (a 41) k1 ++ (shW ac (a 10) ti))))))))))) [14, 15, 6, 7, 8, 0, 1, 2, 3, 4, 5, 9, 10, 11, 12, 13, 16, 17, 18, 19, 20, 21, 22, 23, 24, 25, 26, 27, 28, 29, 30, 31, 32, 33, 34, 35, 36, 37] rfl (n := 38) rfl (by decide +kernel)) hP) (zD_perm (zpermT (C := paW ac a pa ++ (shW ac (a 2) now)) (Rr := koW ac a ko ++ (txW ac (a 1) tx ++ (shW ac (a 3) tr ++ (teW ac (a 4) (a 1) (a 10) te ++ (fcW ac (a 6) w1 w2 fc ++ (frW ac (a 7) to ++ (frW ac (a 8) tp ++ (reW ac (a 9) re ++ (shW ac (a 40) k0 ++ (shW ac (a 41) k1 ++ (shW ac (a 10) ti))))))))))) [14, 15, 6, 7, 8, 0, 1, 2, 3, 4, 5, 9, 10, 11, 12, 13, 16, 17, 18, 19, 20, 21, 22, 23, 24, 25, 26, 27, 28, 29, 30, 31, 32, 33, 34, 35, 36, 37] rfl (n := 38) rfl (by decide +kernel)) hD) (List.range _) [] (zrange _) (zndr _) rfl rfl (fun _ h => by cases h) 2 rfl rfl rfl hl.1 rfl (Nat.le_of_ble_eq_true rfl) ⟨Nat.zero_le _, Nat.zero_le _⟩ dX7_remember_8 (fun H locs hP hD hS => ?_)
  have hP : va_P D vwCl ((koW ac a ko ++ (txW ac (a 1) tx ++ (shW ac (a 2) now ++ (shW ac (a 3) tr ++ (teW ac (a 4) (a 1) (a 10) te ++ (paW ac a u1.1 ++ (fcW ac (a 6) w1 w2 fc ++ (frW ac (a 7) to ++ (frW ac (a 8) tp ++ (reW ac (a 9) re ++ (shW ac (a 40) k0 ++ (shW ac (a 41) k1 ++ (shW ac (a 10) ti))))))))))))) ++ ringW ac a u1.2) H := zP_perm (zpermT (C := paW ac a u1.1 ++ (shW ac (a 2) now)) (Rr := koW ac a ko ++ (txW ac (a 1) tx ++ (shW ac (a 3) tr ++ (teW ac (a 4) (a 1) (a 10) te ++ (fcW ac (a 6) w1 w2 fc ++ (frW ac (a 7) to ++ (frW ac (a 8) tp ++ (reW ac (a 9) re ++ (shW ac (a 40) k0 ++ (shW ac (a 41) k1 ++ (shW ac (a 10) ti))))))))))) [14, 15, 6, 7, 8, 0, 1, 2, 3, 4, 5, 9, 10, 11, 12, 13, 16, 17, 18, 19, 20, 21, 22, 23, 24, 25, 26, 27, 28, 29, 30, 31, 32, 33, 34, 35, 36, 37] rfl (n := 38) rfl (by decide +kernel)).symm hP
  have hD : va_D A ((koW ac a ko ++ (txW ac (a 1) tx ++ (shW ac (a 2) now ++ (shW ac (a 3) tr ++ (teW ac (a 4) (a 1) (a 10) te ++ (paW ac a u1.1 ++ (fcW ac (a 6) w1 w2 fc ++ (frW ac (a 7) to ++ (frW ac (a 8) tp ++ (reW ac (a 9) re ++ (shW ac (a 40) k0 ++ (shW ac (a 41) k1 ++ (shW ac (a 10) ti))))))))))))) ++ ringW ac a u1.2) := zD_perm (zpermT (C := paW ac a u1.1 ++ (shW ac (a 2) now)) (Rr := koW ac a ko ++ (txW ac (a 1) tx ++ (shW ac (a 3) tr ++ (teW ac (a 4) (a 1) (a 10) te ++ (fcW ac (a 6) w1 w2 fc ++ (frW ac (a 7) to ++ (frW ac (a 8) tp ++ (reW ac (a 9) re ++ (shW ac (a 40) k0 ++ (shW ac (a 41) k1 ++ (shW ac (a 10) ti))))))))))) [14, 15, 6, 7, 8, 0, 1, 2, 3, 4, 5, 9, 10, 11, 12, 13, 16, 17, 18, 19, 20, 21, 22, 23, 24, 25, 26, 27, 28, 29, 30, 31, 32, 33, 34, 35, 36, 37] rfl (n := 38) rfl (by decide +kernel)).symm hD
  refine lv_aload_n hx hb dX7_remember_11 rfl (lv_at hl 0 rfl) ?_
  refine va_get (D := D) (ci := 7) (v := .ref (a 9 0)) (C := RX7) (T := TX7) (N := 13) hx hb htw WW_wsX70 hown hKX.1 hP 0 rfl rfl 10 (Nat.le_of_ble_eq_true rfl) (htw _ mF_RX7_68) (fun _ h9 => h9) rfl dX7_remember_12 ?_
  refine lv_iconst (v := 0) hx hb dX7_remember_15 rfl ?_
  refine va_putN (D := D) (ci := 3) (v := .int 0) (ty := tyX3 6) (C := RX3) (T := TX3) (N := 10) hx hb htw WW_wsX30 tyX3 tyX3_ok nmX3 hown hKX.1 hP hD hS 23 rfl rfl 6 (Nat.le_of_ble_eq_true rfl) (va_Nw.use rfl (hKX.2 _ (List.mem_of_getElem? (i := 24) rfl))) (fun _ h9 => h9) rfl (tyX3_ok 6 (Nat.le_of_ble_eq_true rfl)) (z_b_n z_b0) (z_b_f z_b0) (Nat.le_of_ble_eq_true rfl) dX7_remember_16 (fun H locs hP hD hS => ?_)
  have hP : va_P D vwCl ((koW ac a ko ++ (txW ac (a 1) tx ++ (shW ac (a 2) now ++ (shW ac (a 3) tr ++ (teW ac (a 4) (a 1) (a 10) te ++ (paW ac a u1.1 ++ (fcW ac (a 6) w1 w2 fc ++ (frW ac (a 7) to ++ (frW ac (a 8) tp ++ (reW ac (a 9) ((re_winsOfA re), (re_winsOfB re), (re_wholes re), (re_bestOfA re), (re_bestOfB re), (re_rows re), 0, (re_pairs re), (re_rowOfA re), (re_rowOfB re)) ++ (shW ac (a 40) k0 ++ (shW ac (a 41) k1 ++ (shW ac (a 10) ti))))))))))))) ++ ringW ac a u1.2) H := hP
  have hD : va_D A ((koW ac a ko ++ (txW ac (a 1) tx ++ (shW ac (a 2) now ++ (shW ac (a 3) tr ++ (teW ac (a 4) (a 1) (a 10) te ++ (paW ac a u1.1 ++ (fcW ac (a 6) w1 w2 fc ++ (frW ac (a 7) to ++ (frW ac (a 8) tp ++ (reW ac (a 9) ((re_winsOfA re), (re_winsOfB re), (re_wholes re), (re_bestOfA re), (re_bestOfB re), (re_rows re), 0, (re_pairs re), (re_rowOfA re), (re_rowOfB re)) ++ (shW ac (a 40) k0 ++ (shW ac (a 41) k1 ++ (shW ac (a 10) ti))))))))))))) ++ ringW ac a u1.2) := hD
  obtain rfl := Option.some.inj hf
  exact zr_Mv hx hb hr hlocks hP hD hS dX7_remember_19

theorem hd_yX7_sign : hdY yX7_sign 1 := by decide +kernel
def K_sign (F : Nat) (tx : Tx) (a1 : Int32) : Option (Int32 × Tx) := z_bd (Tx_addFour F tx a1) (fun u1 : Int32 × Tx => if u1.1 = 0 then (some ((-1), u1.2)) else (some ((tx_length u1.2), u1.2)))
set_option maxHeartbeats 4000000 in
set_option maxRecDepth 100000 in
theorem ctX7_sign (l : Launch) (D : va_G) (ac cs : Nat → Nat) (a : Nat → Nat → Nat) (w1 w2 : Nat) (sz : Nat) (ko : Ko) (tx : Tx) (now : Sh) (tr : Sh) (te : Te) (pa : Pa) (fc : Fc) (to : Fr) (tp : Fr) (re : Re) (k0 : Sh) (k1 : Sh) (ti : Sh) (rg : Nat → Sh) (a1 : Int32) (F : Nat) (res : Int32 × Tx) (hf : K_sign F tx a1 = some res) : Met l yX7_sign (cWW yX7_sign cX7_sign 2 (some .int)) { frames := 1, cells := 0, slots := 0, locals := 22 } (zM D ac cs [.ref (a 0 0), .int a1] ((koW ac a ko ++ (txW ac (a 1) tx ++ (shW ac (a 2) now ++ (shW ac (a 3) tr ++ (teW ac (a 4) (a 1) (a 10) te ++ (paW ac a pa ++ (fcW ac (a 6) w1 w2 fc ++ (frW ac (a 7) to ++ (frW ac (a 8) tp ++ (reW ac (a 9) re ++ (shW ac (a 40) k0 ++ (shW ac (a 41) k1 ++ (shW ac (a 10) ti))))))))))))) ++ ringW ac a rg) sz) (va_Qi (fun r (_ : Unit) => r = res.1) (fun _ => zB D (va_A ((koW ac a ko ++ (txW ac (a 1) tx ++ (shW ac (a 2) now ++ (shW ac (a 3) tr ++ (teW ac (a 4) (a 1) (a 10) te ++ (paW ac a pa ++ (fcW ac (a 6) w1 w2 fc ++ (frW ac (a 7) to ++ (frW ac (a 8) tp ++ (reW ac (a 9) re ++ (shW ac (a 40) k0 ++ (shW ac (a 41) k1 ++ (shW ac (a 10) ti))))))))))))) ++ ringW ac a rg) sz) ((koW ac a ko ++ (txW ac (a 1) res.2 ++ (shW ac (a 2) now ++ (shW ac (a 3) tr ++ (teW ac (a 4) (a 1) (a 10) te ++ (paW ac a pa ++ (fcW ac (a 6) w1 w2 fc ++ (frW ac (a 7) to ++ (frW ac (a 8) tp ++ (reW ac (a 9) re ++ (shW ac (a 40) k0 ++ (shW ac (a 41) k1 ++ (shW ac (a 10) ti))))))))))))) ++ ringW ac a rg)) (va_A ((koW ac a ko ++ (txW ac (a 1) tx ++ (shW ac (a 2) now ++ (shW ac (a 3) tr ++ (teW ac (a 4) (a 1) (a 10) te ++ (paW ac a pa ++ (fcW ac (a 6) w1 w2 fc ++ (frW ac (a 7) to ++ (frW ac (a 8) tp ++ (reW ac (a 9) re ++ (shW ac (a 40) k0 ++ (shW ac (a 41) k1 ++ (shW ac (a 10) ti))))))))))))) ++ ringW ac a rg) sz)) 0 0 (va_A ((koW ac a ko ++ (txW ac (a 1) tx ++ (shW ac (a 2) now ++ (shW ac (a 3) tr ++ (teW ac (a 4) (a 1) (a 10) te ++ (paW ac a pa ++ (fcW ac (a 6) w1 w2 fc ++ (frW ac (a 7) to ++ (frW ac (a 8) tp ++ (reW ac (a 9) re ++ (shW ac (a 40) k0 ++ (shW ac (a 41) k1 ++ (shW ac (a 10) ti))))))))))))) ++ ringW ac a rg) sz) := by
  refine Met.ofW (cc := cX7_sign) (maxL := 2) (ret := (some .int)) (by decide) rfl ?_
  intro p e s m args below meth c s₁ B hml hv
  obtain ⟨rfl, hsz, hP, hKX, hD0, hC⟩ := hv
  have hx := B.exec
  have hb := B.bytes
  have hr := B.returns
  have hts := atoms_spec (ws := cWW yX7_sign cX7_sign 2 (some .int)) B.pre
  have htw : ∀ w ∈ WW, w.before _ s = true := fun w h => hts w (List.mem_cons_of_mem _ h)
  have hown : s.vm.findClass RX7 = some m.cls := findClass_of_methodNamed B.named
  have hlocks := B.notSynchronized
  clear hts B
  subst hsz
  have hD := hD0.self (sz := s.heap.size)
  generalize hAe : va_A ((koW ac a ko ++ (txW ac (a 1) tx ++ (shW ac (a 2) now ++ (shW ac (a 3) tr ++ (teW ac (a 4) (a 1) (a 10) te ++ (paW ac a pa ++ (fcW ac (a 6) w1 w2 fc ++ (frW ac (a 7) to ++ (frW ac (a 8) tp ++ (reW ac (a 9) re ++ (shW ac (a 40) k0 ++ (shW ac (a 41) k1 ++ (shW ac (a 10) ti))))))))))))) ++ ringW ac a rg) s.heap.size = A at hD hC ⊢
  have hA : ∀ q : Nat, s.heap.size ≤ q → A q := fun q h => by rw [← hAe]; exact Or.inr h
  have hS : va_S A s.heap s.heap [] := va_S.rf
  clear hD0 hAe
  have hP : va_P D vwCl ((koW ac a ko ++ (txW ac (a 1) tx ++ (shW ac (a 2) now ++ (shW ac (a 3) tr ++ (teW ac (a 4) (a 1) (a 10) te ++ (paW ac a pa ++ (fcW ac (a 6) w1 w2 fc ++ (frW ac (a 7) to ++ (frW ac (a 8) tp ++ (reW ac (a 9) re ++ (shW ac (a 40) k0 ++ (shW ac (a 41) k1 ++ (shW ac (a 10) ti))))))))))))) ++ ringW ac a rg) s.heap := hP
  have hl := lv_entry ([.ref (a 0 0), .int a1]) (n := 2) (Nat.le_of_ble_eq_true rfl)
  rw [lg_entry_eq]
  generalize (lg_sl ([.ref (a 0 0), .int a1]) ++ List.replicate (2 - (lg_sl ([.ref (a 0 0), .int a1])).length) Slot.unset).toArray = ls at hl ⊢
  have hl : lv_has ls 2 [(0, .ref (a 0 0)), (1, .int a1)] := hl
  unfold K_sign at hf
  show W p l e ({ frames := 1, cells := 0, slots := 0, locals := 22 } : Room) s m _ below meth c s.heap [] 0 0 _ (F0 m 0 ls [])
  refine lv_aload_n hx hb dX7_sign_0 rfl (lv_at hl 0 rfl) ?_
  refine va_get (D := D) (ci := 7) (v := .ref (a 1 0)) (C := RX7) (T := TX7) (N := 13) hx hb htw WW_wsX70 hown hKX.1 hP 0 rfl rfl 1 (Nat.le_of_ble_eq_true rfl) (htw _ mF_RX7_22) (fun _ h9 => h9) rfl dX7_sign_1 ?_
  refine lv_iload_n hx hb dX7_sign_4 rfl (lv_at hl 1 rfl) ?_
  obtain ⟨u1, hu1, hf⟩ := z_bd_u hf
  refine zc_MViT (As := [.int a1]) (rest := []) (wr := koW ac a ko ++ (shW ac (a 2) now ++ (shW ac (a 3) tr ++ (teW ac (a 4) (a 1) (a 10) te ++ (paW ac a pa ++ (fcW ac (a 6) w1 w2 fc ++ (frW ac (a 7) to ++ (frW ac (a 8) tp ++ (reW ac (a 9) re ++ (shW ac (a 40) k0 ++ (shW ac (a 41) k1 ++ (shW ac (a 10) ti)))))))))))) (wsc := txW ac (a 1) tx) (wsc' := txW ac (a 1) u1.2) hx hb hml hown htw (ctX6_addFour l D ac cs (a 1) s.heap.size tx a1   F u1 hu1) (g_V mM_RX7_76 mI_yX6_addFour mS_RX6_yX6_addFour_yX6_addFour mN_RX6 mC_yX6_addFour) rfl (hd_yX6_addFour) ⟨rfl, rfl⟩ ⟨(Nat.le_of_ble_eq_true rfl), (Nat.le_of_ble_eq_true rfl)⟩ hKX hC hS hA hP hD [4, 5] [0, 1, 2, 3, 6, 7, 8, 9, 10, 11, 12, 13, 14, 15, 16, 17, 18, 19, 20, 21, 22, 23, 24, 25, 26, 27, 28, 29, 30, 31, 32, 33, 34, 35, 36, 37] rfl (by decide) rfl (by decide) (by decide) 6 rfl rfl rfl hl.1 rfl (Nat.le_of_ble_eq_true rfl) ⟨Nat.zero_le _, Nat.zero_le _⟩ dX7_sign_5 (fun H locs hP hD hS => ?_)
  have hP : va_P D vwCl ((koW ac a ko ++ (txW ac (a 1) u1.2 ++ (shW ac (a 2) now ++ (shW ac (a 3) tr ++ (teW ac (a 4) (a 1) (a 10) te ++ (paW ac a pa ++ (fcW ac (a 6) w1 w2 fc ++ (frW ac (a 7) to ++ (frW ac (a 8) tp ++ (reW ac (a 9) re ++ (shW ac (a 40) k0 ++ (shW ac (a 41) k1 ++ (shW ac (a 10) ti))))))))))))) ++ ringW ac a rg) H := zsubPT hP [0, 1, 2, 3, 36, 37, 4, 5, 6, 7, 8, 9, 10, 11, 12, 13, 14, 15, 16, 17, 18, 19, 20, 21, 22, 23, 24, 25, 26, 27, 28, 29, 30, 31, 32, 33, 34, 35] rfl
  have hD : va_D A ((koW ac a ko ++ (txW ac (a 1) u1.2 ++ (shW ac (a 2) now ++ (shW ac (a 3) tr ++ (teW ac (a 4) (a 1) (a 10) te ++ (paW ac a pa ++ (fcW ac (a 6) w1 w2 fc ++ (frW ac (a 7) to ++ (frW ac (a 8) tp ++ (reW ac (a 9) re ++ (shW ac (a 40) k0 ++ (shW ac (a 41) k1 ++ (shW ac (a 10) ti))))))))))))) ++ ringW ac a rg) := zsubDT hD [0, 1, 2, 3, 36, 37, 4, 5, 6, 7, 8, 9, 10, 11, 12, 13, 14, 15, 16, 17, 18, 19, 20, 21, 22, 23, 24, 25, 26, 27, 28, 29, 30, 31, 32, 33, 34, 35] (by decide) rfl
  refine lv_if_eq (tgt := 21) hx hb dX7_sign_8 (by decide) (fun c2 => ?_) (fun c2 => ?_)
  · have hf := z_p c2 hf
    refine lv_iconst (v := (-1)) hx hb dX7_sign_21 rfl ?_
    obtain rfl := Option.some.inj hf
    exact zr_Mi hx hb hr hlocks hP hD hS dX7_sign_22
  · have hf := z_n c2 hf
    refine lv_aload_n hx hb dX7_sign_11 rfl (lv_at hl 0 rfl) ?_
    refine va_get (D := D) (ci := 7) (v := .ref (a 1 0)) (C := RX7) (T := TX7) (N := 13) hx hb htw WW_wsX70 hown hKX.1 hP 0 rfl rfl 1 (Nat.le_of_ble_eq_true rfl) (htw _ mF_RX7_22) (fun _ h9 => h9) rfl dX7_sign_12 ?_
    refine va_getN (D := D) (ci := 6) (v := .int (tx_length u1.2)) (C := RX6) (T := TX6) (N := 2) hx hb htw WW_wsX60 hown hKX.1 hP 4 rfl rfl 1 (Nat.le_of_ble_eq_true rfl) (va_Nw.use rfl (hKX.2 _ (List.mem_of_getElem? (i := 0) rfl))) (fun _ h9 => h9) rfl dX7_sign_15 ?_
    refine lv_goto (tgt := 22) hx hb dX7_sign_18 (by decide) ?_
    obtain rfl := Option.some.inj hf
    exact zr_Mi hx hb hr hlocks hP hD hS dX7_sign_22

theorem hd_yX7_end : hdY yX7_end 1 := by decide +kernel
def K_end (tx : Tx) (a1 : Int32) : Int32 × Tx := if a1 < 0 then (0, tx) else (if a1 ≤ (tx_length tx) then (1, ((tx_signs tx), a1)) else (0, tx))
set_option maxHeartbeats 4000000 in
set_option maxRecDepth 100000 in
theorem ctX7_end (l : Launch) (D : va_G) (ac cs : Nat → Nat) (a : Nat → Nat → Nat) (w1 w2 : Nat) (sz : Nat) (ko : Ko) (tx : Tx) (now : Sh) (tr : Sh) (te : Te) (pa : Pa) (fc : Fc) (to : Fr) (tp : Fr) (re : Re) (k0 : Sh) (k1 : Sh) (ti : Sh) (rg : Nat → Sh) (a1 : Int32) (res : Int32 × Tx) (hf : K_end tx a1 = res) : Met l yX7_end (cWW yX7_end cX7_end 2 (some .boolean)) { frames := 0, cells := 0, slots := 0, locals := 0 } (zM D ac cs [.ref (a 0 0), .int a1] ((koW ac a ko ++ (txW ac (a 1) tx ++ (shW ac (a 2) now ++ (shW ac (a 3) tr ++ (teW ac (a 4) (a 1) (a 10) te ++ (paW ac a pa ++ (fcW ac (a 6) w1 w2 fc ++ (frW ac (a 7) to ++ (frW ac (a 8) tp ++ (reW ac (a 9) re ++ (shW ac (a 40) k0 ++ (shW ac (a 41) k1 ++ (shW ac (a 10) ti))))))))))))) ++ ringW ac a rg) sz) (va_Qi (fun r (_ : Unit) => r = res.1) (fun _ => zB D (va_A ((koW ac a ko ++ (txW ac (a 1) tx ++ (shW ac (a 2) now ++ (shW ac (a 3) tr ++ (teW ac (a 4) (a 1) (a 10) te ++ (paW ac a pa ++ (fcW ac (a 6) w1 w2 fc ++ (frW ac (a 7) to ++ (frW ac (a 8) tp ++ (reW ac (a 9) re ++ (shW ac (a 40) k0 ++ (shW ac (a 41) k1 ++ (shW ac (a 10) ti))))))))))))) ++ ringW ac a rg) sz) ((koW ac a ko ++ (txW ac (a 1) res.2 ++ (shW ac (a 2) now ++ (shW ac (a 3) tr ++ (teW ac (a 4) (a 1) (a 10) te ++ (paW ac a pa ++ (fcW ac (a 6) w1 w2 fc ++ (frW ac (a 7) to ++ (frW ac (a 8) tp ++ (reW ac (a 9) re ++ (shW ac (a 40) k0 ++ (shW ac (a 41) k1 ++ (shW ac (a 10) ti))))))))))))) ++ ringW ac a rg)) (va_A ((koW ac a ko ++ (txW ac (a 1) tx ++ (shW ac (a 2) now ++ (shW ac (a 3) tr ++ (teW ac (a 4) (a 1) (a 10) te ++ (paW ac a pa ++ (fcW ac (a 6) w1 w2 fc ++ (frW ac (a 7) to ++ (frW ac (a 8) tp ++ (reW ac (a 9) re ++ (shW ac (a 40) k0 ++ (shW ac (a 41) k1 ++ (shW ac (a 10) ti))))))))))))) ++ ringW ac a rg) sz)) 0 0 (va_A ((koW ac a ko ++ (txW ac (a 1) tx ++ (shW ac (a 2) now ++ (shW ac (a 3) tr ++ (teW ac (a 4) (a 1) (a 10) te ++ (paW ac a pa ++ (fcW ac (a 6) w1 w2 fc ++ (frW ac (a 7) to ++ (frW ac (a 8) tp ++ (reW ac (a 9) re ++ (shW ac (a 40) k0 ++ (shW ac (a 41) k1 ++ (shW ac (a 10) ti))))))))))))) ++ ringW ac a rg) sz) := by
  refine Met.ofW (cc := cX7_end) (maxL := 2) (ret := (some .boolean)) (by decide) rfl ?_
  intro p e s m args below meth c s₁ B hml hv
  obtain ⟨rfl, hsz, hP, hKX, hD0, hC⟩ := hv
  have hx := B.exec
  have hb := B.bytes
  have hr := B.returns
  have hts := atoms_spec (ws := cWW yX7_end cX7_end 2 (some .boolean)) B.pre
  have htw : ∀ w ∈ WW, w.before _ s = true := fun w h => hts w (List.mem_cons_of_mem _ h)
  have hown : s.vm.findClass RX7 = some m.cls := findClass_of_methodNamed B.named
  have hlocks := B.notSynchronized
  clear hts B
  subst hsz
  have hD := hD0.self (sz := s.heap.size)
  generalize hAe : va_A ((koW ac a ko ++ (txW ac (a 1) tx ++ (shW ac (a 2) now ++ (shW ac (a 3) tr ++ (teW ac (a 4) (a 1) (a 10) te ++ (paW ac a pa ++ (fcW ac (a 6) w1 w2 fc ++ (frW ac (a 7) to ++ (frW ac (a 8) tp ++ (reW ac (a 9) re ++ (shW ac (a 40) k0 ++ (shW ac (a 41) k1 ++ (shW ac (a 10) ti))))))))))))) ++ ringW ac a rg) s.heap.size = A at hD hC ⊢
  have hA : ∀ q : Nat, s.heap.size ≤ q → A q := fun q h => by rw [← hAe]; exact Or.inr h
  have hS : va_S A s.heap s.heap [] := va_S.rf
  clear hD0 hAe
  have hP : va_P D vwCl ((koW ac a ko ++ (txW ac (a 1) tx ++ (shW ac (a 2) now ++ (shW ac (a 3) tr ++ (teW ac (a 4) (a 1) (a 10) te ++ (paW ac a pa ++ (fcW ac (a 6) w1 w2 fc ++ (frW ac (a 7) to ++ (frW ac (a 8) tp ++ (reW ac (a 9) re ++ (shW ac (a 40) k0 ++ (shW ac (a 41) k1 ++ (shW ac (a 10) ti))))))))))))) ++ ringW ac a rg) s.heap := hP
  have hl := lv_entry ([.ref (a 0 0), .int a1]) (n := 2) (Nat.le_of_ble_eq_true rfl)
  rw [lg_entry_eq]
  generalize (lg_sl ([.ref (a 0 0), .int a1]) ++ List.replicate (2 - (lg_sl ([.ref (a 0 0), .int a1])).length) Slot.unset).toArray = ls at hl ⊢
  have hl : lv_has ls 2 [(0, .ref (a 0 0)), (1, .int a1)] := hl
  unfold K_end at hf
  show W p l e ({ frames := 0, cells := 0, slots := 0, locals := 0 } : Room) s m _ below meth c s.heap [] 0 0 _ (F0 m 0 ls [])
  refine lv_iload_n hx hb dX7_end_0 rfl (lv_at hl 1 rfl) ?_
  refine lv_if_lt (tgt := 15) hx hb dX7_end_1 (by decide) (fun c1 => ?_) (fun c1 => ?_)
  · have hf := z_p c1 hf
    refine lv_iconst (v := 0) hx hb dX7_end_15 rfl ?_
    subst hf
    exact zr_Mz hx hb hr hlocks (z_b_n z_b0) hP hD hS dX7_end_16
  · have hf := z_n c1 hf
    refine lv_iload_n hx hb dX7_end_4 rfl (lv_at hl 1 rfl) ?_
    refine lv_aload_n hx hb dX7_end_5 rfl (lv_at hl 0 rfl) ?_
    refine va_get (D := D) (ci := 7) (v := .ref (a 1 0)) (C := RX7) (T := TX7) (N := 13) hx hb htw WW_wsX70 hown hKX.1 hP 0 rfl rfl 1 (Nat.le_of_ble_eq_true rfl) (htw _ mF_RX7_22) (fun _ h9 => h9) rfl dX7_end_6 ?_
    refine va_getN (D := D) (ci := 6) (v := .int (tx_length tx)) (C := RX6) (T := TX6) (N := 2) hx hb htw WW_wsX60 hown hKX.1 hP 4 rfl rfl 1 (Nat.le_of_ble_eq_true rfl) (va_Nw.use rfl (hKX.2 _ (List.mem_of_getElem? (i := 0) rfl))) (fun _ h9 => h9) rfl dX7_end_9 ?_
    refine lv_icmp_le (tgt := 17) hx hb dX7_end_12 (by decide) (fun c2 => ?_) (fun c2 => ?_)
    · have hf := z_p c2 hf
      refine lv_aload_n hx hb dX7_end_17 rfl (lv_at hl 0 rfl) ?_
      refine va_get (D := D) (ci := 7) (v := .ref (a 1 0)) (C := RX7) (T := TX7) (N := 13) hx hb htw WW_wsX70 hown hKX.1 hP 0 rfl rfl 1 (Nat.le_of_ble_eq_true rfl) (htw _ mF_RX7_22) (fun _ h9 => h9) rfl dX7_end_18 ?_
      refine lv_iload_n hx hb dX7_end_21 rfl (lv_at hl 1 rfl) ?_
      refine va_putN (D := D) (ci := 6) (v := .int a1) (ty := tyX6 1) (C := RX6) (T := TX6) (N := 2) hx hb htw WW_wsX60 tyX6 tyX6_ok nmX6 hown hKX.1 hP hD hS 4 rfl rfl 1 (Nat.le_of_ble_eq_true rfl) (va_Nw.use rfl (hKX.2 _ (List.mem_of_getElem? (i := 0) rfl))) (fun _ h9 => h9) rfl (tyX6_ok 1 (Nat.le_of_ble_eq_true rfl)) rfl rfl (Nat.le_of_ble_eq_true rfl) dX7_end_22 (fun H locs hP hD hS => ?_)
      have hP : va_P D vwCl ((koW ac a ko ++ (txW ac (a 1) ((tx_signs tx), a1) ++ (shW ac (a 2) now ++ (shW ac (a 3) tr ++ (teW ac (a 4) (a 1) (a 10) te ++ (paW ac a pa ++ (fcW ac (a 6) w1 w2 fc ++ (frW ac (a 7) to ++ (frW ac (a 8) tp ++ (reW ac (a 9) re ++ (shW ac (a 40) k0 ++ (shW ac (a 41) k1 ++ (shW ac (a 10) ti))))))))))))) ++ ringW ac a rg) H := hP
      have hD : va_D A ((koW ac a ko ++ (txW ac (a 1) ((tx_signs tx), a1) ++ (shW ac (a 2) now ++ (shW ac (a 3) tr ++ (teW ac (a 4) (a 1) (a 10) te ++ (paW ac a pa ++ (fcW ac (a 6) w1 w2 fc ++ (frW ac (a 7) to ++ (frW ac (a 8) tp ++ (reW ac (a 9) re ++ (shW ac (a 40) k0 ++ (shW ac (a 41) k1 ++ (shW ac (a 10) ti))))))))))))) ++ ringW ac a rg) := hD
      refine lv_iconst (v := 1) hx hb dX7_end_25 rfl ?_
      subst hf
      exact zr_Mz hx hb hr hlocks (z_b_n z_b1) hP hD hS dX7_end_26
    · have hf := z_n c2 hf
      refine lv_iconst (v := 0) hx hb dX7_end_15 rfl ?_
      subst hf
      exact zr_Mz hx hb hr hlocks (z_b_n z_b0) hP hD hS dX7_end_16

theorem hd_yX7_teams : hdY yX7_teams 0 := by decide +kernel
def K_teams_L57 (tx : Tx) (re : Re) (u1 : Int32 × Te × Sh) (u4 : Sh) (u5 : Pa) : Nat → Int32 → Ko → Option (Int32 × Ko × Tx × Sh × Te × Pa × Re × Sh)
  | 0, _, _ => none
  | n9 + 1, x6, ko7 => if 2 ≤ x6 then (some ((sh_shooters u4), ko7, ((tx_signs tx), 0), u4, u1.2.1, u5, ((re_winsOfA re), (re_winsOfB re), (re_wholes re), (re_bestOfA re), (re_bestOfB re), (re_rows re), 0, (re_pairs re), (re_rowOfA re), (re_rowOfB re)), u1.2.2)) else (z_gd (z_in x6 2) (z_let (x6 + 1) (fun x13 : Int32 => K_teams_L57 tx re u1 u4 u5 n9 x13 ((upd (ko_isKept ko7) x6.toNatClampNeg (vp_nar .boolean 0)), (ko_verdict ko7), (ko_hasVerdict ko7)))))
def K_teams (F : Nat) (ko : Ko) (tx : Tx) (now : Sh) (te : Te) (pa : Pa) (re : Re) (ti : Sh) : Option (Int32 × Ko × Tx × Sh × Te × Pa × Re × Sh) := z_bd (Te_readText F te tx ti) (fun u1 : Int32 × Te × Sh => z_let u1.1 (fun x2 : Int32 => if x2 < 0 then (z_bd (Sh_copyFrom F now u1.2.2) (fun u4 : Sh => z_let (Pa_forget pa) (fun u5 : Pa => K_teams_L57 tx re u1 u4 u5 F 0 ko))) else (some (((-1000) - x2), ko, ((tx_signs tx), 0), now, u1.2.1, pa, re, u1.2.2))))
set_option maxHeartbeats 4000000 in
set_option maxRecDepth 100000 in
theorem ctX7_teams (l : Launch) (D : va_G) (ac cs : Nat → Nat) (a : Nat → Nat → Nat) (w1 w2 : Nat) (sz : Nat) (ko : Ko) (tx : Tx) (now : Sh) (tr : Sh) (te : Te) (pa : Pa) (fc : Fc) (to : Fr) (tp : Fr) (re : Re) (k0 : Sh) (k1 : Sh) (ti : Sh) (rg : Nat → Sh) (F : Nat) (res : Int32 × Ko × Tx × Sh × Te × Pa × Re × Sh) (hf : K_teams F ko tx now te pa re ti = some res) : Met l yX7_teams (cWW yX7_teams cX7_teams 3 (some .int)) { frames := 9, cells := 0, slots := 0, locals := 193 } (zM D ac cs [.ref (a 0 0)] ((koW ac a ko ++ (txW ac (a 1) tx ++ (shW ac (a 2) now ++ (shW ac (a 3) tr ++ (teW ac (a 4) (a 1) (a 10) te ++ (paW ac a pa ++ (fcW ac (a 6) w1 w2 fc ++ (frW ac (a 7) to ++ (frW ac (a 8) tp ++ (reW ac (a 9) re ++ (shW ac (a 40) k0 ++ (shW ac (a 41) k1 ++ (shW ac (a 10) ti))))))))))))) ++ ringW ac a rg) sz) (va_Qi (fun r (_ : Unit) => r = res.1) (fun _ => zB D (va_A ((koW ac a ko ++ (txW ac (a 1) tx ++ (shW ac (a 2) now ++ (shW ac (a 3) tr ++ (teW ac (a 4) (a 1) (a 10) te ++ (paW ac a pa ++ (fcW ac (a 6) w1 w2 fc ++ (frW ac (a 7) to ++ (frW ac (a 8) tp ++ (reW ac (a 9) re ++ (shW ac (a 40) k0 ++ (shW ac (a 41) k1 ++ (shW ac (a 10) ti))))))))))))) ++ ringW ac a rg) sz) ((koW ac a res.2.1 ++ (txW ac (a 1) res.2.2.1 ++ (shW ac (a 2) res.2.2.2.1 ++ (shW ac (a 3) tr ++ (teW ac (a 4) (a 1) (a 10) res.2.2.2.2.1 ++ (paW ac a res.2.2.2.2.2.1 ++ (fcW ac (a 6) w1 w2 fc ++ (frW ac (a 7) to ++ (frW ac (a 8) tp ++ (reW ac (a 9) res.2.2.2.2.2.2.1 ++ (shW ac (a 40) k0 ++ (shW ac (a 41) k1 ++ (shW ac (a 10) res.2.2.2.2.2.2.2))))))))))))) ++ ringW ac a rg)) (va_A ((koW ac a ko ++ (txW ac (a 1) tx ++ (shW ac (a 2) now ++ (shW ac (a 3) tr ++ (teW ac (a 4) (a 1) (a 10) te ++ (paW ac a pa ++ (fcW ac (a 6) w1 w2 fc ++ (frW ac (a 7) to ++ (frW ac (a 8) tp ++ (reW ac (a 9) re ++ (shW ac (a 40) k0 ++ (shW ac (a 41) k1 ++ (shW ac (a 10) ti))))))))))))) ++ ringW ac a rg) sz)) 0 0 (va_A ((koW ac a ko ++ (txW ac (a 1) tx ++ (shW ac (a 2) now ++ (shW ac (a 3) tr ++ (teW ac (a 4) (a 1) (a 10) te ++ (paW ac a pa ++ (fcW ac (a 6) w1 w2 fc ++ (frW ac (a 7) to ++ (frW ac (a 8) tp ++ (reW ac (a 9) re ++ (shW ac (a 40) k0 ++ (shW ac (a 41) k1 ++ (shW ac (a 10) ti))))))))))))) ++ ringW ac a rg) sz) := by
  refine Met.ofW (cc := cX7_teams) (maxL := 3) (ret := (some .int)) (by decide) rfl ?_
  intro p e s m args below meth c s₁ B hml hv
  obtain ⟨rfl, hsz, hP, hKX, hD0, hC⟩ := hv
  have hx := B.exec
  have hb := B.bytes
  have hr := B.returns
  have hts := atoms_spec (ws := cWW yX7_teams cX7_teams 3 (some .int)) B.pre
  have htw : ∀ w ∈ WW, w.before _ s = true := fun w h => hts w (List.mem_cons_of_mem _ h)
  have hown : s.vm.findClass RX7 = some m.cls := findClass_of_methodNamed B.named
  have hlocks := B.notSynchronized
  clear hts B
  subst hsz
  have hD := hD0.self (sz := s.heap.size)
  generalize hAe : va_A ((koW ac a ko ++ (txW ac (a 1) tx ++ (shW ac (a 2) now ++ (shW ac (a 3) tr ++ (teW ac (a 4) (a 1) (a 10) te ++ (paW ac a pa ++ (fcW ac (a 6) w1 w2 fc ++ (frW ac (a 7) to ++ (frW ac (a 8) tp ++ (reW ac (a 9) re ++ (shW ac (a 40) k0 ++ (shW ac (a 41) k1 ++ (shW ac (a 10) ti))))))))))))) ++ ringW ac a rg) s.heap.size = A at hD hC ⊢
  have hA : ∀ q : Nat, s.heap.size ≤ q → A q := fun q h => by rw [← hAe]; exact Or.inr h
  have hS : va_S A s.heap s.heap [] := va_S.rf
  clear hD0 hAe
  have hP : va_P D vwCl ((koW ac a ko ++ (txW ac (a 1) tx ++ (shW ac (a 2) now ++ (shW ac (a 3) tr ++ (teW ac (a 4) (a 1) (a 10) te ++ (paW ac a pa ++ (fcW ac (a 6) w1 w2 fc ++ (frW ac (a 7) to ++ (frW ac (a 8) tp ++ (reW ac (a 9) re ++ (shW ac (a 40) k0 ++ (shW ac (a 41) k1 ++ (shW ac (a 10) ti))))))))))))) ++ ringW ac a rg) s.heap := hP
  have hl := lv_entry ([.ref (a 0 0)]) (n := 3) (Nat.le_of_ble_eq_true rfl)
  rw [lg_entry_eq]
  generalize (lg_sl ([.ref (a 0 0)]) ++ List.replicate (3 - (lg_sl ([.ref (a 0 0)])).length) Slot.unset).toArray = ls at hl ⊢
  have hl : lv_has ls 3 [(0, .ref (a 0 0))] := hl
  unfold K_teams at hf
  show W p l e ({ frames := 9, cells := 0, slots := 0, locals := 193 } : Room) s m _ below meth c s.heap [] 0 0 _ (F0 m 0 ls [])
  refine lv_aload_n hx hb dX7_teams_0 rfl (lv_at hl 0 rfl) ?_
  refine va_get (D := D) (ci := 7) (v := .ref (a 4 0)) (C := RX7) (T := TX7) (N := 13) hx hb htw WW_wsX70 hown hKX.1 hP 0 rfl rfl 0 (Nat.le_of_ble_eq_true rfl) (htw _ mF_RX7_12) (fun _ h9 => h9) rfl dX7_teams_1 ?_
  obtain ⟨u1, hu1, hf⟩ := z_bd_u hf
  refine zc_MViT (As := []) (rest := []) (wr := koW ac a ko ++ (shW ac (a 2) now ++ (shW ac (a 3) tr ++ (paW ac a pa ++ (fcW ac (a 6) w1 w2 fc ++ (frW ac (a 7) to ++ (frW ac (a 8) tp ++ (reW ac (a 9) re ++ (shW ac (a 40) k0 ++ (shW ac (a 41) k1)))))))))) (wsc := teW ac (a 4) (a 1) (a 10) te ++ (txW ac (a 1) tx ++ (shW ac (a 10) ti))) (wsc' := teW ac (a 4) (a 1) (a 10) u1.2.1 ++ (txW ac (a 1) tx ++ (shW ac (a 10) u1.2.2))) hx hb hml hown htw (ctX5_readText l D ac cs (a 4) (a 1) (a 10) s.heap.size te tx ti    F u1 hu1) (g_V mM_RX7_86 mI_yX5_readText mS_RX5_yX5_readText_yX5_readText mN_RX5 mC_yX5_readText) rfl (hd_yX5_readText) ⟨rfl, rfl⟩ ⟨(Nat.le_of_ble_eq_true rfl), (Nat.le_of_ble_eq_true rfl)⟩ hKX hC hS hA hP hD [12, 13, 4, 5, 35, 36, 37] [0, 1, 2, 3, 6, 7, 8, 9, 10, 11, 14, 15, 16, 17, 18, 19, 20, 21, 22, 23, 24, 25, 26, 27, 28, 29, 30, 31, 32, 33, 34] rfl (by decide) rfl (by decide) (by decide) 5 rfl rfl rfl hl.1 rfl (Nat.le_of_ble_eq_true rfl) ⟨Nat.zero_le _, Nat.zero_le _⟩ dX7_teams_4 (fun H locs hP hD hS => ?_)
  have hP : va_P D vwCl ((koW ac a ko ++ (txW ac (a 1) tx ++ (shW ac (a 2) now ++ (shW ac (a 3) tr ++ (teW ac (a 4) (a 1) (a 10) u1.2.1 ++ (paW ac a pa ++ (fcW ac (a 6) w1 w2 fc ++ (frW ac (a 7) to ++ (frW ac (a 8) tp ++ (reW ac (a 9) re ++ (shW ac (a 40) k0 ++ (shW ac (a 41) k1 ++ (shW ac (a 10) u1.2.2))))))))))))) ++ ringW ac a rg) H := zsubPT hP [0, 1, 2, 3, 33, 34, 4, 5, 6, 7, 8, 9, 31, 32, 10, 11, 12, 13, 14, 15, 16, 17, 18, 19, 20, 21, 22, 23, 24, 25, 26, 27, 28, 29, 30, 35, 36, 37] rfl
  have hD : va_D A ((koW ac a ko ++ (txW ac (a 1) tx ++ (shW ac (a 2) now ++ (shW ac (a 3) tr ++ (teW ac (a 4) (a 1) (a 10) u1.2.1 ++ (paW ac a pa ++ (fcW ac (a 6) w1 w2 fc ++ (frW ac (a 7) to ++ (frW ac (a 8) tp ++ (reW ac (a 9) re ++ (shW ac (a 40) k0 ++ (shW ac (a 41) k1 ++ (shW ac (a 10) u1.2.2))))))))))))) ++ ringW ac a rg) := zsubDT hD [0, 1, 2, 3, 33, 34, 4, 5, 6, 7, 8, 9, 31, 32, 10, 11, 12, 13, 14, 15, 16, 17, 18, 19, 20, 21, 22, 23, 24, 25, 26, 27, 28, 29, 30, 35, 36, 37] (by decide) rfl
  refine lv_topi (fun x2 hx2 => ?_)
  have hf := z_let_u hx2 hf
  refine lv_istore_n (lv' := [(1, .int x2), (0, .ref (a 0 0))]) hx hb dX7_teams_7 rfl hl (Nat.le_of_ble_eq_true rfl) rfl (fun ls hl => ?_)
  refine lv_aload_n hx hb dX7_teams_8 rfl (lv_at hl 1 rfl) ?_
  refine va_get (D := D) (ci := 7) (v := .ref (a 1 0)) (C := RX7) (T := TX7) (N := 13) hx hb htw WW_wsX70 hown hKX.1 hP 0 rfl rfl 1 (Nat.le_of_ble_eq_true rfl) (htw _ mF_RX7_22) (fun _ h9 => h9) rfl dX7_teams_9 ?_
  refine lv_iconst (v := 0) hx hb dX7_teams_12 rfl ?_
  refine va_putN (D := D) (ci := 6) (v := .int 0) (ty := tyX6 1) (C := RX6) (T := TX6) (N := 2) hx hb htw WW_wsX60 tyX6 tyX6_ok nmX6 hown hKX.1 hP hD hS 4 rfl rfl 1 (Nat.le_of_ble_eq_true rfl) (va_Nw.use rfl (hKX.2 _ (List.mem_of_getElem? (i := 0) rfl))) (fun _ h9 => h9) rfl (tyX6_ok 1 (Nat.le_of_ble_eq_true rfl)) rfl rfl (Nat.le_of_ble_eq_true rfl) dX7_teams_13 (fun H locs hP hD hS => ?_)
  have hP : va_P D vwCl ((koW ac a ko ++ (txW ac (a 1) ((tx_signs tx), 0) ++ (shW ac (a 2) now ++ (shW ac (a 3) tr ++ (teW ac (a 4) (a 1) (a 10) u1.2.1 ++ (paW ac a pa ++ (fcW ac (a 6) w1 w2 fc ++ (frW ac (a 7) to ++ (frW ac (a 8) tp ++ (reW ac (a 9) re ++ (shW ac (a 40) k0 ++ (shW ac (a 41) k1 ++ (shW ac (a 10) u1.2.2))))))))))))) ++ ringW ac a rg) H := hP
  have hD : va_D A ((koW ac a ko ++ (txW ac (a 1) ((tx_signs tx), 0) ++ (shW ac (a 2) now ++ (shW ac (a 3) tr ++ (teW ac (a 4) (a 1) (a 10) u1.2.1 ++ (paW ac a pa ++ (fcW ac (a 6) w1 w2 fc ++ (frW ac (a 7) to ++ (frW ac (a 8) tp ++ (reW ac (a 9) re ++ (shW ac (a 40) k0 ++ (shW ac (a 41) k1 ++ (shW ac (a 10) u1.2.2))))))))))))) ++ ringW ac a rg) := hD
  refine lv_iload_n hx hb dX7_teams_16 rfl (lv_at hl 0 rfl) ?_
  refine lv_if_lt (tgt := 26) hx hb dX7_teams_17 (by decide) (fun c3 => ?_) (fun c3 => ?_)
  · have hf := z_p c3 hf
    refine lv_aload_n hx hb dX7_teams_26 rfl (lv_at hl 1 rfl) ?_
    refine va_get (D := D) (ci := 7) (v := .ref (a 2 0)) (C := RX7) (T := TX7) (N := 13) hx hb htw WW_wsX70 hown hKX.1 hP 0 rfl rfl 2 (Nat.le_of_ble_eq_true rfl) (htw _ mF_RX7_26) (fun _ h9 => h9) rfl dX7_teams_27 ?_
    refine lv_aload_n hx hb dX7_teams_30 rfl (lv_at hl 1 rfl) ?_
    refine va_get (D := D) (ci := 7) (v := .ref (a 4 0)) (C := RX7) (T := TX7) (N := 13) hx hb htw WW_wsX70 hown hKX.1 hP 0 rfl rfl 0 (Nat.le_of_ble_eq_true rfl) (htw _ mF_RX7_12) (fun _ h9 => h9) rfl dX7_teams_31 ?_
    refine va_getN (D := D) (ci := 5) (v := .ref (a 10 0)) (C := RX5) (T := TX5) (N := 6) hx hb htw WW_wsX50 hown hKX.1 hP 12 rfl rfl 2 (Nat.le_of_ble_eq_true rfl) (va_Nw.use rfl (hKX.2 _ (List.mem_of_getElem? (i := 13) rfl))) (fun _ h9 => h9) rfl dX7_teams_34 ?_
    obtain ⟨u4, hu4, hf⟩ := z_bd_u hf
    refine zc_MVvT (As := [.ref (a 10 0)]) (rest := []) (wr := koW ac a ko ++ (txW ac (a 1) ((tx_signs tx), 0) ++ (shW ac (a 3) tr ++ (teW ac (a 4) (a 1) (a 10) u1.2.1 ++ (paW ac a pa ++ (fcW ac (a 6) w1 w2 fc ++ (frW ac (a 7) to ++ (frW ac (a 8) tp ++ (reW ac (a 9) re ++ (shW ac (a 40) k0 ++ (shW ac (a 41) k1))))))))))) (wsc := shW ac (a 2) now ++ (shW ac (a 10) u1.2.2)) (wsc' := shW ac (a 2) u4 ++ (shW ac (a 10) u1.2.2)) hx hb hml hown htw (ctX4_copyFrom l D ac cs (a 2) (a 10) H.size now u1.2.2    F u4 hu4) (g_V mM_RX7_93 mI_yX4_copyFrom mS_RX4_yX4_copyFrom_yX4_copyFrom mN_RX4 mC_yX4_copyFrom) rfl (hd_yX4_copyFrom) ⟨rfl, rfl⟩ ⟨(Nat.le_of_ble_eq_true rfl), (Nat.le_of_ble_eq_true rfl)⟩ hKX hC hS hA hP hD [6, 7, 8, 35, 36, 37] [0, 1, 2, 3, 4, 5, 9, 10, 11, 12, 13, 14, 15, 16, 17, 18, 19, 20, 21, 22, 23, 24, 25, 26, 27, 28, 29, 30, 31, 32, 33, 34] rfl (by decide) rfl (by decide) (by decide) 4 rfl rfl rfl hl.1 rfl (Nat.le_of_ble_eq_true rfl) ⟨Nat.zero_le _, Nat.zero_le _⟩ dX7_teams_37 (fun H locs hP hD hS => ?_)
    have hP : va_P D vwCl ((koW ac a ko ++ (txW ac (a 1) ((tx_signs tx), 0) ++ (shW ac (a 2) u4 ++ (shW ac (a 3) tr ++ (teW ac (a 4) (a 1) (a 10) u1.2.1 ++ (paW ac a pa ++ (fcW ac (a 6) w1 w2 fc ++ (frW ac (a 7) to ++ (frW ac (a 8) tp ++ (reW ac (a 9) re ++ (shW ac (a 40) k0 ++ (shW ac (a 41) k1 ++ (shW ac (a 10) u1.2.2))))))))))))) ++ ringW ac a rg) H := zsubPT hP [0, 1, 2, 3, 4, 5, 32, 33, 34, 6, 7, 8, 9, 10, 11, 12, 13, 14, 15, 16, 17, 18, 19, 20, 21, 22, 23, 24, 25, 26, 27, 28, 29, 30, 31, 35, 36, 37] rfl
    have hD : va_D A ((koW ac a ko ++ (txW ac (a 1) ((tx_signs tx), 0) ++ (shW ac (a 2) u4 ++ (shW ac (a 3) tr ++ (teW ac (a 4) (a 1) (a 10) u1.2.1 ++ (paW ac a pa ++ (fcW ac (a 6) w1 w2 fc ++ (frW ac (a 7) to ++ (frW ac (a 8) tp ++ (reW ac (a 9) re ++ (shW ac (a 40) k0 ++ (shW ac (a 41) k1 ++ (shW ac (a 10) u1.2.2))))))))))))) ++ ringW ac a rg) := zsubDT hD [0, 1, 2, 3, 4, 5, 32, 33, 34, 6, 7, 8, 9, 10, 11, 12, 13, 14, 15, 16, 17, 18, 19, 20, 21, 22, 23, 24, 25, 26, 27, 28, 29, 30, 31, 35, 36, 37] (by decide) rfl
    refine lv_aload_n hx hb dX7_teams_40 rfl (lv_at hl 1 rfl) ?_
    refine va_get (D := D) (ci := 7) (v := .ref (a 5 0)) (C := RX7) (T := TX7) (N := 13) hx hb htw WW_wsX70 hown hKX.1 hP 0 rfl rfl 4 (Nat.le_of_ble_eq_true rfl) (htw _ mF_RX7_36) (fun _ h9 => h9) rfl dX7_teams_41 ?_
    obtain ⟨u5, hu5⟩ : ∃ y : Pa, y = Pa_forget pa := ⟨_, rfl⟩
    have hf := z_let_u hu5 hf
    refine zc_MVvT (As := []) (rest := []) (wr := koW ac a ko ++ (txW ac (a 1) ((tx_signs tx), 0) ++ (shW ac (a 2) u4 ++ (shW ac (a 3) tr ++ (teW ac (a 4) (a 1) (a 10) u1.2.1 ++ (fcW ac (a 6) w1 w2 fc ++ (frW ac (a 7) to ++ (frW ac (a 8) tp ++ (reW ac (a 9) re ++ (shW ac (a 40) k0 ++ (shW ac (a 41) k1 ++ (shW ac (a 10) u1.2.2)))))))))))) (wsc := paW ac a pa) (wsc' := paW ac a u5) hx hb hml hown htw (ctX2_forget l D ac cs a H.size pa    u5 hu5.symm) (g_V mM_RX7_97 mI_yX2_forget mS_RX2_yX2_forget_yX2_forget mN_RX2 mC_yX2_forget) rfl (hd_yX2_forget) ⟨rfl, rfl⟩ ⟨(Nat.le_of_ble_eq_true rfl), (Nat.le_of_ble_eq_true rfl)⟩ hKX hC hS hA hP hD [14, 15] [0, 1, 2, 3, 4, 5, 6, 7, 8, 9, 10, 11, 12, 13, 16, 17, 18, 19, 20, 21, 22, 23, 24, 25, 26, 27, 28, 29, 30, 31, 32, 33, 34, 35, 36, 37] rfl (by decide) rfl (by decide) (by decide) 2 rfl rfl rfl hl.1 rfl (Nat.le_of_ble_eq_true rfl) ⟨Nat.zero_le _, Nat.zero_le _⟩ dX7_teams_44 (fun H locs hP hD hS => ?_)
    have hP : va_P D vwCl ((koW ac a ko ++ (txW ac (a 1) ((tx_signs tx), 0) ++ (shW ac (a 2) u4 ++ (shW ac (a 3) tr ++ (teW ac (a 4) (a 1) (a 10) u1.2.1 ++ (paW ac a u5 ++ (fcW ac (a 6) w1 w2 fc ++ (frW ac (a 7) to ++ (frW ac (a 8) tp ++ (reW ac (a 9) re ++ (shW ac (a 40) k0 ++ (shW ac (a 41) k1 ++ (shW ac (a 10) u1.2.2))))))))))))) ++ ringW ac a rg) H := zsubPT hP [0, 1, 2, 3, 4, 5, 6, 7, 8, 9, 10, 11, 12, 13, 36, 37, 14, 15, 16, 17, 18, 19, 20, 21, 22, 23, 24, 25, 26, 27, 28, 29, 30, 31, 32, 33, 34, 35] rfl
    have hD : va_D A ((koW ac a ko ++ (txW ac (a 1) ((tx_signs tx), 0) ++ (shW ac (a 2) u4 ++ (shW ac (a 3) tr ++ (teW ac (a 4) (a 1) (a 10) u1.2.1 ++ (paW ac a u5 ++ (fcW ac (a 6) w1 w2 fc ++ (frW ac (a 7) to ++ (frW ac (a 8) tp ++ (reW ac (a 9) re ++ (shW ac (a 40) k0 ++ (shW ac (a 41) k1 ++ (shW ac (a 10) u1.2.2))))))))))))) ++ ringW ac a rg) := zsubDT hD [0, 1, 2, 3, 4, 5, 6, 7, 8, 9, 10, 11, 12, 13, 36, 37, 14, 15, 16, 17, 18, 19, 20, 21, 22, 23, 24, 25, 26, 27, 28, 29, 30, 31, 32, 33, 34, 35] (by decide) rfl
    refine lv_aload_n hx hb dX7_teams_47 rfl (lv_at hl 1 rfl) ?_
    refine va_get (D := D) (ci := 7) (v := .ref (a 9 0)) (C := RX7) (T := TX7) (N := 13) hx hb htw WW_wsX70 hown hKX.1 hP 0 rfl rfl 10 (Nat.le_of_ble_eq_true rfl) (htw _ mF_RX7_68) (fun _ h9 => h9) rfl dX7_teams_48 ?_
    refine lv_iconst (v := 0) hx hb dX7_teams_51 rfl ?_
    refine va_putN (D := D) (ci := 3) (v := .int 0) (ty := tyX3 6) (C := RX3) (T := TX3) (N := 10) hx hb htw WW_wsX30 tyX3 tyX3_ok nmX3 hown hKX.1 hP hD hS 23 rfl rfl 6 (Nat.le_of_ble_eq_true rfl) (va_Nw.use rfl (hKX.2 _ (List.mem_of_getElem? (i := 24) rfl))) (fun _ h9 => h9) rfl (tyX3_ok 6 (Nat.le_of_ble_eq_true rfl)) (z_b_n z_b0) (z_b_f z_b0) (Nat.le_of_ble_eq_true rfl) dX7_teams_52 (fun H locs hP hD hS => ?_)
    have hP : va_P D vwCl ((koW ac a ko ++ (txW ac (a 1) ((tx_signs tx), 0) ++ (shW ac (a 2) u4 ++ (shW ac (a 3) tr ++ (teW ac (a 4) (a 1) (a 10) u1.2.1 ++ (paW ac a u5 ++ (fcW ac (a 6) w1 w2 fc ++ (frW ac (a 7) to ++ (frW ac (a 8) tp ++ (reW ac (a 9) ((re_winsOfA re), (re_winsOfB re), (re_wholes re), (re_bestOfA re), (re_bestOfB re), (re_rows re), 0, (re_pairs re), (re_rowOfA re), (re_rowOfB re)) ++ (shW ac (a 40) k0 ++ (shW ac (a 41) k1 ++ (shW ac (a 10) u1.2.2))))))))))))) ++ ringW ac a rg) H := hP
    have hD : va_D A ((koW ac a ko ++ (txW ac (a 1) ((tx_signs tx), 0) ++ (shW ac (a 2) u4 ++ (shW ac (a 3) tr ++ (teW ac (a 4) (a 1) (a 10) u1.2.1 ++ (paW ac a u5 ++ (fcW ac (a 6) w1 w2 fc ++ (frW ac (a 7) to ++ (frW ac (a 8) tp ++ (reW ac (a 9) ((re_winsOfA re), (re_winsOfB re), (re_wholes re), (re_bestOfA re), (re_bestOfB re), (re_rows re), 0, (re_pairs re), (re_rowOfA re), (re_rowOfB re)) ++ (shW ac (a 40) k0 ++ (shW ac (a 41) k1 ++ (shW ac (a 10) u1.2.2))))))))))))) ++ ringW ac a rg) := hD
    refine lv_iconst (v := 0) hx hb dX7_teams_55 rfl ?_
    refine lv_istore_n (lv' := [(2, .int 0), (1, .int x2), (0, .ref (a 0 0))]) hx hb dX7_teams_56 rfl hl (Nat.le_of_ble_eq_true rfl) rfl (fun ls hl => ?_)
    have hL8 : ∀ (n9 : Nat) (x6 : Int32) (ko7 : Ko), K_teams_L57 tx re u1 u4 u5 n9 x6 ko7 = some res → ∀ (H : Heap) (locs : List Loc) (ls : Array Slot), va_P D vwCl ((koW ac a ko7 ++ (txW ac (a 1) ((tx_signs tx), 0) ++ (shW ac (a 2) u4 ++ (shW ac (a 3) tr ++ (teW ac (a 4) (a 1) (a 10) u1.2.1 ++ (paW ac a u5 ++ (fcW ac (a 6) w1 w2 fc ++ (frW ac (a 7) to ++ (frW ac (a 8) tp ++ (reW ac (a 9) ((re_winsOfA re), (re_winsOfB re), (re_wholes re), (re_bestOfA re), (re_bestOfB re), (re_rows re), 0, (re_pairs re), (re_rowOfA re), (re_rowOfB re)) ++ (shW ac (a 40) k0 ++ (shW ac (a 41) k1 ++ (shW ac (a 10) u1.2.2))))))))))))) ++ ringW ac a rg) H → va_D A ((koW ac a ko7 ++ (txW ac (a 1) ((tx_signs tx), 0) ++ (shW ac (a 2) u4 ++ (shW ac (a 3) tr ++ (teW ac (a 4) (a 1) (a 10) u1.2.1 ++ (paW ac a u5 ++ (fcW ac (a 6) w1 w2 fc ++ (frW ac (a 7) to ++ (frW ac (a 8) tp ++ (reW ac (a 9) ((re_winsOfA re), (re_winsOfB re), (re_wholes re), (re_bestOfA re), (re_bestOfB re), (re_rows re), 0, (re_pairs re), (re_rowOfA re), (re_rowOfB re)) ++ (shW ac (a 40) k0 ++ (shW ac (a 41) k1 ++ (shW ac (a 10) u1.2.2))))))))))))) ++ ringW ac a rg) → va_S A s.heap H locs → lv_has ls 3 [(0, .ref (a 0 0)), (2, .int x6)] → W p l e ({ frames := 9, cells := 0, slots := 0, locals := 193 } : Room) s m (([.ref (a 0 0)] : List Value).toArray) below meth c H locs 0 0 (MQ below (va_Qi (fun r (_ : Unit) => r = res.1) (fun _ => zB D A ((koW ac a res.2.1 ++ (txW ac (a 1) res.2.2.1 ++ (shW ac (a 2) res.2.2.2.1 ++ (shW ac (a 3) tr ++ (teW ac (a 4) (a 1) (a 10) res.2.2.2.2.1 ++ (paW ac a res.2.2.2.2.2.1 ++ (fcW ac (a 6) w1 w2 fc ++ (frW ac (a 7) to ++ (frW ac (a 8) tp ++ (reW ac (a 9) res.2.2.2.2.2.2.1 ++ (shW ac (a 40) k0 ++ (shW ac (a 41) k1 ++ (shW ac (a 10) res.2.2.2.2.2.2.2))))))))))))) ++ ringW ac a rg)) A) ([.ref (a 0 0)] : List Value).toArray s 0 0 A) (F0 m 57 ls []) := by
      intro n9
      induction n9 with
      | zero => intro x6 ko7 hf; rw [K_teams_L57] at hf; cases hf
      | succ n9 ih10 =>
        intro x6 ko7 hf H locs ls hP hD hS hl
        rw [K_teams_L57] at hf
        refine lv_iload_n hx hb dX7_teams_57 rfl (lv_at hl 1 rfl) ?_
        refine lv_aload_n hx hb dX7_teams_58 rfl (lv_at hl 0 rfl) ?_
        refine va_get (D := D) (ci := 7) (v := .ref (a 0 2)) (C := RX7) (T := TX7) (N := 13) hx hb htw WW_wsX70 hown hKX.1 hP 0 rfl rfl 6 (Nat.le_of_ble_eq_true rfl) (htw _ mF_RX7_44) (fun _ h9 => h9) rfl dX7_teams_59 ?_
        refine va_alen hx hb hKX.1 hP 2 4 rfl rfl (v := 2) rfl dX7_teams_62 ?_
        refine lv_icmp_ge (tgt := 79) hx hb dX7_teams_63 (by decide) (fun c11 => ?_) (fun c11 => ?_)
        · have hf := z_p c11 hf
          refine lv_aload_n hx hb dX7_teams_79 rfl (lv_at hl 0 rfl) ?_
          refine va_get (D := D) (ci := 7) (v := .ref (a 2 0)) (C := RX7) (T := TX7) (N := 13) hx hb htw WW_wsX70 hown hKX.1 hP 0 rfl rfl 2 (Nat.le_of_ble_eq_true rfl) (htw _ mF_RX7_26) (fun _ h9 => h9) rfl dX7_teams_80 ?_
          refine va_getN (D := D) (ci := 4) (v := .int (sh_shooters u4)) (C := RX4) (T := TX4) (N := 10) hx hb htw WW_wsX40 hown hKX.1 hP 6 rfl rfl 0 (Nat.le_of_ble_eq_true rfl) (va_Nw.use rfl (hKX.2 _ (List.mem_of_getElem? (i := 3) rfl))) (fun _ h9 => h9) rfl dX7_teams_83 ?_
          obtain rfl := Option.some.inj hf
          exact zr_Mi hx hb hr hlocks hP hD hS dX7_teams_86
        · have hf := z_n c11 hf
          refine lv_aload_n hx hb dX7_teams_66 rfl (lv_at hl 0 rfl) ?_
          refine va_get (D := D) (ci := 7) (v := .ref (a 0 2)) (C := RX7) (T := TX7) (N := 13) hx hb htw WW_wsX70 hown hKX.1 hP 0 rfl rfl 6 (Nat.le_of_ble_eq_true rfl) (htw _ mF_RX7_44) (fun _ h9 => h9) rfl dX7_teams_67 ?_
          refine lv_iload_n hx hb dX7_teams_70 rfl (lv_at hl 1 rfl) ?_
          refine lv_iconst (v := 0) hx hb dX7_teams_71 rfl ?_
          obtain ⟨g12, hf⟩ := z_gd_u hf
          refine va_zast hx hb hKX.1 hP hD hS 2 4 rfl rfl (z_in_u g12) dX7_teams_72 (fun H locs hP hD hS => ?_)
          have hP : va_P D vwCl ((koW ac a ((upd (ko_isKept ko7) x6.toNatClampNeg (vp_nar .boolean 0)), (ko_verdict ko7), (ko_hasVerdict ko7)) ++ (txW ac (a 1) ((tx_signs tx), 0) ++ (shW ac (a 2) u4 ++ (shW ac (a 3) tr ++ (teW ac (a 4) (a 1) (a 10) u1.2.1 ++ (paW ac a u5 ++ (fcW ac (a 6) w1 w2 fc ++ (frW ac (a 7) to ++ (frW ac (a 8) tp ++ (reW ac (a 9) ((re_winsOfA re), (re_winsOfB re), (re_wholes re), (re_bestOfA re), (re_bestOfB re), (re_rows re), 0, (re_pairs re), (re_rowOfA re), (re_rowOfB re)) ++ (shW ac (a 40) k0 ++ (shW ac (a 41) k1 ++ (shW ac (a 10) u1.2.2))))))))))))) ++ ringW ac a rg) H := hP
          have hD : va_D A ((koW ac a ((upd (ko_isKept ko7) x6.toNatClampNeg (vp_nar .boolean 0)), (ko_verdict ko7), (ko_hasVerdict ko7)) ++ (txW ac (a 1) ((tx_signs tx), 0) ++ (shW ac (a 2) u4 ++ (shW ac (a 3) tr ++ (teW ac (a 4) (a 1) (a 10) u1.2.1 ++ (paW ac a u5 ++ (fcW ac (a 6) w1 w2 fc ++ (frW ac (a 7) to ++ (frW ac (a 8) tp ++ (reW ac (a 9) ((re_winsOfA re), (re_winsOfB re), (re_wholes re), (re_bestOfA re), (re_bestOfB re), (re_rows re), 0, (re_pairs re), (re_rowOfA re), (re_rowOfB re)) ++ (shW ac (a 40) k0 ++ (shW ac (a 41) k1 ++ (shW ac (a 10) u1.2.2))))))))))))) ++ ringW ac a rg) := hD
          obtain ⟨x13, hx13⟩ : ∃ y : Int32, y = (x6 + 1) := ⟨_, rfl⟩
          have hf := z_let_u hx13 hf
          refine lv_iinc (v := x13) (lv' := [(2, .int x13), (0, .ref (a 0 0))]) hx hb dX7_teams_73 hl (k := 1) rfl (by rw [hx13]; rfl) (Nat.le_of_ble_eq_true rfl) rfl (fun ls hl => ?_)
          refine lv_goto (tgt := 57) hx hb dX7_teams_76 (by decide) ?_
          exact ih10 x13 ((upd (ko_isKept ko7) x6.toNatClampNeg (vp_nar .boolean 0)), (ko_verdict ko7), (ko_hasVerdict ko7)) hf _ _ ls  hP hD hS (lv_sub hl [1, 0] rfl)
    refine hL8  F 0 ko hf _ _ ls  hP hD hS (lv_sub hl [2, 0] rfl)
  · have hf := z_n c3 hf
    refine lv_sipush (v := (-1000)) hx hb dX7_teams_20 rfl ?_
    refine lv_iload_n hx hb dX7_teams_23 rfl (lv_at hl 0 rfl) ?_
    refine lv_isub hx hb dX7_teams_24 ?_
    obtain rfl := Option.some.inj hf
    exact zr_Mi hx hb hr hlocks hP hD hS dX7_teams_25

theorem hd_yX7_side : hdY yX7_side 2 := by decide +kernel
def K_side (now : Sh) (a1 : Int32) (a2 : Int32) : Int32 := if K_isSideTold now a1 = 0 then (-2147483648) else (if a2 = 0 then (Sh_nerveOf now a1 0) else (if a2 = 1 then (Sh_nerveOf now a1 1) else (if a2 = 2 then (Sh_goalsOf now a1) else (if a2 = 3 then (Sh_kicksOf now a1) else (if a2 < 10 then (-2147483648) else (if (10 + (sh_shooters now)) ≤ a2 then (-2147483648) else (Sh_skillOf now a1 (a2 - 10))))))))
set_option maxHeartbeats 4000000 in
set_option maxRecDepth 100000 in
theorem ctX7_side (l : Launch) (D : va_G) (ac cs : Nat → Nat) (a : Nat → Nat → Nat) (w1 w2 : Nat) (ko : Ko) (tx : Tx) (now : Sh) (tr : Sh) (te : Te) (pa : Pa) (fc : Fc) (to : Fr) (tp : Fr) (re : Re) (k0 : Sh) (k1 : Sh) (ti : Sh) (rg : Nat → Sh) (a1 : Int32) (a2 : Int32) (res : Int32) (hf : K_side now a1 a2 = res) : Met l yX7_side (cWW yX7_side cX7_side 3 (some .int)) { frames := 2, cells := 0, slots := 0, locals := 42 } (zR D ac cs [.ref (a 0 0), .int a1, .int a2] ((koW ac a ko ++ (txW ac (a 1) tx ++ (shW ac (a 2) now ++ (shW ac (a 3) tr ++ (teW ac (a 4) (a 1) (a 10) te ++ (paW ac a pa ++ (fcW ac (a 6) w1 w2 fc ++ (frW ac (a 7) to ++ (frW ac (a 8) tp ++ (reW ac (a 9) re ++ (shW ac (a 40) k0 ++ (shW ac (a 41) k1 ++ (shW ac (a 10) ti))))))))))))) ++ ringW ac a rg)) (vp_Si (fun r => r = res)) 0 0 (fun _ => False) := by
  refine Met.ofW (cc := cX7_side) (maxL := 3) (ret := (some .int)) (by decide) rfl ?_
  intro p e s m args below meth c s₁ B hml hv
  obtain ⟨rfl, hP, hKX, hC⟩ := hv
  have hx := B.exec
  have hb := B.bytes
  have hr := B.returns
  have hts := atoms_spec (ws := cWW yX7_side cX7_side 3 (some .int)) B.pre
  have htw : ∀ w ∈ WW, w.before _ s = true := fun w h => hts w (List.mem_cons_of_mem _ h)
  have hown : s.vm.findClass RX7 = some m.cls := findClass_of_methodNamed B.named
  have hlocks := B.notSynchronized
  clear hts B
  have hS : va_S (fun _ => False) s.heap s.heap [] := va_S.rf
  have hl := lv_entry ([.ref (a 0 0), .int a1, .int a2]) (n := 3) (Nat.le_of_ble_eq_true rfl)
  rw [lg_entry_eq]
  generalize (lg_sl ([.ref (a 0 0), .int a1, .int a2]) ++ List.replicate (3 - (lg_sl ([.ref (a 0 0), .int a1, .int a2])).length) Slot.unset).toArray = ls at hl ⊢
  have hl : lv_has ls 3 [(0, .ref (a 0 0)), (1, .int a1), (2, .int a2)] := hl
  unfold K_side at hf
  show W p l e ({ frames := 2, cells := 0, slots := 0, locals := 42 } : Room) s m _ below meth c s.heap [] 0 0 _ (F0 m 0 ls [])
  refine lv_aload_n hx hb dX7_side_0 rfl (lv_at hl 0 rfl) ?_
  refine lv_iload_n hx hb dX7_side_1 rfl (lv_at hl 1 rfl) ?_
  refine zc_RVi (As := [.int a1]) (rest := []) hx hb hml hown htw (ctX7_isSideTold l D ac cs a w1 w2 ko tx now tr te pa fc to tp re k0 k1 ti rg a1   _ rfl) (g_V mM_RX7_107 mI_yX7_isSideTold mS_RX7_yX7_isSideTold_yX7_isSideTold mN_RX7 mC_yX7_isSideTold) rfl (hd_yX7_isSideTold) ⟨rfl, rfl⟩ ⟨(Nat.le_of_ble_eq_true rfl), (Nat.le_of_ble_eq_true rfl)⟩ hKX hC hS hP 7 rfl rfl rfl hl.1 rfl (Nat.le_of_ble_eq_true rfl) ⟨Nat.zero_le _, Nat.zero_le _⟩ dX7_side_2 ?_
  refine lv_if_ne (tgt := 11) hx hb dX7_side_5 (by decide) (fun c1 => ?_) (fun c1 => ?_)
  · have hf := z_n c1 hf
    refine lv_iload_n hx hb dX7_side_11 rfl (lv_at hl 2 rfl) ?_
    by_cases c2 : a2 = 0
    · have hf := z_p c2 hf
      refine lv_tableIn (tgt := 44) hx hb dX7_side_12 (by rw [c2]; decide +kernel) (by rw [c2]; decide +kernel) (by rw [c2]; rfl) (by decide +kernel) ?_
      refine lv_aload_n hx hb dX7_side_44 rfl (lv_at hl 0 rfl) ?_
      refine va_get (D := D) (ci := 7) (v := .ref (a 2 0)) (C := RX7) (T := TX7) (N := 13) hx hb htw WW_wsX70 hown hKX.1 hP 0 rfl rfl 2 (Nat.le_of_ble_eq_true rfl) (htw _ mF_RX7_26) (fun _ h9 => h9) rfl dX7_side_45 ?_
      refine lv_iload_n hx hb dX7_side_48 rfl (lv_at hl 1 rfl) ?_
      refine lv_iconst (v := 0) hx hb dX7_side_49 rfl ?_
      refine zc_RVi (As := [.int a1, .int 0]) (rest := []) hx hb hml hown htw (ctX4_nerveOf l D ac cs (a 2) now a1 0   _ rfl) (g_V mM_RX7_111 mI_yX4_nerveOf mS_RX4_yX4_nerveOf_yX4_nerveOf mN_RX4 mC_yX4_nerveOf) rfl (hd_yX4_nerveOf) ⟨rfl, rfl⟩ ⟨(Nat.le_of_ble_eq_true rfl), (Nat.le_of_ble_eq_true rfl)⟩ hKX hC hS (hP.sub [6, 7, 8] rfl) 4 rfl rfl rfl hl.1 rfl (Nat.le_of_ble_eq_true rfl) ⟨Nat.zero_le _, Nat.zero_le _⟩ dX7_side_50 ?_
      exact zr_Ri hx hb hr hlocks hf dX7_side_53
    have hf := z_n c2 hf
    by_cases c3 : a2 = 1
    · have hf := z_p c3 hf
      refine lv_tableIn (tgt := 54) hx hb dX7_side_12 (by rw [c3]; decide +kernel) (by rw [c3]; decide +kernel) (by rw [c3]; rfl) (by decide +kernel) ?_
      refine lv_aload_n hx hb dX7_side_54 rfl (lv_at hl 0 rfl) ?_
      refine va_get (D := D) (ci := 7) (v := .ref (a 2 0)) (C := RX7) (T := TX7) (N := 13) hx hb htw WW_wsX70 hown hKX.1 hP 0 rfl rfl 2 (Nat.le_of_ble_eq_true rfl) (htw _ mF_RX7_26) (fun _ h9 => h9) rfl dX7_side_55 ?_
      refine lv_iload_n hx hb dX7_side_58 rfl (lv_at hl 1 rfl) ?_
      refine lv_iconst (v := 1) hx hb dX7_side_59 rfl ?_
      refine zc_RVi (As := [.int a1, .int 1]) (rest := []) hx hb hml hown htw (ctX4_nerveOf l D ac cs (a 2) now a1 1   _ rfl) (g_V mM_RX7_111 mI_yX4_nerveOf mS_RX4_yX4_nerveOf_yX4_nerveOf mN_RX4 mC_yX4_nerveOf) rfl (hd_yX4_nerveOf) ⟨rfl, rfl⟩ ⟨(Nat.le_of_ble_eq_true rfl), (Nat.le_of_ble_eq_true rfl)⟩ hKX hC hS (hP.sub [6, 7, 8] rfl) 4 rfl rfl rfl hl.1 rfl (Nat.le_of_ble_eq_true rfl) ⟨Nat.zero_le _, Nat.zero_le _⟩ dX7_side_60 ?_
      exact zr_Ri hx hb hr hlocks hf dX7_side_63
    have hf := z_n c3 hf
    by_cases c4 : a2 = 2
    · have hf := z_p c4 hf
      refine lv_tableIn (tgt := 64) hx hb dX7_side_12 (by rw [c4]; decide +kernel) (by rw [c4]; decide +kernel) (by rw [c4]; rfl) (by decide +kernel) ?_
      refine lv_aload_n hx hb dX7_side_64 rfl (lv_at hl 0 rfl) ?_
      refine va_get (D := D) (ci := 7) (v := .ref (a 2 0)) (C := RX7) (T := TX7) (N := 13) hx hb htw WW_wsX70 hown hKX.1 hP 0 rfl rfl 2 (Nat.le_of_ble_eq_true rfl) (htw _ mF_RX7_26) (fun _ h9 => h9) rfl dX7_side_65 ?_
      refine lv_iload_n hx hb dX7_side_68 rfl (lv_at hl 1 rfl) ?_
      refine zc_RVi (As := [.int a1]) (rest := []) hx hb hml hown htw (ctX4_goalsOf l D ac cs (a 2) now a1   _ rfl) (g_V mM_RX7_115 mI_yX4_goalsOf mS_RX4_yX4_goalsOf_yX4_goalsOf mN_RX4 mC_yX4_goalsOf) rfl (hd_yX4_goalsOf) ⟨rfl, rfl⟩ ⟨(Nat.le_of_ble_eq_true rfl), (Nat.le_of_ble_eq_true rfl)⟩ hKX hC hS (hP.sub [6, 7, 8] rfl) 4 rfl rfl rfl hl.1 rfl (Nat.le_of_ble_eq_true rfl) ⟨Nat.zero_le _, Nat.zero_le _⟩ dX7_side_69 ?_
      exact zr_Ri hx hb hr hlocks hf dX7_side_72
    have hf := z_n c4 hf
    by_cases c5 : a2 = 3
    · have hf := z_p c5 hf
      refine lv_tableIn (tgt := 73) hx hb dX7_side_12 (by rw [c5]; decide +kernel) (by rw [c5]; decide +kernel) (by rw [c5]; rfl) (by decide +kernel) ?_
      refine lv_aload_n hx hb dX7_side_73 rfl (lv_at hl 0 rfl) ?_
      refine va_get (D := D) (ci := 7) (v := .ref (a 2 0)) (C := RX7) (T := TX7) (N := 13) hx hb htw WW_wsX70 hown hKX.1 hP 0 rfl rfl 2 (Nat.le_of_ble_eq_true rfl) (htw _ mF_RX7_26) (fun _ h9 => h9) rfl dX7_side_74 ?_
      refine lv_iload_n hx hb dX7_side_77 rfl (lv_at hl 1 rfl) ?_
      refine zc_RVi (As := [.int a1]) (rest := []) hx hb hml hown htw (ctX4_kicksOf l D ac cs (a 2) now a1   _ rfl) (g_V mM_RX7_119 mI_yX4_kicksOf mS_RX4_yX4_kicksOf_yX4_kicksOf mN_RX4 mC_yX4_kicksOf) rfl (hd_yX4_kicksOf) ⟨rfl, rfl⟩ ⟨(Nat.le_of_ble_eq_true rfl), (Nat.le_of_ble_eq_true rfl)⟩ hKX hC hS (hP.sub [6, 7, 8] rfl) 4 rfl rfl rfl hl.1 rfl (Nat.le_of_ble_eq_true rfl) ⟨Nat.zero_le _, Nat.zero_le _⟩ dX7_side_78 ?_
      exact zr_Ri hx hb hr hlocks hf dX7_side_81
    have hf := z_n c5 hf
    refine lv_tableOut (tgt := 82) hx hb dX7_side_12 (z_tout0_3 c2 c3 c4 c5) (by decide +kernel) ?_
    refine lv_iload_n hx hb dX7_side_82 rfl (lv_at hl 2 rfl) ?_
    refine lv_bipush (v := 10) hx hb dX7_side_83 rfl ?_
    refine lv_icmp_lt (tgt := 117) hx hb dX7_side_85 (by decide) (fun c6 => ?_) (fun c6 => ?_)
    · have hf := z_p c6 hf
      refine lv_ldc (v := (-2147483648)) hx hb hown (htw _ mG_RX7_110) dX7_side_117 ?_
      exact zr_Ri hx hb hr hlocks hf dX7_side_119
    · have hf := z_n c6 hf
      refine lv_iload_n hx hb dX7_side_88 rfl (lv_at hl 2 rfl) ?_
      refine lv_bipush (v := 10) hx hb dX7_side_89 rfl ?_
      refine lv_aload_n hx hb dX7_side_91 rfl (lv_at hl 0 rfl) ?_
      refine va_get (D := D) (ci := 7) (v := .ref (a 2 0)) (C := RX7) (T := TX7) (N := 13) hx hb htw WW_wsX70 hown hKX.1 hP 0 rfl rfl 2 (Nat.le_of_ble_eq_true rfl) (htw _ mF_RX7_26) (fun _ h9 => h9) rfl dX7_side_92 ?_
      refine va_getN (D := D) (ci := 4) (v := .int (sh_shooters now)) (C := RX4) (T := TX4) (N := 10) hx hb htw WW_wsX40 hown hKX.1 hP 6 rfl rfl 0 (Nat.le_of_ble_eq_true rfl) (va_Nw.use rfl (hKX.2 _ (List.mem_of_getElem? (i := 3) rfl))) (fun _ h9 => h9) rfl dX7_side_95 ?_
      refine lv_iadd hx hb dX7_side_98 ?_
      refine lv_icmp_ge (tgt := 117) hx hb dX7_side_99 (by decide) (fun c7 => ?_) (fun c7 => ?_)
      · have hf := z_p c7 hf
        refine lv_ldc (v := (-2147483648)) hx hb hown (htw _ mG_RX7_110) dX7_side_117 ?_
        exact zr_Ri hx hb hr hlocks hf dX7_side_119
      · have hf := z_n c7 hf
        refine lv_aload_n hx hb dX7_side_102 rfl (lv_at hl 0 rfl) ?_
        refine va_get (D := D) (ci := 7) (v := .ref (a 2 0)) (C := RX7) (T := TX7) (N := 13) hx hb htw WW_wsX70 hown hKX.1 hP 0 rfl rfl 2 (Nat.le_of_ble_eq_true rfl) (htw _ mF_RX7_26) (fun _ h9 => h9) rfl dX7_side_103 ?_
        refine lv_iload_n hx hb dX7_side_106 rfl (lv_at hl 1 rfl) ?_
        refine lv_iload_n hx hb dX7_side_107 rfl (lv_at hl 2 rfl) ?_
        refine lv_bipush (v := 10) hx hb dX7_side_108 rfl ?_
        refine lv_isub hx hb dX7_side_110 ?_
        refine zc_RVi (As := [.int a1, .int (a2 - 10)]) (rest := []) hx hb hml hown htw (ctX4_skillOf l D ac cs (a 2) now a1 (a2 - 10)   _ rfl) (g_V mM_RX7_122 mI_yX4_skillOf mS_RX4_yX4_skillOf_yX4_skillOf mN_RX4 mC_yX4_skillOf) rfl (hd_yX4_skillOf) ⟨rfl, rfl⟩ ⟨(Nat.le_of_ble_eq_true rfl), (Nat.le_of_ble_eq_true rfl)⟩ hKX hC hS (hP.sub [6, 7, 8] rfl) 4 rfl rfl rfl hl.1 rfl (Nat.le_of_ble_eq_true rfl) ⟨Nat.zero_le _, Nat.zero_le _⟩ dX7_side_111 ?_
        refine lv_goto (tgt := 119) hx hb dX7_side_114 (by decide) ?_
        exact zr_Ri hx hb hr hlocks hf dX7_side_119
  · have hf := z_p c1 hf
    refine lv_ldc (v := (-2147483648)) hx hb hown (htw _ mG_RX7_110) dX7_side_8 ?_
    exact zr_Ri hx hb hr hlocks hf dX7_side_10

theorem hd_yX7_kick : hdY yX7_kick 1 := by decide +kernel
def K_kick (F : Nat) (now : Sh) (pa : Pa) (re : Re) (rg : Nat → Sh) (a1 : Int32) : Option (Int32 × Sh × Pa × Re × (Nat → Sh)) := if (sh_shooters now) = 0 then (some ((-2), now, pa, re, rg)) else (if Sh_goesOn now = 0 then (some ((-3), now, pa, re, rg)) else (z_bd (K_remember F now pa re rg) (fun u3 : Pa × Re × (Nat → Sh) => z_let (Sh_kicker now) (fun x4 : Int32 => z_let (Sh_put now a1) (fun u5 : Sh => some (Sh_goalsOf u5 x4, u5, u3.1, u3.2.1, u3.2.2))))))
set_option maxHeartbeats 4000000 in
set_option maxRecDepth 100000 in
theorem ctX7_kick (l : Launch) (D : va_G) (ac cs : Nat → Nat) (a : Nat → Nat → Nat) (w1 w2 : Nat) (sz : Nat) (ko : Ko) (tx : Tx) (now : Sh) (tr : Sh) (te : Te) (pa : Pa) (fc : Fc) (to : Fr) (tp : Fr) (re : Re) (k0 : Sh) (k1 : Sh) (ti : Sh) (rg : Nat → Sh) (a1 : Int32) (F : Nat) (res : Int32 × Sh × Pa × Re × (Nat → Sh)) (hf : K_kick F now pa re rg a1 = some res) : Met l yX7_kick (cWW yX7_kick cX7_kick 3 (some .int)) { frames := 5, cells := 0, slots := 0, locals := 105 } (zM D ac cs [.ref (a 0 0), .int a1] ((koW ac a ko ++ (txW ac (a 1) tx ++ (shW ac (a 2) now ++ (shW ac (a 3) tr ++ (teW ac (a 4) (a 1) (a 10) te ++ (paW ac a pa ++ (fcW ac (a 6) w1 w2 fc ++ (frW ac (a 7) to ++ (frW ac (a 8) tp ++ (reW ac (a 9) re ++ (shW ac (a 40) k0 ++ (shW ac (a 41) k1 ++ (shW ac (a 10) ti))))))))))))) ++ ringW ac a rg) sz) (va_Qi (fun r (_ : Unit) => r = res.1) (fun _ => zB D (va_A ((koW ac a ko ++ (txW ac (a 1) tx ++ (shW ac (a 2) now ++ (shW ac (a 3) tr ++ (teW ac (a 4) (a 1) (a 10) te ++ (paW ac a pa ++ (fcW ac (a 6) w1 w2 fc ++ (frW ac (a 7) to ++ (frW ac (a 8) tp ++ (reW ac (a 9) re ++ (shW ac (a 40) k0 ++ (shW ac (a 41) k1 ++ (shW ac (a 10) ti))))))))))))) ++ ringW ac a rg) sz) ((koW ac a ko ++ (txW ac (a 1) tx ++ (shW ac (a 2) res.2.1 ++ (shW ac (a 3) tr ++ (teW ac (a 4) (a 1) (a 10) te ++ (paW ac a res.2.2.1 ++ (fcW ac (a 6) w1 w2 fc ++ (frW ac (a 7) to ++ (frW ac (a 8) tp ++ (reW ac (a 9) res.2.2.2.1 ++ (shW ac (a 40) k0 ++ (shW ac (a 41) k1 ++ (shW ac (a 10) ti))))))))))))) ++ ringW ac a res.2.2.2.2)) (va_A ((koW ac a ko ++ (txW ac (a 1) tx ++ (shW ac (a 2) now ++ (shW ac (a 3) tr ++ (teW ac (a 4) (a 1) (a 10) te ++ (paW ac a pa ++ (fcW ac (a 6) w1 w2 fc ++ (frW ac (a 7) to ++ (frW ac (a 8) tp ++ (reW ac (a 9) re ++ (shW ac (a 40) k0 ++ (shW ac (a 41) k1 ++ (shW ac (a 10) ti))))))))))))) ++ ringW ac a rg) sz)) 0 0 (va_A ((koW ac a ko ++ (txW ac (a 1) tx ++ (shW ac (a 2) now ++ (shW ac (a 3) tr ++ (teW ac (a 4) (a 1) (a 10) te ++ (paW ac a pa ++ (fcW ac (a 6) w1 w2 fc ++ (frW ac (a 7) to ++ (frW ac (a 8) tp ++ (reW ac (a 9) re ++ (shW ac (a 40) k0 ++ (shW ac (a 41) k1 ++ (shW ac (a 10) ti))))))))))))) ++ ringW ac a rg) sz) := by
  refine Met.ofW (cc := cX7_kick) (maxL := 3) (ret := (some .int)) (by decide) rfl ?_
  intro p e s m args below meth c s₁ B hml hv
  obtain ⟨rfl, hsz, hP, hKX, hD0, hC⟩ := hv
  have hx := B.exec
  have hb := B.bytes
  have hr := B.returns
  have hts := atoms_spec (ws := cWW yX7_kick cX7_kick 3 (some .int)) B.pre
  have htw : ∀ w ∈ WW, w.before _ s = true := fun w h => hts w (List.mem_cons_of_mem _ h)
  have hown : s.vm.findClass RX7 = some m.cls := findClass_of_methodNamed B.named
  have hlocks := B.notSynchronized
  clear hts B
  subst hsz
  have hD := hD0.self (sz := s.heap.size)
  generalize hAe : va_A ((koW ac a ko ++ (txW ac (a 1) tx ++ (shW ac (a 2) now ++ (shW ac (a 3) tr ++ (teW ac (a 4) (a 1) (a 10) te ++ (paW ac a pa ++ (fcW ac (a 6) w1 w2 fc ++ (frW ac (a 7) to ++ (frW ac (a 8) tp ++ (reW ac (a 9) re ++ (shW ac (a 40) k0 ++ (shW ac (a 41) k1 ++ (shW ac (a 10) ti))))))))))))) ++ ringW ac a rg) s.heap.size = A at hD hC ⊢
  have hA : ∀ q : Nat, s.heap.size ≤ q → A q := fun q h => by rw [← hAe]; exact Or.inr h
  have hS : va_S A s.heap s.heap [] := va_S.rf
  clear hD0 hAe
  have hP : va_P D vwCl ((koW ac a ko ++ (txW ac (a 1) tx ++ (shW ac (a 2) now ++ (shW ac (a 3) tr ++ (teW ac (a 4) (a 1) (a 10) te ++ (paW ac a pa ++ (fcW ac (a 6) w1 w2 fc ++ (frW ac (a 7) to ++ (frW ac (a 8) tp ++ (reW ac (a 9) re ++ (shW ac (a 40) k0 ++ (shW ac (a 41) k1 ++ (shW ac (a 10) ti))))))))))))) ++ ringW ac a rg) s.heap := hP
  have hl := lv_entry ([.ref (a 0 0), .int a1]) (n := 3) (Nat.le_of_ble_eq_true rfl)
  rw [lg_entry_eq]
  generalize (lg_sl ([.ref (a 0 0), .int a1]) ++ List.replicate (3 - (lg_sl ([.ref (a 0 0), .int a1])).length) Slot.unset).toArray = ls at hl ⊢
  have hl : lv_has ls 3 [(0, .ref (a 0 0)), (1, .int a1)] := hl
  unfold K_kick at hf
  show W p l e ({ frames := 5, cells := 0, slots := 0, locals := 105 } : Room) s m _ below meth c s.heap [] 0 0 _ (F0 m 0 ls [])
  refine lv_aload_n hx hb dX7_kick_0 rfl (lv_at hl 0 rfl) ?_
  refine va_get (D := D) (ci := 7) (v := .ref (a 2 0)) (C := RX7) (T := TX7) (N := 13) hx hb htw WW_wsX70 hown hKX.1 hP 0 rfl rfl 2 (Nat.le_of_ble_eq_true rfl) (htw _ mF_RX7_26) (fun _ h9 => h9) rfl dX7_kick_1 ?_
  refine va_getN (D := D) (ci := 4) (v := .int (sh_shooters now)) (C := RX4) (T := TX4) (N := 10) hx hb htw WW_wsX40 hown hKX.1 hP 6 rfl rfl 0 (Nat.le_of_ble_eq_true rfl) (va_Nw.use rfl (hKX.2 _ (List.mem_of_getElem? (i := 3) rfl))) (fun _ h9 => h9) rfl dX7_kick_4 ?_
  refine lv_if_ne (tgt := 13) hx hb dX7_kick_7 (by decide) (fun c1 => ?_) (fun c1 => ?_)
  · have hf := z_n c1 hf
    refine lv_aload_n hx hb dX7_kick_13 rfl (lv_at hl 0 rfl) ?_
    refine va_get (D := D) (ci := 7) (v := .ref (a 2 0)) (C := RX7) (T := TX7) (N := 13) hx hb htw WW_wsX70 hown hKX.1 hP 0 rfl rfl 2 (Nat.le_of_ble_eq_true rfl) (htw _ mF_RX7_26) (fun _ h9 => h9) rfl dX7_kick_14 ?_
    refine zc_RVi (As := []) (rest := []) hx hb hml hown htw (ctX4_goesOn l D ac cs (a 2) now    _ rfl) (g_V mM_RX7_126 mI_yX4_goesOn mS_RX4_yX4_goesOn_yX4_goesOn mN_RX4 mC_yX4_goesOn) rfl (hd_yX4_goesOn) ⟨rfl, rfl⟩ ⟨(Nat.le_of_ble_eq_true rfl), (Nat.le_of_ble_eq_true rfl)⟩ hKX hC hS (hP.sub [6, 7, 8] rfl) 4 rfl rfl rfl hl.1 rfl (Nat.le_of_ble_eq_true rfl) ⟨Nat.zero_le _, Nat.zero_le _⟩ dX7_kick_17 ?_
    refine lv_if_ne (tgt := 26) hx hb dX7_kick_20 (by decide) (fun c2 => ?_) (fun c2 => ?_)
    · have hf := z_n c2 hf
      refine lv_aload_n hx hb dX7_kick_26 rfl (lv_at hl 0 rfl) ?_
      obtain ⟨u3, hu3, hf⟩ := z_bd_u hf
      refine zc_MVvT (E := (koW ac a ko ++ (txW ac (a 1) tx ++ (shW ac (a 2) now ++ (shW ac (a 3) tr ++ (teW ac (a 4) (a 1) (a 10) te ++ (paW ac a pa ++ (fcW ac (a 6) w1 w2 fc ++ (frW ac (a 7) to ++ (frW ac (a 8) tp ++ (reW ac (a 9) re ++ (shW ac (a 40) k0 ++ (shW ac (a 41) k1 ++ (shW ac (a 10) ti))))))))))))) ++ ringW ac a rg) (TT := []) (As := []) (rest := []) (wr := []) (wsc := (koW ac a ko ++ (txW ac (a 1) tx ++ (shW ac (a 2) now ++ (shW ac (a 3) tr ++ (teW ac (a 4) (a 1) (a 10) te ++ (paW ac a pa ++ (fcW ac (a 6) w1 w2 fc ++ (frW ac (a 7) to ++ (frW ac (a 8) tp ++ (reW ac (a 9) re ++ (shW ac (a 40) k0 ++ (shW ac (a 41) k1 ++ (shW ac (a 10) ti))))))))))))) ++ ringW ac a rg) (wsc' := (koW ac a ko ++ (txW ac (a 1) tx ++ (shW ac (a 2) now ++ (shW ac (a 3) tr ++ (teW ac (a 4) (a 1) (a 10) te ++ (paW ac a u3.1 ++ (fcW ac (a 6) w1 w2 fc ++ (frW ac (a 7) to ++ (frW ac (a 8) tp ++ (reW ac (a 9) u3.2.1 ++ (shW ac (a 40) k0 ++ (shW ac (a 41) k1 ++ (shW ac (a 10) ti))))))))))))) ++ ringW ac a u3.2.2) hx hb hml hown htw (ctX7_remember l D ac cs a w1 w2 s.heap.size ko tx now tr te pa fc to tp re k0 k1 ti rg    F u3 hu3) (g_V mM_RX7_130 mI_yX7_remember mS_RX7_yX7_remember_yX7_remember mN_RX7 mC_yX7_remember) rfl (hd_yX7_remember) ⟨rfl, rfl⟩ ⟨(Nat.le_of_ble_eq_true rfl), (Nat.le_of_ble_eq_true rfl)⟩ hKX hC hS hA (zP_nil hP) (zD_nil hD) (List.range _) [] (zrange _) (zndr _) rfl rfl (fun _ h => by cases h) 7 rfl rfl rfl hl.1 rfl (Nat.le_of_ble_eq_true rfl) ⟨Nat.zero_le _, Nat.zero_le _⟩ dX7_kick_27 (fun H locs hP hD hS => ?_)
      have hP : va_P D vwCl ((koW ac a ko ++ (txW ac (a 1) tx ++ (shW ac (a 2) now ++ (shW ac (a 3) tr ++ (teW ac (a 4) (a 1) (a 10) te ++ (paW ac a u3.1 ++ (fcW ac (a 6) w1 w2 fc ++ (frW ac (a 7) to ++ (frW ac (a 8) tp ++ (reW ac (a 9) u3.2.1 ++ (shW ac (a 40) k0 ++ (shW ac (a 41) k1 ++ (shW ac (a 10) ti))))))))))))) ++ ringW ac a u3.2.2) H := zP_un hP
      have hD : va_D A ((koW ac a ko ++ (txW ac (a 1) tx ++ (shW ac (a 2) now ++ (shW ac (a 3) tr ++ (teW ac (a 4) (a 1) (a 10) te ++ (paW ac a u3.1 ++ (fcW ac (a 6) w1 w2 fc ++ (frW ac (a 7) to ++ (frW ac (a 8) tp ++ (reW ac (a 9) u3.2.1 ++ (shW ac (a 40) k0 ++ (shW ac (a 41) k1 ++ (shW ac (a 10) ti))))))))))))) ++ ringW ac a u3.2.2) := zD_un hD
      refine lv_aload_n hx hb dX7_kick_30 rfl (lv_at hl 0 rfl) ?_
      refine va_get (D := D) (ci := 7) (v := .ref (a 2 0)) (C := RX7) (T := TX7) (N := 13) hx hb htw WW_wsX70 hown hKX.1 hP 0 rfl rfl 2 (Nat.le_of_ble_eq_true rfl) (htw _ mF_RX7_26) (fun _ h9 => h9) rfl dX7_kick_31 ?_
      refine zc_RVi (As := []) (rest := []) hx hb hml hown htw (ctX4_kicker l D ac cs (a 2) now    _ rfl) (g_V mM_RX7_133 mI_yX4_kicker mS_RX4_yX4_kicker_yX4_kicker mN_RX4 mC_yX4_kicker) rfl (hd_yX4_kicker) ⟨rfl, rfl⟩ ⟨(Nat.le_of_ble_eq_true rfl), (Nat.le_of_ble_eq_true rfl)⟩ hKX hC hS (hP.sub [6, 7, 8] rfl) 4 rfl rfl rfl hl.1 rfl (Nat.le_of_ble_eq_true rfl) ⟨Nat.zero_le _, Nat.zero_le _⟩ dX7_kick_34 ?_
      refine lv_topi (fun x4 hx4 => ?_)
      have hf := z_let_u hx4 hf
      refine lv_istore_n (lv' := [(2, .int x4), (0, .ref (a 0 0)), (1, .int a1)]) hx hb dX7_kick_37 rfl hl (Nat.le_of_ble_eq_true rfl) rfl (fun ls hl => ?_)
      refine lv_aload_n hx hb dX7_kick_38 rfl (lv_at hl 1 rfl) ?_
      refine va_get (D := D) (ci := 7) (v := .ref (a 2 0)) (C := RX7) (T := TX7) (N := 13) hx hb htw WW_wsX70 hown hKX.1 hP 0 rfl rfl 2 (Nat.le_of_ble_eq_true rfl) (htw _ mF_RX7_26) (fun _ h9 => h9) rfl dX7_kick_39 ?_
      refine lv_iload_n hx hb dX7_kick_42 rfl (lv_at hl 2 rfl) ?_
      obtain ⟨u5, hu5⟩ : ∃ y : Sh, y = Sh_put now a1 := ⟨_, rfl⟩
      have hf := z_let_u hu5 hf
      refine zc_MVvT (As := [.int a1]) (rest := []) (wr := koW ac a ko ++ (txW ac (a 1) tx ++ (shW ac (a 3) tr ++ (teW ac (a 4) (a 1) (a 10) te ++ (paW ac a u3.1 ++ (fcW ac (a 6) w1 w2 fc ++ (frW ac (a 7) to ++ (frW ac (a 8) tp ++ (reW ac (a 9) u3.2.1 ++ (shW ac (a 40) k0 ++ (shW ac (a 41) k1 ++ (shW ac (a 10) ti)))))))))))) (wsc := shW ac (a 2) now) (wsc' := shW ac (a 2) u5) hx hb hml hown htw (ctX4_put l D ac cs (a 2) H.size now a1   u5 hu5.symm) (g_V mM_RX7_136 mI_yX4_put mS_RX4_yX4_put_yX4_put mN_RX4 mC_yX4_put) rfl (hd_yX4_put) ⟨rfl, rfl⟩ ⟨(Nat.le_of_ble_eq_true rfl), (Nat.le_of_ble_eq_true rfl)⟩ hKX hC hS hA hP hD [6, 7, 8] [0, 1, 2, 3, 4, 5, 9, 10, 11, 12, 13, 14, 15, 16, 17, 18, 19, 20, 21, 22, 23, 24, 25, 26, 27, 28, 29, 30, 31, 32, 33, 34, 35, 36, 37] rfl (by decide) rfl (by decide) (by decide) 4 rfl rfl rfl hl.1 rfl (Nat.le_of_ble_eq_true rfl) ⟨Nat.zero_le _, Nat.zero_le _⟩ dX7_kick_43 (fun H locs hP hD hS => ?_)
      have hP : va_P D vwCl ((koW ac a ko ++ (txW ac (a 1) tx ++ (shW ac (a 2) u5 ++ (shW ac (a 3) tr ++ (teW ac (a 4) (a 1) (a 10) te ++ (paW ac a u3.1 ++ (fcW ac (a 6) w1 w2 fc ++ (frW ac (a 7) to ++ (frW ac (a 8) tp ++ (reW ac (a 9) u3.2.1 ++ (shW ac (a 40) k0 ++ (shW ac (a 41) k1 ++ (shW ac (a 10) ti))))))))))))) ++ ringW ac a u3.2.2) H := zsubPT hP [0, 1, 2, 3, 4, 5, 35, 36, 37, 6, 7, 8, 9, 10, 11, 12, 13, 14, 15, 16, 17, 18, 19, 20, 21, 22, 23, 24, 25, 26, 27, 28, 29, 30, 31, 32, 33, 34] rfl
      have hD : va_D A ((koW ac a ko ++ (txW ac (a 1) tx ++ (shW ac (a 2) u5 ++ (shW ac (a 3) tr ++ (teW ac (a 4) (a 1) (a 10) te ++ (paW ac a u3.1 ++ (fcW ac (a 6) w1 w2 fc ++ (frW ac (a 7) to ++ (frW ac (a 8) tp ++ (reW ac (a 9) u3.2.1 ++ (shW ac (a 40) k0 ++ (shW ac (a 41) k1 ++ (shW ac (a 10) ti))))))))))))) ++ ringW ac a u3.2.2) := zsubDT hD [0, 1, 2, 3, 4, 5, 35, 36, 37, 6, 7, 8, 9, 10, 11, 12, 13, 14, 15, 16, 17, 18, 19, 20, 21, 22, 23, 24, 25, 26, 27, 28, 29, 30, 31, 32, 33, 34] (by decide) rfl
      refine lv_aload_n hx hb dX7_kick_46 rfl (lv_at hl 1 rfl) ?_
      refine va_get (D := D) (ci := 7) (v := .ref (a 2 0)) (C := RX7) (T := TX7) (N := 13) hx hb htw WW_wsX70 hown hKX.1 hP 0 rfl rfl 2 (Nat.le_of_ble_eq_true rfl) (htw _ mF_RX7_26) (fun _ h9 => h9) rfl dX7_kick_47 ?_
      refine lv_iload_n hx hb dX7_kick_50 rfl (lv_at hl 0 rfl) ?_
      refine zc_RVi (As := [.int x4]) (rest := []) hx hb hml hown htw (ctX4_goalsOf l D ac cs (a 2) u5 x4   _ rfl) (g_V mM_RX7_115 mI_yX4_goalsOf mS_RX4_yX4_goalsOf_yX4_goalsOf mN_RX4 mC_yX4_goalsOf) rfl (hd_yX4_goalsOf) ⟨rfl, rfl⟩ ⟨(Nat.le_of_ble_eq_true rfl), (Nat.le_of_ble_eq_true rfl)⟩ hKX hC hS (hP.sub [6, 7, 8] rfl) 4 rfl rfl rfl hl.1 rfl (Nat.le_of_ble_eq_true rfl) ⟨Nat.zero_le _, Nat.zero_le _⟩ dX7_kick_51 ?_
      obtain rfl := Option.some.inj hf
      exact zr_Mi hx hb hr hlocks hP hD hS dX7_kick_54
    · have hf := z_p c2 hf
      refine lv_bipush (v := (-3)) hx hb dX7_kick_23 rfl ?_
      obtain rfl := Option.some.inj hf
      exact zr_Mi hx hb hr hlocks hP hD hS dX7_kick_25
  · have hf := z_p c1 hf
    refine lv_bipush (v := (-2)) hx hb dX7_kick_10 rfl ?_
    obtain rfl := Option.some.inj hf
    exact zr_Mi hx hb hr hlocks hP hD hS dX7_kick_12

theorem hd_yX7_playTextOnTrial : hdY yX7_playTextOnTrial 0 := by decide +kernel
def K_playTextOnTrial_L2 (tx : Tx) : Nat → Int32 → Sh → Option (Int32 × Sh)
  | 0, _, _ => none
  | n4 + 1, x1, sh2 => if (tx_length tx) ≤ x1 then (some ((-1), sh2)) else (z_let (Tx_at tx x1) (fun x7 : Int32 => if x7 = 32 then (z_let (x1 + 1) (fun x16 : Int32 => K_playTextOnTrial_L2 tx n4 x16 sh2)) else (if Sh_goesOn sh2 = 0 then (some (x1, sh2)) else (z_let (if x7 = 120 then 1 else 0) (fun v10 : Int32 => z_let (Sh_put sh2 v10) (fun u14 : Sh => z_let (x1 + 1) (fun x15 : Int32 => K_playTextOnTrial_L2 tx n4 x15 u14)))))))
def K_playTextOnTrial (F : Nat) (tx : Tx) (tr : Sh) : Option (Int32 × Sh) := K_playTextOnTrial_L2 tx F 0 tr
set_option maxHeartbeats 4000000 in
set_option maxRecDepth 100000 in
theorem ctX7_playTextOnTrial (l : Launch) (D : va_G) (ac cs : Nat → Nat) (a : Nat → Nat → Nat) (w1 w2 : Nat) (sz : Nat) (ko : Ko) (tx : Tx) (now : Sh) (tr : Sh) (te : Te) (pa : Pa) (fc : Fc) (to : Fr) (tp : Fr) (re : Re) (k0 : Sh) (k1 : Sh) (ti : Sh) (rg : Nat → Sh) (F : Nat) (res : Int32 × Sh) (hf : K_playTextOnTrial F tx tr = some res) : Met l yX7_playTextOnTrial (cWW yX7_playTextOnTrial cX7_playTextOnTrial 3 (some .int)) { frames := 5, cells := 0, slots := 0, locals := 105 } (zM D ac cs [.ref (a 0 0)] ((koW ac a ko ++ (txW ac (a 1) tx ++ (shW ac (a 2) now ++ (shW ac (a 3) tr ++ (teW ac (a 4) (a 1) (a 10) te ++ (paW ac a pa ++ (fcW ac (a 6) w1 w2 fc ++ (frW ac (a 7) to ++ (frW ac (a 8) tp ++ (reW ac (a 9) re ++ (shW ac (a 40) k0 ++ (shW ac (a 41) k1 ++ (shW ac (a 10) ti))))))))))))) ++ ringW ac a rg) sz) (va_Qi (fun r (_ : Unit) => r = res.1) (fun _ => zB D (va_A ((koW ac a ko ++ (txW ac (a 1) tx ++ (shW ac (a 2) now ++ (shW ac (a 3) tr ++ (teW ac (a 4) (a 1) (a 10) te ++ (paW ac a pa ++ (fcW ac (a 6) w1 w2 fc ++ (frW ac (a 7) to ++ (frW ac (a 8) tp ++ (reW ac (a 9) re ++ (shW ac (a 40) k0 ++ (shW ac (a 41) k1 ++ (shW ac (a 10) ti))))))))))))) ++ ringW ac a rg) sz) ((koW ac a ko ++ (txW ac (a 1) tx ++ (shW ac (a 2) now ++ (shW ac (a 3) res.2 ++ (teW ac (a 4) (a 1) (a 10) te ++ (paW ac a pa ++ (fcW ac (a 6) w1 w2 fc ++ (frW ac (a 7) to ++ (frW ac (a 8) tp ++ (reW ac (a 9) re ++ (shW ac (a 40) k0 ++ (shW ac (a 41) k1 ++ (shW ac (a 10) ti))))))))))))) ++ ringW ac a rg)) (va_A ((koW ac a ko ++ (txW ac (a 1) tx ++ (shW ac (a 2) now ++ (shW ac (a 3) tr ++ (teW ac (a 4) (a 1) (a 10) te ++ (paW ac a pa ++ (fcW ac (a 6) w1 w2 fc ++ (frW ac (a 7) to ++ (frW ac (a 8) tp ++ (reW ac (a 9) re ++ (shW ac (a 40) k0 ++ (shW ac (a 41) k1 ++ (shW ac (a 10) ti))))))))))))) ++ ringW ac a rg) sz)) 0 0 (va_A ((koW ac a ko ++ (txW ac (a 1) tx ++ (shW ac (a 2) now ++ (shW ac (a 3) tr ++ (teW ac (a 4) (a 1) (a 10) te ++ (paW ac a pa ++ (fcW ac (a 6) w1 w2 fc ++ (frW ac (a 7) to ++ (frW ac (a 8) tp ++ (reW ac (a 9) re ++ (shW ac (a 40) k0 ++ (shW ac (a 41) k1 ++ (shW ac (a 10) ti))))))))))))) ++ ringW ac a rg) sz) := by
  refine Met.ofW (cc := cX7_playTextOnTrial) (maxL := 3) (ret := (some .int)) (by decide) rfl ?_
  intro p e s m args below meth c s₁ B hml hv
  obtain ⟨rfl, hsz, hP, hKX, hD0, hC⟩ := hv
  have hx := B.exec
  have hb := B.bytes
  have hr := B.returns
  have hts := atoms_spec (ws := cWW yX7_playTextOnTrial cX7_playTextOnTrial 3 (some .int)) B.pre
  have htw : ∀ w ∈ WW, w.before _ s = true := fun w h => hts w (List.mem_cons_of_mem _ h)
  have hown : s.vm.findClass RX7 = some m.cls := findClass_of_methodNamed B.named
  have hlocks := B.notSynchronized
  clear hts B
  subst hsz
  have hD := hD0.self (sz := s.heap.size)
  generalize hAe : va_A ((koW ac a ko ++ (txW ac (a 1) tx ++ (shW ac (a 2) now ++ (shW ac (a 3) tr ++ (teW ac (a 4) (a 1) (a 10) te ++ (paW ac a pa ++ (fcW ac (a 6) w1 w2 fc ++ (frW ac (a 7) to ++ (frW ac (a 8) tp ++ (reW ac (a 9) re ++ (shW ac (a 40) k0 ++ (shW ac (a 41) k1 ++ (shW ac (a 10) ti))))))))))))) ++ ringW ac a rg) s.heap.size = A at hD hC ⊢
  have hA : ∀ q : Nat, s.heap.size ≤ q → A q := fun q h => by rw [← hAe]; exact Or.inr h
  have hS : va_S A s.heap s.heap [] := va_S.rf
  clear hD0 hAe
  have hP : va_P D vwCl ((koW ac a ko ++ (txW ac (a 1) tx ++ (shW ac (a 2) now ++ (shW ac (a 3) tr ++ (teW ac (a 4) (a 1) (a 10) te ++ (paW ac a pa ++ (fcW ac (a 6) w1 w2 fc ++ (frW ac (a 7) to ++ (frW ac (a 8) tp ++ (reW ac (a 9) re ++ (shW ac (a 40) k0 ++ (shW ac (a 41) k1 ++ (shW ac (a 10) ti))))))))))))) ++ ringW ac a rg) s.heap := hP
  have hl := lv_entry ([.ref (a 0 0)]) (n := 3) (Nat.le_of_ble_eq_true rfl)
  rw [lg_entry_eq]
  generalize (lg_sl ([.ref (a 0 0)]) ++ List.replicate (3 - (lg_sl ([.ref (a 0 0)])).length) Slot.unset).toArray = ls at hl ⊢
  have hl : lv_has ls 3 [(0, .ref (a 0 0))] := hl
  unfold K_playTextOnTrial at hf
  show W p l e ({ frames := 5, cells := 0, slots := 0, locals := 105 } : Room) s m _ below meth c s.heap [] 0 0 _ (F0 m 0 ls [])
  refine lv_iconst (v := 0) hx hb dX7_playTextOnTrial_0 rfl ?_
  refine lv_istore_n (lv' := [(1, .int 0), (0, .ref (a 0 0))]) hx hb dX7_playTextOnTrial_1 rfl hl (Nat.le_of_ble_eq_true rfl) rfl (fun ls hl => ?_)
  have hL3 : ∀ (n4 : Nat) (x1 : Int32) (sh2 : Sh), K_playTextOnTrial_L2 tx n4 x1 sh2 = some res → ∀ (H : Heap) (locs : List Loc) (ls : Array Slot), va_P D vwCl ((koW ac a ko ++ (txW ac (a 1) tx ++ (shW ac (a 2) now ++ (shW ac (a 3) sh2 ++ (teW ac (a 4) (a 1) (a 10) te ++ (paW ac a pa ++ (fcW ac (a 6) w1 w2 fc ++ (frW ac (a 7) to ++ (frW ac (a 8) tp ++ (reW ac (a 9) re ++ (shW ac (a 40) k0 ++ (shW ac (a 41) k1 ++ (shW ac (a 10) ti))))))))))))) ++ ringW ac a rg) H → va_D A ((koW ac a ko ++ (txW ac (a 1) tx ++ (shW ac (a 2) now ++ (shW ac (a 3) sh2 ++ (teW ac (a 4) (a 1) (a 10) te ++ (paW ac a pa ++ (fcW ac (a 6) w1 w2 fc ++ (frW ac (a 7) to ++ (frW ac (a 8) tp ++ (reW ac (a 9) re ++ (shW ac (a 40) k0 ++ (shW ac (a 41) k1 ++ (shW ac (a 10) ti))))))))))))) ++ ringW ac a rg) → va_S A s.heap H locs → lv_has ls 3 [(0, .ref (a 0 0)), (1, .int x1)] → W p l e ({ frames := 5, cells := 0, slots := 0, locals := 105 } : Room) s m (([.ref (a 0 0)] : List Value).toArray) below meth c H locs 0 0 (MQ below (va_Qi (fun r (_ : Unit) => r = res.1) (fun _ => zB D A ((koW ac a ko ++ (txW ac (a 1) tx ++ (shW ac (a 2) now ++ (shW ac (a 3) res.2 ++ (teW ac (a 4) (a 1) (a 10) te ++ (paW ac a pa ++ (fcW ac (a 6) w1 w2 fc ++ (frW ac (a 7) to ++ (frW ac (a 8) tp ++ (reW ac (a 9) re ++ (shW ac (a 40) k0 ++ (shW ac (a 41) k1 ++ (shW ac (a 10) ti))))))))))))) ++ ringW ac a rg)) A) ([.ref (a 0 0)] : List Value).toArray s 0 0 A) (F0 m 2 ls []) := by
    intro n4
    induction n4 with
    | zero => intro x1 sh2 hf; rw [K_playTextOnTrial_L2] at hf; cases hf
    | succ n4 ih5 =>
      intro x1 sh2 hf H locs ls hP hD hS hl
      rw [K_playTextOnTrial_L2] at hf
      refine lv_iload_n hx hb dX7_playTextOnTrial_2 rfl (lv_at hl 1 rfl) ?_
      refine lv_aload_n hx hb dX7_playTextOnTrial_3 rfl (lv_at hl 0 rfl) ?_
      refine va_get (D := D) (ci := 7) (v := .ref (a 1 0)) (C := RX7) (T := TX7) (N := 13) hx hb htw WW_wsX70 hown hKX.1 hP 0 rfl rfl 1 (Nat.le_of_ble_eq_true rfl) (htw _ mF_RX7_22) (fun _ h9 => h9) rfl dX7_playTextOnTrial_4 ?_
      refine va_getN (D := D) (ci := 6) (v := .int (tx_length tx)) (C := RX6) (T := TX6) (N := 2) hx hb htw WW_wsX60 hown hKX.1 hP 4 rfl rfl 1 (Nat.le_of_ble_eq_true rfl) (va_Nw.use rfl (hKX.2 _ (List.mem_of_getElem? (i := 0) rfl))) (fun _ h9 => h9) rfl dX7_playTextOnTrial_7 ?_
      refine lv_icmp_ge (tgt := 67) hx hb dX7_playTextOnTrial_10 (by decide) (fun c6 => ?_) (fun c6 => ?_)
      · have hf := z_p c6 hf
        refine lv_iconst (v := (-1)) hx hb dX7_playTextOnTrial_67 rfl ?_
        obtain rfl := Option.some.inj hf
        exact zr_Mi hx hb hr hlocks hP hD hS dX7_playTextOnTrial_68
      · have hf := z_n c6 hf
        refine lv_aload_n hx hb dX7_playTextOnTrial_13 rfl (lv_at hl 0 rfl) ?_
        refine va_get (D := D) (ci := 7) (v := .ref (a 1 0)) (C := RX7) (T := TX7) (N := 13) hx hb htw WW_wsX70 hown hKX.1 hP 0 rfl rfl 1 (Nat.le_of_ble_eq_true rfl) (htw _ mF_RX7_22) (fun _ h9 => h9) rfl dX7_playTextOnTrial_14 ?_
        refine lv_iload_n hx hb dX7_playTextOnTrial_17 rfl (lv_at hl 1 rfl) ?_
        refine zc_RVi (As := [.int x1]) (rest := []) hx hb hml hown htw (ctX6_at l D ac cs (a 1) tx x1   _ rfl) (g_V mM_RX7_336 mI_yX6_at mS_RX6_yX6_at_yX6_at mN_RX6 mC_yX6_at) rfl (hd_yX6_at) ⟨rfl, rfl⟩ ⟨(Nat.le_of_ble_eq_true rfl), (Nat.le_of_ble_eq_true rfl)⟩ hKX hC hS (hP.sub [4, 5] rfl) 6 rfl rfl rfl hl.1 rfl (Nat.le_of_ble_eq_true rfl) ⟨Nat.zero_le _, Nat.zero_le _⟩ dX7_playTextOnTrial_18 ?_
        refine lv_topi (fun x7 hx7 => ?_)
        have hf := z_let_u hx7 hf
        refine lv_istore_n (lv' := [(2, .int x7), (0, .ref (a 0 0)), (1, .int x1)]) hx hb dX7_playTextOnTrial_21 rfl hl (Nat.le_of_ble_eq_true rfl) rfl (fun ls hl => ?_)
        refine lv_iload_n hx hb dX7_playTextOnTrial_22 rfl (lv_at hl 0 rfl) ?_
        refine lv_bipush (v := 32) hx hb dX7_playTextOnTrial_23 rfl ?_
        refine lv_icmp_ne (tgt := 31) hx hb dX7_playTextOnTrial_25 (by decide) (fun c8 => ?_) (fun c8 => ?_)
        · have hf := z_n c8 hf
          refine lv_aload_n hx hb dX7_playTextOnTrial_31 rfl (lv_at hl 1 rfl) ?_
          refine va_get (D := D) (ci := 7) (v := .ref (a 3 0)) (C := RX7) (T := TX7) (N := 13) hx hb htw WW_wsX70 hown hKX.1 hP 0 rfl rfl 3 (Nat.le_of_ble_eq_true rfl) (htw _ mF_RX7_30) (fun _ h9 => h9) rfl dX7_playTextOnTrial_32 ?_
          refine zc_RVi (As := []) (rest := []) hx hb hml hown htw (ctX4_goesOn l D ac cs (a 3) sh2    _ rfl) (g_V mM_RX7_126 mI_yX4_goesOn mS_RX4_yX4_goesOn_yX4_goesOn mN_RX4 mC_yX4_goesOn) rfl (hd_yX4_goesOn) ⟨rfl, rfl⟩ ⟨(Nat.le_of_ble_eq_true rfl), (Nat.le_of_ble_eq_true rfl)⟩ hKX hC hS (hP.sub [9, 10, 11] rfl) 4 rfl rfl rfl hl.1 rfl (Nat.le_of_ble_eq_true rfl) ⟨Nat.zero_le _, Nat.zero_le _⟩ dX7_playTextOnTrial_35 ?_
          refine lv_if_ne (tgt := 43) hx hb dX7_playTextOnTrial_38 (by decide) (fun c9 => ?_) (fun c9 => ?_)
          · have hf := z_n c9 hf
            refine lv_aload_n hx hb dX7_playTextOnTrial_43 rfl (lv_at hl 1 rfl) ?_
            refine va_get (D := D) (ci := 7) (v := .ref (a 3 0)) (C := RX7) (T := TX7) (N := 13) hx hb htw WW_wsX70 hown hKX.1 hP 0 rfl rfl 3 (Nat.le_of_ble_eq_true rfl) (htw _ mF_RX7_30) (fun _ h9 => h9) rfl dX7_playTextOnTrial_44 ?_
            refine lv_iload_n hx hb dX7_playTextOnTrial_47 rfl (lv_at hl 0 rfl) ?_
            refine lv_bipush (v := 120) hx hb dX7_playTextOnTrial_48 rfl ?_
            have hj12 : ∀ (v10 : Int32), v10 = (if x7 = 120 then 1 else 0) → z_b v10 = true → ∀ (H : Heap) (locs : List Loc) (ls : Array Slot), va_P D vwCl ((koW ac a ko ++ (txW ac (a 1) tx ++ (shW ac (a 2) now ++ (shW ac (a 3) sh2 ++ (teW ac (a 4) (a 1) (a 10) te ++ (paW ac a pa ++ (fcW ac (a 6) w1 w2 fc ++ (frW ac (a 7) to ++ (frW ac (a 8) tp ++ (reW ac (a 9) re ++ (shW ac (a 40) k0 ++ (shW ac (a 41) k1 ++ (shW ac (a 10) ti))))))))))))) ++ ringW ac a rg) H → va_D A ((koW ac a ko ++ (txW ac (a 1) tx ++ (shW ac (a 2) now ++ (shW ac (a 3) sh2 ++ (teW ac (a 4) (a 1) (a 10) te ++ (paW ac a pa ++ (fcW ac (a 6) w1 w2 fc ++ (frW ac (a 7) to ++ (frW ac (a 8) tp ++ (reW ac (a 9) re ++ (shW ac (a 40) k0 ++ (shW ac (a 41) k1 ++ (shW ac (a 10) ti))))))))))))) ++ ringW ac a rg) → va_S A s.heap H locs → lv_has ls 3 [(0, .ref (a 0 0)), (1, .int x1)] → W p l e ({ frames := 5, cells := 0, slots := 0, locals := 105 } : Room) s m (([.ref (a 0 0)] : List Value).toArray) below meth c H locs 0 0 (MQ below (va_Qi (fun r (_ : Unit) => r = res.1) (fun _ => zB D A ((koW ac a ko ++ (txW ac (a 1) tx ++ (shW ac (a 2) now ++ (shW ac (a 3) res.2 ++ (teW ac (a 4) (a 1) (a 10) te ++ (paW ac a pa ++ (fcW ac (a 6) w1 w2 fc ++ (frW ac (a 7) to ++ (frW ac (a 8) tp ++ (reW ac (a 9) re ++ (shW ac (a 40) k0 ++ (shW ac (a 41) k1 ++ (shW ac (a 10) ti))))))))))))) ++ ringW ac a rg)) A) ([.ref (a 0 0)] : List Value).toArray s 0 0 A) (F0 m 58 ls [.int v10, .ref (a 3 0)]) := by
              intro v10 hv10 bv10 H locs ls hP hD hS hl
              have hf := z_let_u hv10 hf
              obtain ⟨u14, hu14⟩ : ∃ y : Sh, y = Sh_put sh2 v10 := ⟨_, rfl⟩
              have hf := z_let_u hu14 hf
              refine zc_MVvT (As := [.int v10]) (rest := []) (wr := koW ac a ko ++ (txW ac (a 1) tx ++ (shW ac (a 2) now ++ (teW ac (a 4) (a 1) (a 10) te ++ (paW ac a pa ++ (fcW ac (a 6) w1 w2 fc ++ (frW ac (a 7) to ++ (frW ac (a 8) tp ++ (reW ac (a 9) re ++ (shW ac (a 40) k0 ++ (shW ac (a 41) k1 ++ (shW ac (a 10) ti)))))))))))) (wsc := shW ac (a 3) sh2) (wsc' := shW ac (a 3) u14) hx hb hml hown htw (ctX4_put l D ac cs (a 3) H.size sh2 v10   u14 hu14.symm) (g_V mM_RX7_136 mI_yX4_put mS_RX4_yX4_put_yX4_put mN_RX4 mC_yX4_put) rfl (hd_yX4_put) ⟨rfl, rfl⟩ ⟨(Nat.le_of_ble_eq_true rfl), (Nat.le_of_ble_eq_true rfl)⟩ hKX hC hS hA hP hD [9, 10, 11] [0, 1, 2, 3, 4, 5, 6, 7, 8, 12, 13, 14, 15, 16, 17, 18, 19, 20, 21, 22, 23, 24, 25, 26, 27, 28, 29, 30, 31, 32, 33, 34, 35, 36, 37] rfl (by decide) rfl (by decide) (by decide) 4 rfl rfl rfl hl.1 rfl (Nat.le_of_ble_eq_true rfl) ⟨Nat.zero_le _, Nat.zero_le _⟩ dX7_playTextOnTrial_58 (fun H locs hP hD hS => ?_)
              have hP : va_P D vwCl ((koW ac a ko ++ (txW ac (a 1) tx ++ (shW ac (a 2) now ++ (shW ac (a 3) u14 ++ (teW ac (a 4) (a 1) (a 10) te ++ (paW ac a pa ++ (fcW ac (a 6) w1 w2 fc ++ (frW ac (a 7) to ++ (frW ac (a 8) tp ++ (reW ac (a 9) re ++ (shW ac (a 40) k0 ++ (shW ac (a 41) k1 ++ (shW ac (a 10) ti))))))))))))) ++ ringW ac a rg) H := zsubPT hP [0, 1, 2, 3, 4, 5, 6, 7, 8, 35, 36, 37, 9, 10, 11, 12, 13, 14, 15, 16, 17, 18, 19, 20, 21, 22, 23, 24, 25, 26, 27, 28, 29, 30, 31, 32, 33, 34] rfl
              have hD : va_D A ((koW ac a ko ++ (txW ac (a 1) tx ++ (shW ac (a 2) now ++ (shW ac (a 3) u14 ++ (teW ac (a 4) (a 1) (a 10) te ++ (paW ac a pa ++ (fcW ac (a 6) w1 w2 fc ++ (frW ac (a 7) to ++ (frW ac (a 8) tp ++ (reW ac (a 9) re ++ (shW ac (a 40) k0 ++ (shW ac (a 41) k1 ++ (shW ac (a 10) ti))))))))))))) ++ ringW ac a rg) := zsubDT hD [0, 1, 2, 3, 4, 5, 6, 7, 8, 35, 36, 37, 9, 10, 11, 12, 13, 14, 15, 16, 17, 18, 19, 20, 21, 22, 23, 24, 25, 26, 27, 28, 29, 30, 31, 32, 33, 34] (by decide) rfl
              obtain ⟨x15, hx15⟩ : ∃ y : Int32, y = (x1 + 1) := ⟨_, rfl⟩
              have hf := z_let_u hx15 hf
              refine lv_iinc (v := x15) (lv' := [(1, .int x15), (0, .ref (a 0 0))]) hx hb dX7_playTextOnTrial_61 hl (k := 1) rfl (by rw [hx15]; rfl) (Nat.le_of_ble_eq_true rfl) rfl (fun ls hl => ?_)
              refine lv_goto (tgt := 2) hx hb dX7_playTextOnTrial_64 (by decide) ?_
              exact ih5 x15 u14 hf _ _ ls  hP hD hS (lv_sub hl [1, 0] rfl)
            refine lv_icmp_ne (tgt := 57) hx hb dX7_playTextOnTrial_50 (by decide) (fun c13 => ?_) (fun c13 => ?_)
            · skip
              refine lv_iconst (v := 0) hx hb dX7_playTextOnTrial_57 rfl ?_
              exact hj12 0 (if_neg c13).symm z_b0 _ _ ls hP hD hS (lv_sub hl [1, 2] rfl)
            · skip
              refine lv_iconst (v := 1) hx hb dX7_playTextOnTrial_53 rfl ?_
              refine lv_goto (tgt := 58) hx hb dX7_playTextOnTrial_54 (by decide) ?_
              exact hj12 1 (if_pos c13).symm z_b1 _ _ ls hP hD hS (lv_sub hl [1, 2] rfl)
          · have hf := z_p c9 hf
            refine lv_iload_n hx hb dX7_playTextOnTrial_41 rfl (lv_at hl 2 rfl) ?_
            obtain rfl := Option.some.inj hf
            exact zr_Mi hx hb hr hlocks hP hD hS dX7_playTextOnTrial_42
        · have hf := z_p c8 hf
          refine lv_goto (tgt := 61) hx hb dX7_playTextOnTrial_28 (by decide) ?_
          obtain ⟨x16, hx16⟩ : ∃ y : Int32, y = (x1 + 1) := ⟨_, rfl⟩
          have hf := z_let_u hx16 hf
          refine lv_iinc (v := x16) (lv' := [(1, .int x16), (2, .int x7), (0, .ref (a 0 0))]) hx hb dX7_playTextOnTrial_61 hl (k := 2) rfl (by rw [hx16]; rfl) (Nat.le_of_ble_eq_true rfl) rfl (fun ls hl => ?_)
          refine lv_goto (tgt := 2) hx hb dX7_playTextOnTrial_64 (by decide) ?_
          exact ih5 x16 sh2 hf _ _ ls  hP hD hS (lv_sub hl [2, 0] rfl)
  refine hL3  F 0 tr hf _ _ ls  hP hD hS (lv_sub hl [1, 0] rfl)

theorem hd_yX7_playFromNow : hdY yX7_playFromNow 0 := by decide +kernel
def K_playFromNow (F : Nat) (tx : Tx) (now : Sh) (tr : Sh) (pa : Pa) (re : Re) (rg : Nat → Sh) : Option (Int32 × Sh × Sh × Pa × Re × (Nat → Sh)) := z_bd (Tx_firstBut F tx 8) (fun r1 : Int32 => if r1 < 0 then (z_bd (Sh_copyFrom F tr now) (fun u3 : Sh => z_bd (K_playTextOnTrial F tx u3) (fun u4 : Int32 × Sh => z_let u4.1 (fun x5 : Int32 => z_let ((sh_kicks u4.2) - (sh_kicks now)) (fun x6 : Int32 => z_jn (fun u_k11 : Sh × Pa × Re × (Nat → Sh) => if x5 < 0 then (some (x6, u_k11.1, u4.2, u_k11.2.1, u_k11.2.2.1, u_k11.2.2.2)) else (some (((-1000) - x5), u_k11.1, u4.2, u_k11.2.1, u_k11.2.2.1, u_k11.2.2.2))) (fun k11 => if x6 ≤ 0 then (k11 (now, pa, re, rg)) else (z_bd (K_remember F now pa re rg) (fun u15 : Pa × Re × (Nat → Sh) => z_bd (Sh_copyFrom F now u4.2) (fun u16 : Sh => k11 (u16, u15.1, u15.2.1, u15.2.2)))))))))) else (some (((-1000) - r1), now, tr, pa, re, rg)))
set_option maxHeartbeats 4000000 in
set_option maxRecDepth 100000 in
theorem ctX7_playFromNow (l : Launch) (D : va_G) (ac cs : Nat → Nat) (a : Nat → Nat → Nat) (w1 w2 : Nat) (sz : Nat) (ko : Ko) (tx : Tx) (now : Sh) (tr : Sh) (te : Te) (pa : Pa) (fc : Fc) (to : Fr) (tp : Fr) (re : Re) (k0 : Sh) (k1 : Sh) (ti : Sh) (rg : Nat → Sh) (F : Nat) (res : Int32 × Sh × Sh × Pa × Re × (Nat → Sh)) (hf : K_playFromNow F tx now tr pa re rg = some res) : Met l yX7_playFromNow (cWW yX7_playFromNow cX7_playFromNow 4 (some .int)) { frames := 6, cells := 0, slots := 0, locals := 127 } (zM D ac cs [.ref (a 0 0)] ((koW ac a ko ++ (txW ac (a 1) tx ++ (shW ac (a 2) now ++ (shW ac (a 3) tr ++ (teW ac (a 4) (a 1) (a 10) te ++ (paW ac a pa ++ (fcW ac (a 6) w1 w2 fc ++ (frW ac (a 7) to ++ (frW ac (a 8) tp ++ (reW ac (a 9) re ++ (shW ac (a 40) k0 ++ (shW ac (a 41) k1 ++ (shW ac (a 10) ti))))))))))))) ++ ringW ac a rg) sz) (va_Qi (fun r (_ : Unit) => r = res.1) (fun _ => zB D (va_A ((koW ac a ko ++ (txW ac (a 1) tx ++ (shW ac (a 2) now ++ (shW ac (a 3) tr ++ (teW ac (a 4) (a 1) (a 10) te ++ (paW ac a pa ++ (fcW ac (a 6) w1 w2 fc ++ (frW ac (a 7) to ++ (frW ac (a 8) tp ++ (reW ac (a 9) re ++ (shW ac (a 40) k0 ++ (shW ac (a 41) k1 ++ (shW ac (a 10) ti))))))))))))) ++ ringW ac a rg) sz) ((koW ac a ko ++ (txW ac (a 1) tx ++ (shW ac (a 2) res.2.1 ++ (shW ac (a 3) res.2.2.1 ++ (teW ac (a 4) (a 1) (a 10) te ++ (paW ac a res.2.2.2.1 ++ (fcW ac (a 6) w1 w2 fc ++ (frW ac (a 7) to ++ (frW ac (a 8) tp ++ (reW ac (a 9) res.2.2.2.2.1 ++ (shW ac (a 40) k0 ++ (shW ac (a 41) k1 ++ (shW ac (a 10) ti))))))))))))) ++ ringW ac a res.2.2.2.2.2)) (va_A ((koW ac a ko ++ (txW ac (a 1) tx ++ (shW ac (a 2) now ++ (shW ac (a 3) tr ++ (teW ac (a 4) (a 1) (a 10) te ++ (paW ac a pa ++ (fcW ac (a 6) w1 w2 fc ++ (frW ac (a 7) to ++ (frW ac (a 8) tp ++ (reW ac (a 9) re ++ (shW ac (a 40) k0 ++ (shW ac (a 41) k1 ++ (shW ac (a 10) ti))))))))))))) ++ ringW ac a rg) sz)) 0 0 (va_A ((koW ac a ko ++ (txW ac (a 1) tx ++ (shW ac (a 2) now ++ (shW ac (a 3) tr ++ (teW ac (a 4) (a 1) (a 10) te ++ (paW ac a pa ++ (fcW ac (a 6) w1 w2 fc ++ (frW ac (a 7) to ++ (frW ac (a 8) tp ++ (reW ac (a 9) re ++ (shW ac (a 40) k0 ++ (shW ac (a 41) k1 ++ (shW ac (a 10) ti))))))))))))) ++ ringW ac a rg) sz) := by
  refine Met.ofW (cc := cX7_playFromNow) (maxL := 4) (ret := (some .int)) (by decide) rfl ?_
  intro p e s m args below meth c s₁ B hml hv
  obtain ⟨rfl, hsz, hP, hKX, hD0, hC⟩ := hv
  have hx := B.exec
  have hb := B.bytes
  have hr := B.returns
  have hts := atoms_spec (ws := cWW yX7_playFromNow cX7_playFromNow 4 (some .int)) B.pre
  have htw : ∀ w ∈ WW, w.before _ s = true := fun w h => hts w (List.mem_cons_of_mem _ h)
  have hown : s.vm.findClass RX7 = some m.cls := findClass_of_methodNamed B.named
  have hlocks := B.notSynchronized
  clear hts B
  subst hsz
  have hD := hD0.self (sz := s.heap.size)
  generalize hAe : va_A ((koW ac a ko ++ (txW ac (a 1) tx ++ (shW ac (a 2) now ++ (shW ac (a 3) tr ++ (teW ac (a 4) (a 1) (a 10) te ++ (paW ac a pa ++ (fcW ac (a 6) w1 w2 fc ++ (frW ac (a 7) to ++ (frW ac (a 8) tp ++ (reW ac (a 9) re ++ (shW ac (a 40) k0 ++ (shW ac (a 41) k1 ++ (shW ac (a 10) ti))))))))))))) ++ ringW ac a rg) s.heap.size = A at hD hC ⊢
  have hA : ∀ q : Nat, s.heap.size ≤ q → A q := fun q h => by rw [← hAe]; exact Or.inr h
  have hS : va_S A s.heap s.heap [] := va_S.rf
  clear hD0 hAe
  have hP : va_P D vwCl ((koW ac a ko ++ (txW ac (a 1) tx ++ (shW ac (a 2) now ++ (shW ac (a 3) tr ++ (teW ac (a 4) (a 1) (a 10) te ++ (paW ac a pa ++ (fcW ac (a 6) w1 w2 fc ++ (frW ac (a 7) to ++ (frW ac (a 8) tp ++ (reW ac (a 9) re ++ (shW ac (a 40) k0 ++ (shW ac (a 41) k1 ++ (shW ac (a 10) ti))))))))))))) ++ ringW ac a rg) s.heap := hP
  have hl := lv_entry ([.ref (a 0 0)]) (n := 4) (Nat.le_of_ble_eq_true rfl)
  rw [lg_entry_eq]
  generalize (lg_sl ([.ref (a 0 0)]) ++ List.replicate (4 - (lg_sl ([.ref (a 0 0)])).length) Slot.unset).toArray = ls at hl ⊢
  have hl : lv_has ls 4 [(0, .ref (a 0 0))] := hl
  unfold K_playFromNow at hf
  show W p l e ({ frames := 6, cells := 0, slots := 0, locals := 127 } : Room) s m _ below meth c s.heap [] 0 0 _ (F0 m 0 ls [])
  refine lv_aload_n hx hb dX7_playFromNow_0 rfl (lv_at hl 0 rfl) ?_
  refine va_get (D := D) (ci := 7) (v := .ref (a 1 0)) (C := RX7) (T := TX7) (N := 13) hx hb htw WW_wsX70 hown hKX.1 hP 0 rfl rfl 1 (Nat.le_of_ble_eq_true rfl) (htw _ mF_RX7_22) (fun _ h9 => h9) rfl dX7_playFromNow_1 ?_
  refine zv_ldcwS hx hb hown (sr_8 hC) dX7_playFromNow_4 ?_
  obtain ⟨r1, hr1, hf⟩ := z_bd_u hf
  refine zc_RVi (As := [.ref (cs (10 + 8))]) (rest := []) hx hb hml hown htw (ctX6_firstBut l D ac cs (a 1) tx 8  (by decide) F _ hr1) (g_V mM_RX7_329 mI_yX6_firstBut mS_RX6_yX6_firstBut_yX6_firstBut mN_RX6 mC_yX6_firstBut) rfl (hd_yX6_firstBut) ⟨rfl, rfl⟩ ⟨(Nat.le_of_ble_eq_true rfl), (Nat.le_of_ble_eq_true rfl)⟩ hKX hC hS (hP.sub [4, 5] rfl) 6 rfl rfl rfl hl.1 rfl (Nat.le_of_ble_eq_true rfl) ⟨Nat.zero_le _, Nat.zero_le _⟩ dX7_playFromNow_7 ?_
  refine lv_istore_n (lv' := [(1, .int r1), (0, .ref (a 0 0))]) hx hb dX7_playFromNow_10 rfl hl (Nat.le_of_ble_eq_true rfl) rfl (fun ls hl => ?_)
  refine lv_iload_n hx hb dX7_playFromNow_11 rfl (lv_at hl 0 rfl) ?_
  refine lv_if_lt (tgt := 21) hx hb dX7_playFromNow_12 (by decide) (fun c2 => ?_) (fun c2 => ?_)
  · have hf := z_p c2 hf
    refine lv_aload_n hx hb dX7_playFromNow_21 rfl (lv_at hl 1 rfl) ?_
    refine va_get (D := D) (ci := 7) (v := .ref (a 3 0)) (C := RX7) (T := TX7) (N := 13) hx hb htw WW_wsX70 hown hKX.1 hP 0 rfl rfl 3 (Nat.le_of_ble_eq_true rfl) (htw _ mF_RX7_30) (fun _ h9 => h9) rfl dX7_playFromNow_22 ?_
    refine lv_aload_n hx hb dX7_playFromNow_25 rfl (lv_at hl 1 rfl) ?_
    refine va_get (D := D) (ci := 7) (v := .ref (a 2 0)) (C := RX7) (T := TX7) (N := 13) hx hb htw WW_wsX70 hown hKX.1 hP 0 rfl rfl 2 (Nat.le_of_ble_eq_true rfl) (htw _ mF_RX7_26) (fun _ h9 => h9) rfl dX7_playFromNow_26 ?_
    obtain ⟨u3, hu3, hf⟩ := z_bd_u hf
    refine zc_MVvT (As := [.ref (a 2 0)]) (rest := []) (wr := koW ac a ko ++ (txW ac (a 1) tx ++ (teW ac (a 4) (a 1) (a 10) te ++ (paW ac a pa ++ (fcW ac (a 6) w1 w2 fc ++ (frW ac (a 7) to ++ (frW ac (a 8) tp ++ (reW ac (a 9) re ++ (shW ac (a 40) k0 ++ (shW ac (a 41) k1 ++ (shW ac (a 10) ti))))))))))) (wsc := shW ac (a 3) tr ++ (shW ac (a 2) now)) (wsc' := shW ac (a 3) u3 ++ (shW ac (a 2) now)) hx hb hml hown htw (ctX4_copyFrom l D ac cs (a 3) (a 2) s.heap.size tr now    F u3 hu3) (g_V mM_RX7_93 mI_yX4_copyFrom mS_RX4_yX4_copyFrom_yX4_copyFrom mN_RX4 mC_yX4_copyFrom) rfl (hd_yX4_copyFrom) ⟨rfl, rfl⟩ ⟨(Nat.le_of_ble_eq_true rfl), (Nat.le_of_ble_eq_true rfl)⟩ hKX hC hS hA hP hD [9, 10, 11, 6, 7, 8] [0, 1, 2, 3, 4, 5, 12, 13, 14, 15, 16, 17, 18, 19, 20, 21, 22, 23, 24, 25, 26, 27, 28, 29, 30, 31, 32, 33, 34, 35, 36, 37] rfl (by decide) rfl (by decide) (by decide) 4 rfl rfl rfl hl.1 rfl (Nat.le_of_ble_eq_true rfl) ⟨Nat.zero_le _, Nat.zero_le _⟩ dX7_playFromNow_29 (fun H locs hP hD hS => ?_)
    have hP : va_P D vwCl ((koW ac a ko ++ (txW ac (a 1) tx ++ (shW ac (a 2) now ++ (shW ac (a 3) u3 ++ (teW ac (a 4) (a 1) (a 10) te ++ (paW ac a pa ++ (fcW ac (a 6) w1 w2 fc ++ (frW ac (a 7) to ++ (frW ac (a 8) tp ++ (reW ac (a 9) re ++ (shW ac (a 40) k0 ++ (shW ac (a 41) k1 ++ (shW ac (a 10) ti))))))))))))) ++ ringW ac a rg) H := zsubPT hP [0, 1, 2, 3, 4, 5, 35, 36, 37, 32, 33, 34, 6, 7, 8, 9, 10, 11, 12, 13, 14, 15, 16, 17, 18, 19, 20, 21, 22, 23, 24, 25, 26, 27, 28, 29, 30, 31] rfl
    have hD : va_D A ((koW ac a ko ++ (txW ac (a 1) tx ++ (shW ac (a 2) now ++ (shW ac (a 3) u3 ++ (teW ac (a 4) (a 1) (a 10) te ++ (paW ac a pa ++ (fcW ac (a 6) w1 w2 fc ++ (frW ac (a 7) to ++ (frW ac (a 8) tp ++ (reW ac (a 9) re ++ (shW ac (a 40) k0 ++ (shW ac (a 41) k1 ++ (shW ac (a 10) ti))))))))))))) ++ ringW ac a rg) := zsubDT hD [0, 1, 2, 3, 4, 5, 35, 36, 37, 32, 33, 34, 6, 7, 8, 9, 10, 11, 12, 13, 14, 15, 16, 17, 18, 19, 20, 21, 22, 23, 24, 25, 26, 27, 28, 29, 30, 31] (by decide) rfl
    refine lv_aload_n hx hb dX7_playFromNow_32 rfl (lv_at hl 1 rfl) ?_
    obtain ⟨u4, hu4, hf⟩ := z_bd_u hf
    refine zc_MViT (E := (koW ac a ko ++ (txW ac (a 1) tx ++ (shW ac (a 2) now ++ (shW ac (a 3) u3 ++ (teW ac (a 4) (a 1) (a 10) te ++ (paW ac a pa ++ (fcW ac (a 6) w1 w2 fc ++ (frW ac (a 7) to ++ (frW ac (a 8) tp ++ (reW ac (a 9) re ++ (shW ac (a 40) k0 ++ (shW ac (a 41) k1 ++ (shW ac (a 10) ti))))))))))))) ++ ringW ac a rg) (TT := []) (As := []) (rest := []) (wr := []) (wsc := (koW ac a ko ++ (txW ac (a 1) tx ++ (shW ac (a 2) now ++ (shW ac (a 3) u3 ++ (teW ac (a 4) (a 1) (a 10) te ++ (paW ac a pa ++ (fcW ac (a 6) w1 w2 fc ++ (frW ac (a 7) to ++ (frW ac (a 8) tp ++ (reW ac (a 9) re ++ (shW ac (a 40) k0 ++ (shW ac (a 41) k1 ++ (shW ac (a 10) ti))))))))))))) ++ ringW ac a rg) (wsc' := (koW ac a ko ++ (txW ac (a 1) tx ++ (shW ac (a 2) now ++ (shW ac (a 3) u4.2 ++ (teW ac (a 4) (a 1) (a 10) te ++ (paW ac a pa ++ (fcW ac (a 6) w1 w2 fc ++ (frW ac (a 7) to ++ (frW ac (a 8) tp ++ (reW ac (a 9) re ++ (shW ac (a 40) k0 ++ (shW ac (a 41) k1 ++ (shW ac (a 10) ti))))))))))))) ++ ringW ac a rg) hx hb hml hown htw (ctX7_playTextOnTrial l D ac cs a w1 w2 H.size ko tx now u3 te pa fc to tp re k0 k1 ti rg    F u4 hu4) (g_V mM_RX7_333 mI_yX7_playTextOnTrial mS_RX7_yX7_playTextOnTrial_yX7_playTextOnTrial mN_RX7 mC_yX7_playTextOnTrial) rfl (hd_yX7_playTextOnTrial) ⟨rfl, rfl⟩ ⟨(Nat.le_of_ble_eq_true rfl), (Nat.le_of_ble_eq_true rfl)⟩ hKX hC hS hA (zP_nil hP) (zD_nil hD) (List.range _) [] (zrange _) (zndr _) rfl rfl (fun _ h => by cases h) 7 rfl rfl rfl hl.1 rfl (Nat.le_of_ble_eq_true rfl) ⟨Nat.zero_le _, Nat.zero_le _⟩ dX7_playFromNow_33 (fun H locs hP hD hS => ?_)
    have hP : va_P D vwCl ((koW ac a ko ++ (txW ac (a 1) tx ++ (shW ac (a 2) now ++ (shW ac (a 3) u4.2 ++ (teW ac (a 4) (a 1) (a 10) te ++ (paW ac a pa ++ (fcW ac (a 6) w1 w2 fc ++ (frW ac (a 7) to ++ (frW ac (a 8) tp ++ (reW ac (a 9) re ++ (shW ac (a 40) k0 ++ (shW ac (a 41) k1 ++ (shW ac (a 10) ti))))))))))))) ++ ringW ac a rg) H := zP_un hP
    have hD : va_D A ((koW ac a ko ++ (txW ac (a 1) tx ++ (shW ac (a 2) now ++ (shW ac (a 3) u4.2 ++ (teW ac (a 4) (a 1) (a 10) te ++ (paW ac a pa ++ (fcW ac (a 6) w1 w2 fc ++ (frW ac (a 7) to ++ (frW ac (a 8) tp ++ (reW ac (a 9) re ++ (shW ac (a 40) k0 ++ (shW ac (a 41) k1 ++ (shW ac (a 10) ti))))))))))))) ++ ringW ac a rg) := zD_un hD
    refine lv_topi (fun x5 hx5 => ?_)
    have hf := z_let_u hx5 hf
    refine lv_istore_n (lv' := [(2, .int x5), (1, .int r1), (0, .ref (a 0 0))]) hx hb dX7_playFromNow_36 rfl hl (Nat.le_of_ble_eq_true rfl) rfl (fun ls hl => ?_)
    refine lv_aload_n hx hb dX7_playFromNow_37 rfl (lv_at hl 2 rfl) ?_
    refine va_get (D := D) (ci := 7) (v := .ref (a 3 0)) (C := RX7) (T := TX7) (N := 13) hx hb htw WW_wsX70 hown hKX.1 hP 0 rfl rfl 3 (Nat.le_of_ble_eq_true rfl) (htw _ mF_RX7_30) (fun _ h9 => h9) rfl dX7_playFromNow_38 ?_
    refine va_getN (D := D) (ci := 4) (v := .int (sh_kicks u4.2)) (C := RX4) (T := TX4) (N := 10) hx hb htw WW_wsX40 hown hKX.1 hP 9 rfl rfl 3 (Nat.le_of_ble_eq_true rfl) (va_Nw.use rfl (hKX.2 _ (List.mem_of_getElem? (i := 11) rfl))) (fun _ h9 => h9) rfl dX7_playFromNow_41 ?_
    refine lv_aload_n hx hb dX7_playFromNow_44 rfl (lv_at hl 2 rfl) ?_
    refine va_get (D := D) (ci := 7) (v := .ref (a 2 0)) (C := RX7) (T := TX7) (N := 13) hx hb htw WW_wsX70 hown hKX.1 hP 0 rfl rfl 2 (Nat.le_of_ble_eq_true rfl) (htw _ mF_RX7_26) (fun _ h9 => h9) rfl dX7_playFromNow_45 ?_
    refine va_getN (D := D) (ci := 4) (v := .int (sh_kicks now)) (C := RX4) (T := TX4) (N := 10) hx hb htw WW_wsX40 hown hKX.1 hP 6 rfl rfl 3 (Nat.le_of_ble_eq_true rfl) (va_Nw.use rfl (hKX.2 _ (List.mem_of_getElem? (i := 11) rfl))) (fun _ h9 => h9) rfl dX7_playFromNow_48 ?_
    refine lv_isub hx hb dX7_playFromNow_51 ?_
    refine lv_topi (fun x6 hx6 => ?_)
    have hf := z_let_u hx6 hf
    refine lv_istore_n (lv' := [(3, .int x6), (2, .int x5), (1, .int r1), (0, .ref (a 0 0))]) hx hb dX7_playFromNow_52 rfl hl (Nat.le_of_ble_eq_true rfl) rfl (fun ls hl => ?_)
    refine lv_iload_n hx hb dX7_playFromNow_53 rfl (lv_at hl 0 rfl) ?_
    obtain ⟨k11, hk11, hf⟩ := z_jn_u hf
    have hj12 : ∀ (sh7 : Sh) (pa8 : Pa) (re9 : Re) (rg10 : Nat → Sh), k11 (sh7, pa8, re9, rg10) = some res → ∀ (H : Heap) (locs : List Loc) (ls : Array Slot), va_P D vwCl ((koW ac a ko ++ (txW ac (a 1) tx ++ (shW ac (a 2) sh7 ++ (shW ac (a 3) u4.2 ++ (teW ac (a 4) (a 1) (a 10) te ++ (paW ac a pa8 ++ (fcW ac (a 6) w1 w2 fc ++ (frW ac (a 7) to ++ (frW ac (a 8) tp ++ (reW ac (a 9) re9 ++ (shW ac (a 40) k0 ++ (shW ac (a 41) k1 ++ (shW ac (a 10) ti))))))))))))) ++ ringW ac a rg10) H → va_D A ((koW ac a ko ++ (txW ac (a 1) tx ++ (shW ac (a 2) sh7 ++ (shW ac (a 3) u4.2 ++ (teW ac (a 4) (a 1) (a 10) te ++ (paW ac a pa8 ++ (fcW ac (a 6) w1 w2 fc ++ (frW ac (a 7) to ++ (frW ac (a 8) tp ++ (reW ac (a 9) re9 ++ (shW ac (a 40) k0 ++ (shW ac (a 41) k1 ++ (shW ac (a 10) ti))))))))))))) ++ ringW ac a rg10) → va_S A s.heap H locs → lv_has ls 4 [(2, .int x5), (3, .int x6)] → W p l e ({ frames := 6, cells := 0, slots := 0, locals := 127 } : Room) s m (([.ref (a 0 0)] : List Value).toArray) below meth c H locs 0 0 (MQ below (va_Qi (fun r (_ : Unit) => r = res.1) (fun _ => zB D A ((koW ac a ko ++ (txW ac (a 1) tx ++ (shW ac (a 2) res.2.1 ++ (shW ac (a 3) res.2.2.1 ++ (teW ac (a 4) (a 1) (a 10) te ++ (paW ac a res.2.2.2.1 ++ (fcW ac (a 6) w1 w2 fc ++ (frW ac (a 7) to ++ (frW ac (a 8) tp ++ (reW ac (a 9) res.2.2.2.2.1 ++ (shW ac (a 40) k0 ++ (shW ac (a 41) k1 ++ (shW ac (a 10) ti))))))))))))) ++ ringW ac a res.2.2.2.2.2)) A) ([.ref (a 0 0)] : List Value).toArray s 0 0 A) (F0 m 72 ls []) := by
      intro sh7 pa8 re9 rg10 hf H locs ls hP hD hS hl
      have hf := hk11 _ hf
      refine lv_iload_n hx hb dX7_playFromNow_72 rfl (lv_at hl 0 rfl) ?_
      refine lv_if_lt (tgt := 84) hx hb dX7_playFromNow_73 (by decide) (fun c13 => ?_) (fun c13 => ?_)
      · have hf := z_p c13 hf
        refine lv_iload_n hx hb dX7_playFromNow_84 rfl (lv_at hl 1 rfl) ?_
        obtain rfl := Option.some.inj hf
        exact zr_Mi hx hb hr hlocks hP hD hS dX7_playFromNow_85
      · have hf := z_n c13 hf
        refine lv_sipush (v := (-1000)) hx hb dX7_playFromNow_76 rfl ?_
        refine lv_iload_n hx hb dX7_playFromNow_79 rfl (lv_at hl 0 rfl) ?_
        refine lv_isub hx hb dX7_playFromNow_80 ?_
        refine lv_goto (tgt := 85) hx hb dX7_playFromNow_81 (by decide) ?_
        obtain rfl := Option.some.inj hf
        exact zr_Mi hx hb hr hlocks hP hD hS dX7_playFromNow_85
    refine lv_if_le (tgt := 72) hx hb dX7_playFromNow_54 (by decide) (fun c14 => ?_) (fun c14 => ?_)
    · have hf := z_p c14 hf
      exact hj12 now pa re rg hf _ _ ls  hP hD hS (lv_sub hl [1, 0] rfl)
    · have hf := z_n c14 hf
      refine lv_aload_n hx hb dX7_playFromNow_57 rfl (lv_at hl 3 rfl) ?_
      obtain ⟨u15, hu15, hf⟩ := z_bd_u hf
      refine zc_MVvT (E := (koW ac a ko ++ (txW ac (a 1) tx ++ (shW ac (a 2) now ++ (shW ac (a 3) u4.2 ++ (teW ac (a 4) (a 1) (a 10) te ++ (paW ac a pa ++ (fcW ac (a 6) w1 w2 fc ++ (frW ac (a 7) to ++ (frW ac (a 8) tp ++ (reW ac (a 9) re ++ (shW ac (a 40) k0 ++ (shW ac (a 41) k1 ++ (shW ac (a 10) ti))))))))))))) ++ ringW ac a rg) (TT := []) (As := []) (rest := []) (wr := []) (wsc := (koW ac a ko ++ (txW ac (a 1) tx ++ (shW ac (a 2) now ++ (shW ac (a 3) u4.2 ++ (teW ac (a 4) (a 1) (a 10) te ++ (paW ac a pa ++ (fcW ac (a 6) w1 w2 fc ++ (frW ac (a 7) to ++ (frW ac (a 8) tp ++ (reW ac (a 9) re ++ (shW ac (a 40) k0 ++ (shW ac (a 41) k1 ++ (shW ac (a 10) ti))))))))))))) ++ ringW ac a rg) (wsc' := (koW ac a ko ++ (txW ac (a 1) tx ++ (shW ac (a 2) now ++ (shW ac (a 3) u4.2 ++ (teW ac (a 4) (a 1) (a 10) te ++ (paW ac a u15.1 ++ (fcW ac (a 6) w1 w2 fc ++ (frW ac (a 7) to ++ (frW ac (a 8) tp ++ (reW ac (a 9) u15.2.1 ++ (shW ac (a 40) k0 ++ (shW ac (a 41) k1 ++ (shW ac (a 10) ti))))))))))))) ++ ringW ac a u15.2.2) hx hb hml hown htw (ctX7_remember l D ac cs a w1 w2 H.size ko tx now u4.2 te pa fc to tp re k0 k1 ti rg    F u15 hu15) (g_V mM_RX7_130 mI_yX7_remember mS_RX7_yX7_remember_yX7_remember mN_RX7 mC_yX7_remember) rfl (hd_yX7_remember) ⟨rfl, rfl⟩ ⟨(Nat.le_of_ble_eq_true rfl), (Nat.le_of_ble_eq_true rfl)⟩ hKX hC hS hA (zP_nil hP) (zD_nil hD) (List.range _) [] (zrange _) (zndr _) rfl rfl (fun _ h => by cases h) 7 rfl rfl rfl hl.1 rfl (Nat.le_of_ble_eq_true rfl) ⟨Nat.zero_le _, Nat.zero_le _⟩ dX7_playFromNow_58 (fun H locs hP hD hS => ?_)
      have hP : va_P D vwCl ((koW ac a ko ++ (txW ac (a 1) tx ++ (shW ac (a 2) now ++ (shW ac (a 3) u4.2 ++ (teW ac (a 4) (a 1) (a 10) te ++ (paW ac a u15.1 ++ (fcW ac (a 6) w1 w2 fc ++ (frW ac (a 7) to ++ (frW ac (a 8) tp ++ (reW ac (a 9) u15.2.1 ++ (shW ac (a 40) k0 ++ (shW ac (a 41) k1 ++ (shW ac (a 10) ti))))))))))))) ++ ringW ac a u15.2.2) H := zP_un hP
      have hD : va_D A ((koW ac a ko ++ (txW ac (a 1) tx ++ (shW ac (a 2) now ++ (shW ac (a 3) u4.2 ++ (teW ac (a 4) (a 1) (a 10) te ++ (paW ac a u15.1 ++ (fcW ac (a 6) w1 w2 fc ++ (frW ac (a 7) to ++ (frW ac (a 8) tp ++ (reW ac (a 9) u15.2.1 ++ (shW ac (a 40) k0 ++ (shW ac (a 41) k1 ++ (shW ac (a 10) ti))))))))))))) ++ ringW ac a u15.2.2) := zD_un hD
      refine lv_aload_n hx hb dX7_playFromNow_61 rfl (lv_at hl 3 rfl) ?_
      refine va_get (D := D) (ci := 7) (v := .ref (a 2 0)) (C := RX7) (T := TX7) (N := 13) hx hb htw WW_wsX70 hown hKX.1 hP 0 rfl rfl 2 (Nat.le_of_ble_eq_true rfl) (htw _ mF_RX7_26) (fun _ h9 => h9) rfl dX7_playFromNow_62 ?_
      refine lv_aload_n hx hb dX7_playFromNow_65 rfl (lv_at hl 3 rfl) ?_
      refine va_get (D := D) (ci := 7) (v := .ref (a 3 0)) (C := RX7) (T := TX7) (N := 13) hx hb htw WW_wsX70 hown hKX.1 hP 0 rfl rfl 3 (Nat.le_of_ble_eq_true rfl) (htw _ mF_RX7_30) (fun _ h9 => h9) rfl dX7_playFromNow_66 ?_
      obtain ⟨u16, hu16, hf⟩ := z_bd_u hf
      refine zc_MVvT (As := [.ref (a 3 0)]) (rest := []) (wr := koW ac a ko ++ (txW ac (a 1) tx ++ (teW ac (a 4) (a 1) (a 10) te ++ (paW ac a u15.1 ++ (fcW ac (a 6) w1 w2 fc ++ (frW ac (a 7) to ++ (frW ac (a 8) tp ++ (reW ac (a 9) u15.2.1 ++ (shW ac (a 40) k0 ++ (shW ac (a 41) k1 ++ (shW ac (a 10) ti))))))))))) (wsc := shW ac (a 2) now ++ (shW ac (a 3) u4.2)) (wsc' := shW ac (a 2) u16 ++ (shW ac (a 3) u4.2)) hx hb hml hown htw (ctX4_copyFrom l D ac cs (a 2) (a 3) H.size now u4.2    F u16 hu16) (g_V mM_RX7_93 mI_yX4_copyFrom mS_RX4_yX4_copyFrom_yX4_copyFrom mN_RX4 mC_yX4_copyFrom) rfl (hd_yX4_copyFrom) ⟨rfl, rfl⟩ ⟨(Nat.le_of_ble_eq_true rfl), (Nat.le_of_ble_eq_true rfl)⟩ hKX hC hS hA hP hD [6, 7, 8, 9, 10, 11] [0, 1, 2, 3, 4, 5, 12, 13, 14, 15, 16, 17, 18, 19, 20, 21, 22, 23, 24, 25, 26, 27, 28, 29, 30, 31, 32, 33, 34, 35, 36, 37] rfl (by decide) rfl (by decide) (by decide) 4 rfl rfl rfl hl.1 rfl (Nat.le_of_ble_eq_true rfl) ⟨Nat.zero_le _, Nat.zero_le _⟩ dX7_playFromNow_69 (fun H locs hP hD hS => ?_)
      have hP : va_P D vwCl ((koW ac a ko ++ (txW ac (a 1) tx ++ (shW ac (a 2) u16 ++ (shW ac (a 3) u4.2 ++ (teW ac (a 4) (a 1) (a 10) te ++ (paW ac a u15.1 ++ (fcW ac (a 6) w1 w2 fc ++ (frW ac (a 7) to ++ (frW ac (a 8) tp ++ (reW ac (a 9) u15.2.1 ++ (shW ac (a 40) k0 ++ (shW ac (a 41) k1 ++ (shW ac (a 10) ti))))))))))))) ++ ringW ac a u15.2.2) H := zsubPT hP [0, 1, 2, 3, 4, 5, 32, 33, 34, 35, 36, 37, 6, 7, 8, 9, 10, 11, 12, 13, 14, 15, 16, 17, 18, 19, 20, 21, 22, 23, 24, 25, 26, 27, 28, 29, 30, 31] rfl
      have hD : va_D A ((koW ac a ko ++ (txW ac (a 1) tx ++ (shW ac (a 2) u16 ++ (shW ac (a 3) u4.2 ++ (teW ac (a 4) (a 1) (a 10) te ++ (paW ac a u15.1 ++ (fcW ac (a 6) w1 w2 fc ++ (frW ac (a 7) to ++ (frW ac (a 8) tp ++ (reW ac (a 9) u15.2.1 ++ (shW ac (a 40) k0 ++ (shW ac (a 41) k1 ++ (shW ac (a 10) ti))))))))))))) ++ ringW ac a u15.2.2) := zsubDT hD [0, 1, 2, 3, 4, 5, 32, 33, 34, 35, 36, 37, 6, 7, 8, 9, 10, 11, 12, 13, 14, 15, 16, 17, 18, 19, 20, 21, 22, 23, 24, 25, 26, 27, 28, 29, 30, 31] (by decide) rfl
      exact hj12 u16 u15.1 u15.2.1 u15.2.2 hf _ _ ls  hP hD hS (lv_sub hl [1, 0] rfl)
  · have hf := z_n c2 hf
    refine lv_sipush (v := (-1000)) hx hb dX7_playFromNow_15 rfl ?_
    refine lv_iload_n hx hb dX7_playFromNow_18 rfl (lv_at hl 0 rfl) ?_
    refine lv_isub hx hb dX7_playFromNow_19 ?_
    obtain rfl := Option.some.inj hf
    exact zr_Mi hx hb hr hlocks hP hD hS dX7_playFromNow_20

theorem hd_yX7_play : hdY yX7_play 0 := by decide +kernel
def K_play (F : Nat) (tx : Tx) (now : Sh) (tr : Sh) (pa : Pa) (re : Re) (rg : Nat → Sh) : Option (Int32 × Tx × Sh × Sh × Pa × Re × (Nat → Sh)) := z_jn (fun u_k7 : Int32 × Sh × Sh × Pa × Re × (Nat → Sh) => some (u_k7.1, ((tx_signs tx), 0), u_k7.2.1, u_k7.2.2.1, u_k7.2.2.2.1, u_k7.2.2.2.2.1, u_k7.2.2.2.2.2)) (fun k7 => if (sh_shooters now) = 0 then (k7 ((-2), now, tr, pa, re, rg)) else (z_bd (K_playFromNow F tx now tr pa re rg) (fun u10 : Int32 × Sh × Sh × Pa × Re × (Nat → Sh) => k7 (u10.1, u10.2.1, u10.2.2.1, u10.2.2.2.1, u10.2.2.2.2.1, u10.2.2.2.2.2))))
set_option maxHeartbeats 4000000 in
set_option maxRecDepth 100000 in
theorem ctX7_play (l : Launch) (D : va_G) (ac cs : Nat → Nat) (a : Nat → Nat → Nat) (w1 w2 : Nat) (sz : Nat) (ko : Ko) (tx : Tx) (now : Sh) (tr : Sh) (te : Te) (pa : Pa) (fc : Fc) (to : Fr) (tp : Fr) (re : Re) (k0 : Sh) (k1 : Sh) (ti : Sh) (rg : Nat → Sh) (F : Nat) (res : Int32 × Tx × Sh × Sh × Pa × Re × (Nat → Sh)) (hf : K_play F tx now tr pa re rg = some res) : Met l yX7_play (cWW yX7_play cX7_play 2 (some .int)) { frames := 7, cells := 0, slots := 0, locals := 150 } (zM D ac cs [.ref (a 0 0)] ((koW ac a ko ++ (txW ac (a 1) tx ++ (shW ac (a 2) now ++ (shW ac (a 3) tr ++ (teW ac (a 4) (a 1) (a 10) te ++ (paW ac a pa ++ (fcW ac (a 6) w1 w2 fc ++ (frW ac (a 7) to ++ (frW ac (a 8) tp ++ (reW ac (a 9) re ++ (shW ac (a 40) k0 ++ (shW ac (a 41) k1 ++ (shW ac (a 10) ti))))))))))))) ++ ringW ac a rg) sz) (va_Qi (fun r (_ : Unit) => r = res.1) (fun _ => zB D (va_A ((koW ac a ko ++ (txW ac (a 1) tx ++ (shW ac (a 2) now ++ (shW ac (a 3) tr ++ (teW ac (a 4) (a 1) (a 10) te ++ (paW ac a pa ++ (fcW ac (a 6) w1 w2 fc ++ (frW ac (a 7) to ++ (frW ac (a 8) tp ++ (reW ac (a 9) re ++ (shW ac (a 40) k0 ++ (shW ac (a 41) k1 ++ (shW ac (a 10) ti))))))))))))) ++ ringW ac a rg) sz) ((koW ac a ko ++ (txW ac (a 1) res.2.1 ++ (shW ac (a 2) res.2.2.1 ++ (shW ac (a 3) res.2.2.2.1 ++ (teW ac (a 4) (a 1) (a 10) te ++ (paW ac a res.2.2.2.2.1 ++ (fcW ac (a 6) w1 w2 fc ++ (frW ac (a 7) to ++ (frW ac (a 8) tp ++ (reW ac (a 9) res.2.2.2.2.2.1 ++ (shW ac (a 40) k0 ++ (shW ac (a 41) k1 ++ (shW ac (a 10) ti))))))))))))) ++ ringW ac a res.2.2.2.2.2.2)) (va_A ((koW ac a ko ++ (txW ac (a 1) tx ++ (shW ac (a 2) now ++ (shW ac (a 3) tr ++ (teW ac (a 4) (a 1) (a 10) te ++ (paW ac a pa ++ (fcW ac (a 6) w1 w2 fc ++ (frW ac (a 7) to ++ (frW ac (a 8) tp ++ (reW ac (a 9) re ++ (shW ac (a 40) k0 ++ (shW ac (a 41) k1 ++ (shW ac (a 10) ti))))))))))))) ++ ringW ac a rg) sz)) 0 0 (va_A ((koW ac a ko ++ (txW ac (a 1) tx ++ (shW ac (a 2) now ++ (shW ac (a 3) tr ++ (teW ac (a 4) (a 1) (a 10) te ++ (paW ac a pa ++ (fcW ac (a 6) w1 w2 fc ++ (frW ac (a 7) to ++ (frW ac (a 8) tp ++ (reW ac (a 9) re ++ (shW ac (a 40) k0 ++ (shW ac (a 41) k1 ++ (shW ac (a 10) ti))))))))))))) ++ ringW ac a rg) sz) := by
  refine Met.ofW (cc := cX7_play) (maxL := 2) (ret := (some .int)) (by decide) rfl ?_
  intro p e s m args below meth c s₁ B hml hv
  obtain ⟨rfl, hsz, hP, hKX, hD0, hC⟩ := hv
  have hx := B.exec
  have hb := B.bytes
  have hr := B.returns
  have hts := atoms_spec (ws := cWW yX7_play cX7_play 2 (some .int)) B.pre
  have htw : ∀ w ∈ WW, w.before _ s = true := fun w h => hts w (List.mem_cons_of_mem _ h)
  have hown : s.vm.findClass RX7 = some m.cls := findClass_of_methodNamed B.named
  have hlocks := B.notSynchronized
  clear hts B
  subst hsz
  have hD := hD0.self (sz := s.heap.size)
  generalize hAe : va_A ((koW ac a ko ++ (txW ac (a 1) tx ++ (shW ac (a 2) now ++ (shW ac (a 3) tr ++ (teW ac (a 4) (a 1) (a 10) te ++ (paW ac a pa ++ (fcW ac (a 6) w1 w2 fc ++ (frW ac (a 7) to ++ (frW ac (a 8) tp ++ (reW ac (a 9) re ++ (shW ac (a 40) k0 ++ (shW ac (a 41) k1 ++ (shW ac (a 10) ti))))))))))))) ++ ringW ac a rg) s.heap.size = A at hD hC ⊢
  have hA : ∀ q : Nat, s.heap.size ≤ q → A q := fun q h => by rw [← hAe]; exact Or.inr h
  have hS : va_S A s.heap s.heap [] := va_S.rf
  clear hD0 hAe
  have hP : va_P D vwCl ((koW ac a ko ++ (txW ac (a 1) tx ++ (shW ac (a 2) now ++ (shW ac (a 3) tr ++ (teW ac (a 4) (a 1) (a 10) te ++ (paW ac a pa ++ (fcW ac (a 6) w1 w2 fc ++ (frW ac (a 7) to ++ (frW ac (a 8) tp ++ (reW ac (a 9) re ++ (shW ac (a 40) k0 ++ (shW ac (a 41) k1 ++ (shW ac (a 10) ti))))))))))))) ++ ringW ac a rg) s.heap := hP
  have hl := lv_entry ([.ref (a 0 0)]) (n := 2) (Nat.le_of_ble_eq_true rfl)
  rw [lg_entry_eq]
  generalize (lg_sl ([.ref (a 0 0)]) ++ List.replicate (2 - (lg_sl ([.ref (a 0 0)])).length) Slot.unset).toArray = ls at hl ⊢
  have hl : lv_has ls 2 [(0, .ref (a 0 0))] := hl
  unfold K_play at hf
  show W p l e ({ frames := 7, cells := 0, slots := 0, locals := 150 } : Room) s m _ below meth c s.heap [] 0 0 _ (F0 m 0 ls [])
  refine lv_aload_n hx hb dX7_play_0 rfl (lv_at hl 0 rfl) ?_
  refine va_get (D := D) (ci := 7) (v := .ref (a 2 0)) (C := RX7) (T := TX7) (N := 13) hx hb htw WW_wsX70 hown hKX.1 hP 0 rfl rfl 2 (Nat.le_of_ble_eq_true rfl) (htw _ mF_RX7_26) (fun _ h9 => h9) rfl dX7_play_1 ?_
  refine va_getN (D := D) (ci := 4) (v := .int (sh_shooters now)) (C := RX4) (T := TX4) (N := 10) hx hb htw WW_wsX40 hown hKX.1 hP 6 rfl rfl 0 (Nat.le_of_ble_eq_true rfl) (va_Nw.use rfl (hKX.2 _ (List.mem_of_getElem? (i := 3) rfl))) (fun _ h9 => h9) rfl dX7_play_4 ?_
  obtain ⟨k7, hk7, hf⟩ := z_jn_u hf
  have hj8 : ∀ (v1 : Int32) (sh2 : Sh) (sh3 : Sh) (pa4 : Pa) (re5 : Re) (rg6 : Nat → Sh), k7 (v1, sh2, sh3, pa4, re5, rg6) = some res → ∀ (H : Heap) (locs : List Loc) (ls : Array Slot), va_P D vwCl ((koW ac a ko ++ (txW ac (a 1) tx ++ (shW ac (a 2) sh2 ++ (shW ac (a 3) sh3 ++ (teW ac (a 4) (a 1) (a 10) te ++ (paW ac a pa4 ++ (fcW ac (a 6) w1 w2 fc ++ (frW ac (a 7) to ++ (frW ac (a 8) tp ++ (reW ac (a 9) re5 ++ (shW ac (a 40) k0 ++ (shW ac (a 41) k1 ++ (shW ac (a 10) ti))))))))))))) ++ ringW ac a rg6) H → va_D A ((koW ac a ko ++ (txW ac (a 1) tx ++ (shW ac (a 2) sh2 ++ (shW ac (a 3) sh3 ++ (teW ac (a 4) (a 1) (a 10) te ++ (paW ac a pa4 ++ (fcW ac (a 6) w1 w2 fc ++ (frW ac (a 7) to ++ (frW ac (a 8) tp ++ (reW ac (a 9) re5 ++ (shW ac (a 40) k0 ++ (shW ac (a 41) k1 ++ (shW ac (a 10) ti))))))))))))) ++ ringW ac a rg6) → va_S A s.heap H locs → lv_has ls 2 [(0, .ref (a 0 0))] → W p l e ({ frames := 7, cells := 0, slots := 0, locals := 150 } : Room) s m (([.ref (a 0 0)] : List Value).toArray) below meth c H locs 0 0 (MQ below (va_Qi (fun r (_ : Unit) => r = res.1) (fun _ => zB D A ((koW ac a ko ++ (txW ac (a 1) res.2.1 ++ (shW ac (a 2) res.2.2.1 ++ (shW ac (a 3) res.2.2.2.1 ++ (teW ac (a 4) (a 1) (a 10) te ++ (paW ac a res.2.2.2.2.1 ++ (fcW ac (a 6) w1 w2 fc ++ (frW ac (a 7) to ++ (frW ac (a 8) tp ++ (reW ac (a 9) res.2.2.2.2.2.1 ++ (shW ac (a 40) k0 ++ (shW ac (a 41) k1 ++ (shW ac (a 10) ti))))))))))))) ++ ringW ac a res.2.2.2.2.2.2)) A) ([.ref (a 0 0)] : List Value).toArray s 0 0 A) (F0 m 19 ls [.int v1]) := by
    intro v1 sh2 sh3 pa4 re5 rg6 hf H locs ls hP hD hS hl
    have hf := hk7 _ hf
    refine lv_istore_n (lv' := [(1, .int v1), (0, .ref (a 0 0))]) hx hb dX7_play_19 rfl hl (Nat.le_of_ble_eq_true rfl) rfl (fun ls hl => ?_)
    refine lv_aload_n hx hb dX7_play_20 rfl (lv_at hl 1 rfl) ?_
    refine va_get (D := D) (ci := 7) (v := .ref (a 1 0)) (C := RX7) (T := TX7) (N := 13) hx hb htw WW_wsX70 hown hKX.1 hP 0 rfl rfl 1 (Nat.le_of_ble_eq_true rfl) (htw _ mF_RX7_22) (fun _ h9 => h9) rfl dX7_play_21 ?_
    refine lv_iconst (v := 0) hx hb dX7_play_24 rfl ?_
    refine va_putN (D := D) (ci := 6) (v := .int 0) (ty := tyX6 1) (C := RX6) (T := TX6) (N := 2) hx hb htw WW_wsX60 tyX6 tyX6_ok nmX6 hown hKX.1 hP hD hS 4 rfl rfl 1 (Nat.le_of_ble_eq_true rfl) (va_Nw.use rfl (hKX.2 _ (List.mem_of_getElem? (i := 0) rfl))) (fun _ h9 => h9) rfl (tyX6_ok 1 (Nat.le_of_ble_eq_true rfl)) rfl rfl (Nat.le_of_ble_eq_true rfl) dX7_play_25 (fun H locs hP hD hS => ?_)
    have hP : va_P D vwCl ((koW ac a ko ++ (txW ac (a 1) ((tx_signs tx), 0) ++ (shW ac (a 2) sh2 ++ (shW ac (a 3) sh3 ++ (teW ac (a 4) (a 1) (a 10) te ++ (paW ac a pa4 ++ (fcW ac (a 6) w1 w2 fc ++ (frW ac (a 7) to ++ (frW ac (a 8) tp ++ (reW ac (a 9) re5 ++ (shW ac (a 40) k0 ++ (shW ac (a 41) k1 ++ (shW ac (a 10) ti))))))))))))) ++ ringW ac a rg6) H := hP
    have hD : va_D A ((koW ac a ko ++ (txW ac (a 1) ((tx_signs tx), 0) ++ (shW ac (a 2) sh2 ++ (shW ac (a 3) sh3 ++ (teW ac (a 4) (a 1) (a 10) te ++ (paW ac a pa4 ++ (fcW ac (a 6) w1 w2 fc ++ (frW ac (a 7) to ++ (frW ac (a 8) tp ++ (reW ac (a 9) re5 ++ (shW ac (a 40) k0 ++ (shW ac (a 41) k1 ++ (shW ac (a 10) ti))))))))))))) ++ ringW ac a rg6) := hD
    refine lv_iload_n hx hb dX7_play_28 rfl (lv_at hl 0 rfl) ?_
    obtain rfl := Option.some.inj hf
    exact zr_Mi hx hb hr hlocks hP hD hS dX7_play_29
  refine lv_if_ne (tgt := 15) hx hb dX7_play_7 (by decide) (fun c9 => ?_) (fun c9 => ?_)
  · have hf := z_n c9 hf
    refine lv_aload_n hx hb dX7_play_15 rfl (lv_at hl 0 rfl) ?_
    obtain ⟨u10, hu10, hf⟩ := z_bd_u hf
    refine zc_MViT (E := (koW ac a ko ++ (txW ac (a 1) tx ++ (shW ac (a 2) now ++ (shW ac (a 3) tr ++ (teW ac (a 4) (a 1) (a 10) te ++ (paW ac a pa ++ (fcW ac (a 6) w1 w2 fc ++ (frW ac (a 7) to ++ (frW ac (a 8) tp ++ (reW ac (a 9) re ++ (shW ac (a 40) k0 ++ (shW ac (a 41) k1 ++ (shW ac (a 10) ti))))))))))))) ++ ringW ac a rg) (TT := []) (As := []) (rest := []) (wr := []) (wsc := (koW ac a ko ++ (txW ac (a 1) tx ++ (shW ac (a 2) now ++ (shW ac (a 3) tr ++ (teW ac (a 4) (a 1) (a 10) te ++ (paW ac a pa ++ (fcW ac (a 6) w1 w2 fc ++ (frW ac (a 7) to ++ (frW ac (a 8) tp ++ (reW ac (a 9) re ++ (shW ac (a 40) k0 ++ (shW ac (a 41) k1 ++ (shW ac (a 10) ti))))))))))))) ++ ringW ac a rg) (wsc' := (koW ac a ko ++ (txW ac (a 1) tx ++ (shW ac (a 2) u10.2.1 ++ (shW ac (a 3) u10.2.2.1 ++ (teW ac (a 4) (a 1) (a 10) te ++ (paW ac a u10.2.2.2.1 ++ (fcW ac (a 6) w1 w2 fc ++ (frW ac (a 7) to ++ (frW ac (a 8) tp ++ (reW ac (a 9) u10.2.2.2.2.1 ++ (shW ac (a 40) k0 ++ (shW ac (a 41) k1 ++ (shW ac (a 10) ti))))))))))))) ++ ringW ac a u10.2.2.2.2.2) hx hb hml hown htw (ctX7_playFromNow l D ac cs a w1 w2 s.heap.size ko tx now tr te pa fc to tp re k0 k1 ti rg    F u10 hu10) (g_V mM_RX7_140 mI_yX7_playFromNow mS_RX7_yX7_playFromNow_yX7_playFromNow mN_RX7 mC_yX7_playFromNow) rfl (hd_yX7_playFromNow) ⟨rfl, rfl⟩ ⟨(Nat.le_of_ble_eq_true rfl), (Nat.le_of_ble_eq_true rfl)⟩ hKX hC hS hA (zP_nil hP) (zD_nil hD) (List.range _) [] (zrange _) (zndr _) rfl rfl (fun _ h => by cases h) 7 rfl rfl rfl hl.1 rfl (Nat.le_of_ble_eq_true rfl) ⟨Nat.zero_le _, Nat.zero_le _⟩ dX7_play_16 (fun H locs hP hD hS => ?_)
    have hP : va_P D vwCl ((koW ac a ko ++ (txW ac (a 1) tx ++ (shW ac (a 2) u10.2.1 ++ (shW ac (a 3) u10.2.2.1 ++ (teW ac (a 4) (a 1) (a 10) te ++ (paW ac a u10.2.2.2.1 ++ (fcW ac (a 6) w1 w2 fc ++ (frW ac (a 7) to ++ (frW ac (a 8) tp ++ (reW ac (a 9) u10.2.2.2.2.1 ++ (shW ac (a 40) k0 ++ (shW ac (a 41) k1 ++ (shW ac (a 10) ti))))))))))))) ++ ringW ac a u10.2.2.2.2.2) H := zP_un hP
    have hD : va_D A ((koW ac a ko ++ (txW ac (a 1) tx ++ (shW ac (a 2) u10.2.1 ++ (shW ac (a 3) u10.2.2.1 ++ (teW ac (a 4) (a 1) (a 10) te ++ (paW ac a u10.2.2.2.1 ++ (fcW ac (a 6) w1 w2 fc ++ (frW ac (a 7) to ++ (frW ac (a 8) tp ++ (reW ac (a 9) u10.2.2.2.2.1 ++ (shW ac (a 40) k0 ++ (shW ac (a 41) k1 ++ (shW ac (a 10) ti))))))))))))) ++ ringW ac a u10.2.2.2.2.2) := zD_un hD
    exact hj8 u10.1 u10.2.1 u10.2.2.1 u10.2.2.2.1 u10.2.2.2.2.1 u10.2.2.2.2.2 hf _ _ ls  hP hD hS (lv_sub hl [0] rfl)
  · have hf := z_p c9 hf
    refine lv_bipush (v := (-2)) hx hb dX7_play_10 rfl ?_
    refine lv_goto (tgt := 19) hx hb dX7_play_12 (by decide) ?_
    exact hj8 (-2) now tr pa re rg hf _ _ ls  hP hD hS (lv_sub hl [0] rfl)

theorem hd_yX7_takeStart : hdY yX7_takeStart 0 := by decide +kernel
def K_takeStart (F : Nat) (now : Sh) (tr : Sh) : Option (Sh) := z_bd (Sh_copyFrom F tr now) (fun u1 : Sh => z_let (Sh_restart u1) (fun u2 : Sh => some u2))
set_option maxHeartbeats 4000000 in
set_option maxRecDepth 100000 in
theorem ctX7_takeStart (l : Launch) (D : va_G) (ac cs : Nat → Nat) (a : Nat → Nat → Nat) (w1 w2 : Nat) (sz : Nat) (ko : Ko) (tx : Tx) (now : Sh) (tr : Sh) (te : Te) (pa : Pa) (fc : Fc) (to : Fr) (tp : Fr) (re : Re) (k0 : Sh) (k1 : Sh) (ti : Sh) (rg : Nat → Sh) (F : Nat) (res : Sh) (hf : K_takeStart F now tr = some res) : Met l yX7_takeStart (cWW yX7_takeStart cX7_takeStart 1 none) { frames := 1, cells := 0, slots := 0, locals := 22 } (zM D ac cs [.ref (a 0 0)] ((koW ac a ko ++ (txW ac (a 1) tx ++ (shW ac (a 2) now ++ (shW ac (a 3) tr ++ (teW ac (a 4) (a 1) (a 10) te ++ (paW ac a pa ++ (fcW ac (a 6) w1 w2 fc ++ (frW ac (a 7) to ++ (frW ac (a 8) tp ++ (reW ac (a 9) re ++ (shW ac (a 40) k0 ++ (shW ac (a 41) k1 ++ (shW ac (a 10) ti))))))))))))) ++ ringW ac a rg) sz) (va_Qv (fun _ : Unit => True) (fun _ => zB D (va_A ((koW ac a ko ++ (txW ac (a 1) tx ++ (shW ac (a 2) now ++ (shW ac (a 3) tr ++ (teW ac (a 4) (a 1) (a 10) te ++ (paW ac a pa ++ (fcW ac (a 6) w1 w2 fc ++ (frW ac (a 7) to ++ (frW ac (a 8) tp ++ (reW ac (a 9) re ++ (shW ac (a 40) k0 ++ (shW ac (a 41) k1 ++ (shW ac (a 10) ti))))))))))))) ++ ringW ac a rg) sz) ((koW ac a ko ++ (txW ac (a 1) tx ++ (shW ac (a 2) now ++ (shW ac (a 3) res ++ (teW ac (a 4) (a 1) (a 10) te ++ (paW ac a pa ++ (fcW ac (a 6) w1 w2 fc ++ (frW ac (a 7) to ++ (frW ac (a 8) tp ++ (reW ac (a 9) re ++ (shW ac (a 40) k0 ++ (shW ac (a 41) k1 ++ (shW ac (a 10) ti))))))))))))) ++ ringW ac a rg)) (va_A ((koW ac a ko ++ (txW ac (a 1) tx ++ (shW ac (a 2) now ++ (shW ac (a 3) tr ++ (teW ac (a 4) (a 1) (a 10) te ++ (paW ac a pa ++ (fcW ac (a 6) w1 w2 fc ++ (frW ac (a 7) to ++ (frW ac (a 8) tp ++ (reW ac (a 9) re ++ (shW ac (a 40) k0 ++ (shW ac (a 41) k1 ++ (shW ac (a 10) ti))))))))))))) ++ ringW ac a rg) sz)) 0 0 (va_A ((koW ac a ko ++ (txW ac (a 1) tx ++ (shW ac (a 2) now ++ (shW ac (a 3) tr ++ (teW ac (a 4) (a 1) (a 10) te ++ (paW ac a pa ++ (fcW ac (a 6) w1 w2 fc ++ (frW ac (a 7) to ++ (frW ac (a 8) tp ++ (reW ac (a 9) re ++ (shW ac (a 40) k0 ++ (shW ac (a 41) k1 ++ (shW ac (a 10) ti))))))))))))) ++ ringW ac a rg) sz) := by
  refine Met.ofW (cc := cX7_takeStart) (maxL := 1) (ret := none) (by decide) rfl ?_
  intro p e s m args below meth c s₁ B hml hv
  obtain ⟨rfl, hsz, hP, hKX, hD0, hC⟩ := hv
  have hx := B.exec
  have hb := B.bytes
  have hr := B.returns
  have hts := atoms_spec (ws := cWW yX7_takeStart cX7_takeStart 1 none) B.pre
  have htw : ∀ w ∈ WW, w.before _ s = true := fun w h => hts w (List.mem_cons_of_mem _ h)
  have hown : s.vm.findClass RX7 = some m.cls := findClass_of_methodNamed B.named
  have hlocks := B.notSynchronized
  clear hts B
  subst hsz
  have hD := hD0.self (sz := s.heap.size)
  generalize hAe : va_A ((koW ac a ko ++ (txW ac (a 1) tx ++ (shW ac (a 2) now ++ (shW ac (a 3) tr ++ (teW ac (a 4) (a 1) (a 10) te ++ (paW ac a pa ++ (fcW ac (a 6) w1 w2 fc ++ (frW ac (a 7) to ++ (frW ac (a 8) tp ++ (reW ac (a 9) re ++ (shW ac (a 40) k0 ++ (shW ac (a 41) k1 ++ (shW ac (a 10) ti))))))))))))) ++ ringW ac a rg) s.heap.size = A at hD hC ⊢
  have hA : ∀ q : Nat, s.heap.size ≤ q → A q := fun q h => by rw [← hAe]; exact Or.inr h
  have hS : va_S A s.heap s.heap [] := va_S.rf
  clear hD0 hAe
  have hP : va_P D vwCl ((koW ac a ko ++ (txW ac (a 1) tx ++ (shW ac (a 2) now ++ (shW ac (a 3) tr ++ (teW ac (a 4) (a 1) (a 10) te ++ (paW ac a pa ++ (fcW ac (a 6) w1 w2 fc ++ (frW ac (a 7) to ++ (frW ac (a 8) tp ++ (reW ac (a 9) re ++ (shW ac (a 40) k0 ++ (shW ac (a 41) k1 ++ (shW ac (a 10) ti))))))))))))) ++ ringW ac a rg) s.heap := hP
  have hl := lv_entry ([.ref (a 0 0)]) (n := 1) (Nat.le_of_ble_eq_true rfl)
  rw [lg_entry_eq]
  generalize (lg_sl ([.ref (a 0 0)]) ++ List.replicate (1 - (lg_sl ([.ref (a 0 0)])).length) Slot.unset).toArray = ls at hl ⊢
  have hl : lv_has ls 1 [(0, .ref (a 0 0))] := hl
  unfold K_takeStart at hf
  show W p l e ({ frames := 1, cells := 0, slots := 0, locals := 22 } : Room) s m _ below meth c s.heap [] 0 0 _ (F0 m 0 ls [])
  refine lv_aload_n hx hb dX7_takeStart_0 rfl (lv_at hl 0 rfl) ?_
  refine va_get (D := D) (ci := 7) (v := .ref (a 3 0)) (C := RX7) (T := TX7) (N := 13) hx hb htw WW_wsX70 hown hKX.1 hP 0 rfl rfl 3 (Nat.le_of_ble_eq_true rfl) (htw _ mF_RX7_30) (fun _ h9 => h9) rfl dX7_takeStart_1 ?_
  refine lv_aload_n hx hb dX7_takeStart_4 rfl (lv_at hl 0 rfl) ?_
  refine va_get (D := D) (ci := 7) (v := .ref (a 2 0)) (C := RX7) (T := TX7) (N := 13) hx hb htw WW_wsX70 hown hKX.1 hP 0 rfl rfl 2 (Nat.le_of_ble_eq_true rfl) (htw _ mF_RX7_26) (fun _ h9 => h9) rfl dX7_takeStart_5 ?_
  obtain ⟨u1, hu1, hf⟩ := z_bd_u hf
  refine zc_MVvT (As := [.ref (a 2 0)]) (rest := []) (wr := koW ac a ko ++ (txW ac (a 1) tx ++ (teW ac (a 4) (a 1) (a 10) te ++ (paW ac a pa ++ (fcW ac (a 6) w1 w2 fc ++ (frW ac (a 7) to ++ (frW ac (a 8) tp ++ (reW ac (a 9) re ++ (shW ac (a 40) k0 ++ (shW ac (a 41) k1 ++ (shW ac (a 10) ti))))))))))) (wsc := shW ac (a 3) tr ++ (shW ac (a 2) now)) (wsc' := shW ac (a 3) u1 ++ (shW ac (a 2) now)) hx hb hml hown htw (ctX4_copyFrom l D ac cs (a 3) (a 2) s.heap.size tr now    F u1 hu1) (g_V mM_RX7_93 mI_yX4_copyFrom mS_RX4_yX4_copyFrom_yX4_copyFrom mN_RX4 mC_yX4_copyFrom) rfl (hd_yX4_copyFrom) ⟨rfl, rfl⟩ ⟨(Nat.le_of_ble_eq_true rfl), (Nat.le_of_ble_eq_true rfl)⟩ hKX hC hS hA hP hD [9, 10, 11, 6, 7, 8] [0, 1, 2, 3, 4, 5, 12, 13, 14, 15, 16, 17, 18, 19, 20, 21, 22, 23, 24, 25, 26, 27, 28, 29, 30, 31, 32, 33, 34, 35, 36, 37] rfl (by decide) rfl (by decide) (by decide) 4 rfl rfl rfl hl.1 rfl (Nat.le_of_ble_eq_true rfl) ⟨Nat.zero_le _, Nat.zero_le _⟩ dX7_takeStart_8 (fun H locs hP hD hS => ?_)
  have hP : va_P D vwCl ((koW ac a ko ++ (txW ac (a 1) tx ++ (shW ac (a 2) now ++ (shW ac (a 3) u1 ++ (teW ac (a 4) (a 1) (a 10) te ++ (paW ac a pa ++ (fcW ac (a 6) w1 w2 fc ++ (frW ac (a 7) to ++ (frW ac (a 8) tp ++ (reW ac (a 9) re ++ (shW ac (a 40) k0 ++ (shW ac (a 41) k1 ++ (shW ac (a 10) ti))))))))))))) ++ ringW ac a rg) H := zsubPT hP [0, 1, 2, 3, 4, 5, 35, 36, 37, 32, 33, 34, 6, 7, 8, 9, 10, 11, 12, 13, 14, 15, 16, 17, 18, 19, 20, 21, 22, 23, 24, 25, 26, 27, 28, 29, 30, 31] rfl
  have hD : va_D A ((koW ac a ko ++ (txW ac (a 1) tx ++ (shW ac (a 2) now ++ (shW ac (a 3) u1 ++ (teW ac (a 4) (a 1) (a 10) te ++ (paW ac a pa ++ (fcW ac (a 6) w1 w2 fc ++ (frW ac (a 7) to ++ (frW ac (a 8) tp ++ (reW ac (a 9) re ++ (shW ac (a 40) k0 ++ (shW ac (a 41) k1 ++ (shW ac (a 10) ti))))))))))))) ++ ringW ac a rg) := zsubDT hD [0, 1, 2, 3, 4, 5, 35, 36, 37, 32, 33, 34, 6, 7, 8, 9, 10, 11, 12, 13, 14, 15, 16, 17, 18, 19, 20, 21, 22, 23, 24, 25, 26, 27, 28, 29, 30, 31] (by decide) rfl
  refine lv_aload_n hx hb dX7_takeStart_11 rfl (lv_at hl 0 rfl) ?_
  refine va_get (D := D) (ci := 7) (v := .ref (a 3 0)) (C := RX7) (T := TX7) (N := 13) hx hb htw WW_wsX70 hown hKX.1 hP 0 rfl rfl 3 (Nat.le_of_ble_eq_true rfl) (htw _ mF_RX7_30) (fun _ h9 => h9) rfl dX7_takeStart_12 ?_
  obtain ⟨u2, hu2⟩ : ∃ y : Sh, y = Sh_restart u1 := ⟨_, rfl⟩
  have hf := z_let_u hu2 hf
  refine zc_MVvT (As := []) (rest := []) (wr := koW ac a ko ++ (txW ac (a 1) tx ++ (shW ac (a 2) now ++ (teW ac (a 4) (a 1) (a 10) te ++ (paW ac a pa ++ (fcW ac (a 6) w1 w2 fc ++ (frW ac (a 7) to ++ (frW ac (a 8) tp ++ (reW ac (a 9) re ++ (shW ac (a 40) k0 ++ (shW ac (a 41) k1 ++ (shW ac (a 10) ti)))))))))))) (wsc := shW ac (a 3) u1) (wsc' := shW ac (a 3) u2) hx hb hml hown htw (ctX4_restart l D ac cs (a 3) H.size u1    u2 hu2.symm) (g_V mM_RX7_341 mI_yX4_restart mS_RX4_yX4_restart_yX4_restart mN_RX4 mC_yX4_restart) rfl (hd_yX4_restart) ⟨rfl, rfl⟩ ⟨(Nat.le_of_ble_eq_true rfl), (Nat.le_of_ble_eq_true rfl)⟩ hKX hC hS hA hP hD [9, 10, 11] [0, 1, 2, 3, 4, 5, 6, 7, 8, 12, 13, 14, 15, 16, 17, 18, 19, 20, 21, 22, 23, 24, 25, 26, 27, 28, 29, 30, 31, 32, 33, 34, 35, 36, 37] rfl (by decide) rfl (by decide) (by decide) 4 rfl rfl rfl hl.1 rfl (Nat.le_of_ble_eq_true rfl) ⟨Nat.zero_le _, Nat.zero_le _⟩ dX7_takeStart_15 (fun H locs hP hD hS => ?_)
  have hP : va_P D vwCl ((koW ac a ko ++ (txW ac (a 1) tx ++ (shW ac (a 2) now ++ (shW ac (a 3) u2 ++ (teW ac (a 4) (a 1) (a 10) te ++ (paW ac a pa ++ (fcW ac (a 6) w1 w2 fc ++ (frW ac (a 7) to ++ (frW ac (a 8) tp ++ (reW ac (a 9) re ++ (shW ac (a 40) k0 ++ (shW ac (a 41) k1 ++ (shW ac (a 10) ti))))))))))))) ++ ringW ac a rg) H := zsubPT hP [0, 1, 2, 3, 4, 5, 6, 7, 8, 35, 36, 37, 9, 10, 11, 12, 13, 14, 15, 16, 17, 18, 19, 20, 21, 22, 23, 24, 25, 26, 27, 28, 29, 30, 31, 32, 33, 34] rfl
  have hD : va_D A ((koW ac a ko ++ (txW ac (a 1) tx ++ (shW ac (a 2) now ++ (shW ac (a 3) u2 ++ (teW ac (a 4) (a 1) (a 10) te ++ (paW ac a pa ++ (fcW ac (a 6) w1 w2 fc ++ (frW ac (a 7) to ++ (frW ac (a 8) tp ++ (reW ac (a 9) re ++ (shW ac (a 40) k0 ++ (shW ac (a 41) k1 ++ (shW ac (a 10) ti))))))))))))) ++ ringW ac a rg) := zsubDT hD [0, 1, 2, 3, 4, 5, 6, 7, 8, 35, 36, 37, 9, 10, 11, 12, 13, 14, 15, 16, 17, 18, 19, 20, 21, 22, 23, 24, 25, 26, 27, 28, 29, 30, 31, 32, 33, 34] (by decide) rfl
  obtain rfl := Option.some.inj hf
  exact zr_Mv hx hb hr hlocks hP hD hS dX7_takeStart_18

theorem hd_yX7_judgeFromStart : hdY yX7_judgeFromStart 0 := by decide +kernel
def K_judgeFromStart (F : Nat) (ko : Ko) (tx : Tx) (now : Sh) (tr : Sh) : Option (Int32 × Ko × Sh) := z_bd (Tx_firstBut F tx 8) (fun r1 : Int32 => if r1 < 0 then (z_bd (K_takeStart F now tr) (fun u3 : Sh => z_bd (K_playTextOnTrial F tx u3) (fun u4 : Int32 × Sh => z_let u4.1 (fun x5 : Int32 => if x5 < 0 then (z_let (Sh_goalsOf u4.2 0) (fun x7 : Int32 => z_let (Sh_goalsOf u4.2 1) (fun x8 : Int32 => z_let (if Sh_isOver u4.2 = 0 then 0 else 1) (fun v9 : Int32 => z_let (if (sh_kicks u4.2) = 0 then (-1) else (((sh_kicks u4.2) - 1) / 2)) (fun v13 : Int32 => some ((sh_kicks u4.2), ((ko_isKept ko), (upd (upd (upd (upd (ko_verdict ko) 0 x7) 1 x8) 2 v9) 3 v13), 1), u4.2)))))) else (some (((-1000) - x5), ko, u4.2)))))) else (some (((-1000) - r1), ko, tr)))
set_option maxHeartbeats 4000000 in
set_option maxRecDepth 100000 in
theorem ctX7_judgeFromStart (l : Launch) (D : va_G) (ac cs : Nat → Nat) (a : Nat → Nat → Nat) (w1 w2 : Nat) (sz : Nat) (ko : Ko) (tx : Tx) (now : Sh) (tr : Sh) (te : Te) (pa : Pa) (fc : Fc) (to : Fr) (tp : Fr) (re : Re) (k0 : Sh) (k1 : Sh) (ti : Sh) (rg : Nat → Sh) (F : Nat) (res : Int32 × Ko × Sh) (hf : K_judgeFromStart F ko tx now tr = some res) : Met l yX7_judgeFromStart (cWW yX7_judgeFromStart cX7_judgeFromStart 3 (some .int)) { frames := 6, cells := 0, slots := 0, locals := 127 } (zM D ac cs [.ref (a 0 0)] ((koW ac a ko ++ (txW ac (a 1) tx ++ (shW ac (a 2) now ++ (shW ac (a 3) tr ++ (teW ac (a 4) (a 1) (a 10) te ++ (paW ac a pa ++ (fcW ac (a 6) w1 w2 fc ++ (frW ac (a 7) to ++ (frW ac (a 8) tp ++ (reW ac (a 9) re ++ (shW ac (a 40) k0 ++ (shW ac (a 41) k1 ++ (shW ac (a 10) ti))))))))))))) ++ ringW ac a rg) sz) (va_Qi (fun r (_ : Unit) => r = res.1) (fun _ => zB D (va_A ((koW ac a ko ++ (txW ac (a 1) tx ++ (shW ac (a 2) now ++ (shW ac (a 3) tr ++ (teW ac (a 4) (a 1) (a 10) te ++ (paW ac a pa ++ (fcW ac (a 6) w1 w2 fc ++ (frW ac (a 7) to ++ (frW ac (a 8) tp ++ (reW ac (a 9) re ++ (shW ac (a 40) k0 ++ (shW ac (a 41) k1 ++ (shW ac (a 10) ti))))))))))))) ++ ringW ac a rg) sz) ((koW ac a res.2.1 ++ (txW ac (a 1) tx ++ (shW ac (a 2) now ++ (shW ac (a 3) res.2.2 ++ (teW ac (a 4) (a 1) (a 10) te ++ (paW ac a pa ++ (fcW ac (a 6) w1 w2 fc ++ (frW ac (a 7) to ++ (frW ac (a 8) tp ++ (reW ac (a 9) re ++ (shW ac (a 40) k0 ++ (shW ac (a 41) k1 ++ (shW ac (a 10) ti))))))))))))) ++ ringW ac a rg)) (va_A ((koW ac a ko ++ (txW ac (a 1) tx ++ (shW ac (a 2) now ++ (shW ac (a 3) tr ++ (teW ac (a 4) (a 1) (a 10) te ++ (paW ac a pa ++ (fcW ac (a 6) w1 w2 fc ++ (frW ac (a 7) to ++ (frW ac (a 8) tp ++ (reW ac (a 9) re ++ (shW ac (a 40) k0 ++ (shW ac (a 41) k1 ++ (shW ac (a 10) ti))))))))))))) ++ ringW ac a rg) sz)) 0 0 (va_A ((koW ac a ko ++ (txW ac (a 1) tx ++ (shW ac (a 2) now ++ (shW ac (a 3) tr ++ (teW ac (a 4) (a 1) (a 10) te ++ (paW ac a pa ++ (fcW ac (a 6) w1 w2 fc ++ (frW ac (a 7) to ++ (frW ac (a 8) tp ++ (reW ac (a 9) re ++ (shW ac (a 40) k0 ++ (shW ac (a 41) k1 ++ (shW ac (a 10) ti))))))))))))) ++ ringW ac a rg) sz) := by
  refine Met.ofW (cc := cX7_judgeFromStart) (maxL := 3) (ret := (some .int)) (by decide) rfl ?_
  intro p e s m args below meth c s₁ B hml hv
  obtain ⟨rfl, hsz, hP, hKX, hD0, hC⟩ := hv
  have hx := B.exec
  have hb := B.bytes
  have hr := B.returns
  have hts := atoms_spec (ws := cWW yX7_judgeFromStart cX7_judgeFromStart 3 (some .int)) B.pre
  have htw : ∀ w ∈ WW, w.before _ s = true := fun w h => hts w (List.mem_cons_of_mem _ h)
  have hown : s.vm.findClass RX7 = some m.cls := findClass_of_methodNamed B.named
  have hlocks := B.notSynchronized
  clear hts B
  subst hsz
  have hD := hD0.self (sz := s.heap.size)
  generalize hAe : va_A ((koW ac a ko ++ (txW ac (a 1) tx ++ (shW ac (a 2) now ++ (shW ac (a 3) tr ++ (teW ac (a 4) (a 1) (a 10) te ++ (paW ac a pa ++ (fcW ac (a 6) w1 w2 fc ++ (frW ac (a 7) to ++ (frW ac (a 8) tp ++ (reW ac (a 9) re ++ (shW ac (a 40) k0 ++ (shW ac (a 41) k1 ++ (shW ac (a 10) ti))))))))))))) ++ ringW ac a rg) s.heap.size = A at hD hC ⊢
  have hA : ∀ q : Nat, s.heap.size ≤ q → A q := fun q h => by rw [← hAe]; exact Or.inr h
  have hS : va_S A s.heap s.heap [] := va_S.rf
  clear hD0 hAe
  have hP : va_P D vwCl ((koW ac a ko ++ (txW ac (a 1) tx ++ (shW ac (a 2) now ++ (shW ac (a 3) tr ++ (teW ac (a 4) (a 1) (a 10) te ++ (paW ac a pa ++ (fcW ac (a 6) w1 w2 fc ++ (frW ac (a 7) to ++ (frW ac (a 8) tp ++ (reW ac (a 9) re ++ (shW ac (a 40) k0 ++ (shW ac (a 41) k1 ++ (shW ac (a 10) ti))))))))))))) ++ ringW ac a rg) s.heap := hP
  have hl := lv_entry ([.ref (a 0 0)]) (n := 3) (Nat.le_of_ble_eq_true rfl)
  rw [lg_entry_eq]
  generalize (lg_sl ([.ref (a 0 0)]) ++ List.replicate (3 - (lg_sl ([.ref (a 0 0)])).length) Slot.unset).toArray = ls at hl ⊢
  have hl : lv_has ls 3 [(0, .ref (a 0 0))] := hl
  unfold K_judgeFromStart at hf
  show W p l e ({ frames := 6, cells := 0, slots := 0, locals := 127 } : Room) s m _ below meth c s.heap [] 0 0 _ (F0 m 0 ls [])
  refine lv_aload_n hx hb dX7_judgeFromStart_0 rfl (lv_at hl 0 rfl) ?_
  refine va_get (D := D) (ci := 7) (v := .ref (a 1 0)) (C := RX7) (T := TX7) (N := 13) hx hb htw WW_wsX70 hown hKX.1 hP 0 rfl rfl 1 (Nat.le_of_ble_eq_true rfl) (htw _ mF_RX7_22) (fun _ h9 => h9) rfl dX7_judgeFromStart_1 ?_
  refine zv_ldcwS hx hb hown (sr_8 hC) dX7_judgeFromStart_4 ?_
  obtain ⟨r1, hr1, hf⟩ := z_bd_u hf
  refine zc_RVi (As := [.ref (cs (10 + 8))]) (rest := []) hx hb hml hown htw (ctX6_firstBut l D ac cs (a 1) tx 8  (by decide) F _ hr1) (g_V mM_RX7_329 mI_yX6_firstBut mS_RX6_yX6_firstBut_yX6_firstBut mN_RX6 mC_yX6_firstBut) rfl (hd_yX6_firstBut) ⟨rfl, rfl⟩ ⟨(Nat.le_of_ble_eq_true rfl), (Nat.le_of_ble_eq_true rfl)⟩ hKX hC hS (hP.sub [4, 5] rfl) 6 rfl rfl rfl hl.1 rfl (Nat.le_of_ble_eq_true rfl) ⟨Nat.zero_le _, Nat.zero_le _⟩ dX7_judgeFromStart_7 ?_
  refine lv_istore_n (lv' := [(1, .int r1), (0, .ref (a 0 0))]) hx hb dX7_judgeFromStart_10 rfl hl (Nat.le_of_ble_eq_true rfl) rfl (fun ls hl => ?_)
  refine lv_iload_n hx hb dX7_judgeFromStart_11 rfl (lv_at hl 0 rfl) ?_
  refine lv_if_lt (tgt := 21) hx hb dX7_judgeFromStart_12 (by decide) (fun c2 => ?_) (fun c2 => ?_)
  · have hf := z_p c2 hf
    refine lv_aload_n hx hb dX7_judgeFromStart_21 rfl (lv_at hl 1 rfl) ?_
    obtain ⟨u3, hu3, hf⟩ := z_bd_u hf
    refine zc_MVvT (E := (koW ac a ko ++ (txW ac (a 1) tx ++ (shW ac (a 2) now ++ (shW ac (a 3) tr ++ (teW ac (a 4) (a 1) (a 10) te ++ (paW ac a pa ++ (fcW ac (a 6) w1 w2 fc ++ (frW ac (a 7) to ++ (frW ac (a 8) tp ++ (reW ac (a 9) re ++ (shW ac (a 40) k0 ++ (shW ac (a 41) k1 ++ (shW ac (a 10) ti))))))))))))) ++ ringW ac a rg) (TT := []) (As := []) (rest := []) (wr := []) (wsc := (koW ac a ko ++ (txW ac (a 1) tx ++ (shW ac (a 2) now ++ (shW ac (a 3) tr ++ (teW ac (a 4) (a 1) (a 10) te ++ (paW ac a pa ++ (fcW ac (a 6) w1 w2 fc ++ (frW ac (a 7) to ++ (frW ac (a 8) tp ++ (reW ac (a 9) re ++ (shW ac (a 40) k0 ++ (shW ac (a 41) k1 ++ (shW ac (a 10) ti))))))))))))) ++ ringW ac a rg) (wsc' := (koW ac a ko ++ (txW ac (a 1) tx ++ (shW ac (a 2) now ++ (shW ac (a 3) u3 ++ (teW ac (a 4) (a 1) (a 10) te ++ (paW ac a pa ++ (fcW ac (a 6) w1 w2 fc ++ (frW ac (a 7) to ++ (frW ac (a 8) tp ++ (reW ac (a 9) re ++ (shW ac (a 40) k0 ++ (shW ac (a 41) k1 ++ (shW ac (a 10) ti))))))))))))) ++ ringW ac a rg) hx hb hml hown htw (ctX7_takeStart l D ac cs a w1 w2 s.heap.size ko tx now tr te pa fc to tp re k0 k1 ti rg    F u3 hu3) (g_V mM_RX7_255 mI_yX7_takeStart mS_RX7_yX7_takeStart_yX7_takeStart mN_RX7 mC_yX7_takeStart) rfl (hd_yX7_takeStart) ⟨rfl, rfl⟩ ⟨(Nat.le_of_ble_eq_true rfl), (Nat.le_of_ble_eq_true rfl)⟩ hKX hC hS hA (zP_nil hP) (zD_nil hD) (List.range _) [] (zrange _) (zndr _) rfl rfl (fun _ h => by cases h) 7 rfl rfl rfl hl.1 rfl (Nat.le_of_ble_eq_true rfl) ⟨Nat.zero_le _, Nat.zero_le _⟩ dX7_judgeFromStart_22 (fun H locs hP hD hS => ?_)
    have hP : va_P D vwCl ((koW ac a ko ++ (txW ac (a 1) tx ++ (shW ac (a 2) now ++ (shW ac (a 3) u3 ++ (teW ac (a 4) (a 1) (a 10) te ++ (paW ac a pa ++ (fcW ac (a 6) w1 w2 fc ++ (frW ac (a 7) to ++ (frW ac (a 8) tp ++ (reW ac (a 9) re ++ (shW ac (a 40) k0 ++ (shW ac (a 41) k1 ++ (shW ac (a 10) ti))))))))))))) ++ ringW ac a rg) H := zP_un hP
    have hD : va_D A ((koW ac a ko ++ (txW ac (a 1) tx ++ (shW ac (a 2) now ++ (shW ac (a 3) u3 ++ (teW ac (a 4) (a 1) (a 10) te ++ (paW ac a pa ++ (fcW ac (a 6) w1 w2 fc ++ (frW ac (a 7) to ++ (frW ac (a 8) tp ++ (reW ac (a 9) re ++ (shW ac (a 40) k0 ++ (shW ac (a 41) k1 ++ (shW ac (a 10) ti))))))))))))) ++ ringW ac a rg) := zD_un hD
    refine lv_aload_n hx hb dX7_judgeFromStart_25 rfl (lv_at hl 1 rfl) ?_
    obtain ⟨u4, hu4, hf⟩ := z_bd_u hf
    refine zc_MViT (E := (koW ac a ko ++ (txW ac (a 1) tx ++ (shW ac (a 2) now ++ (shW ac (a 3) u3 ++ (teW ac (a 4) (a 1) (a 10) te ++ (paW ac a pa ++ (fcW ac (a 6) w1 w2 fc ++ (frW ac (a 7) to ++ (frW ac (a 8) tp ++ (reW ac (a 9) re ++ (shW ac (a 40) k0 ++ (shW ac (a 41) k1 ++ (shW ac (a 10) ti))))))))))))) ++ ringW ac a rg) (TT := []) (As := []) (rest := []) (wr := []) (wsc := (koW ac a ko ++ (txW ac (a 1) tx ++ (shW ac (a 2) now ++ (shW ac (a 3) u3 ++ (teW ac (a 4) (a 1) (a 10) te ++ (paW ac a pa ++ (fcW ac (a 6) w1 w2 fc ++ (frW ac (a 7) to ++ (frW ac (a 8) tp ++ (reW ac (a 9) re ++ (shW ac (a 40) k0 ++ (shW ac (a 41) k1 ++ (shW ac (a 10) ti))))))))))))) ++ ringW ac a rg) (wsc' := (koW ac a ko ++ (txW ac (a 1) tx ++ (shW ac (a 2) now ++ (shW ac (a 3) u4.2 ++ (teW ac (a 4) (a 1) (a 10) te ++ (paW ac a pa ++ (fcW ac (a 6) w1 w2 fc ++ (frW ac (a 7) to ++ (frW ac (a 8) tp ++ (reW ac (a 9) re ++ (shW ac (a 40) k0 ++ (shW ac (a 41) k1 ++ (shW ac (a 10) ti))))))))))))) ++ ringW ac a rg) hx hb hml hown htw (ctX7_playTextOnTrial l D ac cs a w1 w2 H.size ko tx now u3 te pa fc to tp re k0 k1 ti rg    F u4 hu4) (g_V mM_RX7_333 mI_yX7_playTextOnTrial mS_RX7_yX7_playTextOnTrial_yX7_playTextOnTrial mN_RX7 mC_yX7_playTextOnTrial) rfl (hd_yX7_playTextOnTrial) ⟨rfl, rfl⟩ ⟨(Nat.le_of_ble_eq_true rfl), (Nat.le_of_ble_eq_true rfl)⟩ hKX hC hS hA (zP_nil hP) (zD_nil hD) (List.range _) [] (zrange _) (zndr _) rfl rfl (fun _ h => by cases h) 7 rfl rfl rfl hl.1 rfl (Nat.le_of_ble_eq_true rfl) ⟨Nat.zero_le _, Nat.zero_le _⟩ dX7_judgeFromStart_26 (fun H locs hP hD hS => ?_)
    have hP : va_P D vwCl ((koW ac a ko ++ (txW ac (a 1) tx ++ (shW ac (a 2) now ++ (shW ac (a 3) u4.2 ++ (teW ac (a 4) (a 1) (a 10) te ++ (paW ac a pa ++ (fcW ac (a 6) w1 w2 fc ++ (frW ac (a 7) to ++ (frW ac (a 8) tp ++ (reW ac (a 9) re ++ (shW ac (a 40) k0 ++ (shW ac (a 41) k1 ++ (shW ac (a 10) ti))))))))))))) ++ ringW ac a rg) H := zP_un hP
    have hD : va_D A ((koW ac a ko ++ (txW ac (a 1) tx ++ (shW ac (a 2) now ++ (shW ac (a 3) u4.2 ++ (teW ac (a 4) (a 1) (a 10) te ++ (paW ac a pa ++ (fcW ac (a 6) w1 w2 fc ++ (frW ac (a 7) to ++ (frW ac (a 8) tp ++ (reW ac (a 9) re ++ (shW ac (a 40) k0 ++ (shW ac (a 41) k1 ++ (shW ac (a 10) ti))))))))))))) ++ ringW ac a rg) := zD_un hD
    refine lv_topi (fun x5 hx5 => ?_)
    have hf := z_let_u hx5 hf
    refine lv_istore_n (lv' := [(2, .int x5), (1, .int r1), (0, .ref (a 0 0))]) hx hb dX7_judgeFromStart_29 rfl hl (Nat.le_of_ble_eq_true rfl) rfl (fun ls hl => ?_)
    refine lv_iload_n hx hb dX7_judgeFromStart_30 rfl (lv_at hl 0 rfl) ?_
    refine lv_if_lt (tgt := 40) hx hb dX7_judgeFromStart_31 (by decide) (fun c6 => ?_) (fun c6 => ?_)
    · have hf := z_p c6 hf
      refine lv_aload_n hx hb dX7_judgeFromStart_40 rfl (lv_at hl 2 rfl) ?_
      refine lv_iconst (v := 1) hx hb dX7_judgeFromStart_41 rfl ?_
      refine va_put (D := D) (ci := 7) (v := .int 1) (ty := tyX7 12) (C := RX7) (T := TX7) (N := 13) hx hb htw WW_wsX70 tyX7 tyX7_ok nmX7 hown hKX.1 hP hD hS 0 rfl rfl 12 (Nat.le_of_ble_eq_true rfl) (htw _ mF_RX7_146) (fun _ h9 => h9) rfl (tyX7_ok 12 (Nat.le_of_ble_eq_true rfl)) (z_b_n z_b1) (z_b_f z_b1) (Nat.le_of_ble_eq_true rfl) dX7_judgeFromStart_42 (fun H locs hP hD hS => ?_)
      have hP : va_P D vwCl ((koW ac a ((ko_isKept ko), (ko_verdict ko), 1) ++ (txW ac (a 1) tx ++ (shW ac (a 2) now ++ (shW ac (a 3) u4.2 ++ (teW ac (a 4) (a 1) (a 10) te ++ (paW ac a pa ++ (fcW ac (a 6) w1 w2 fc ++ (frW ac (a 7) to ++ (frW ac (a 8) tp ++ (reW ac (a 9) re ++ (shW ac (a 40) k0 ++ (shW ac (a 41) k1 ++ (shW ac (a 10) ti))))))))))))) ++ ringW ac a rg) H := hP
      have hD : va_D A ((koW ac a ((ko_isKept ko), (ko_verdict ko), 1) ++ (txW ac (a 1) tx ++ (shW ac (a 2) now ++ (shW ac (a 3) u4.2 ++ (teW ac (a 4) (a 1) (a 10) te ++ (paW ac a pa ++ (fcW ac (a 6) w1 w2 fc ++ (frW ac (a 7) to ++ (frW ac (a 8) tp ++ (reW ac (a 9) re ++ (shW ac (a 40) k0 ++ (shW ac (a 41) k1 ++ (shW ac (a 10) ti))))))))))))) ++ ringW ac a rg) := hD
      refine lv_aload_n hx hb dX7_judgeFromStart_45 rfl (lv_at hl 2 rfl) ?_
      refine va_get (D := D) (ci := 7) (v := .ref (a 0 3)) (C := RX7) (T := TX7) (N := 13) hx hb htw WW_wsX70 hown hKX.1 hP 0 rfl rfl 11 (Nat.le_of_ble_eq_true rfl) (htw _ mF_RX7_72) (fun _ h9 => h9) rfl dX7_judgeFromStart_46 ?_
      refine lv_iconst (v := 0) hx hb dX7_judgeFromStart_49 rfl ?_
      refine lv_aload_n hx hb dX7_judgeFromStart_50 rfl (lv_at hl 2 rfl) ?_
      refine va_get (D := D) (ci := 7) (v := .ref (a 3 0)) (C := RX7) (T := TX7) (N := 13) hx hb htw WW_wsX70 hown hKX.1 hP 0 rfl rfl 3 (Nat.le_of_ble_eq_true rfl) (htw _ mF_RX7_30) (fun _ h9 => h9) rfl dX7_judgeFromStart_51 ?_
      refine lv_iconst (v := 0) hx hb dX7_judgeFromStart_54 rfl ?_
      refine zc_RVi (As := [.int 0]) (rest := [.int 0, .ref (a 0 3)]) hx hb hml hown htw (ctX4_goalsOf l D ac cs (a 3) u4.2 0   _ rfl) (g_V mM_RX7_115 mI_yX4_goalsOf mS_RX4_yX4_goalsOf_yX4_goalsOf mN_RX4 mC_yX4_goalsOf) rfl (hd_yX4_goalsOf) ⟨rfl, rfl⟩ ⟨(Nat.le_of_ble_eq_true rfl), (Nat.le_of_ble_eq_true rfl)⟩ hKX hC hS (hP.sub [9, 10, 11] rfl) 4 rfl rfl rfl hl.1 rfl (Nat.le_of_ble_eq_true rfl) ⟨Nat.zero_le _, Nat.zero_le _⟩ dX7_judgeFromStart_55 ?_
      refine lv_topi (fun x7 hx7 => ?_)
      have hf := z_let_u hx7 hf
      refine zv_iast_k hx hb hKX.1 hP hD hS 3 0 rfl rfl 0 rfl (z_in_u (by decide +kernel)) dX7_judgeFromStart_58 (fun H locs hP hD hS => ?_)
      have hP : va_P D vwCl ((koW ac a ((ko_isKept ko), (upd (ko_verdict ko) 0 x7), 1) ++ (txW ac (a 1) tx ++ (shW ac (a 2) now ++ (shW ac (a 3) u4.2 ++ (teW ac (a 4) (a 1) (a 10) te ++ (paW ac a pa ++ (fcW ac (a 6) w1 w2 fc ++ (frW ac (a 7) to ++ (frW ac (a 8) tp ++ (reW ac (a 9) re ++ (shW ac (a 40) k0 ++ (shW ac (a 41) k1 ++ (shW ac (a 10) ti))))))))))))) ++ ringW ac a rg) H := hP
      have hD : va_D A ((koW ac a ((ko_isKept ko), (upd (ko_verdict ko) 0 x7), 1) ++ (txW ac (a 1) tx ++ (shW ac (a 2) now ++ (shW ac (a 3) u4.2 ++ (teW ac (a 4) (a 1) (a 10) te ++ (paW ac a pa ++ (fcW ac (a 6) w1 w2 fc ++ (frW ac (a 7) to ++ (frW ac (a 8) tp ++ (reW ac (a 9) re ++ (shW ac (a 40) k0 ++ (shW ac (a 41) k1 ++ (shW ac (a 10) ti))))))))))))) ++ ringW ac a rg) := hD
      refine lv_aload_n hx hb dX7_judgeFromStart_59 rfl (lv_at hl 2 rfl) ?_
      refine va_get (D := D) (ci := 7) (v := .ref (a 0 3)) (C := RX7) (T := TX7) (N := 13) hx hb htw WW_wsX70 hown hKX.1 hP 0 rfl rfl 11 (Nat.le_of_ble_eq_true rfl) (htw _ mF_RX7_72) (fun _ h9 => h9) rfl dX7_judgeFromStart_60 ?_
      refine lv_iconst (v := 1) hx hb dX7_judgeFromStart_63 rfl ?_
      refine lv_aload_n hx hb dX7_judgeFromStart_64 rfl (lv_at hl 2 rfl) ?_
      refine va_get (D := D) (ci := 7) (v := .ref (a 3 0)) (C := RX7) (T := TX7) (N := 13) hx hb htw WW_wsX70 hown hKX.1 hP 0 rfl rfl 3 (Nat.le_of_ble_eq_true rfl) (htw _ mF_RX7_30) (fun _ h9 => h9) rfl dX7_judgeFromStart_65 ?_
      refine lv_iconst (v := 1) hx hb dX7_judgeFromStart_68 rfl ?_
      refine zc_RVi (As := [.int 1]) (rest := [.int 1, .ref (a 0 3)]) hx hb hml hown htw (ctX4_goalsOf l D ac cs (a 3) u4.2 1   _ rfl) (g_V mM_RX7_115 mI_yX4_goalsOf mS_RX4_yX4_goalsOf_yX4_goalsOf mN_RX4 mC_yX4_goalsOf) rfl (hd_yX4_goalsOf) ⟨rfl, rfl⟩ ⟨(Nat.le_of_ble_eq_true rfl), (Nat.le_of_ble_eq_true rfl)⟩ hKX hC hS (hP.sub [9, 10, 11] rfl) 4 rfl rfl rfl hl.1 rfl (Nat.le_of_ble_eq_true rfl) ⟨Nat.zero_le _, Nat.zero_le _⟩ dX7_judgeFromStart_69 ?_
      refine lv_topi (fun x8 hx8 => ?_)
      have hf := z_let_u hx8 hf
      refine zv_iast_k hx hb hKX.1 hP hD hS 3 0 rfl rfl 1 rfl (z_in_u (by decide +kernel)) dX7_judgeFromStart_72 (fun H locs hP hD hS => ?_)
      have hP : va_P D vwCl ((koW ac a ((ko_isKept ko), (upd (upd (ko_verdict ko) 0 x7) 1 x8), 1) ++ (txW ac (a 1) tx ++ (shW ac (a 2) now ++ (shW ac (a 3) u4.2 ++ (teW ac (a 4) (a 1) (a 10) te ++ (paW ac a pa ++ (fcW ac (a 6) w1 w2 fc ++ (frW ac (a 7) to ++ (frW ac (a 8) tp ++ (reW ac (a 9) re ++ (shW ac (a 40) k0 ++ (shW ac (a 41) k1 ++ (shW ac (a 10) ti))))))))))))) ++ ringW ac a rg) H := hP
      have hD : va_D A ((koW ac a ((ko_isKept ko), (upd (upd (ko_verdict ko) 0 x7) 1 x8), 1) ++ (txW ac (a 1) tx ++ (shW ac (a 2) now ++ (shW ac (a 3) u4.2 ++ (teW ac (a 4) (a 1) (a 10) te ++ (paW ac a pa ++ (fcW ac (a 6) w1 w2 fc ++ (frW ac (a 7) to ++ (frW ac (a 8) tp ++ (reW ac (a 9) re ++ (shW ac (a 40) k0 ++ (shW ac (a 41) k1 ++ (shW ac (a 10) ti))))))))))))) ++ ringW ac a rg) := hD
      refine lv_aload_n hx hb dX7_judgeFromStart_73 rfl (lv_at hl 2 rfl) ?_
      refine va_get (D := D) (ci := 7) (v := .ref (a 0 3)) (C := RX7) (T := TX7) (N := 13) hx hb htw WW_wsX70 hown hKX.1 hP 0 rfl rfl 11 (Nat.le_of_ble_eq_true rfl) (htw _ mF_RX7_72) (fun _ h9 => h9) rfl dX7_judgeFromStart_74 ?_
      refine lv_iconst (v := 2) hx hb dX7_judgeFromStart_77 rfl ?_
      refine lv_aload_n hx hb dX7_judgeFromStart_78 rfl (lv_at hl 2 rfl) ?_
      refine va_get (D := D) (ci := 7) (v := .ref (a 3 0)) (C := RX7) (T := TX7) (N := 13) hx hb htw WW_wsX70 hown hKX.1 hP 0 rfl rfl 3 (Nat.le_of_ble_eq_true rfl) (htw _ mF_RX7_30) (fun _ h9 => h9) rfl dX7_judgeFromStart_79 ?_
      refine zc_RVi (As := []) (rest := [.int 2, .ref (a 0 3)]) hx hb hml hown htw (ctX4_isOver l D ac cs (a 3) u4.2    _ rfl) (g_V mM_RX7_168 mI_yX4_isOver mS_RX4_yX4_isOver_yX4_isOver mN_RX4 mC_yX4_isOver) rfl (hd_yX4_isOver) ⟨rfl, rfl⟩ ⟨(Nat.le_of_ble_eq_true rfl), (Nat.le_of_ble_eq_true rfl)⟩ hKX hC hS (hP.sub [9, 10, 11] rfl) 4 rfl rfl rfl hl.1 rfl (Nat.le_of_ble_eq_true rfl) ⟨Nat.zero_le _, Nat.zero_le _⟩ dX7_judgeFromStart_82 ?_
      have hj11 : ∀ (v9 : Int32), v9 = (if Sh_isOver u4.2 = 0 then 0 else 1) → z_b v9 = true → ∀ (H : Heap) (locs : List Loc) (ls : Array Slot), va_P D vwCl ((koW ac a ((ko_isKept ko), (upd (upd (ko_verdict ko) 0 x7) 1 x8), 1) ++ (txW ac (a 1) tx ++ (shW ac (a 2) now ++ (shW ac (a 3) u4.2 ++ (teW ac (a 4) (a 1) (a 10) te ++ (paW ac a pa ++ (fcW ac (a 6) w1 w2 fc ++ (frW ac (a 7) to ++ (frW ac (a 8) tp ++ (reW ac (a 9) re ++ (shW ac (a 40) k0 ++ (shW ac (a 41) k1 ++ (shW ac (a 10) ti))))))))))))) ++ ringW ac a rg) H → va_D A ((koW ac a ((ko_isKept ko), (upd (upd (ko_verdict ko) 0 x7) 1 x8), 1) ++ (txW ac (a 1) tx ++ (shW ac (a 2) now ++ (shW ac (a 3) u4.2 ++ (teW ac (a 4) (a 1) (a 10) te ++ (paW ac a pa ++ (fcW ac (a 6) w1 w2 fc ++ (frW ac (a 7) to ++ (frW ac (a 8) tp ++ (reW ac (a 9) re ++ (shW ac (a 40) k0 ++ (shW ac (a 41) k1 ++ (shW ac (a 10) ti))))))))))))) ++ ringW ac a rg) → va_S A s.heap H locs → lv_has ls 3 [(0, .ref (a 0 0))] → W p l e ({ frames := 6, cells := 0, slots := 0, locals := 127 } : Room) s m (([.ref (a 0 0)] : List Value).toArray) below meth c H locs 0 0 (MQ below (va_Qi (fun r (_ : Unit) => r = res.1) (fun _ => zB D A ((koW ac a res.2.1 ++ (txW ac (a 1) tx ++ (shW ac (a 2) now ++ (shW ac (a 3) res.2.2 ++ (teW ac (a 4) (a 1) (a 10) te ++ (paW ac a pa ++ (fcW ac (a 6) w1 w2 fc ++ (frW ac (a 7) to ++ (frW ac (a 8) tp ++ (reW ac (a 9) re ++ (shW ac (a 40) k0 ++ (shW ac (a 41) k1 ++ (shW ac (a 10) ti))))))))))))) ++ ringW ac a rg)) A) ([.ref (a 0 0)] : List Value).toArray s 0 0 A) (F0 m 93 ls [.int v9, .int 2, .ref (a 0 3)]) := by
        intro v9 hv9 bv9 H locs ls hP hD hS hl
        have hf := z_let_u hv9 hf
        refine zv_iast_k hx hb hKX.1 hP hD hS 3 0 rfl rfl 2 rfl (z_in_u (by decide +kernel)) dX7_judgeFromStart_93 (fun H locs hP hD hS => ?_)
        have hP : va_P D vwCl ((koW ac a ((ko_isKept ko), (upd (upd (upd (ko_verdict ko) 0 x7) 1 x8) 2 v9), 1) ++ (txW ac (a 1) tx ++ (shW ac (a 2) now ++ (shW ac (a 3) u4.2 ++ (teW ac (a 4) (a 1) (a 10) te ++ (paW ac a pa ++ (fcW ac (a 6) w1 w2 fc ++ (frW ac (a 7) to ++ (frW ac (a 8) tp ++ (reW ac (a 9) re ++ (shW ac (a 40) k0 ++ (shW ac (a 41) k1 ++ (shW ac (a 10) ti))))))))))))) ++ ringW ac a rg) H := hP
        have hD : va_D A ((koW ac a ((ko_isKept ko), (upd (upd (upd (ko_verdict ko) 0 x7) 1 x8) 2 v9), 1) ++ (txW ac (a 1) tx ++ (shW ac (a 2) now ++ (shW ac (a 3) u4.2 ++ (teW ac (a 4) (a 1) (a 10) te ++ (paW ac a pa ++ (fcW ac (a 6) w1 w2 fc ++ (frW ac (a 7) to ++ (frW ac (a 8) tp ++ (reW ac (a 9) re ++ (shW ac (a 40) k0 ++ (shW ac (a 41) k1 ++ (shW ac (a 10) ti))))))))))))) ++ ringW ac a rg) := hD
        refine lv_aload_n hx hb dX7_judgeFromStart_94 rfl (lv_at hl 0 rfl) ?_
        refine va_get (D := D) (ci := 7) (v := .ref (a 0 3)) (C := RX7) (T := TX7) (N := 13) hx hb htw WW_wsX70 hown hKX.1 hP 0 rfl rfl 11 (Nat.le_of_ble_eq_true rfl) (htw _ mF_RX7_72) (fun _ h9 => h9) rfl dX7_judgeFromStart_95 ?_
        refine lv_iconst (v := 3) hx hb dX7_judgeFromStart_98 rfl ?_
        refine lv_aload_n hx hb dX7_judgeFromStart_99 rfl (lv_at hl 0 rfl) ?_
        refine va_get (D := D) (ci := 7) (v := .ref (a 3 0)) (C := RX7) (T := TX7) (N := 13) hx hb htw WW_wsX70 hown hKX.1 hP 0 rfl rfl 3 (Nat.le_of_ble_eq_true rfl) (htw _ mF_RX7_30) (fun _ h9 => h9) rfl dX7_judgeFromStart_100 ?_
        refine va_getN (D := D) (ci := 4) (v := .int (sh_kicks u4.2)) (C := RX4) (T := TX4) (N := 10) hx hb htw WW_wsX40 hown hKX.1 hP 9 rfl rfl 3 (Nat.le_of_ble_eq_true rfl) (va_Nw.use rfl (hKX.2 _ (List.mem_of_getElem? (i := 11) rfl))) (fun _ h9 => h9) rfl dX7_judgeFromStart_103 ?_
        have hj15 : ∀ (v13 : Int32), v13 = (if (sh_kicks u4.2) = 0 then (-1) else (((sh_kicks u4.2) - 1) / 2)) → ∀ (H : Heap) (locs : List Loc) (ls : Array Slot), va_P D vwCl ((koW ac a ((ko_isKept ko), (upd (upd (upd (ko_verdict ko) 0 x7) 1 x8) 2 v9), 1) ++ (txW ac (a 1) tx ++ (shW ac (a 2) now ++ (shW ac (a 3) u4.2 ++ (teW ac (a 4) (a 1) (a 10) te ++ (paW ac a pa ++ (fcW ac (a 6) w1 w2 fc ++ (frW ac (a 7) to ++ (frW ac (a 8) tp ++ (reW ac (a 9) re ++ (shW ac (a 40) k0 ++ (shW ac (a 41) k1 ++ (shW ac (a 10) ti))))))))))))) ++ ringW ac a rg) H → va_D A ((koW ac a ((ko_isKept ko), (upd (upd (upd (ko_verdict ko) 0 x7) 1 x8) 2 v9), 1) ++ (txW ac (a 1) tx ++ (shW ac (a 2) now ++ (shW ac (a 3) u4.2 ++ (teW ac (a 4) (a 1) (a 10) te ++ (paW ac a pa ++ (fcW ac (a 6) w1 w2 fc ++ (frW ac (a 7) to ++ (frW ac (a 8) tp ++ (reW ac (a 9) re ++ (shW ac (a 40) k0 ++ (shW ac (a 41) k1 ++ (shW ac (a 10) ti))))))))))))) ++ ringW ac a rg) → va_S A s.heap H locs → lv_has ls 3 [(0, .ref (a 0 0))] → W p l e ({ frames := 6, cells := 0, slots := 0, locals := 127 } : Room) s m (([.ref (a 0 0)] : List Value).toArray) below meth c H locs 0 0 (MQ below (va_Qi (fun r (_ : Unit) => r = res.1) (fun _ => zB D A ((koW ac a res.2.1 ++ (txW ac (a 1) tx ++ (shW ac (a 2) now ++ (shW ac (a 3) res.2.2 ++ (teW ac (a 4) (a 1) (a 10) te ++ (paW ac a pa ++ (fcW ac (a 6) w1 w2 fc ++ (frW ac (a 7) to ++ (frW ac (a 8) tp ++ (reW ac (a 9) re ++ (shW ac (a 40) k0 ++ (shW ac (a 41) k1 ++ (shW ac (a 10) ti))))))))))))) ++ ringW ac a rg)) A) ([.ref (a 0 0)] : List Value).toArray s 0 0 A) (F0 m 124 ls [.int v13, .int 3, .ref (a 0 3)]) := by
          intro v13 hv13 H locs ls hP hD hS hl
          have hf := z_let_u hv13 hf
          refine zv_iast_k hx hb hKX.1 hP hD hS 3 0 rfl rfl 3 rfl (z_in_u (by decide +kernel)) dX7_judgeFromStart_124 (fun H locs hP hD hS => ?_)
          have hP : va_P D vwCl ((koW ac a ((ko_isKept ko), (upd (upd (upd (upd (ko_verdict ko) 0 x7) 1 x8) 2 v9) 3 v13), 1) ++ (txW ac (a 1) tx ++ (shW ac (a 2) now ++ (shW ac (a 3) u4.2 ++ (teW ac (a 4) (a 1) (a 10) te ++ (paW ac a pa ++ (fcW ac (a 6) w1 w2 fc ++ (frW ac (a 7) to ++ (frW ac (a 8) tp ++ (reW ac (a 9) re ++ (shW ac (a 40) k0 ++ (shW ac (a 41) k1 ++ (shW ac (a 10) ti))))))))))))) ++ ringW ac a rg) H := hP
          have hD : va_D A ((koW ac a ((ko_isKept ko), (upd (upd (upd (upd (ko_verdict ko) 0 x7) 1 x8) 2 v9) 3 v13), 1) ++ (txW ac (a 1) tx ++ (shW ac (a 2) now ++ (shW ac (a 3) u4.2 ++ (teW ac (a 4) (a 1) (a 10) te ++ (paW ac a pa ++ (fcW ac (a 6) w1 w2 fc ++ (frW ac (a 7) to ++ (frW ac (a 8) tp ++ (reW ac (a 9) re ++ (shW ac (a 40) k0 ++ (shW ac (a 41) k1 ++ (shW ac (a 10) ti))))))))))))) ++ ringW ac a rg) := hD
          refine lv_aload_n hx hb dX7_judgeFromStart_125 rfl (lv_at hl 0 rfl) ?_
          refine va_get (D := D) (ci := 7) (v := .ref (a 3 0)) (C := RX7) (T := TX7) (N := 13) hx hb htw WW_wsX70 hown hKX.1 hP 0 rfl rfl 3 (Nat.le_of_ble_eq_true rfl) (htw _ mF_RX7_30) (fun _ h9 => h9) rfl dX7_judgeFromStart_126 ?_
          refine va_getN (D := D) (ci := 4) (v := .int (sh_kicks u4.2)) (C := RX4) (T := TX4) (N := 10) hx hb htw WW_wsX40 hown hKX.1 hP 9 rfl rfl 3 (Nat.le_of_ble_eq_true rfl) (va_Nw.use rfl (hKX.2 _ (List.mem_of_getElem? (i := 11) rfl))) (fun _ h9 => h9) rfl dX7_judgeFromStart_129 ?_
          obtain rfl := Option.some.inj hf
          exact zr_Mi hx hb hr hlocks hP hD hS dX7_judgeFromStart_132
        refine lv_if_ne (tgt := 113) hx hb dX7_judgeFromStart_106 (by decide) (fun c16 => ?_) (fun c16 => ?_)
        · skip
          refine lv_aload_n hx hb dX7_judgeFromStart_113 rfl (lv_at hl 0 rfl) ?_
          refine va_get (D := D) (ci := 7) (v := .ref (a 3 0)) (C := RX7) (T := TX7) (N := 13) hx hb htw WW_wsX70 hown hKX.1 hP 0 rfl rfl 3 (Nat.le_of_ble_eq_true rfl) (htw _ mF_RX7_30) (fun _ h9 => h9) rfl dX7_judgeFromStart_114 ?_
          refine va_getN (D := D) (ci := 4) (v := .int (sh_kicks u4.2)) (C := RX4) (T := TX4) (N := 10) hx hb htw WW_wsX40 hown hKX.1 hP 9 rfl rfl 3 (Nat.le_of_ble_eq_true rfl) (va_Nw.use rfl (hKX.2 _ (List.mem_of_getElem? (i := 11) rfl))) (fun _ h9 => h9) rfl dX7_judgeFromStart_117 ?_
          refine lv_iconst (v := 1) hx hb dX7_judgeFromStart_120 rfl ?_
          refine lv_isub hx hb dX7_judgeFromStart_121 ?_
          refine lv_iconst (v := 2) hx hb dX7_judgeFromStart_122 rfl ?_
          refine lv_idiv hx hb dX7_judgeFromStart_123 (by decide) ?_
          exact hj15 (((sh_kicks u4.2) - 1) / 2) (if_neg c16).symm _ _ ls hP hD hS (lv_sub hl [0] rfl)
        · skip
          refine lv_iconst (v := (-1)) hx hb dX7_judgeFromStart_109 rfl ?_
          refine lv_goto (tgt := 124) hx hb dX7_judgeFromStart_110 (by decide) ?_
          exact hj15 (-1) (if_pos c16).symm _ _ ls hP hD hS (lv_sub hl [0] rfl)
      refine lv_if_eq (tgt := 92) hx hb dX7_judgeFromStart_85 (by decide) (fun c12 => ?_) (fun c12 => ?_)
      · skip
        refine lv_iconst (v := 0) hx hb dX7_judgeFromStart_92 rfl ?_
        exact hj11 0 (if_pos c12).symm z_b0 _ _ ls hP hD hS (lv_sub hl [2] rfl)
      · skip
        refine lv_iconst (v := 1) hx hb dX7_judgeFromStart_88 rfl ?_
        refine lv_goto (tgt := 93) hx hb dX7_judgeFromStart_89 (by decide) ?_
        exact hj11 1 (if_neg c12).symm z_b1 _ _ ls hP hD hS (lv_sub hl [2] rfl)
    · have hf := z_n c6 hf
      refine lv_sipush (v := (-1000)) hx hb dX7_judgeFromStart_34 rfl ?_
      refine lv_iload_n hx hb dX7_judgeFromStart_37 rfl (lv_at hl 0 rfl) ?_
      refine lv_isub hx hb dX7_judgeFromStart_38 ?_
      obtain rfl := Option.some.inj hf
      exact zr_Mi hx hb hr hlocks hP hD hS dX7_judgeFromStart_39
  · have hf := z_n c2 hf
    refine lv_sipush (v := (-1000)) hx hb dX7_judgeFromStart_15 rfl ?_
    refine lv_iload_n hx hb dX7_judgeFromStart_18 rfl (lv_at hl 0 rfl) ?_
    refine lv_isub hx hb dX7_judgeFromStart_19 ?_
    obtain rfl := Option.some.inj hf
    exact zr_Mi hx hb hr hlocks hP hD hS dX7_judgeFromStart_20

theorem hd_yX7_judge : hdY yX7_judge 0 := by decide +kernel
def K_judge (F : Nat) (ko : Ko) (tx : Tx) (now : Sh) (tr : Sh) : Option (Int32 × Ko × Tx × Sh) := z_jn (fun u_k4 : Int32 × Ko × Sh => some (u_k4.1, u_k4.2.1, ((tx_signs tx), 0), u_k4.2.2)) (fun k4 => if (sh_shooters now) = 0 then (k4 ((-2), ko, tr)) else (z_bd (K_judgeFromStart F ko tx now tr) (fun u7 : Int32 × Ko × Sh => k4 (u7.1, u7.2.1, u7.2.2))))
set_option maxHeartbeats 4000000 in
set_option maxRecDepth 100000 in
theorem ctX7_judge (l : Launch) (D : va_G) (ac cs : Nat → Nat) (a : Nat → Nat → Nat) (w1 w2 : Nat) (sz : Nat) (ko : Ko) (tx : Tx) (now : Sh) (tr : Sh) (te : Te) (pa : Pa) (fc : Fc) (to : Fr) (tp : Fr) (re : Re) (k0 : Sh) (k1 : Sh) (ti : Sh) (rg : Nat → Sh) (F : Nat) (res : Int32 × Ko × Tx × Sh) (hf : K_judge F ko tx now tr = some res) : Met l yX7_judge (cWW yX7_judge cX7_judge 2 (some .int)) { frames := 7, cells := 0, slots := 0, locals := 149 } (zM D ac cs [.ref (a 0 0)] ((koW ac a ko ++ (txW ac (a 1) tx ++ (shW ac (a 2) now ++ (shW ac (a 3) tr ++ (teW ac (a 4) (a 1) (a 10) te ++ (paW ac a pa ++ (fcW ac (a 6) w1 w2 fc ++ (frW ac (a 7) to ++ (frW ac (a 8) tp ++ (reW ac (a 9) re ++ (shW ac (a 40) k0 ++ (shW ac (a 41) k1 ++ (shW ac (a 10) ti))))))))))))) ++ ringW ac a rg) sz) (va_Qi (fun r (_ : Unit) => r = res.1) (fun _ => zB D (va_A ((koW ac a ko ++ (txW ac (a 1) tx ++ (shW ac (a 2) now ++ (shW ac (a 3) tr ++ (teW ac (a 4) (a 1) (a 10) te ++ (paW ac a pa ++ (fcW ac (a 6) w1 w2 fc ++ (frW ac (a 7) to ++ (frW ac (a 8) tp ++ (reW ac (a 9) re ++ (shW ac (a 40) k0 ++ (shW ac (a 41) k1 ++ (shW ac (a 10) ti))))))))))))) ++ ringW ac a rg) sz) ((koW ac a res.2.1 ++ (txW ac (a 1) res.2.2.1 ++ (shW ac (a 2) now ++ (shW ac (a 3) res.2.2.2 ++ (teW ac (a 4) (a 1) (a 10) te ++ (paW ac a pa ++ (fcW ac (a 6) w1 w2 fc ++ (frW ac (a 7) to ++ (frW ac (a 8) tp ++ (reW ac (a 9) re ++ (shW ac (a 40) k0 ++ (shW ac (a 41) k1 ++ (shW ac (a 10) ti))))))))))))) ++ ringW ac a rg)) (va_A ((koW ac a ko ++ (txW ac (a 1) tx ++ (shW ac (a 2) now ++ (shW ac (a 3) tr ++ (teW ac (a 4) (a 1) (a 10) te ++ (paW ac a pa ++ (fcW ac (a 6) w1 w2 fc ++ (frW ac (a 7) to ++ (frW ac (a 8) tp ++ (reW ac (a 9) re ++ (shW ac (a 40) k0 ++ (shW ac (a 41) k1 ++ (shW ac (a 10) ti))))))))))))) ++ ringW ac a rg) sz)) 0 0 (va_A ((koW ac a ko ++ (txW ac (a 1) tx ++ (shW ac (a 2) now ++ (shW ac (a 3) tr ++ (teW ac (a 4) (a 1) (a 10) te ++ (paW ac a pa ++ (fcW ac (a 6) w1 w2 fc ++ (frW ac (a 7) to ++ (frW ac (a 8) tp ++ (reW ac (a 9) re ++ (shW ac (a 40) k0 ++ (shW ac (a 41) k1 ++ (shW ac (a 10) ti))))))))))))) ++ ringW ac a rg) sz) := by
  refine Met.ofW (cc := cX7_judge) (maxL := 2) (ret := (some .int)) (by decide) rfl ?_
  intro p e s m args below meth c s₁ B hml hv
  obtain ⟨rfl, hsz, hP, hKX, hD0, hC⟩ := hv
  have hx := B.exec
  have hb := B.bytes
  have hr := B.returns
  have hts := atoms_spec (ws := cWW yX7_judge cX7_judge 2 (some .int)) B.pre
  have htw : ∀ w ∈ WW, w.before _ s = true := fun w h => hts w (List.mem_cons_of_mem _ h)
  have hown : s.vm.findClass RX7 = some m.cls := findClass_of_methodNamed B.named
  have hlocks := B.notSynchronized
  clear hts B
  subst hsz
  have hD := hD0.self (sz := s.heap.size)
  generalize hAe : va_A ((koW ac a ko ++ (txW ac (a 1) tx ++ (shW ac (a 2) now ++ (shW ac (a 3) tr ++ (teW ac (a 4) (a 1) (a 10) te ++ (paW ac a pa ++ (fcW ac (a 6) w1 w2 fc ++ (frW ac (a 7) to ++ (frW ac (a 8) tp ++ (reW ac (a 9) re ++ (shW ac (a 40) k0 ++ (shW ac (a 41) k1 ++ (shW ac (a 10) ti))))))))))))) ++ ringW ac a rg) s.heap.size = A at hD hC ⊢
  have hA : ∀ q : Nat, s.heap.size ≤ q → A q := fun q h => by rw [← hAe]; exact Or.inr h
  have hS : va_S A s.heap s.heap [] := va_S.rf
  clear hD0 hAe
  have hP : va_P D vwCl ((koW ac a ko ++ (txW ac (a 1) tx ++ (shW ac (a 2) now ++ (shW ac (a 3) tr ++ (teW ac (a 4) (a 1) (a 10) te ++ (paW ac a pa ++ (fcW ac (a 6) w1 w2 fc ++ (frW ac (a 7) to ++ (frW ac (a 8) tp ++ (reW ac (a 9) re ++ (shW ac (a 40) k0 ++ (shW ac (a 41) k1 ++ (shW ac (a 10) ti))))))))))))) ++ ringW ac a rg) s.heap := hP
  have hl := lv_entry ([.ref (a 0 0)]) (n := 2) (Nat.le_of_ble_eq_true rfl)
  rw [lg_entry_eq]
  generalize (lg_sl ([.ref (a 0 0)]) ++ List.replicate (2 - (lg_sl ([.ref (a 0 0)])).length) Slot.unset).toArray = ls at hl ⊢
  have hl : lv_has ls 2 [(0, .ref (a 0 0))] := hl
  unfold K_judge at hf
  show W p l e ({ frames := 7, cells := 0, slots := 0, locals := 149 } : Room) s m _ below meth c s.heap [] 0 0 _ (F0 m 0 ls [])
  refine lv_aload_n hx hb dX7_judge_0 rfl (lv_at hl 0 rfl) ?_
  refine va_get (D := D) (ci := 7) (v := .ref (a 2 0)) (C := RX7) (T := TX7) (N := 13) hx hb htw WW_wsX70 hown hKX.1 hP 0 rfl rfl 2 (Nat.le_of_ble_eq_true rfl) (htw _ mF_RX7_26) (fun _ h9 => h9) rfl dX7_judge_1 ?_
  refine va_getN (D := D) (ci := 4) (v := .int (sh_shooters now)) (C := RX4) (T := TX4) (N := 10) hx hb htw WW_wsX40 hown hKX.1 hP 6 rfl rfl 0 (Nat.le_of_ble_eq_true rfl) (va_Nw.use rfl (hKX.2 _ (List.mem_of_getElem? (i := 3) rfl))) (fun _ h9 => h9) rfl dX7_judge_4 ?_
  obtain ⟨k4, hk4, hf⟩ := z_jn_u hf
  have hj5 : ∀ (v1 : Int32) (ko2 : Ko) (sh3 : Sh), k4 (v1, ko2, sh3) = some res → ∀ (H : Heap) (locs : List Loc) (ls : Array Slot), va_P D vwCl ((koW ac a ko2 ++ (txW ac (a 1) tx ++ (shW ac (a 2) now ++ (shW ac (a 3) sh3 ++ (teW ac (a 4) (a 1) (a 10) te ++ (paW ac a pa ++ (fcW ac (a 6) w1 w2 fc ++ (frW ac (a 7) to ++ (frW ac (a 8) tp ++ (reW ac (a 9) re ++ (shW ac (a 40) k0 ++ (shW ac (a 41) k1 ++ (shW ac (a 10) ti))))))))))))) ++ ringW ac a rg) H → va_D A ((koW ac a ko2 ++ (txW ac (a 1) tx ++ (shW ac (a 2) now ++ (shW ac (a 3) sh3 ++ (teW ac (a 4) (a 1) (a 10) te ++ (paW ac a pa ++ (fcW ac (a 6) w1 w2 fc ++ (frW ac (a 7) to ++ (frW ac (a 8) tp ++ (reW ac (a 9) re ++ (shW ac (a 40) k0 ++ (shW ac (a 41) k1 ++ (shW ac (a 10) ti))))))))))))) ++ ringW ac a rg) → va_S A s.heap H locs → lv_has ls 2 [(0, .ref (a 0 0))] → W p l e ({ frames := 7, cells := 0, slots := 0, locals := 149 } : Room) s m (([.ref (a 0 0)] : List Value).toArray) below meth c H locs 0 0 (MQ below (va_Qi (fun r (_ : Unit) => r = res.1) (fun _ => zB D A ((koW ac a res.2.1 ++ (txW ac (a 1) res.2.2.1 ++ (shW ac (a 2) now ++ (shW ac (a 3) res.2.2.2 ++ (teW ac (a 4) (a 1) (a 10) te ++ (paW ac a pa ++ (fcW ac (a 6) w1 w2 fc ++ (frW ac (a 7) to ++ (frW ac (a 8) tp ++ (reW ac (a 9) re ++ (shW ac (a 40) k0 ++ (shW ac (a 41) k1 ++ (shW ac (a 10) ti))))))))))))) ++ ringW ac a rg)) A) ([.ref (a 0 0)] : List Value).toArray s 0 0 A) (F0 m 19 ls [.int v1]) := by
    intro v1 ko2 sh3 hf H locs ls hP hD hS hl
    have hf := hk4 _ hf
    refine lv_istore_n (lv' := [(1, .int v1), (0, .ref (a 0 0))]) hx hb dX7_judge_19 rfl hl (Nat.le_of_ble_eq_true rfl) rfl (fun ls hl => ?_)
    refine lv_aload_n hx hb dX7_judge_20 rfl (lv_at hl 1 rfl) ?_
    refine va_get (D := D) (ci := 7) (v := .ref (a 1 0)) (C := RX7) (T := TX7) (N := 13) hx hb htw WW_wsX70 hown hKX.1 hP 0 rfl rfl 1 (Nat.le_of_ble_eq_true rfl) (htw _ mF_RX7_22) (fun _ h9 => h9) rfl dX7_judge_21 ?_
    refine lv_iconst (v := 0) hx hb dX7_judge_24 rfl ?_
    refine va_putN (D := D) (ci := 6) (v := .int 0) (ty := tyX6 1) (C := RX6) (T := TX6) (N := 2) hx hb htw WW_wsX60 tyX6 tyX6_ok nmX6 hown hKX.1 hP hD hS 4 rfl rfl 1 (Nat.le_of_ble_eq_true rfl) (va_Nw.use rfl (hKX.2 _ (List.mem_of_getElem? (i := 0) rfl))) (fun _ h9 => h9) rfl (tyX6_ok 1 (Nat.le_of_ble_eq_true rfl)) rfl rfl (Nat.le_of_ble_eq_true rfl) dX7_judge_25 (fun H locs hP hD hS => ?_)
    have hP : va_P D vwCl ((koW ac a ko2 ++ (txW ac (a 1) ((tx_signs tx), 0) ++ (shW ac (a 2) now ++ (shW ac (a 3) sh3 ++ (teW ac (a 4) (a 1) (a 10) te ++ (paW ac a pa ++ (fcW ac (a 6) w1 w2 fc ++ (frW ac (a 7) to ++ (frW ac (a 8) tp ++ (reW ac (a 9) re ++ (shW ac (a 40) k0 ++ (shW ac (a 41) k1 ++ (shW ac (a 10) ti))))))))))))) ++ ringW ac a rg) H := hP
    have hD : va_D A ((koW ac a ko2 ++ (txW ac (a 1) ((tx_signs tx), 0) ++ (shW ac (a 2) now ++ (shW ac (a 3) sh3 ++ (teW ac (a 4) (a 1) (a 10) te ++ (paW ac a pa ++ (fcW ac (a 6) w1 w2 fc ++ (frW ac (a 7) to ++ (frW ac (a 8) tp ++ (reW ac (a 9) re ++ (shW ac (a 40) k0 ++ (shW ac (a 41) k1 ++ (shW ac (a 10) ti))))))))))))) ++ ringW ac a rg) := hD
    refine lv_iload_n hx hb dX7_judge_28 rfl (lv_at hl 0 rfl) ?_
    obtain rfl := Option.some.inj hf
    exact zr_Mi hx hb hr hlocks hP hD hS dX7_judge_29
  refine lv_if_ne (tgt := 15) hx hb dX7_judge_7 (by decide) (fun c6 => ?_) (fun c6 => ?_)
  · have hf := z_n c6 hf
    refine lv_aload_n hx hb dX7_judge_15 rfl (lv_at hl 0 rfl) ?_
    obtain ⟨u7, hu7, hf⟩ := z_bd_u hf
    refine zc_MViT (E := (koW ac a ko ++ (txW ac (a 1) tx ++ (shW ac (a 2) now ++ (shW ac (a 3) tr ++ (teW ac (a 4) (a 1) (a 10) te ++ (paW ac a pa ++ (fcW ac (a 6) w1 w2 fc ++ (frW ac (a 7) to ++ (frW ac (a 8) tp ++ (reW ac (a 9) re ++ (shW ac (a 40) k0 ++ (shW ac (a 41) k1 ++ (shW ac (a 10) ti))))))))))))) ++ ringW ac a rg) (TT := []) (As := []) (rest := []) (wr := []) (wsc := (koW ac a ko ++ (txW ac (a 1) tx ++ (shW ac (a 2) now ++ (shW ac (a 3) tr ++ (teW ac (a 4) (a 1) (a 10) te ++ (paW ac a pa ++ (fcW ac (a 6) w1 w2 fc ++ (frW ac (a 7) to ++ (frW ac (a 8) tp ++ (reW ac (a 9) re ++ (shW ac (a 40) k0 ++ (shW ac (a 41) k1 ++ (shW ac (a 10) ti))))))))))))) ++ ringW ac a rg) (wsc' := (koW ac a u7.2.1 ++ (txW ac (a 1) tx ++ (shW ac (a 2) now ++ (shW ac (a 3) u7.2.2 ++ (teW ac (a 4) (a 1) (a 10) te ++ (paW ac a pa ++ (fcW ac (a 6) w1 w2 fc ++ (frW ac (a 7) to ++ (frW ac (a 8) tp ++ (reW ac (a 9) re ++ (shW ac (a 40) k0 ++ (shW ac (a 41) k1 ++ (shW ac (a 10) ti))))))))))))) ++ ringW ac a rg) hx hb hml hown htw (ctX7_judgeFromStart l D ac cs a w1 w2 s.heap.size ko tx now tr te pa fc to tp re k0 k1 ti rg    F u7 hu7) (g_V mM_RX7_143 mI_yX7_judgeFromStart mS_RX7_yX7_judgeFromStart_yX7_judgeFromStart mN_RX7 mC_yX7_judgeFromStart) rfl (hd_yX7_judgeFromStart) ⟨rfl, rfl⟩ ⟨(Nat.le_of_ble_eq_true rfl), (Nat.le_of_ble_eq_true rfl)⟩ hKX hC hS hA (zP_nil hP) (zD_nil hD) (List.range _) [] (zrange _) (zndr _) rfl rfl (fun _ h => by cases h) 7 rfl rfl rfl hl.1 rfl (Nat.le_of_ble_eq_true rfl) ⟨Nat.zero_le _, Nat.zero_le _⟩ dX7_judge_16 (fun H locs hP hD hS => ?_)
    have hP : va_P D vwCl ((koW ac a u7.2.1 ++ (txW ac (a 1) tx ++ (shW ac (a 2) now ++ (shW ac (a 3) u7.2.2 ++ (teW ac (a 4) (a 1) (a 10) te ++ (paW ac a pa ++ (fcW ac (a 6) w1 w2 fc ++ (frW ac (a 7) to ++ (frW ac (a 8) tp ++ (reW ac (a 9) re ++ (shW ac (a 40) k0 ++ (shW ac (a 41) k1 ++ (shW ac (a 10) ti))))))))))))) ++ ringW ac a rg) H := zP_un hP
    have hD : va_D A ((koW ac a u7.2.1 ++ (txW ac (a 1) tx ++ (shW ac (a 2) now ++ (shW ac (a 3) u7.2.2 ++ (teW ac (a 4) (a 1) (a 10) te ++ (paW ac a pa ++ (fcW ac (a 6) w1 w2 fc ++ (frW ac (a 7) to ++ (frW ac (a 8) tp ++ (reW ac (a 9) re ++ (shW ac (a 40) k0 ++ (shW ac (a 41) k1 ++ (shW ac (a 10) ti))))))))))))) ++ ringW ac a rg) := zD_un hD
    exact hj5 u7.1 u7.2.1 u7.2.2 hf _ _ ls  hP hD hS (lv_sub hl [0] rfl)
  · have hf := z_p c6 hf
    refine lv_bipush (v := (-2)) hx hb dX7_judge_10 rfl ?_
    refine lv_goto (tgt := 19) hx hb dX7_judge_12 (by decide) ?_
    exact hj5 (-2) ko tr hf _ _ ls  hP hD hS (lv_sub hl [0] rfl)

theorem hd_yX7_judged : hdY yX7_judged 1 := by decide +kernel
def K_judged (ko : Ko) (a1 : Int32) : Int32 := if (ko_hasVerdict ko) = 0 then (-1) else (if a1 < 0 then (-1) else (if 4 ≤ a1 then (-1) else ((ko_verdict ko) a1.toNatClampNeg)))
set_option maxHeartbeats 4000000 in
set_option maxRecDepth 100000 in
theorem ctX7_judged (l : Launch) (D : va_G) (ac cs : Nat → Nat) (a : Nat → Nat → Nat) (w1 w2 : Nat) (ko : Ko) (tx : Tx) (now : Sh) (tr : Sh) (te : Te) (pa : Pa) (fc : Fc) (to : Fr) (tp : Fr) (re : Re) (k0 : Sh) (k1 : Sh) (ti : Sh) (rg : Nat → Sh) (a1 : Int32) (res : Int32) (hf : K_judged ko a1 = res) : Met l yX7_judged (cWW yX7_judged cX7_judged 2 (some .int)) { frames := 0, cells := 0, slots := 0, locals := 0 } (zR D ac cs [.ref (a 0 0), .int a1] ((koW ac a ko ++ (txW ac (a 1) tx ++ (shW ac (a 2) now ++ (shW ac (a 3) tr ++ (teW ac (a 4) (a 1) (a 10) te ++ (paW ac a pa ++ (fcW ac (a 6) w1 w2 fc ++ (frW ac (a 7) to ++ (frW ac (a 8) tp ++ (reW ac (a 9) re ++ (shW ac (a 40) k0 ++ (shW ac (a 41) k1 ++ (shW ac (a 10) ti))))))))))))) ++ ringW ac a rg)) (vp_Si (fun r => r = res)) 0 0 (fun _ => False) := by
  refine Met.ofW (cc := cX7_judged) (maxL := 2) (ret := (some .int)) (by decide) rfl ?_
  intro p e s m args below meth c s₁ B hml hv
  obtain ⟨rfl, hP, hKX, hC⟩ := hv
  have hx := B.exec
  have hb := B.bytes
  have hr := B.returns
  have hts := atoms_spec (ws := cWW yX7_judged cX7_judged 2 (some .int)) B.pre
  have htw : ∀ w ∈ WW, w.before _ s = true := fun w h => hts w (List.mem_cons_of_mem _ h)
  have hown : s.vm.findClass RX7 = some m.cls := findClass_of_methodNamed B.named
  have hlocks := B.notSynchronized
  clear hts B
  have hS : va_S (fun _ => False) s.heap s.heap [] := va_S.rf
  have hl := lv_entry ([.ref (a 0 0), .int a1]) (n := 2) (Nat.le_of_ble_eq_true rfl)
  rw [lg_entry_eq]
  generalize (lg_sl ([.ref (a 0 0), .int a1]) ++ List.replicate (2 - (lg_sl ([.ref (a 0 0), .int a1])).length) Slot.unset).toArray = ls at hl ⊢
  have hl : lv_has ls 2 [(0, .ref (a 0 0)), (1, .int a1)] := hl
  unfold K_judged at hf
  show W p l e ({ frames := 0, cells := 0, slots := 0, locals := 0 } : Room) s m _ below meth c s.heap [] 0 0 _ (F0 m 0 ls [])
  refine lv_aload_n hx hb dX7_judged_0 rfl (lv_at hl 0 rfl) ?_
  refine va_get (D := D) (ci := 7) (v := .int (ko_hasVerdict ko)) (C := RX7) (T := TX7) (N := 13) hx hb htw WW_wsX70 hown hKX.1 hP 0 rfl rfl 12 (Nat.le_of_ble_eq_true rfl) (htw _ mF_RX7_146) (fun _ h9 => h9) rfl dX7_judged_1 ?_
  refine lv_if_eq (tgt := 29) hx hb dX7_judged_4 (by decide) (fun c1 => ?_) (fun c1 => ?_)
  · have hf := z_p c1 hf
    refine lv_iconst (v := (-1)) hx hb dX7_judged_29 rfl ?_
    exact zr_Ri hx hb hr hlocks hf dX7_judged_30
  · have hf := z_n c1 hf
    refine lv_iload_n hx hb dX7_judged_7 rfl (lv_at hl 1 rfl) ?_
    refine lv_if_lt (tgt := 29) hx hb dX7_judged_8 (by decide) (fun c2 => ?_) (fun c2 => ?_)
    · have hf := z_p c2 hf
      refine lv_iconst (v := (-1)) hx hb dX7_judged_29 rfl ?_
      exact zr_Ri hx hb hr hlocks hf dX7_judged_30
    · have hf := z_n c2 hf
      refine lv_iload_n hx hb dX7_judged_11 rfl (lv_at hl 1 rfl) ?_
      refine lv_aload_n hx hb dX7_judged_12 rfl (lv_at hl 0 rfl) ?_
      refine va_get (D := D) (ci := 7) (v := .ref (a 0 3)) (C := RX7) (T := TX7) (N := 13) hx hb htw WW_wsX70 hown hKX.1 hP 0 rfl rfl 11 (Nat.le_of_ble_eq_true rfl) (htw _ mF_RX7_72) (fun _ h9 => h9) rfl dX7_judged_13 ?_
      refine va_alen hx hb hKX.1 hP 3 0 rfl rfl (v := 4) rfl dX7_judged_16 ?_
      refine lv_icmp_ge (tgt := 29) hx hb dX7_judged_17 (by decide) (fun c3 => ?_) (fun c3 => ?_)
      · have hf := z_p c3 hf
        refine lv_iconst (v := (-1)) hx hb dX7_judged_29 rfl ?_
        exact zr_Ri hx hb hr hlocks hf dX7_judged_30
      · have hf := z_n c3 hf
        refine lv_aload_n hx hb dX7_judged_20 rfl (lv_at hl 0 rfl) ?_
        refine va_get (D := D) (ci := 7) (v := .ref (a 0 3)) (C := RX7) (T := TX7) (N := 13) hx hb htw WW_wsX70 hown hKX.1 hP 0 rfl rfl 11 (Nat.le_of_ble_eq_true rfl) (htw _ mF_RX7_72) (fun _ h9 => h9) rfl dX7_judged_21 ?_
        refine lv_iload_n hx hb dX7_judged_24 rfl (lv_at hl 1 rfl) ?_
        refine va_iald hx hb hKX.1 hP 3 0 rfl rfl (z_in_c rfl (Nat.le_of_ble_eq_true rfl) c2 c3) dX7_judged_25 ?_
        refine lv_goto (tgt := 30) hx hb dX7_judged_26 (by decide) ?_
        exact zr_Ri hx hb hr hlocks hf dX7_judged_30

theorem hd_yX7_exchange : hdY yX7_exchange 3 := by decide +kernel
def K_exchange (F : Nat) (now : Sh) (pa : Pa) (re : Re) (rg : Nat → Sh) (a1 : Int32) (a2 : Int32) (a3 : Int32) : Option (Int32 × Sh × Pa × Re × (Nat → Sh)) := if a2 = a3 then (some ((-1), now, pa, re, rg)) else (if K_isSideTold now a1 = 0 then (some ((-2), now, pa, re, rg)) else (if K_isShooter now a2 = 0 then (some ((-2), now, pa, re, rg)) else (if K_isShooter now a3 = 0 then (some ((-2), now, pa, re, rg)) else (if (sh_kicks now) ≤ 0 then (z_bd (K_remember F now pa re rg) (fun u6 : Pa × Re × (Nat → Sh) => z_let (Sh_skillOf now a1 a2) (fun x7 : Int32 => z_let (Sh_setSkill now a1 a2 (Sh_skillOf now a1 a3)) (fun u8 : Sh => z_let (Sh_setSkill u8 a1 a3 x7) (fun u9 : Sh => some (Sh_skillOf u9 a1 a2, u9, u6.1, u6.2.1, u6.2.2)))))) else (some ((-3), now, pa, re, rg))))))
set_option maxHeartbeats 4000000 in
set_option maxRecDepth 100000 in
theorem ctX7_exchange (l : Launch) (D : va_G) (ac cs : Nat → Nat) (a : Nat → Nat → Nat) (w1 w2 : Nat) (sz : Nat) (ko : Ko) (tx : Tx) (now : Sh) (tr : Sh) (te : Te) (pa : Pa) (fc : Fc) (to : Fr) (tp : Fr) (re : Re) (k0 : Sh) (k1 : Sh) (ti : Sh) (rg : Nat → Sh) (a1 : Int32) (a2 : Int32) (a3 : Int32) (F : Nat) (res : Int32 × Sh × Pa × Re × (Nat → Sh)) (hf : K_exchange F now pa re rg a1 a2 a3 = some res) : Met l yX7_exchange (cWW yX7_exchange cX7_exchange 5 (some .int)) { frames := 3, cells := 0, slots := 0, locals := 63 } (zM D ac cs [.ref (a 0 0), .int a1, .int a2, .int a3] ((koW ac a ko ++ (txW ac (a 1) tx ++ (shW ac (a 2) now ++ (shW ac (a 3) tr ++ (teW ac (a 4) (a 1) (a 10) te ++ (paW ac a pa ++ (fcW ac (a 6) w1 w2 fc ++ (frW ac (a 7) to ++ (frW ac (a 8) tp ++ (reW ac (a 9) re ++ (shW ac (a 40) k0 ++ (shW ac (a 41) k1 ++ (shW ac (a 10) ti))))))))))))) ++ ringW ac a rg) sz) (va_Qi (fun r (_ : Unit) => r = res.1) (fun _ => zB D (va_A ((koW ac a ko ++ (txW ac (a 1) tx ++ (shW ac (a 2) now ++ (shW ac (a 3) tr ++ (teW ac (a 4) (a 1) (a 10) te ++ (paW ac a pa ++ (fcW ac (a 6) w1 w2 fc ++ (frW ac (a 7) to ++ (frW ac (a 8) tp ++ (reW ac (a 9) re ++ (shW ac (a 40) k0 ++ (shW ac (a 41) k1 ++ (shW ac (a 10) ti))))))))))))) ++ ringW ac a rg) sz) ((koW ac a ko ++ (txW ac (a 1) tx ++ (shW ac (a 2) res.2.1 ++ (shW ac (a 3) tr ++ (teW ac (a 4) (a 1) (a 10) te ++ (paW ac a res.2.2.1 ++ (fcW ac (a 6) w1 w2 fc ++ (frW ac (a 7) to ++ (frW ac (a 8) tp ++ (reW ac (a 9) res.2.2.2.1 ++ (shW ac (a 40) k0 ++ (shW ac (a 41) k1 ++ (shW ac (a 10) ti))))))))))))) ++ ringW ac a res.2.2.2.2)) (va_A ((koW ac a ko ++ (txW ac (a 1) tx ++ (shW ac (a 2) now ++ (shW ac (a 3) tr ++ (teW ac (a 4) (a 1) (a 10) te ++ (paW ac a pa ++ (fcW ac (a 6) w1 w2 fc ++ (frW ac (a 7) to ++ (frW ac (a 8) tp ++ (reW ac (a 9) re ++ (shW ac (a 40) k0 ++ (shW ac (a 41) k1 ++ (shW ac (a 10) ti))))))))))))) ++ ringW ac a rg) sz)) 0 0 (va_A ((koW ac a ko ++ (txW ac (a 1) tx ++ (shW ac (a 2) now ++ (shW ac (a 3) tr ++ (teW ac (a 4) (a 1) (a 10) te ++ (paW ac a pa ++ (fcW ac (a 6) w1 w2 fc ++ (frW ac (a 7) to ++ (frW ac (a 8) tp ++ (reW ac (a 9) re ++ (shW ac (a 40) k0 ++ (shW ac (a 41) k1 ++ (shW ac (a 10) ti))))))))))))) ++ ringW ac a rg) sz) := by
  refine Met.ofW (cc := cX7_exchange) (maxL := 5) (ret := (some .int)) (by decide) rfl ?_
  intro p e s m args below meth c s₁ B hml hv
  obtain ⟨rfl, hsz, hP, hKX, hD0, hC⟩ := hv
  have hx := B.exec
  have hb := B.bytes
  have hr := B.returns
  have hts := atoms_spec (ws := cWW yX7_exchange cX7_exchange 5 (some .int)) B.pre
  have htw : ∀ w ∈ WW, w.before _ s = true := fun w h => hts w (List.mem_cons_of_mem _ h)
  have hown : s.vm.findClass RX7 = some m.cls := findClass_of_methodNamed B.named
  have hlocks := B.notSynchronized
  clear hts B
  subst hsz
  have hD := hD0.self (sz := s.heap.size)
  generalize hAe : va_A ((koW ac a ko ++ (txW ac (a 1) tx ++ (shW ac (a 2) now ++ (shW ac (a 3) tr ++ (teW ac (a 4) (a 1) (a 10) te ++ (paW ac a pa ++ (fcW ac (a 6) w1 w2 fc ++ (frW ac (a 7) to ++ (frW ac (a 8) tp ++ (reW ac (a 9) re ++ (shW ac (a 40) k0 ++ (shW ac (a 41) k1 ++ (shW ac (a 10) ti))))))))))))) ++ ringW ac a rg) s.heap.size = A at hD hC ⊢
  have hA : ∀ q : Nat, s.heap.size ≤ q → A q := fun q h => by rw [← hAe]; exact Or.inr h
  have hS : va_S A s.heap s.heap [] := va_S.rf
  clear hD0 hAe
  have hP : va_P D vwCl ((koW ac a ko ++ (txW ac (a 1) tx ++ (shW ac (a 2) now ++ (shW ac (a 3) tr ++ (teW ac (a 4) (a 1) (a 10) te ++ (paW ac a pa ++ (fcW ac (a 6) w1 w2 fc ++ (frW ac (a 7) to ++ (frW ac (a 8) tp ++ (reW ac (a 9) re ++ (shW ac (a 40) k0 ++ (shW ac (a 41) k1 ++ (shW ac (a 10) ti))))))))))))) ++ ringW ac a rg) s.heap := hP
  have hl := lv_entry ([.ref (a 0 0), .int a1, .int a2, .int a3]) (n := 5) (Nat.le_of_ble_eq_true rfl)
  rw [lg_entry_eq]
  generalize (lg_sl ([.ref (a 0 0), .int a1, .int a2, .int a3]) ++ List.replicate (5 - (lg_sl ([.ref (a 0 0), .int a1, .int a2, .int a3])).length) Slot.unset).toArray = ls at hl ⊢
  have hl : lv_has ls 5 [(0, .ref (a 0 0)), (1, .int a1), (2, .int a2), (3, .int a3)] := hl
  unfold K_exchange at hf
  show W p l e ({ frames := 3, cells := 0, slots := 0, locals := 63 } : Room) s m _ below meth c s.heap [] 0 0 _ (F0 m 0 ls [])
  refine lv_iload_n hx hb dX7_exchange_0 rfl (lv_at hl 2 rfl) ?_
  refine lv_iload_n hx hb dX7_exchange_1 rfl (lv_at hl 3 rfl) ?_
  refine lv_icmp_ne (tgt := 7) hx hb dX7_exchange_2 (by decide) (fun c1 => ?_) (fun c1 => ?_)
  · have hf := z_n c1 hf
    refine lv_aload_n hx hb dX7_exchange_7 rfl (lv_at hl 0 rfl) ?_
    refine lv_iload_n hx hb dX7_exchange_8 rfl (lv_at hl 1 rfl) ?_
    refine zc_RVi (As := [.int a1]) (rest := []) hx hb hml hown htw (ctX7_isSideTold l D ac cs a w1 w2 ko tx now tr te pa fc to tp re k0 k1 ti rg a1   _ rfl) (g_V mM_RX7_107 mI_yX7_isSideTold mS_RX7_yX7_isSideTold_yX7_isSideTold mN_RX7 mC_yX7_isSideTold) rfl (hd_yX7_isSideTold) ⟨rfl, rfl⟩ ⟨(Nat.le_of_ble_eq_true rfl), (Nat.le_of_ble_eq_true rfl)⟩ hKX hC hS hP 7 rfl rfl rfl hl.1 rfl (Nat.le_of_ble_eq_true rfl) ⟨Nat.zero_le _, Nat.zero_le _⟩ dX7_exchange_9 ?_
    refine lv_if_eq (tgt := 31) hx hb dX7_exchange_12 (by decide) (fun c2 => ?_) (fun c2 => ?_)
    · have hf := z_p c2 hf
      refine lv_bipush (v := (-2)) hx hb dX7_exchange_31 rfl ?_
      obtain rfl := Option.some.inj hf
      exact zr_Mi hx hb hr hlocks hP hD hS dX7_exchange_33
    · have hf := z_n c2 hf
      refine lv_aload_n hx hb dX7_exchange_15 rfl (lv_at hl 0 rfl) ?_
      refine lv_iload_n hx hb dX7_exchange_16 rfl (lv_at hl 2 rfl) ?_
      refine zc_RVi (As := [.int a2]) (rest := []) hx hb hml hown htw (ctX7_isShooter l D ac cs a w1 w2 ko tx now tr te pa fc to tp re k0 k1 ti rg a2   _ rfl) (g_V mM_RX7_149 mI_yX7_isShooter mS_RX7_yX7_isShooter_yX7_isShooter mN_RX7 mC_yX7_isShooter) rfl (hd_yX7_isShooter) ⟨rfl, rfl⟩ ⟨(Nat.le_of_ble_eq_true rfl), (Nat.le_of_ble_eq_true rfl)⟩ hKX hC hS hP 7 rfl rfl rfl hl.1 rfl (Nat.le_of_ble_eq_true rfl) ⟨Nat.zero_le _, Nat.zero_le _⟩ dX7_exchange_17 ?_
      refine lv_if_eq (tgt := 31) hx hb dX7_exchange_20 (by decide) (fun c3 => ?_) (fun c3 => ?_)
      · have hf := z_p c3 hf
        refine lv_bipush (v := (-2)) hx hb dX7_exchange_31 rfl ?_
        obtain rfl := Option.some.inj hf
        exact zr_Mi hx hb hr hlocks hP hD hS dX7_exchange_33
      · have hf := z_n c3 hf
        refine lv_aload_n hx hb dX7_exchange_23 rfl (lv_at hl 0 rfl) ?_
        refine lv_iload_n hx hb dX7_exchange_24 rfl (lv_at hl 3 rfl) ?_
        refine zc_RVi (As := [.int a3]) (rest := []) hx hb hml hown htw (ctX7_isShooter l D ac cs a w1 w2 ko tx now tr te pa fc to tp re k0 k1 ti rg a3   _ rfl) (g_V mM_RX7_149 mI_yX7_isShooter mS_RX7_yX7_isShooter_yX7_isShooter mN_RX7 mC_yX7_isShooter) rfl (hd_yX7_isShooter) ⟨rfl, rfl⟩ ⟨(Nat.le_of_ble_eq_true rfl), (Nat.le_of_ble_eq_true rfl)⟩ hKX hC hS hP 7 rfl rfl rfl hl.1 rfl (Nat.le_of_ble_eq_true rfl) ⟨Nat.zero_le _, Nat.zero_le _⟩ dX7_exchange_25 ?_
        refine lv_if_ne (tgt := 34) hx hb dX7_exchange_28 (by decide) (fun c4 => ?_) (fun c4 => ?_)
        · have hf := z_n c4 hf
          refine lv_aload_n hx hb dX7_exchange_34 rfl (lv_at hl 0 rfl) ?_
          refine va_get (D := D) (ci := 7) (v := .ref (a 2 0)) (C := RX7) (T := TX7) (N := 13) hx hb htw WW_wsX70 hown hKX.1 hP 0 rfl rfl 2 (Nat.le_of_ble_eq_true rfl) (htw _ mF_RX7_26) (fun _ h9 => h9) rfl dX7_exchange_35 ?_
          refine va_getN (D := D) (ci := 4) (v := .int (sh_kicks now)) (C := RX4) (T := TX4) (N := 10) hx hb htw WW_wsX40 hown hKX.1 hP 6 rfl rfl 3 (Nat.le_of_ble_eq_true rfl) (va_Nw.use rfl (hKX.2 _ (List.mem_of_getElem? (i := 11) rfl))) (fun _ h9 => h9) rfl dX7_exchange_38 ?_
          refine lv_if_le (tgt := 47) hx hb dX7_exchange_41 (by decide) (fun c5 => ?_) (fun c5 => ?_)
          · have hf := z_p c5 hf
            refine lv_aload_n hx hb dX7_exchange_47 rfl (lv_at hl 0 rfl) ?_
            obtain ⟨u6, hu6, hf⟩ := z_bd_u hf
            refine zc_MVvT (E := (koW ac a ko ++ (txW ac (a 1) tx ++ (shW ac (a 2) now ++ (shW ac (a 3) tr ++ (teW ac (a 4) (a 1) (a 10) te ++ (paW ac a pa ++ (fcW ac (a 6) w1 w2 fc ++ (frW ac (a 7) to ++ (frW ac (a 8) tp ++ (reW ac (a 9) re ++ (shW ac (a 40) k0 ++ (shW ac (a 41) k1 ++ (shW ac (a 10) ti))))))))))))) ++ ringW ac a rg) (TT := []) (As := []) (rest := []) (wr := []) (wsc := (koW ac a ko ++ (txW ac (a 1) tx ++ (shW ac (a 2) now ++ (shW ac (a 3) tr ++ (teW ac (a 4) (a 1) (a 10) te ++ (paW ac a pa ++ (fcW ac (a 6) w1 w2 fc ++ (frW ac (a 7) to ++ (frW ac (a 8) tp ++ (reW ac (a 9) re ++ (shW ac (a 40) k0 ++ (shW ac (a 41) k1 ++ (shW ac (a 10) ti))))))))))))) ++ ringW ac a rg) (wsc' := (koW ac a ko ++ (txW ac (a 1) tx ++ (shW ac (a 2) now ++ (shW ac (a 3) tr ++ (teW ac (a 4) (a 1) (a 10) te ++ (paW ac a u6.1 ++ (fcW ac (a 6) w1 w2 fc ++ (frW ac (a 7) to ++ (frW ac (a 8) tp ++ (reW ac (a 9) u6.2.1 ++ (shW ac (a 40) k0 ++ (shW ac (a 41) k1 ++ (shW ac (a 10) ti))))))))))))) ++ ringW ac a u6.2.2) hx hb hml hown htw (ctX7_remember l D ac cs a w1 w2 s.heap.size ko tx now tr te pa fc to tp re k0 k1 ti rg    F u6 hu6) (g_V mM_RX7_130 mI_yX7_remember mS_RX7_yX7_remember_yX7_remember mN_RX7 mC_yX7_remember) rfl (hd_yX7_remember) ⟨rfl, rfl⟩ ⟨(Nat.le_of_ble_eq_true rfl), (Nat.le_of_ble_eq_true rfl)⟩ hKX hC hS hA (zP_nil hP) (zD_nil hD) (List.range _) [] (zrange _) (zndr _) rfl rfl (fun _ h => by cases h) 7 rfl rfl rfl hl.1 rfl (Nat.le_of_ble_eq_true rfl) ⟨Nat.zero_le _, Nat.zero_le _⟩ dX7_exchange_48 (fun H locs hP hD hS => ?_)
            have hP : va_P D vwCl ((koW ac a ko ++ (txW ac (a 1) tx ++ (shW ac (a 2) now ++ (shW ac (a 3) tr ++ (teW ac (a 4) (a 1) (a 10) te ++ (paW ac a u6.1 ++ (fcW ac (a 6) w1 w2 fc ++ (frW ac (a 7) to ++ (frW ac (a 8) tp ++ (reW ac (a 9) u6.2.1 ++ (shW ac (a 40) k0 ++ (shW ac (a 41) k1 ++ (shW ac (a 10) ti))))))))))))) ++ ringW ac a u6.2.2) H := zP_un hP
            have hD : va_D A ((koW ac a ko ++ (txW ac (a 1) tx ++ (shW ac (a 2) now ++ (shW ac (a 3) tr ++ (teW ac (a 4) (a 1) (a 10) te ++ (paW ac a u6.1 ++ (fcW ac (a 6) w1 w2 fc ++ (frW ac (a 7) to ++ (frW ac (a 8) tp ++ (reW ac (a 9) u6.2.1 ++ (shW ac (a 40) k0 ++ (shW ac (a 41) k1 ++ (shW ac (a 10) ti))))))))))))) ++ ringW ac a u6.2.2) := zD_un hD
            refine lv_aload_n hx hb dX7_exchange_51 rfl (lv_at hl 0 rfl) ?_
            refine va_get (D := D) (ci := 7) (v := .ref (a 2 0)) (C := RX7) (T := TX7) (N := 13) hx hb htw WW_wsX70 hown hKX.1 hP 0 rfl rfl 2 (Nat.le_of_ble_eq_true rfl) (htw _ mF_RX7_26) (fun _ h9 => h9) rfl dX7_exchange_52 ?_
            refine lv_iload_n hx hb dX7_exchange_55 rfl (lv_at hl 1 rfl) ?_
            refine lv_iload_n hx hb dX7_exchange_56 rfl (lv_at hl 2 rfl) ?_
            refine zc_RVi (As := [.int a1, .int a2]) (rest := []) hx hb hml hown htw (ctX4_skillOf l D ac cs (a 2) now a1 a2   _ rfl) (g_V mM_RX7_122 mI_yX4_skillOf mS_RX4_yX4_skillOf_yX4_skillOf mN_RX4 mC_yX4_skillOf) rfl (hd_yX4_skillOf) ⟨rfl, rfl⟩ ⟨(Nat.le_of_ble_eq_true rfl), (Nat.le_of_ble_eq_true rfl)⟩ hKX hC hS (hP.sub [6, 7, 8] rfl) 4 rfl rfl rfl hl.1 rfl (Nat.le_of_ble_eq_true rfl) ⟨Nat.zero_le _, Nat.zero_le _⟩ dX7_exchange_57 ?_
            refine lv_topi (fun x7 hx7 => ?_)
            have hf := z_let_u hx7 hf
            refine lv_istore (lv' := [(4, .int x7), (0, .ref (a 0 0)), (1, .int a1), (2, .int a2), (3, .int a3)]) hx hb dX7_exchange_60 hl (Nat.le_of_ble_eq_true rfl) rfl (fun ls hl => ?_)
            refine lv_aload_n hx hb dX7_exchange_62 rfl (lv_at hl 1 rfl) ?_
            refine va_get (D := D) (ci := 7) (v := .ref (a 2 0)) (C := RX7) (T := TX7) (N := 13) hx hb htw WW_wsX70 hown hKX.1 hP 0 rfl rfl 2 (Nat.le_of_ble_eq_true rfl) (htw _ mF_RX7_26) (fun _ h9 => h9) rfl dX7_exchange_63 ?_
            refine lv_iload_n hx hb dX7_exchange_66 rfl (lv_at hl 2 rfl) ?_
            refine lv_iload_n hx hb dX7_exchange_67 rfl (lv_at hl 3 rfl) ?_
            refine lv_aload_n hx hb dX7_exchange_68 rfl (lv_at hl 1 rfl) ?_
            refine va_get (D := D) (ci := 7) (v := .ref (a 2 0)) (C := RX7) (T := TX7) (N := 13) hx hb htw WW_wsX70 hown hKX.1 hP 0 rfl rfl 2 (Nat.le_of_ble_eq_true rfl) (htw _ mF_RX7_26) (fun _ h9 => h9) rfl dX7_exchange_69 ?_
            refine lv_iload_n hx hb dX7_exchange_72 rfl (lv_at hl 2 rfl) ?_
            refine lv_iload_n hx hb dX7_exchange_73 rfl (lv_at hl 4 rfl) ?_
            refine zc_RVi (As := [.int a1, .int a3]) (rest := [.int a2, .int a1, .ref (a 2 0)]) hx hb hml hown htw (ctX4_skillOf l D ac cs (a 2) now a1 a3   _ rfl) (g_V mM_RX7_122 mI_yX4_skillOf mS_RX4_yX4_skillOf_yX4_skillOf mN_RX4 mC_yX4_skillOf) rfl (hd_yX4_skillOf) ⟨rfl, rfl⟩ ⟨(Nat.le_of_ble_eq_true rfl), (Nat.le_of_ble_eq_true rfl)⟩ hKX hC hS (hP.sub [6, 7, 8] rfl) 4 rfl rfl rfl hl.1 rfl (Nat.le_of_ble_eq_true rfl) ⟨Nat.zero_le _, Nat.zero_le _⟩ dX7_exchange_74 ?_
            obtain ⟨u8, hu8⟩ : ∃ y : Sh, y = Sh_setSkill now a1 a2 (Sh_skillOf now a1 a3) := ⟨_, rfl⟩
            have hf := z_let_u hu8 hf
            refine zc_MVvT (As := [.int a1, .int a2, .int (Sh_skillOf now a1 a3)]) (rest := []) (wr := koW ac a ko ++ (txW ac (a 1) tx ++ (shW ac (a 3) tr ++ (teW ac (a 4) (a 1) (a 10) te ++ (paW ac a u6.1 ++ (fcW ac (a 6) w1 w2 fc ++ (frW ac (a 7) to ++ (frW ac (a 8) tp ++ (reW ac (a 9) u6.2.1 ++ (shW ac (a 40) k0 ++ (shW ac (a 41) k1 ++ (shW ac (a 10) ti)))))))))))) (wsc := shW ac (a 2) now) (wsc' := shW ac (a 2) u8) hx hb hml hown htw (ctX4_setSkill l D ac cs (a 2) H.size now a1 a2 (Sh_skillOf now a1 a3)   u8 hu8.symm) (g_V mM_RX7_155 mI_yX4_setSkill mS_RX4_yX4_setSkill_yX4_setSkill mN_RX4 mC_yX4_setSkill) rfl (hd_yX4_setSkill) ⟨rfl, rfl⟩ ⟨(Nat.le_of_ble_eq_true rfl), (Nat.le_of_ble_eq_true rfl)⟩ hKX hC hS hA hP hD [6, 7, 8] [0, 1, 2, 3, 4, 5, 9, 10, 11, 12, 13, 14, 15, 16, 17, 18, 19, 20, 21, 22, 23, 24, 25, 26, 27, 28, 29, 30, 31, 32, 33, 34, 35, 36, 37] rfl (by decide) rfl (by decide) (by decide) 4 rfl rfl rfl hl.1 rfl (Nat.le_of_ble_eq_true rfl) ⟨Nat.zero_le _, Nat.zero_le _⟩ dX7_exchange_77 (fun H locs hP hD hS => ?_)
            have hP : va_P D vwCl ((koW ac a ko ++ (txW ac (a 1) tx ++ (shW ac (a 2) u8 ++ (shW ac (a 3) tr ++ (teW ac (a 4) (a 1) (a 10) te ++ (paW ac a u6.1 ++ (fcW ac (a 6) w1 w2 fc ++ (frW ac (a 7) to ++ (frW ac (a 8) tp ++ (reW ac (a 9) u6.2.1 ++ (shW ac (a 40) k0 ++ (shW ac (a 41) k1 ++ (shW ac (a 10) ti))))))))))))) ++ ringW ac a u6.2.2) H := zsubPT hP [0, 1, 2, 3, 4, 5, 35, 36, 37, 6, 7, 8, 9, 10, 11, 12, 13, 14, 15, 16, 17, 18, 19, 20, 21, 22, 23, 24, 25, 26, 27, 28, 29, 30, 31, 32, 33, 34] rfl
            have hD : va_D A ((koW ac a ko ++ (txW ac (a 1) tx ++ (shW ac (a 2) u8 ++ (shW ac (a 3) tr ++ (teW ac (a 4) (a 1) (a 10) te ++ (paW ac a u6.1 ++ (fcW ac (a 6) w1 w2 fc ++ (frW ac (a 7) to ++ (frW ac (a 8) tp ++ (reW ac (a 9) u6.2.1 ++ (shW ac (a 40) k0 ++ (shW ac (a 41) k1 ++ (shW ac (a 10) ti))))))))))))) ++ ringW ac a u6.2.2) := zsubDT hD [0, 1, 2, 3, 4, 5, 35, 36, 37, 6, 7, 8, 9, 10, 11, 12, 13, 14, 15, 16, 17, 18, 19, 20, 21, 22, 23, 24, 25, 26, 27, 28, 29, 30, 31, 32, 33, 34] (by decide) rfl
            refine lv_aload_n hx hb dX7_exchange_80 rfl (lv_at hl 1 rfl) ?_
            refine va_get (D := D) (ci := 7) (v := .ref (a 2 0)) (C := RX7) (T := TX7) (N := 13) hx hb htw WW_wsX70 hown hKX.1 hP 0 rfl rfl 2 (Nat.le_of_ble_eq_true rfl) (htw _ mF_RX7_26) (fun _ h9 => h9) rfl dX7_exchange_81 ?_
            refine lv_iload_n hx hb dX7_exchange_84 rfl (lv_at hl 2 rfl) ?_
            refine lv_iload_n hx hb dX7_exchange_85 rfl (lv_at hl 4 rfl) ?_
            refine lv_iload hx hb dX7_exchange_86 (lv_at hl 0 rfl) ?_
            obtain ⟨u9, hu9⟩ : ∃ y : Sh, y = Sh_setSkill u8 a1 a3 x7 := ⟨_, rfl⟩
            have hf := z_let_u hu9 hf
            refine zc_MVvT (As := [.int a1, .int a3, .int x7]) (rest := []) (wr := koW ac a ko ++ (txW ac (a 1) tx ++ (shW ac (a 3) tr ++ (teW ac (a 4) (a 1) (a 10) te ++ (paW ac a u6.1 ++ (fcW ac (a 6) w1 w2 fc ++ (frW ac (a 7) to ++ (frW ac (a 8) tp ++ (reW ac (a 9) u6.2.1 ++ (shW ac (a 40) k0 ++ (shW ac (a 41) k1 ++ (shW ac (a 10) ti)))))))))))) (wsc := shW ac (a 2) u8) (wsc' := shW ac (a 2) u9) hx hb hml hown htw (ctX4_setSkill l D ac cs (a 2) H.size u8 a1 a3 x7   u9 hu9.symm) (g_V mM_RX7_155 mI_yX4_setSkill mS_RX4_yX4_setSkill_yX4_setSkill mN_RX4 mC_yX4_setSkill) rfl (hd_yX4_setSkill) ⟨rfl, rfl⟩ ⟨(Nat.le_of_ble_eq_true rfl), (Nat.le_of_ble_eq_true rfl)⟩ hKX hC hS hA hP hD [6, 7, 8] [0, 1, 2, 3, 4, 5, 9, 10, 11, 12, 13, 14, 15, 16, 17, 18, 19, 20, 21, 22, 23, 24, 25, 26, 27, 28, 29, 30, 31, 32, 33, 34, 35, 36, 37] rfl (by decide) rfl (by decide) (by decide) 4 rfl rfl rfl hl.1 rfl (Nat.le_of_ble_eq_true rfl) ⟨Nat.zero_le _, Nat.zero_le _⟩ dX7_exchange_88 (fun H locs hP hD hS => ?_)
            have hP : va_P D vwCl ((koW ac a ko ++ (txW ac (a 1) tx ++ (shW ac (a 2) u9 ++ (shW ac (a 3) tr ++ (teW ac (a 4) (a 1) (a 10) te ++ (paW ac a u6.1 ++ (fcW ac (a 6) w1 w2 fc ++ (frW ac (a 7) to ++ (frW ac (a 8) tp ++ (reW ac (a 9) u6.2.1 ++ (shW ac (a 40) k0 ++ (shW ac (a 41) k1 ++ (shW ac (a 10) ti))))))))))))) ++ ringW ac a u6.2.2) H := zsubPT hP [0, 1, 2, 3, 4, 5, 35, 36, 37, 6, 7, 8, 9, 10, 11, 12, 13, 14, 15, 16, 17, 18, 19, 20, 21, 22, 23, 24, 25, 26, 27, 28, 29, 30, 31, 32, 33, 34] rfl
            have hD : va_D A ((koW ac a ko ++ (txW ac (a 1) tx ++ (shW ac (a 2) u9 ++ (shW ac (a 3) tr ++ (teW ac (a 4) (a 1) (a 10) te ++ (paW ac a u6.1 ++ (fcW ac (a 6) w1 w2 fc ++ (frW ac (a 7) to ++ (frW ac (a 8) tp ++ (reW ac (a 9) u6.2.1 ++ (shW ac (a 40) k0 ++ (shW ac (a 41) k1 ++ (shW ac (a 10) ti))))))))))))) ++ ringW ac a u6.2.2) := zsubDT hD [0, 1, 2, 3, 4, 5, 35, 36, 37, 6, 7, 8, 9, 10, 11, 12, 13, 14, 15, 16, 17, 18, 19, 20, 21, 22, 23, 24, 25, 26, 27, 28, 29, 30, 31, 32, 33, 34] (by decide) rfl
            refine lv_aload_n hx hb dX7_exchange_91 rfl (lv_at hl 1 rfl) ?_
            refine va_get (D := D) (ci := 7) (v := .ref (a 2 0)) (C := RX7) (T := TX7) (N := 13) hx hb htw WW_wsX70 hown hKX.1 hP 0 rfl rfl 2 (Nat.le_of_ble_eq_true rfl) (htw _ mF_RX7_26) (fun _ h9 => h9) rfl dX7_exchange_92 ?_
            refine lv_iload_n hx hb dX7_exchange_95 rfl (lv_at hl 2 rfl) ?_
            refine lv_iload_n hx hb dX7_exchange_96 rfl (lv_at hl 3 rfl) ?_
            refine zc_RVi (As := [.int a1, .int a2]) (rest := []) hx hb hml hown htw (ctX4_skillOf l D ac cs (a 2) u9 a1 a2   _ rfl) (g_V mM_RX7_122 mI_yX4_skillOf mS_RX4_yX4_skillOf_yX4_skillOf mN_RX4 mC_yX4_skillOf) rfl (hd_yX4_skillOf) ⟨rfl, rfl⟩ ⟨(Nat.le_of_ble_eq_true rfl), (Nat.le_of_ble_eq_true rfl)⟩ hKX hC hS (hP.sub [6, 7, 8] rfl) 4 rfl rfl rfl hl.1 rfl (Nat.le_of_ble_eq_true rfl) ⟨Nat.zero_le _, Nat.zero_le _⟩ dX7_exchange_97 ?_
            obtain rfl := Option.some.inj hf
            exact zr_Mi hx hb hr hlocks hP hD hS dX7_exchange_100
          · have hf := z_n c5 hf
            refine lv_bipush (v := (-3)) hx hb dX7_exchange_44 rfl ?_
            obtain rfl := Option.some.inj hf
            exact zr_Mi hx hb hr hlocks hP hD hS dX7_exchange_46
        · have hf := z_p c4 hf
          refine lv_bipush (v := (-2)) hx hb dX7_exchange_31 rfl ?_
          obtain rfl := Option.some.inj hf
          exact zr_Mi hx hb hr hlocks hP hD hS dX7_exchange_33
  · have hf := z_p c1 hf
    refine lv_iconst (v := (-1)) hx hb dX7_exchange_5 rfl ?_
    obtain rfl := Option.some.inj hf
    exact zr_Mi hx hb hr hlocks hP hD hS dX7_exchange_6

theorem hd_yX7_order : hdY yX7_order 1 := by decide +kernel
def K_order (F : Nat) (now : Sh) (pa : Pa) (re : Re) (rg : Nat → Sh) (a1 : Int32) : Option (Int32 × Sh × Pa × Re × (Nat → Sh)) := if K_isOrder a1 = 0 then (some ((-1), now, pa, re, rg)) else (if (sh_shooters now) = 0 then (some ((-2), now, pa, re, rg)) else (if (sh_kicks now) ≤ 0 then (z_bd (K_remember F now pa re rg) (fun u4 : Pa × Re × (Nat → Sh) => z_let (sh_order now) (fun x5 : Int32 => some (x5, ((sh_shooters now), a1, (sh_first now), (sh_kicks now), (sh_goalBits now), (sh_sideBits now), (sh_goalsOfA now), (sh_goalsOfB now), (sh_nerves now), (sh_skills now)), u4.1, u4.2.1, u4.2.2)))) else (some ((-3), now, pa, re, rg))))
set_option maxHeartbeats 4000000 in
set_option maxRecDepth 100000 in
theorem ctX7_order (l : Launch) (D : va_G) (ac cs : Nat → Nat) (a : Nat → Nat → Nat) (w1 w2 : Nat) (sz : Nat) (ko : Ko) (tx : Tx) (now : Sh) (tr : Sh) (te : Te) (pa : Pa) (fc : Fc) (to : Fr) (tp : Fr) (re : Re) (k0 : Sh) (k1 : Sh) (ti : Sh) (rg : Nat → Sh) (a1 : Int32) (F : Nat) (res : Int32 × Sh × Pa × Re × (Nat → Sh)) (hf : K_order F now pa re rg a1 = some res) : Met l yX7_order (cWW yX7_order cX7_order 3 (some .int)) { frames := 3, cells := 0, slots := 0, locals := 63 } (zM D ac cs [.ref (a 0 0), .int a1] ((koW ac a ko ++ (txW ac (a 1) tx ++ (shW ac (a 2) now ++ (shW ac (a 3) tr ++ (teW ac (a 4) (a 1) (a 10) te ++ (paW ac a pa ++ (fcW ac (a 6) w1 w2 fc ++ (frW ac (a 7) to ++ (frW ac (a 8) tp ++ (reW ac (a 9) re ++ (shW ac (a 40) k0 ++ (shW ac (a 41) k1 ++ (shW ac (a 10) ti))))))))))))) ++ ringW ac a rg) sz) (va_Qi (fun r (_ : Unit) => r = res.1) (fun _ => zB D (va_A ((koW ac a ko ++ (txW ac (a 1) tx ++ (shW ac (a 2) now ++ (shW ac (a 3) tr ++ (teW ac (a 4) (a 1) (a 10) te ++ (paW ac a pa ++ (fcW ac (a 6) w1 w2 fc ++ (frW ac (a 7) to ++ (frW ac (a 8) tp ++ (reW ac (a 9) re ++ (shW ac (a 40) k0 ++ (shW ac (a 41) k1 ++ (shW ac (a 10) ti))))))))))))) ++ ringW ac a rg) sz) ((koW ac a ko ++ (txW ac (a 1) tx ++ (shW ac (a 2) res.2.1 ++ (shW ac (a 3) tr ++ (teW ac (a 4) (a 1) (a 10) te ++ (paW ac a res.2.2.1 ++ (fcW ac (a 6) w1 w2 fc ++ (frW ac (a 7) to ++ (frW ac (a 8) tp ++ (reW ac (a 9) res.2.2.2.1 ++ (shW ac (a 40) k0 ++ (shW ac (a 41) k1 ++ (shW ac (a 10) ti))))))))))))) ++ ringW ac a res.2.2.2.2)) (va_A ((koW ac a ko ++ (txW ac (a 1) tx ++ (shW ac (a 2) now ++ (shW ac (a 3) tr ++ (teW ac (a 4) (a 1) (a 10) te ++ (paW ac a pa ++ (fcW ac (a 6) w1 w2 fc ++ (frW ac (a 7) to ++ (frW ac (a 8) tp ++ (reW ac (a 9) re ++ (shW ac (a 40) k0 ++ (shW ac (a 41) k1 ++ (shW ac (a 10) ti))))))))))))) ++ ringW ac a rg) sz)) 0 0 (va_A ((koW ac a ko ++ (txW ac (a 1) tx ++ (shW ac (a 2) now ++ (shW ac (a 3) tr ++ (teW ac (a 4) (a 1) (a 10) te ++ (paW ac a pa ++ (fcW ac (a 6) w1 w2 fc ++ (frW ac (a 7) to ++ (frW ac (a 8) tp ++ (reW ac (a 9) re ++ (shW ac (a 40) k0 ++ (shW ac (a 41) k1 ++ (shW ac (a 10) ti))))))))))))) ++ ringW ac a rg) sz) := by
  refine Met.ofW (cc := cX7_order) (maxL := 3) (ret := (some .int)) (by decide) rfl ?_
  intro p e s m args below meth c s₁ B hml hv
  obtain ⟨rfl, hsz, hP, hKX, hD0, hC⟩ := hv
  have hx := B.exec
  have hb := B.bytes
  have hr := B.returns
  have hts := atoms_spec (ws := cWW yX7_order cX7_order 3 (some .int)) B.pre
  have htw : ∀ w ∈ WW, w.before _ s = true := fun w h => hts w (List.mem_cons_of_mem _ h)
  have hown : s.vm.findClass RX7 = some m.cls := findClass_of_methodNamed B.named
  have hlocks := B.notSynchronized
  clear hts B
  subst hsz
  have hD := hD0.self (sz := s.heap.size)
  generalize hAe : va_A ((koW ac a ko ++ (txW ac (a 1) tx ++ (shW ac (a 2) now ++ (shW ac (a 3) tr ++ (teW ac (a 4) (a 1) (a 10) te ++ (paW ac a pa ++ (fcW ac (a 6) w1 w2 fc ++ (frW ac (a 7) to ++ (frW ac (a 8) tp ++ (reW ac (a 9) re ++ (shW ac (a 40) k0 ++ (shW ac (a 41) k1 ++ (shW ac (a 10) ti))))))))))))) ++ ringW ac a rg) s.heap.size = A at hD hC ⊢
  have hA : ∀ q : Nat, s.heap.size ≤ q → A q := fun q h => by rw [← hAe]; exact Or.inr h
  have hS : va_S A s.heap s.heap [] := va_S.rf
  clear hD0 hAe
  have hP : va_P D vwCl ((koW ac a ko ++ (txW ac (a 1) tx ++ (shW ac (a 2) now ++ (shW ac (a 3) tr ++ (teW ac (a 4) (a 1) (a 10) te ++ (paW ac a pa ++ (fcW ac (a 6) w1 w2 fc ++ (frW ac (a 7) to ++ (frW ac (a 8) tp ++ (reW ac (a 9) re ++ (shW ac (a 40) k0 ++ (shW ac (a 41) k1 ++ (shW ac (a 10) ti))))))))))))) ++ ringW ac a rg) s.heap := hP
  have hl := lv_entry ([.ref (a 0 0), .int a1]) (n := 3) (Nat.le_of_ble_eq_true rfl)
  rw [lg_entry_eq]
  generalize (lg_sl ([.ref (a 0 0), .int a1]) ++ List.replicate (3 - (lg_sl ([.ref (a 0 0), .int a1])).length) Slot.unset).toArray = ls at hl ⊢
  have hl : lv_has ls 3 [(0, .ref (a 0 0)), (1, .int a1)] := hl
  unfold K_order at hf
  show W p l e ({ frames := 3, cells := 0, slots := 0, locals := 63 } : Room) s m _ below meth c s.heap [] 0 0 _ (F0 m 0 ls [])
  refine lv_iload_n hx hb dX7_order_0 rfl (lv_at hl 1 rfl) ?_
  refine zc_RSi (As := [.int a1]) (rest := []) hx hb hml hown htw (ctX7_isOrder l D ac cs   a1   _ rfl) (g_S mM_RX7_159 mT_yX7_isOrder mN_RX7 mC_yX7_isOrder) (hd_yX7_isOrder) ⟨rfl, rfl⟩ ⟨(Nat.le_of_ble_eq_true rfl), (Nat.le_of_ble_eq_true rfl)⟩ hKX hC hS zP0 rfl hl.1 rfl (Nat.le_of_ble_eq_true rfl) ⟨Nat.zero_le _, Nat.zero_le _⟩ dX7_order_1 ?_
  refine lv_if_ne (tgt := 9) hx hb dX7_order_4 (by decide) (fun c1 => ?_) (fun c1 => ?_)
  · have hf := z_n c1 hf
    refine lv_aload_n hx hb dX7_order_9 rfl (lv_at hl 0 rfl) ?_
    refine va_get (D := D) (ci := 7) (v := .ref (a 2 0)) (C := RX7) (T := TX7) (N := 13) hx hb htw WW_wsX70 hown hKX.1 hP 0 rfl rfl 2 (Nat.le_of_ble_eq_true rfl) (htw _ mF_RX7_26) (fun _ h9 => h9) rfl dX7_order_10 ?_
    refine va_getN (D := D) (ci := 4) (v := .int (sh_shooters now)) (C := RX4) (T := TX4) (N := 10) hx hb htw WW_wsX40 hown hKX.1 hP 6 rfl rfl 0 (Nat.le_of_ble_eq_true rfl) (va_Nw.use rfl (hKX.2 _ (List.mem_of_getElem? (i := 3) rfl))) (fun _ h9 => h9) rfl dX7_order_13 ?_
    refine lv_if_ne (tgt := 22) hx hb dX7_order_16 (by decide) (fun c2 => ?_) (fun c2 => ?_)
    · have hf := z_n c2 hf
      refine lv_aload_n hx hb dX7_order_22 rfl (lv_at hl 0 rfl) ?_
      refine va_get (D := D) (ci := 7) (v := .ref (a 2 0)) (C := RX7) (T := TX7) (N := 13) hx hb htw WW_wsX70 hown hKX.1 hP 0 rfl rfl 2 (Nat.le_of_ble_eq_true rfl) (htw _ mF_RX7_26) (fun _ h9 => h9) rfl dX7_order_23 ?_
      refine va_getN (D := D) (ci := 4) (v := .int (sh_kicks now)) (C := RX4) (T := TX4) (N := 10) hx hb htw WW_wsX40 hown hKX.1 hP 6 rfl rfl 3 (Nat.le_of_ble_eq_true rfl) (va_Nw.use rfl (hKX.2 _ (List.mem_of_getElem? (i := 11) rfl))) (fun _ h9 => h9) rfl dX7_order_26 ?_
      refine lv_if_le (tgt := 35) hx hb dX7_order_29 (by decide) (fun c3 => ?_) (fun c3 => ?_)
      · have hf := z_p c3 hf
        refine lv_aload_n hx hb dX7_order_35 rfl (lv_at hl 0 rfl) ?_
        obtain ⟨u4, hu4, hf⟩ := z_bd_u hf
        refine zc_MVvT (E := (koW ac a ko ++ (txW ac (a 1) tx ++ (shW ac (a 2) now ++ (shW ac (a 3) tr ++ (teW ac (a 4) (a 1) (a 10) te ++ (paW ac a pa ++ (fcW ac (a 6) w1 w2 fc ++ (frW ac (a 7) to ++ (frW ac (a 8) tp ++ (reW ac (a 9) re ++ (shW ac (a 40) k0 ++ (shW ac (a 41) k1 ++ (shW ac (a 10) ti))))))))))))) ++ ringW ac a rg) (TT := []) (As := []) (rest := []) (wr := []) (wsc := (koW ac a ko ++ (txW ac (a 1) tx ++ (shW ac (a 2) now ++ (shW ac (a 3) tr ++ (teW ac (a 4) (a 1) (a 10) te ++ (paW ac a pa ++ (fcW ac (a 6) w1 w2 fc ++ (frW ac (a 7) to ++ (frW ac (a 8) tp ++ (reW ac (a 9) re ++ (shW ac (a 40) k0 ++ (shW ac (a 41) k1 ++ (shW ac (a 10) ti))))))))))))) ++ ringW ac a rg) (wsc' := (koW ac a ko ++ (txW ac (a 1) tx ++ (shW ac (a 2) now ++ (shW ac (a 3) tr ++ (teW ac (a 4) (a 1) (a 10) te ++ (paW ac a u4.1 ++ (fcW ac (a 6) w1 w2 fc ++ (frW ac (a 7) to ++ (frW ac (a 8) tp ++ (reW ac (a 9) u4.2.1 ++ (shW ac (a 40) k0 ++ (shW ac (a 41) k1 ++ (shW ac (a 10) ti))))))))))))) ++ ringW ac a u4.2.2) hx hb hml hown htw (ctX7_remember l D ac cs a w1 w2 s.heap.size ko tx now tr te pa fc to tp re k0 k1 ti rg    F u4 hu4) (g_V mM_RX7_130 mI_yX7_remember mS_RX7_yX7_remember_yX7_remember mN_RX7 mC_yX7_remember) rfl (hd_yX7_remember) ⟨rfl, rfl⟩ ⟨(Nat.le_of_ble_eq_true rfl), (Nat.le_of_ble_eq_true rfl)⟩ hKX hC hS hA (zP_nil hP) (zD_nil hD) (List.range _) [] (zrange _) (zndr _) rfl rfl (fun _ h => by cases h) 7 rfl rfl rfl hl.1 rfl (Nat.le_of_ble_eq_true rfl) ⟨Nat.zero_le _, Nat.zero_le _⟩ dX7_order_36 (fun H locs hP hD hS => ?_)
        have hP : va_P D vwCl ((koW ac a ko ++ (txW ac (a 1) tx ++ (shW ac (a 2) now ++ (shW ac (a 3) tr ++ (teW ac (a 4) (a 1) (a 10) te ++ (paW ac a u4.1 ++ (fcW ac (a 6) w1 w2 fc ++ (frW ac (a 7) to ++ (frW ac (a 8) tp ++ (reW ac (a 9) u4.2.1 ++ (shW ac (a 40) k0 ++ (shW ac (a 41) k1 ++ (shW ac (a 10) ti))))))))))))) ++ ringW ac a u4.2.2) H := zP_un hP
        have hD : va_D A ((koW ac a ko ++ (txW ac (a 1) tx ++ (shW ac (a 2) now ++ (shW ac (a 3) tr ++ (teW ac (a 4) (a 1) (a 10) te ++ (paW ac a u4.1 ++ (fcW ac (a 6) w1 w2 fc ++ (frW ac (a 7) to ++ (frW ac (a 8) tp ++ (reW ac (a 9) u4.2.1 ++ (shW ac (a 40) k0 ++ (shW ac (a 41) k1 ++ (shW ac (a 10) ti))))))))))))) ++ ringW ac a u4.2.2) := zD_un hD
        refine lv_aload_n hx hb dX7_order_39 rfl (lv_at hl 0 rfl) ?_
        refine va_get (D := D) (ci := 7) (v := .ref (a 2 0)) (C := RX7) (T := TX7) (N := 13) hx hb htw WW_wsX70 hown hKX.1 hP 0 rfl rfl 2 (Nat.le_of_ble_eq_true rfl) (htw _ mF_RX7_26) (fun _ h9 => h9) rfl dX7_order_40 ?_
        refine va_getN (D := D) (ci := 4) (v := .int (sh_order now)) (C := RX4) (T := TX4) (N := 10) hx hb htw WW_wsX40 hown hKX.1 hP 6 rfl rfl 1 (Nat.le_of_ble_eq_true rfl) (va_Nw.use rfl (hKX.2 _ (List.mem_of_getElem? (i := 5) rfl))) (fun _ h9 => h9) rfl dX7_order_43 ?_
        refine lv_topi (fun x5 hx5 => ?_)
        have hf := z_let_u hx5 hf
        refine lv_istore_n (lv' := [(2, .int x5), (0, .ref (a 0 0)), (1, .int a1)]) hx hb dX7_order_46 rfl hl (Nat.le_of_ble_eq_true rfl) rfl (fun ls hl => ?_)
        refine lv_aload_n hx hb dX7_order_47 rfl (lv_at hl 1 rfl) ?_
        refine va_get (D := D) (ci := 7) (v := .ref (a 2 0)) (C := RX7) (T := TX7) (N := 13) hx hb htw WW_wsX70 hown hKX.1 hP 0 rfl rfl 2 (Nat.le_of_ble_eq_true rfl) (htw _ mF_RX7_26) (fun _ h9 => h9) rfl dX7_order_48 ?_
        refine lv_iload_n hx hb dX7_order_51 rfl (lv_at hl 2 rfl) ?_
        refine va_putN (D := D) (ci := 4) (v := .int a1) (ty := tyX4 1) (C := RX4) (T := TX4) (N := 10) hx hb htw WW_wsX40 tyX4 tyX4_ok nmX4 hown hKX.1 hP hD hS 6 rfl rfl 1 (Nat.le_of_ble_eq_true rfl) (va_Nw.use rfl (hKX.2 _ (List.mem_of_getElem? (i := 5) rfl))) (fun _ h9 => h9) rfl (tyX4_ok 1 (Nat.le_of_ble_eq_true rfl)) rfl rfl (Nat.le_of_ble_eq_true rfl) dX7_order_52 (fun H locs hP hD hS => ?_)
        have hP : va_P D vwCl ((koW ac a ko ++ (txW ac (a 1) tx ++ (shW ac (a 2) ((sh_shooters now), a1, (sh_first now), (sh_kicks now), (sh_goalBits now), (sh_sideBits now), (sh_goalsOfA now), (sh_goalsOfB now), (sh_nerves now), (sh_skills now)) ++ (shW ac (a 3) tr ++ (teW ac (a 4) (a 1) (a 10) te ++ (paW ac a u4.1 ++ (fcW ac (a 6) w1 w2 fc ++ (frW ac (a 7) to ++ (frW ac (a 8) tp ++ (reW ac (a 9) u4.2.1 ++ (shW ac (a 40) k0 ++ (shW ac (a 41) k1 ++ (shW ac (a 10) ti))))))))))))) ++ ringW ac a u4.2.2) H := hP
        have hD : va_D A ((koW ac a ko ++ (txW ac (a 1) tx ++ (shW ac (a 2) ((sh_shooters now), a1, (sh_first now), (sh_kicks now), (sh_goalBits now), (sh_sideBits now), (sh_goalsOfA now), (sh_goalsOfB now), (sh_nerves now), (sh_skills now)) ++ (shW ac (a 3) tr ++ (teW ac (a 4) (a 1) (a 10) te ++ (paW ac a u4.1 ++ (fcW ac (a 6) w1 w2 fc ++ (frW ac (a 7) to ++ (frW ac (a 8) tp ++ (reW ac (a 9) u4.2.1 ++ (shW ac (a 40) k0 ++ (shW ac (a 41) k1 ++ (shW ac (a 10) ti))))))))))))) ++ ringW ac a u4.2.2) := hD
        refine lv_iload_n hx hb dX7_order_55 rfl (lv_at hl 0 rfl) ?_
        obtain rfl := Option.some.inj hf
        exact zr_Mi hx hb hr hlocks hP hD hS dX7_order_56
      · have hf := z_n c3 hf
        refine lv_bipush (v := (-3)) hx hb dX7_order_32 rfl ?_
        obtain rfl := Option.some.inj hf
        exact zr_Mi hx hb hr hlocks hP hD hS dX7_order_34
    · have hf := z_p c2 hf
      refine lv_bipush (v := (-2)) hx hb dX7_order_19 rfl ?_
      obtain rfl := Option.some.inj hf
      exact zr_Mi hx hb hr hlocks hP hD hS dX7_order_21
  · have hf := z_p c1 hf
    refine lv_iconst (v := (-1)) hx hb dX7_order_7 rfl ?_
    obtain rfl := Option.some.inj hf
    exact zr_Mi hx hb hr hlocks hP hD hS dX7_order_8

theorem hd_yX7_first : hdY yX7_first 1 := by decide +kernel
def K_first (F : Nat) (now : Sh) (pa : Pa) (re : Re) (rg : Nat → Sh) (a1 : Int32) : Option (Int32 × Sh × Pa × Re × (Nat → Sh)) := if K_isSideTold now a1 = 0 then (some ((-2), now, pa, re, rg)) else (if (sh_kicks now) ≤ 0 then (z_bd (K_remember F now pa re rg) (fun u3 : Pa × Re × (Nat → Sh) => z_let (sh_first now) (fun x4 : Int32 => some (x4, ((sh_shooters now), (sh_order now), a1, (sh_kicks now), (sh_goalBits now), (sh_sideBits now), (sh_goalsOfA now), (sh_goalsOfB now), (sh_nerves now), (sh_skills now)), u3.1, u3.2.1, u3.2.2)))) else (some ((-3), now, pa, re, rg)))
set_option maxHeartbeats 4000000 in
set_option maxRecDepth 100000 in
theorem ctX7_first (l : Launch) (D : va_G) (ac cs : Nat → Nat) (a : Nat → Nat → Nat) (w1 w2 : Nat) (sz : Nat) (ko : Ko) (tx : Tx) (now : Sh) (tr : Sh) (te : Te) (pa : Pa) (fc : Fc) (to : Fr) (tp : Fr) (re : Re) (k0 : Sh) (k1 : Sh) (ti : Sh) (rg : Nat → Sh) (a1 : Int32) (F : Nat) (res : Int32 × Sh × Pa × Re × (Nat → Sh)) (hf : K_first F now pa re rg a1 = some res) : Met l yX7_first (cWW yX7_first cX7_first 3 (some .int)) { frames := 3, cells := 0, slots := 0, locals := 63 } (zM D ac cs [.ref (a 0 0), .int a1] ((koW ac a ko ++ (txW ac (a 1) tx ++ (shW ac (a 2) now ++ (shW ac (a 3) tr ++ (teW ac (a 4) (a 1) (a 10) te ++ (paW ac a pa ++ (fcW ac (a 6) w1 w2 fc ++ (frW ac (a 7) to ++ (frW ac (a 8) tp ++ (reW ac (a 9) re ++ (shW ac (a 40) k0 ++ (shW ac (a 41) k1 ++ (shW ac (a 10) ti))))))))))))) ++ ringW ac a rg) sz) (va_Qi (fun r (_ : Unit) => r = res.1) (fun _ => zB D (va_A ((koW ac a ko ++ (txW ac (a 1) tx ++ (shW ac (a 2) now ++ (shW ac (a 3) tr ++ (teW ac (a 4) (a 1) (a 10) te ++ (paW ac a pa ++ (fcW ac (a 6) w1 w2 fc ++ (frW ac (a 7) to ++ (frW ac (a 8) tp ++ (reW ac (a 9) re ++ (shW ac (a 40) k0 ++ (shW ac (a 41) k1 ++ (shW ac (a 10) ti))))))))))))) ++ ringW ac a rg) sz) ((koW ac a ko ++ (txW ac (a 1) tx ++ (shW ac (a 2) res.2.1 ++ (shW ac (a 3) tr ++ (teW ac (a 4) (a 1) (a 10) te ++ (paW ac a res.2.2.1 ++ (fcW ac (a 6) w1 w2 fc ++ (frW ac (a 7) to ++ (frW ac (a 8) tp ++ (reW ac (a 9) res.2.2.2.1 ++ (shW ac (a 40) k0 ++ (shW ac (a 41) k1 ++ (shW ac (a 10) ti))))))))))))) ++ ringW ac a res.2.2.2.2)) (va_A ((koW ac a ko ++ (txW ac (a 1) tx ++ (shW ac (a 2) now ++ (shW ac (a 3) tr ++ (teW ac (a 4) (a 1) (a 10) te ++ (paW ac a pa ++ (fcW ac (a 6) w1 w2 fc ++ (frW ac (a 7) to ++ (frW ac (a 8) tp ++ (reW ac (a 9) re ++ (shW ac (a 40) k0 ++ (shW ac (a 41) k1 ++ (shW ac (a 10) ti))))))))))))) ++ ringW ac a rg) sz)) 0 0 (va_A ((koW ac a ko ++ (txW ac (a 1) tx ++ (shW ac (a 2) now ++ (shW ac (a 3) tr ++ (teW ac (a 4) (a 1) (a 10) te ++ (paW ac a pa ++ (fcW ac (a 6) w1 w2 fc ++ (frW ac (a 7) to ++ (frW ac (a 8) tp ++ (reW ac (a 9) re ++ (shW ac (a 40) k0 ++ (shW ac (a 41) k1 ++ (shW ac (a 10) ti))))))))))))) ++ ringW ac a rg) sz) := by
  refine Met.ofW (cc := cX7_first) (maxL := 3) (ret := (some .int)) (by decide) rfl ?_
  intro p e s m args below meth c s₁ B hml hv
  obtain ⟨rfl, hsz, hP, hKX, hD0, hC⟩ := hv
  have hx := B.exec
  have hb := B.bytes
  have hr := B.returns
  have hts := atoms_spec (ws := cWW yX7_first cX7_first 3 (some .int)) B.pre
  have htw : ∀ w ∈ WW, w.before _ s = true := fun w h => hts w (List.mem_cons_of_mem _ h)
  have hown : s.vm.findClass RX7 = some m.cls := findClass_of_methodNamed B.named
  have hlocks := B.notSynchronized
  clear hts B
  subst hsz
  have hD := hD0.self (sz := s.heap.size)
  generalize hAe : va_A ((koW ac a ko ++ (txW ac (a 1) tx ++ (shW ac (a 2) now ++ (shW ac (a 3) tr ++ (teW ac (a 4) (a 1) (a 10) te ++ (paW ac a pa ++ (fcW ac (a 6) w1 w2 fc ++ (frW ac (a 7) to ++ (frW ac (a 8) tp ++ (reW ac (a 9) re ++ (shW ac (a 40) k0 ++ (shW ac (a 41) k1 ++ (shW ac (a 10) ti))))))))))))) ++ ringW ac a rg) s.heap.size = A at hD hC ⊢
  have hA : ∀ q : Nat, s.heap.size ≤ q → A q := fun q h => by rw [← hAe]; exact Or.inr h
  have hS : va_S A s.heap s.heap [] := va_S.rf
  clear hD0 hAe
  have hP : va_P D vwCl ((koW ac a ko ++ (txW ac (a 1) tx ++ (shW ac (a 2) now ++ (shW ac (a 3) tr ++ (teW ac (a 4) (a 1) (a 10) te ++ (paW ac a pa ++ (fcW ac (a 6) w1 w2 fc ++ (frW ac (a 7) to ++ (frW ac (a 8) tp ++ (reW ac (a 9) re ++ (shW ac (a 40) k0 ++ (shW ac (a 41) k1 ++ (shW ac (a 10) ti))))))))))))) ++ ringW ac a rg) s.heap := hP
  have hl := lv_entry ([.ref (a 0 0), .int a1]) (n := 3) (Nat.le_of_ble_eq_true rfl)
  rw [lg_entry_eq]
  generalize (lg_sl ([.ref (a 0 0), .int a1]) ++ List.replicate (3 - (lg_sl ([.ref (a 0 0), .int a1])).length) Slot.unset).toArray = ls at hl ⊢
  have hl : lv_has ls 3 [(0, .ref (a 0 0)), (1, .int a1)] := hl
  unfold K_first at hf
  show W p l e ({ frames := 3, cells := 0, slots := 0, locals := 63 } : Room) s m _ below meth c s.heap [] 0 0 _ (F0 m 0 ls [])
  refine lv_aload_n hx hb dX7_first_0 rfl (lv_at hl 0 rfl) ?_
  refine lv_iload_n hx hb dX7_first_1 rfl (lv_at hl 1 rfl) ?_
  refine zc_RVi (As := [.int a1]) (rest := []) hx hb hml hown htw (ctX7_isSideTold l D ac cs a w1 w2 ko tx now tr te pa fc to tp re k0 k1 ti rg a1   _ rfl) (g_V mM_RX7_107 mI_yX7_isSideTold mS_RX7_yX7_isSideTold_yX7_isSideTold mN_RX7 mC_yX7_isSideTold) rfl (hd_yX7_isSideTold) ⟨rfl, rfl⟩ ⟨(Nat.le_of_ble_eq_true rfl), (Nat.le_of_ble_eq_true rfl)⟩ hKX hC hS hP 7 rfl rfl rfl hl.1 rfl (Nat.le_of_ble_eq_true rfl) ⟨Nat.zero_le _, Nat.zero_le _⟩ dX7_first_2 ?_
  refine lv_if_ne (tgt := 11) hx hb dX7_first_5 (by decide) (fun c1 => ?_) (fun c1 => ?_)
  · have hf := z_n c1 hf
    refine lv_aload_n hx hb dX7_first_11 rfl (lv_at hl 0 rfl) ?_
    refine va_get (D := D) (ci := 7) (v := .ref (a 2 0)) (C := RX7) (T := TX7) (N := 13) hx hb htw WW_wsX70 hown hKX.1 hP 0 rfl rfl 2 (Nat.le_of_ble_eq_true rfl) (htw _ mF_RX7_26) (fun _ h9 => h9) rfl dX7_first_12 ?_
    refine va_getN (D := D) (ci := 4) (v := .int (sh_kicks now)) (C := RX4) (T := TX4) (N := 10) hx hb htw WW_wsX40 hown hKX.1 hP 6 rfl rfl 3 (Nat.le_of_ble_eq_true rfl) (va_Nw.use rfl (hKX.2 _ (List.mem_of_getElem? (i := 11) rfl))) (fun _ h9 => h9) rfl dX7_first_15 ?_
    refine lv_if_le (tgt := 24) hx hb dX7_first_18 (by decide) (fun c2 => ?_) (fun c2 => ?_)
    · have hf := z_p c2 hf
      refine lv_aload_n hx hb dX7_first_24 rfl (lv_at hl 0 rfl) ?_
      obtain ⟨u3, hu3, hf⟩ := z_bd_u hf
      refine zc_MVvT (E := (koW ac a ko ++ (txW ac (a 1) tx ++ (shW ac (a 2) now ++ (shW ac (a 3) tr ++ (teW ac (a 4) (a 1) (a 10) te ++ (paW ac a pa ++ (fcW ac (a 6) w1 w2 fc ++ (frW ac (a 7) to ++ (frW ac (a 8) tp ++ (reW ac (a 9) re ++ (shW ac (a 40) k0 ++ (shW ac (a 41) k1 ++ (shW ac (a 10) ti))))))))))))) ++ ringW ac a rg) (TT := []) (As := []) (rest := []) (wr := []) (wsc := (koW ac a ko ++ (txW ac (a 1) tx ++ (shW ac (a 2) now ++ (shW ac (a 3) tr ++ (teW ac (a 4) (a 1) (a 10) te ++ (paW ac a pa ++ (fcW ac (a 6) w1 w2 fc ++ (frW ac (a 7) to ++ (frW ac (a 8) tp ++ (reW ac (a 9) re ++ (shW ac (a 40) k0 ++ (shW ac (a 41) k1 ++ (shW ac (a 10) ti))))))))))))) ++ ringW ac a rg) (wsc' := (koW ac a ko ++ (txW ac (a 1) tx ++ (shW ac (a 2) now ++ (shW ac (a 3) tr ++ (teW ac (a 4) (a 1) (a 10) te ++ (paW ac a u3.1 ++ (fcW ac (a 6) w1 w2 fc ++ (frW ac (a 7) to ++ (frW ac (a 8) tp ++ (reW ac (a 9) u3.2.1 ++ (shW ac (a 40) k0 ++ (shW ac (a 41) k1 ++ (shW ac (a 10) ti))))))))))))) ++ ringW ac a u3.2.2) hx hb hml hown htw (ctX7_remember l D ac cs a w1 w2 s.heap.size ko tx now tr te pa fc to tp re k0 k1 ti rg    F u3 hu3) (g_V mM_RX7_130 mI_yX7_remember mS_RX7_yX7_remember_yX7_remember mN_RX7 mC_yX7_remember) rfl (hd_yX7_remember) ⟨rfl, rfl⟩ ⟨(Nat.le_of_ble_eq_true rfl), (Nat.le_of_ble_eq_true rfl)⟩ hKX hC hS hA (zP_nil hP) (zD_nil hD) (List.range _) [] (zrange _) (zndr _) rfl rfl (fun _ h => by cases h) 7 rfl rfl rfl hl.1 rfl (Nat.le_of_ble_eq_true rfl) ⟨Nat.zero_le _, Nat.zero_le _⟩ dX7_first_25 (fun H locs hP hD hS => ?_)
      have hP : va_P D vwCl ((koW ac a ko ++ (txW ac (a 1) tx ++ (shW ac (a 2) now ++ (shW ac (a 3) tr ++ (teW ac (a 4) (a 1) (a 10) te ++ (paW ac a u3.1 ++ (fcW ac (a 6) w1 w2 fc ++ (frW ac (a 7) to ++ (frW ac (a 8) tp ++ (reW ac (a 9) u3.2.1 ++ (shW ac (a 40) k0 ++ (shW ac (a 41) k1 ++ (shW ac (a 10) ti))))))))))))) ++ ringW ac a u3.2.2) H := zP_un hP
      have hD : va_D A ((koW ac a ko ++ (txW ac (a 1) tx ++ (shW ac (a 2) now ++ (shW ac (a 3) tr ++ (teW ac (a 4) (a 1) (a 10) te ++ (paW ac a u3.1 ++ (fcW ac (a 6) w1 w2 fc ++ (frW ac (a 7) to ++ (frW ac (a 8) tp ++ (reW ac (a 9) u3.2.1 ++ (shW ac (a 40) k0 ++ (shW ac (a 41) k1 ++ (shW ac (a 10) ti))))))))))))) ++ ringW ac a u3.2.2) := zD_un hD
      refine lv_aload_n hx hb dX7_first_28 rfl (lv_at hl 0 rfl) ?_
      refine va_get (D := D) (ci := 7) (v := .ref (a 2 0)) (C := RX7) (T := TX7) (N := 13) hx hb htw WW_wsX70 hown hKX.1 hP 0 rfl rfl 2 (Nat.le_of_ble_eq_true rfl) (htw _ mF_RX7_26) (fun _ h9 => h9) rfl dX7_first_29 ?_
      refine va_getN (D := D) (ci := 4) (v := .int (sh_first now)) (C := RX4) (T := TX4) (N := 10) hx hb htw WW_wsX40 hown hKX.1 hP 6 rfl rfl 2 (Nat.le_of_ble_eq_true rfl) (va_Nw.use rfl (hKX.2 _ (List.mem_of_getElem? (i := 8) rfl))) (fun _ h9 => h9) rfl dX7_first_32 ?_
      refine lv_topi (fun x4 hx4 => ?_)
      have hf := z_let_u hx4 hf
      refine lv_istore_n (lv' := [(2, .int x4), (0, .ref (a 0 0)), (1, .int a1)]) hx hb dX7_first_35 rfl hl (Nat.le_of_ble_eq_true rfl) rfl (fun ls hl => ?_)
      refine lv_aload_n hx hb dX7_first_36 rfl (lv_at hl 1 rfl) ?_
      refine va_get (D := D) (ci := 7) (v := .ref (a 2 0)) (C := RX7) (T := TX7) (N := 13) hx hb htw WW_wsX70 hown hKX.1 hP 0 rfl rfl 2 (Nat.le_of_ble_eq_true rfl) (htw _ mF_RX7_26) (fun _ h9 => h9) rfl dX7_first_37 ?_
      refine lv_iload_n hx hb dX7_first_40 rfl (lv_at hl 2 rfl) ?_
      refine va_putN (D := D) (ci := 4) (v := .int a1) (ty := tyX4 2) (C := RX4) (T := TX4) (N := 10) hx hb htw WW_wsX40 tyX4 tyX4_ok nmX4 hown hKX.1 hP hD hS 6 rfl rfl 2 (Nat.le_of_ble_eq_true rfl) (va_Nw.use rfl (hKX.2 _ (List.mem_of_getElem? (i := 8) rfl))) (fun _ h9 => h9) rfl (tyX4_ok 2 (Nat.le_of_ble_eq_true rfl)) rfl rfl (Nat.le_of_ble_eq_true rfl) dX7_first_41 (fun H locs hP hD hS => ?_)
      have hP : va_P D vwCl ((koW ac a ko ++ (txW ac (a 1) tx ++ (shW ac (a 2) ((sh_shooters now), (sh_order now), a1, (sh_kicks now), (sh_goalBits now), (sh_sideBits now), (sh_goalsOfA now), (sh_goalsOfB now), (sh_nerves now), (sh_skills now)) ++ (shW ac (a 3) tr ++ (teW ac (a 4) (a 1) (a 10) te ++ (paW ac a u3.1 ++ (fcW ac (a 6) w1 w2 fc ++ (frW ac (a 7) to ++ (frW ac (a 8) tp ++ (reW ac (a 9) u3.2.1 ++ (shW ac (a 40) k0 ++ (shW ac (a 41) k1 ++ (shW ac (a 10) ti))))))))))))) ++ ringW ac a u3.2.2) H := hP
      have hD : va_D A ((koW ac a ko ++ (txW ac (a 1) tx ++ (shW ac (a 2) ((sh_shooters now), (sh_order now), a1, (sh_kicks now), (sh_goalBits now), (sh_sideBits now), (sh_goalsOfA now), (sh_goalsOfB now), (sh_nerves now), (sh_skills now)) ++ (shW ac (a 3) tr ++ (teW ac (a 4) (a 1) (a 10) te ++ (paW ac a u3.1 ++ (fcW ac (a 6) w1 w2 fc ++ (frW ac (a 7) to ++ (frW ac (a 8) tp ++ (reW ac (a 9) u3.2.1 ++ (shW ac (a 40) k0 ++ (shW ac (a 41) k1 ++ (shW ac (a 10) ti))))))))))))) ++ ringW ac a u3.2.2) := hD
      refine lv_iload_n hx hb dX7_first_44 rfl (lv_at hl 0 rfl) ?_
      obtain rfl := Option.some.inj hf
      exact zr_Mi hx hb hr hlocks hP hD hS dX7_first_45
    · have hf := z_n c2 hf
      refine lv_bipush (v := (-3)) hx hb dX7_first_21 rfl ?_
      obtain rfl := Option.some.inj hf
      exact zr_Mi hx hb hr hlocks hP hD hS dX7_first_23
  · have hf := z_p c1 hf
    refine lv_bipush (v := (-2)) hx hb dX7_first_8 rfl ?_
    obtain rfl := Option.some.inj hf
    exact zr_Mi hx hb hr hlocks hP hD hS dX7_first_10

theorem hd_yX7_turn : hdY yX7_turn 1 := by decide +kernel
def K_turn (now : Sh) (a1 : Int32) : Int32 := if (sh_shooters now) = 0 then (-1) else (if a1 < 0 then (-1) else (if a1 ≤ 3 then (if Sh_isOver now = 0 then (if a1 = 0 then (Sh_kicker now) else (if a1 = 1 then (Sh_round now) else (if a1 = 2 then (Sh_shooter now) else (Sh_chance now)))) else (-2)) else (-1)))
set_option maxHeartbeats 4000000 in
set_option maxRecDepth 100000 in
theorem ctX7_turn (l : Launch) (D : va_G) (ac cs : Nat → Nat) (a : Nat → Nat → Nat) (w1 w2 : Nat) (ko : Ko) (tx : Tx) (now : Sh) (tr : Sh) (te : Te) (pa : Pa) (fc : Fc) (to : Fr) (tp : Fr) (re : Re) (k0 : Sh) (k1 : Sh) (ti : Sh) (rg : Nat → Sh) (a1 : Int32) (res : Int32) (hf : K_turn now a1 = res) : Met l yX7_turn (cWW yX7_turn cX7_turn 2 (some .int)) { frames := 5, cells := 0, slots := 0, locals := 104 } (zR D ac cs [.ref (a 0 0), .int a1] ((koW ac a ko ++ (txW ac (a 1) tx ++ (shW ac (a 2) now ++ (shW ac (a 3) tr ++ (teW ac (a 4) (a 1) (a 10) te ++ (paW ac a pa ++ (fcW ac (a 6) w1 w2 fc ++ (frW ac (a 7) to ++ (frW ac (a 8) tp ++ (reW ac (a 9) re ++ (shW ac (a 40) k0 ++ (shW ac (a 41) k1 ++ (shW ac (a 10) ti))))))))))))) ++ ringW ac a rg)) (vp_Si (fun r => r = res)) 0 0 (fun _ => False) := by
  refine Met.ofW (cc := cX7_turn) (maxL := 2) (ret := (some .int)) (by decide) rfl ?_
  intro p e s m args below meth c s₁ B hml hv
  obtain ⟨rfl, hP, hKX, hC⟩ := hv
  have hx := B.exec
  have hb := B.bytes
  have hr := B.returns
  have hts := atoms_spec (ws := cWW yX7_turn cX7_turn 2 (some .int)) B.pre
  have htw : ∀ w ∈ WW, w.before _ s = true := fun w h => hts w (List.mem_cons_of_mem _ h)
  have hown : s.vm.findClass RX7 = some m.cls := findClass_of_methodNamed B.named
  have hlocks := B.notSynchronized
  clear hts B
  have hS : va_S (fun _ => False) s.heap s.heap [] := va_S.rf
  have hl := lv_entry ([.ref (a 0 0), .int a1]) (n := 2) (Nat.le_of_ble_eq_true rfl)
  rw [lg_entry_eq]
  generalize (lg_sl ([.ref (a 0 0), .int a1]) ++ List.replicate (2 - (lg_sl ([.ref (a 0 0), .int a1])).length) Slot.unset).toArray = ls at hl ⊢
  have hl : lv_has ls 2 [(0, .ref (a 0 0)), (1, .int a1)] := hl
  unfold K_turn at hf
  show W p l e ({ frames := 5, cells := 0, slots := 0, locals := 104 } : Room) s m _ below meth c s.heap [] 0 0 _ (F0 m 0 ls [])
  refine lv_aload_n hx hb dX7_turn_0 rfl (lv_at hl 0 rfl) ?_
  refine va_get (D := D) (ci := 7) (v := .ref (a 2 0)) (C := RX7) (T := TX7) (N := 13) hx hb htw WW_wsX70 hown hKX.1 hP 0 rfl rfl 2 (Nat.le_of_ble_eq_true rfl) (htw _ mF_RX7_26) (fun _ h9 => h9) rfl dX7_turn_1 ?_
  refine va_getN (D := D) (ci := 4) (v := .int (sh_shooters now)) (C := RX4) (T := TX4) (N := 10) hx hb htw WW_wsX40 hown hKX.1 hP 6 rfl rfl 0 (Nat.le_of_ble_eq_true rfl) (va_Nw.use rfl (hKX.2 _ (List.mem_of_getElem? (i := 3) rfl))) (fun _ h9 => h9) rfl dX7_turn_4 ?_
  refine lv_if_eq (tgt := 19) hx hb dX7_turn_7 (by decide) (fun c1 => ?_) (fun c1 => ?_)
  · have hf := z_p c1 hf
    refine lv_iconst (v := (-1)) hx hb dX7_turn_19 rfl ?_
    exact zr_Ri hx hb hr hlocks hf dX7_turn_20
  · have hf := z_n c1 hf
    refine lv_iload_n hx hb dX7_turn_10 rfl (lv_at hl 1 rfl) ?_
    refine lv_if_lt (tgt := 19) hx hb dX7_turn_11 (by decide) (fun c2 => ?_) (fun c2 => ?_)
    · have hf := z_p c2 hf
      refine lv_iconst (v := (-1)) hx hb dX7_turn_19 rfl ?_
      exact zr_Ri hx hb hr hlocks hf dX7_turn_20
    · have hf := z_n c2 hf
      refine lv_iload_n hx hb dX7_turn_14 rfl (lv_at hl 1 rfl) ?_
      refine lv_iconst (v := 3) hx hb dX7_turn_15 rfl ?_
      refine lv_icmp_le (tgt := 21) hx hb dX7_turn_16 (by decide) (fun c3 => ?_) (fun c3 => ?_)
      · have hf := z_p c3 hf
        refine lv_aload_n hx hb dX7_turn_21 rfl (lv_at hl 0 rfl) ?_
        refine va_get (D := D) (ci := 7) (v := .ref (a 2 0)) (C := RX7) (T := TX7) (N := 13) hx hb htw WW_wsX70 hown hKX.1 hP 0 rfl rfl 2 (Nat.le_of_ble_eq_true rfl) (htw _ mF_RX7_26) (fun _ h9 => h9) rfl dX7_turn_22 ?_
        refine zc_RVi (As := []) (rest := []) hx hb hml hown htw (ctX4_isOver l D ac cs (a 2) now    _ rfl) (g_V mM_RX7_168 mI_yX4_isOver mS_RX4_yX4_isOver_yX4_isOver mN_RX4 mC_yX4_isOver) rfl (hd_yX4_isOver) ⟨rfl, rfl⟩ ⟨(Nat.le_of_ble_eq_true rfl), (Nat.le_of_ble_eq_true rfl)⟩ hKX hC hS (hP.sub [6, 7, 8] rfl) 4 rfl rfl rfl hl.1 rfl (Nat.le_of_ble_eq_true rfl) ⟨Nat.zero_le _, Nat.zero_le _⟩ dX7_turn_25 ?_
        refine lv_if_eq (tgt := 34) hx hb dX7_turn_28 (by decide) (fun c4 => ?_) (fun c4 => ?_)
        · have hf := z_p c4 hf
          refine lv_iload_n hx hb dX7_turn_34 rfl (lv_at hl 1 rfl) ?_
          by_cases c5 : a1 = 0
          · have hf := z_p c5 hf
            refine lv_tableIn (tgt := 60) hx hb dX7_turn_35 (by rw [c5]; decide +kernel) (by rw [c5]; decide +kernel) (by rw [c5]; rfl) (by decide +kernel) ?_
            refine lv_aload_n hx hb dX7_turn_60 rfl (lv_at hl 0 rfl) ?_
            refine va_get (D := D) (ci := 7) (v := .ref (a 2 0)) (C := RX7) (T := TX7) (N := 13) hx hb htw WW_wsX70 hown hKX.1 hP 0 rfl rfl 2 (Nat.le_of_ble_eq_true rfl) (htw _ mF_RX7_26) (fun _ h9 => h9) rfl dX7_turn_61 ?_
            refine zc_RVi (As := []) (rest := []) hx hb hml hown htw (ctX4_kicker l D ac cs (a 2) now    _ rfl) (g_V mM_RX7_133 mI_yX4_kicker mS_RX4_yX4_kicker_yX4_kicker mN_RX4 mC_yX4_kicker) rfl (hd_yX4_kicker) ⟨rfl, rfl⟩ ⟨(Nat.le_of_ble_eq_true rfl), (Nat.le_of_ble_eq_true rfl)⟩ hKX hC hS (hP.sub [6, 7, 8] rfl) 4 rfl rfl rfl hl.1 rfl (Nat.le_of_ble_eq_true rfl) ⟨Nat.zero_le _, Nat.zero_le _⟩ dX7_turn_64 ?_
            exact zr_Ri hx hb hr hlocks hf dX7_turn_67
          have hf := z_n c5 hf
          by_cases c6 : a1 = 1
          · have hf := z_p c6 hf
            refine lv_tableIn (tgt := 68) hx hb dX7_turn_35 (by rw [c6]; decide +kernel) (by rw [c6]; decide +kernel) (by rw [c6]; rfl) (by decide +kernel) ?_
            refine lv_aload_n hx hb dX7_turn_68 rfl (lv_at hl 0 rfl) ?_
            refine va_get (D := D) (ci := 7) (v := .ref (a 2 0)) (C := RX7) (T := TX7) (N := 13) hx hb htw WW_wsX70 hown hKX.1 hP 0 rfl rfl 2 (Nat.le_of_ble_eq_true rfl) (htw _ mF_RX7_26) (fun _ h9 => h9) rfl dX7_turn_69 ?_
            refine zc_RVi (As := []) (rest := []) hx hb hml hown htw (ctX4_round l D ac cs (a 2) now    _ rfl) (g_V mM_RX7_171 mI_yX4_round mS_RX4_yX4_round_yX4_round mN_RX4 mC_yX4_round) rfl (hd_yX4_round) ⟨rfl, rfl⟩ ⟨(Nat.le_of_ble_eq_true rfl), (Nat.le_of_ble_eq_true rfl)⟩ hKX hC hS (hP.sub [6, 7, 8] rfl) 4 rfl rfl rfl hl.1 rfl (Nat.le_of_ble_eq_true rfl) ⟨Nat.zero_le _, Nat.zero_le _⟩ dX7_turn_72 ?_
            exact zr_Ri hx hb hr hlocks hf dX7_turn_75
          have hf := z_n c6 hf
          by_cases c7 : a1 = 2
          · have hf := z_p c7 hf
            refine lv_tableIn (tgt := 76) hx hb dX7_turn_35 (by rw [c7]; decide +kernel) (by rw [c7]; decide +kernel) (by rw [c7]; rfl) (by decide +kernel) ?_
            refine lv_aload_n hx hb dX7_turn_76 rfl (lv_at hl 0 rfl) ?_
            refine va_get (D := D) (ci := 7) (v := .ref (a 2 0)) (C := RX7) (T := TX7) (N := 13) hx hb htw WW_wsX70 hown hKX.1 hP 0 rfl rfl 2 (Nat.le_of_ble_eq_true rfl) (htw _ mF_RX7_26) (fun _ h9 => h9) rfl dX7_turn_77 ?_
            refine zc_RVi (As := []) (rest := []) hx hb hml hown htw (ctX4_shooter l D ac cs (a 2) now    _ rfl) (g_V mM_RX7_174 mI_yX4_shooter mS_RX4_yX4_shooter_yX4_shooter mN_RX4 mC_yX4_shooter) rfl (hd_yX4_shooter) ⟨rfl, rfl⟩ ⟨(Nat.le_of_ble_eq_true rfl), (Nat.le_of_ble_eq_true rfl)⟩ hKX hC hS (hP.sub [6, 7, 8] rfl) 4 rfl rfl rfl hl.1 rfl (Nat.le_of_ble_eq_true rfl) ⟨Nat.zero_le _, Nat.zero_le _⟩ dX7_turn_80 ?_
            exact zr_Ri hx hb hr hlocks hf dX7_turn_83
          have hf := z_n c7 hf
          refine lv_tableOut (tgt := 84) hx hb dX7_turn_35 (z_tout0_2 c5 c6 c7) (by decide +kernel) ?_
          refine lv_aload_n hx hb dX7_turn_84 rfl (lv_at hl 0 rfl) ?_
          refine va_get (D := D) (ci := 7) (v := .ref (a 2 0)) (C := RX7) (T := TX7) (N := 13) hx hb htw WW_wsX70 hown hKX.1 hP 0 rfl rfl 2 (Nat.le_of_ble_eq_true rfl) (htw _ mF_RX7_26) (fun _ h9 => h9) rfl dX7_turn_85 ?_
          refine zc_RVi (As := []) (rest := []) hx hb hml hown htw (ctX4_chance l D ac cs (a 2) now    _ rfl) (g_V mM_RX7_177 mI_yX4_chance mS_RX4_yX4_chance_yX4_chance mN_RX4 mC_yX4_chance) rfl (hd_yX4_chance) ⟨rfl, rfl⟩ ⟨(Nat.le_of_ble_eq_true rfl), (Nat.le_of_ble_eq_true rfl)⟩ hKX hC hS (hP.sub [6, 7, 8] rfl) 4 rfl rfl rfl hl.1 rfl (Nat.le_of_ble_eq_true rfl) ⟨Nat.zero_le _, Nat.zero_le _⟩ dX7_turn_88 ?_
          exact zr_Ri hx hb hr hlocks hf dX7_turn_91
        · have hf := z_n c4 hf
          refine lv_bipush (v := (-2)) hx hb dX7_turn_31 rfl ?_
          exact zr_Ri hx hb hr hlocks hf dX7_turn_33
      · have hf := z_n c3 hf
        refine lv_iconst (v := (-1)) hx hb dX7_turn_19 rfl ?_
        exact zr_Ri hx hb hr hlocks hf dX7_turn_20

theorem hd_yX7_undo : hdY yX7_undo 0 := by decide +kernel
def K_undo (F : Nat) (now : Sh) (pa : Pa) (re : Re) (rg : Nat → Sh) : Option (Int32 × Sh × Pa × Re) := if (sh_shooters now) = 0 then (some ((-2), now, pa, re)) else (z_bd (Pa_popInto F pa now rg) (fun u2 : Int32 × Pa × Sh => if u2.1 = 0 then (some ((-3), u2.2.2, u2.2.1, re)) else (some ((pa_size u2.2.1), u2.2.2, u2.2.1, ((re_winsOfA re), (re_winsOfB re), (re_wholes re), (re_bestOfA re), (re_bestOfB re), (re_rows re), 0, (re_pairs re), (re_rowOfA re), (re_rowOfB re))))))
set_option maxHeartbeats 4000000 in
set_option maxRecDepth 100000 in
theorem ctX7_undo (l : Launch) (D : va_G) (ac cs : Nat → Nat) (a : Nat → Nat → Nat) (w1 w2 : Nat) (sz : Nat) (ko : Ko) (tx : Tx) (now : Sh) (tr : Sh) (te : Te) (pa : Pa) (fc : Fc) (to : Fr) (tp : Fr) (re : Re) (k0 : Sh) (k1 : Sh) (ti : Sh) (rg : Nat → Sh) (F : Nat) (res : Int32 × Sh × Pa × Re) (hf : K_undo F now pa re rg = some res) : Met l yX7_undo (cWW yX7_undo cX7_undo 1 (some .int)) { frames := 2, cells := 0, slots := 0, locals := 43 } (zM D ac cs [.ref (a 0 0)] ((koW ac a ko ++ (txW ac (a 1) tx ++ (shW ac (a 2) now ++ (shW ac (a 3) tr ++ (teW ac (a 4) (a 1) (a 10) te ++ (paW ac a pa ++ (fcW ac (a 6) w1 w2 fc ++ (frW ac (a 7) to ++ (frW ac (a 8) tp ++ (reW ac (a 9) re ++ (shW ac (a 40) k0 ++ (shW ac (a 41) k1 ++ (shW ac (a 10) ti))))))))))))) ++ ringW ac a rg) sz) (va_Qi (fun r (_ : Unit) => r = res.1) (fun _ => zB D (va_A ((koW ac a ko ++ (txW ac (a 1) tx ++ (shW ac (a 2) now ++ (shW ac (a 3) tr ++ (teW ac (a 4) (a 1) (a 10) te ++ (paW ac a pa ++ (fcW ac (a 6) w1 w2 fc ++ (frW ac (a 7) to ++ (frW ac (a 8) tp ++ (reW ac (a 9) re ++ (shW ac (a 40) k0 ++ (shW ac (a 41) k1 ++ (shW ac (a 10) ti))))))))))))) ++ ringW ac a rg) sz) ((koW ac a ko ++ (txW ac (a 1) tx ++ (shW ac (a 2) res.2.1 ++ (shW ac (a 3) tr ++ (teW ac (a 4) (a 1) (a 10) te ++ (paW ac a res.2.2.1 ++ (fcW ac (a 6) w1 w2 fc ++ (frW ac (a 7) to ++ (frW ac (a 8) tp ++ (reW ac (a 9) res.2.2.2 ++ (shW ac (a 40) k0 ++ (shW ac (a 41) k1 ++ (shW ac (a 10) ti))))))))))))) ++ ringW ac a rg)) (va_A ((koW ac a ko ++ (txW ac (a 1) tx ++ (shW ac (a 2) now ++ (shW ac (a 3) tr ++ (teW ac (a 4) (a 1) (a 10) te ++ (paW ac a pa ++ (fcW ac (a 6) w1 w2 fc ++ (frW ac (a 7) to ++ (frW ac (a 8) tp ++ (reW ac (a 9) re ++ (shW ac (a 40) k0 ++ (shW ac (a 41) k1 ++ (shW ac (a 10) ti))))))))))))) ++ ringW ac a rg) sz)) 0 0 (va_A ((koW ac a ko ++ (txW ac (a 1) tx ++ (shW ac (a 2) now ++ (shW ac (a 3) tr ++ (teW ac (a 4) (a 1) (a 10) te ++ (paW ac a pa ++ (fcW ac (a 6) w1 w2 fc ++ (frW ac (a 7) to ++ (frW ac (a 8) tp ++ (reW ac (a 9) re ++ (shW ac (a 40) k0 ++ (shW ac (a 41) k1 ++ (shW ac (a 10) ti))))))))))))) ++ ringW ac a rg) sz) := by
  refine Met.ofW (cc := cX7_undo) (maxL := 1) (ret := (some .int)) (by decide) rfl ?_
  intro p e s m args below meth c s₁ B hml hv
  obtain ⟨rfl, hsz, hP, hKX, hD0, hC⟩ := hv
  have hx := B.exec
  have hb := B.bytes
  have hr := B.returns
  have hts := atoms_spec (ws := cWW yX7_undo cX7_undo 1 (some .int)) B.pre
  have htw : ∀ w ∈ WW, w.before _ s = true := fun w h => hts w (List.mem_cons_of_mem _ h)
  have hown : s.vm.findClass RX7 = some m.cls := findClass_of_methodNamed B.named
  have hlocks := B.notSynchronized
  clear hts B
  subst hsz
  have hD := hD0.self (sz := s.heap.size)
  generalize hAe : va_A ((koW ac a ko ++ (txW ac (a 1) tx ++ (shW ac (a 2) now ++ (shW ac (a 3) tr ++ (teW ac (a 4) (a 1) (a 10) te ++ (paW ac a pa ++ (fcW ac (a 6) w1 w2 fc ++ (frW ac (a 7) to ++ (frW ac (a 8) tp ++ (reW ac (a 9) re ++ (shW ac (a 40) k0 ++ (shW ac (a 41) k1 ++ (shW ac (a 10) ti))))))))))))) ++ ringW ac a rg) s.heap.size = A at hD hC ⊢
  have hA : ∀ q : Nat, s.heap.size ≤ q → A q := fun q h => by rw [← hAe]; exact Or.inr h
  have hS : va_S A s.heap s.heap [] := va_S.rf
  clear hD0 hAe
  have hP : va_P D vwCl ((koW ac a ko ++ (txW ac (a 1) tx ++ (shW ac (a 2) now ++ (shW ac (a 3) tr ++ (teW ac (a 4) (a 1) (a 10) te ++ (paW ac a pa ++ (fcW ac (a 6) w1 w2 fc ++ (frW ac (a 7) to ++ (frW ac (a 8) tp ++ (reW ac (a 9) re ++ (shW ac (a 40) k0 ++ (shW ac (a 41) k1 ++ (shW ac (a 10) ti))))))))))))) ++ ringW ac a rg) s.heap := hP
  have hl := lv_entry ([.ref (a 0 0)]) (n := 1) (Nat.le_of_ble_eq_true rfl)
  rw [lg_entry_eq]
  generalize (lg_sl ([.ref (a 0 0)]) ++ List.replicate (1 - (lg_sl ([.ref (a 0 0)])).length) Slot.unset).toArray = ls at hl ⊢
  have hl : lv_has ls 1 [(0, .ref (a 0 0))] := hl
  unfold K_undo at hf
  show W p l e ({ frames := 2, cells := 0, slots := 0, locals := 43 } : Room) s m _ below meth c s.heap [] 0 0 _ (F0 m 0 ls [])
  refine lv_aload_n hx hb dX7_undo_0 rfl (lv_at hl 0 rfl) ?_
  refine va_get (D := D) (ci := 7) (v := .ref (a 2 0)) (C := RX7) (T := TX7) (N := 13) hx hb htw WW_wsX70 hown hKX.1 hP 0 rfl rfl 2 (Nat.le_of_ble_eq_true rfl) (htw _ mF_RX7_26) (fun _ h9 => h9) rfl dX7_undo_1 ?_
  refine va_getN (D := D) (ci := 4) (v := .int (sh_shooters now)) (C := RX4) (T := TX4) (N := 10) hx hb htw WW_wsX40 hown hKX.1 hP 6 rfl rfl 0 (Nat.le_of_ble_eq_true rfl) (va_Nw.use rfl (hKX.2 _ (List.mem_of_getElem? (i := 3) rfl))) (fun _ h9 => h9) rfl dX7_undo_4 ?_
  refine lv_if_ne (tgt := 13) hx hb dX7_undo_7 (by decide) (fun c1 => ?_) (fun c1 => ?_)
  · have hf := z_n c1 hf
    refine lv_aload_n hx hb dX7_undo_13 rfl (lv_at hl 0 rfl) ?_
    refine va_get (D := D) (ci := 7) (v := .ref (a 5 0)) (C := RX7) (T := TX7) (N := 13) hx hb htw WW_wsX70 hown hKX.1 hP 0 rfl rfl 4 (Nat.le_of_ble_eq_true rfl) (htw _ mF_RX7_36) (fun _ h9 => h9) rfl dX7_undo_14 ?_
    refine lv_aload_n hx hb dX7_undo_17 rfl (lv_at hl 0 rfl) ?_
    refine va_get (D := D) (ci := 7) (v := .ref (a 2 0)) (C := RX7) (T := TX7) (N := 13) hx hb htw WW_wsX70 hown hKX.1 hP 0 rfl rfl 2 (Nat.le_of_ble_eq_true rfl) (htw _ mF_RX7_26) (fun _ h9 => h9) rfl dX7_undo_18 ?_
    obtain ⟨u2, hu2, hf⟩ := z_bd_u hf
    refine zc_MViT (E := (paW ac a pa ++ (shW ac (a 2) now)) ++ ringW ac a rg) (TT := koW ac a ko ++ (txW ac (a 1) tx ++ (shW ac (a 3) tr ++ (teW ac (a 4) (a 1) (a 10) te ++ (fcW ac (a 6) w1 w2 fc ++ (frW ac (a 7) to ++ (frW ac (a 8) tp ++ (reW ac (a 9) re ++ (shW ac (a 40) k0 ++ (shW ac (a 41) k1 ++ (shW ac (a 10) ti))))))))))) (As := [.ref (a 2 0)]) (rest := []) (wr := []) (wsc := (paW ac a pa ++ (shW ac (a 2) now)) ++ ringW ac a rg) (wsc' := (paW ac a u2.2.1 ++ (shW ac (a 2) u2.2.2)) ++ ringW ac a rg) hx hb hml hown htw (ctX2_popInto l D ac cs a (a 2) s.heap.size pa now rg    F u2 hu2) (g_V mM_RX7_304 mI_yX2_popInto mS_RX2_yX2_popInto_yX2_popInto mN_RX2 mC_yX2_popInto) rfl (hd_yX2_popInto) ⟨rfl, rfl⟩ ⟨(Nat.le_of_ble_eq_true rfl), (Nat.le_of_ble_eq_true rfl)⟩ hKX hC hS hA (zP_perm (zpermT (C := paW ac a pa ++ (shW ac (a 2) now)) (Rr := koW ac a ko ++ (txW ac (a 1) tx ++ (shW ac (a 3) tr ++ (teW ac (a 4) (a 1) (a 10) te ++ (fcW ac (a 6) w1 w2 fc ++ (frW ac (a 7) to ++ (frW ac (a 8) tp ++ (reW ac (a 9) re ++ (shW ac (a 40) k0 ++ (shW ac (a 41) k1 ++ (shW ac (a 10) ti))))))))))) [14, 15, 6, 7, 8, 0, 1, 2, 3, 4, 5, 9, 10, 11, 12, 13, 16, 17, 18, 19, 20, 21, 22, 23, 24, 25, 26, 27, 28, 29, 30, 31, 32, 33, 34, 35, 36, 37] rfl (n := 38) rfl (by decide +kernel)) hP) (zD_perm (zpermT (C := paW ac a pa ++ (shW ac (a 2) now)) (Rr := koW ac a ko ++ (txW ac (a 1) tx ++ (shW ac (a 3) tr ++ (teW ac (a 4) (a 1) (a 10) te ++ (fcW ac (a 6) w1 w2 fc ++ (frW ac (a 7) to ++ (frW ac (a 8) tp ++ (reW ac (a 9) re ++ (shW ac (a 40) k0 ++ (shW ac (a 41) k1 ++ (shW ac (a 10) ti))))))))))) [14, 15, 6, 7, 8, 0, 1, 2, 3, 4, 5, 9, 10, 11, 12, 13, 16, 17, 18, 19, 20, 21, 22, 23, 24, 25, 26, 27, 28, 29, 30, 31, 32, 33, 34, 35, 36, 37] rfl (n := 38) rfl (by decide +kernel)) hD) (List.range _) [] (zrange _) (zndr _) rfl rfl (fun _ h => by cases h) 2 rfl rfl rfl hl.1 rfl (Nat.le_of_ble_eq_true rfl) ⟨Nat.zero_le _, Nat.zero_le _⟩ dX7_undo_21 (fun H locs hP hD hS => ?_)
    have hP : va_P D vwCl ((koW ac a ko ++ (txW ac (a 1) tx ++ (shW ac (a 2) u2.2.2 ++ (shW ac (a 3) tr ++ (teW ac (a 4) (a 1) (a 10) te ++ (paW ac a u2.2.1 ++ (fcW ac (a 6) w1 w2 fc ++ (frW ac (a 7) to ++ (frW ac (a 8) tp ++ (reW ac (a 9) re ++ (shW ac (a 40) k0 ++ (shW ac (a 41) k1 ++ (shW ac (a 10) ti))))))))))))) ++ ringW ac a rg) H := zP_perm (zpermT (C := paW ac a u2.2.1 ++ (shW ac (a 2) u2.2.2)) (Rr := koW ac a ko ++ (txW ac (a 1) tx ++ (shW ac (a 3) tr ++ (teW ac (a 4) (a 1) (a 10) te ++ (fcW ac (a 6) w1 w2 fc ++ (frW ac (a 7) to ++ (frW ac (a 8) tp ++ (reW ac (a 9) re ++ (shW ac (a 40) k0 ++ (shW ac (a 41) k1 ++ (shW ac (a 10) ti))))))))))) [14, 15, 6, 7, 8, 0, 1, 2, 3, 4, 5, 9, 10, 11, 12, 13, 16, 17, 18, 19, 20, 21, 22, 23, 24, 25, 26, 27, 28, 29, 30, 31, 32, 33, 34, 35, 36, 37] rfl (n := 38) rfl (by decide +kernel)).symm hP
    have hD : va_D A ((koW ac a ko ++ (txW ac (a 1) tx ++ (shW ac (a 2) u2.2.2 ++ (shW ac (a 3) tr ++ (teW ac (a 4) (a 1) (a 10) te ++ (paW ac a u2.2.1 ++ (fcW ac (a 6) w1 w2 fc ++ (frW ac (a 7) to ++ (frW ac (a 8) tp ++ (reW ac (a 9) re ++ (shW ac (a 40) k0 ++ (shW ac (a 41) k1 ++ (shW ac (a 10) ti))))))))))))) ++ ringW ac a rg) := zD_perm (zpermT (C := paW ac a u2.2.1 ++ (shW ac (a 2) u2.2.2)) (Rr := koW ac a ko ++ (txW ac (a 1) tx ++ (shW ac (a 3) tr ++ (teW ac (a 4) (a 1) (a 10) te ++ (fcW ac (a 6) w1 w2 fc ++ (frW ac (a 7) to ++ (frW ac (a 8) tp ++ (reW ac (a 9) re ++ (shW ac (a 40) k0 ++ (shW ac (a 41) k1 ++ (shW ac (a 10) ti))))))))))) [14, 15, 6, 7, 8, 0, 1, 2, 3, 4, 5, 9, 10, 11, 12, 13, 16, 17, 18, 19, 20, 21, 22, 23, 24, 25, 26, 27, 28, 29, 30, 31, 32, 33, 34, 35, 36, 37] rfl (n := 38) rfl (by decide +kernel)).symm hD
    refine lv_if_ne (tgt := 30) hx hb dX7_undo_24 (by decide) (fun c3 => ?_) (fun c3 => ?_)
    · have hf := z_n c3 hf
      refine lv_aload_n hx hb dX7_undo_30 rfl (lv_at hl 0 rfl) ?_
      refine va_get (D := D) (ci := 7) (v := .ref (a 9 0)) (C := RX7) (T := TX7) (N := 13) hx hb htw WW_wsX70 hown hKX.1 hP 0 rfl rfl 10 (Nat.le_of_ble_eq_true rfl) (htw _ mF_RX7_68) (fun _ h9 => h9) rfl dX7_undo_31 ?_
      refine lv_iconst (v := 0) hx hb dX7_undo_34 rfl ?_
      refine va_putN (D := D) (ci := 3) (v := .int 0) (ty := tyX3 6) (C := RX3) (T := TX3) (N := 10) hx hb htw WW_wsX30 tyX3 tyX3_ok nmX3 hown hKX.1 hP hD hS 23 rfl rfl 6 (Nat.le_of_ble_eq_true rfl) (va_Nw.use rfl (hKX.2 _ (List.mem_of_getElem? (i := 24) rfl))) (fun _ h9 => h9) rfl (tyX3_ok 6 (Nat.le_of_ble_eq_true rfl)) (z_b_n z_b0) (z_b_f z_b0) (Nat.le_of_ble_eq_true rfl) dX7_undo_35 (fun H locs hP hD hS => ?_)
      have hP : va_P D vwCl ((koW ac a ko ++ (txW ac (a 1) tx ++ (shW ac (a 2) u2.2.2 ++ (shW ac (a 3) tr ++ (teW ac (a 4) (a 1) (a 10) te ++ (paW ac a u2.2.1 ++ (fcW ac (a 6) w1 w2 fc ++ (frW ac (a 7) to ++ (frW ac (a 8) tp ++ (reW ac (a 9) ((re_winsOfA re), (re_winsOfB re), (re_wholes re), (re_bestOfA re), (re_bestOfB re), (re_rows re), 0, (re_pairs re), (re_rowOfA re), (re_rowOfB re)) ++ (shW ac (a 40) k0 ++ (shW ac (a 41) k1 ++ (shW ac (a 10) ti))))))))))))) ++ ringW ac a rg) H := hP
      have hD : va_D A ((koW ac a ko ++ (txW ac (a 1) tx ++ (shW ac (a 2) u2.2.2 ++ (shW ac (a 3) tr ++ (teW ac (a 4) (a 1) (a 10) te ++ (paW ac a u2.2.1 ++ (fcW ac (a 6) w1 w2 fc ++ (frW ac (a 7) to ++ (frW ac (a 8) tp ++ (reW ac (a 9) ((re_winsOfA re), (re_winsOfB re), (re_wholes re), (re_bestOfA re), (re_bestOfB re), (re_rows re), 0, (re_pairs re), (re_rowOfA re), (re_rowOfB re)) ++ (shW ac (a 40) k0 ++ (shW ac (a 41) k1 ++ (shW ac (a 10) ti))))))))))))) ++ ringW ac a rg) := hD
      refine lv_aload_n hx hb dX7_undo_38 rfl (lv_at hl 0 rfl) ?_
      refine va_get (D := D) (ci := 7) (v := .ref (a 5 0)) (C := RX7) (T := TX7) (N := 13) hx hb htw WW_wsX70 hown hKX.1 hP 0 rfl rfl 4 (Nat.le_of_ble_eq_true rfl) (htw _ mF_RX7_36) (fun _ h9 => h9) rfl dX7_undo_39 ?_
      refine va_getN (D := D) (ci := 2) (v := .int (pa_size u2.2.1)) (C := RX2) (T := TX2) (N := 3) hx hb htw WW_wsX20 hown hKX.1 hP 14 rfl rfl 2 (Nat.le_of_ble_eq_true rfl) (va_Nw.use rfl (hKX.2 _ (List.mem_of_getElem? (i := 14) rfl))) (fun _ h9 => h9) rfl dX7_undo_42 ?_
      obtain rfl := Option.some.inj hf
      exact zr_Mi hx hb hr hlocks hP hD hS dX7_undo_45
    · have hf := z_p c3 hf
      refine lv_bipush (v := (-3)) hx hb dX7_undo_27 rfl ?_
      obtain rfl := Option.some.inj hf
      exact zr_Mi hx hb hr hlocks hP hD hS dX7_undo_29
  · have hf := z_p c1 hf
    refine lv_bipush (v := (-2)) hx hb dX7_undo_10 rfl ?_
    obtain rfl := Option.some.inj hf
    exact zr_Mi hx hb hr hlocks hP hD hS dX7_undo_12

theorem hd_yX7_keep : hdY yX7_keep 1 := by decide +kernel
def K_keep (F : Nat) (ko : Ko) (now : Sh) (k0 : Sh) (k1 : Sh) (a1 : Int32) : Option (Int32 × Ko × Sh × Sh) := if a1 < 0 then (some (0, ko, k0, k1)) else (if 2 ≤ a1 then (some (0, ko, k0, k1)) else (if (sh_shooters now) = 0 then (some (0, ko, k0, k1)) else (if a1 = 0 then (z_bd (Sh_copyFrom F k0 now) (fun u5 : Sh => some (1, ((upd (ko_isKept ko) a1.toNatClampNeg (vp_nar .boolean 1)), (ko_verdict ko), (ko_hasVerdict ko)), u5, k1))) else (z_bd (Sh_copyFrom F k1 now) (fun u6 : Sh => some (1, ((upd (ko_isKept ko) a1.toNatClampNeg (vp_nar .boolean 1)), (ko_verdict ko), (ko_hasVerdict ko)), k0, u6))))))
set_option maxHeartbeats 4000000 in
set_option maxRecDepth 100000 in
theorem ctX7_keep (l : Launch) (D : va_G) (ac cs : Nat → Nat) (a : Nat → Nat → Nat) (w1 w2 : Nat) (sz : Nat) (ko : Ko) (tx : Tx) (now : Sh) (tr : Sh) (te : Te) (pa : Pa) (fc : Fc) (to : Fr) (tp : Fr) (re : Re) (k0 : Sh) (k1 : Sh) (ti : Sh) (rg : Nat → Sh) (a1 : Int32) (F : Nat) (res : Int32 × Ko × Sh × Sh) (hf : K_keep F ko now k0 k1 a1 = some res) : Met l yX7_keep (cWW yX7_keep cX7_keep 2 (some .boolean)) { frames := 1, cells := 0, slots := 0, locals := 22 } (zM D ac cs [.ref (a 0 0), .int a1] ((koW ac a ko ++ (txW ac (a 1) tx ++ (shW ac (a 2) now ++ (shW ac (a 3) tr ++ (teW ac (a 4) (a 1) (a 10) te ++ (paW ac a pa ++ (fcW ac (a 6) w1 w2 fc ++ (frW ac (a 7) to ++ (frW ac (a 8) tp ++ (reW ac (a 9) re ++ (shW ac (a 40) k0 ++ (shW ac (a 41) k1 ++ (shW ac (a 10) ti))))))))))))) ++ ringW ac a rg) sz) (va_Qi (fun r (_ : Unit) => r = res.1) (fun _ => zB D (va_A ((koW ac a ko ++ (txW ac (a 1) tx ++ (shW ac (a 2) now ++ (shW ac (a 3) tr ++ (teW ac (a 4) (a 1) (a 10) te ++ (paW ac a pa ++ (fcW ac (a 6) w1 w2 fc ++ (frW ac (a 7) to ++ (frW ac (a 8) tp ++ (reW ac (a 9) re ++ (shW ac (a 40) k0 ++ (shW ac (a 41) k1 ++ (shW ac (a 10) ti))))))))))))) ++ ringW ac a rg) sz) ((koW ac a res.2.1 ++ (txW ac (a 1) tx ++ (shW ac (a 2) now ++ (shW ac (a 3) tr ++ (teW ac (a 4) (a 1) (a 10) te ++ (paW ac a pa ++ (fcW ac (a 6) w1 w2 fc ++ (frW ac (a 7) to ++ (frW ac (a 8) tp ++ (reW ac (a 9) re ++ (shW ac (a 40) res.2.2.1 ++ (shW ac (a 41) res.2.2.2 ++ (shW ac (a 10) ti))))))))))))) ++ ringW ac a rg)) (va_A ((koW ac a ko ++ (txW ac (a 1) tx ++ (shW ac (a 2) now ++ (shW ac (a 3) tr ++ (teW ac (a 4) (a 1) (a 10) te ++ (paW ac a pa ++ (fcW ac (a 6) w1 w2 fc ++ (frW ac (a 7) to ++ (frW ac (a 8) tp ++ (reW ac (a 9) re ++ (shW ac (a 40) k0 ++ (shW ac (a 41) k1 ++ (shW ac (a 10) ti))))))))))))) ++ ringW ac a rg) sz)) 0 0 (va_A ((koW ac a ko ++ (txW ac (a 1) tx ++ (shW ac (a 2) now ++ (shW ac (a 3) tr ++ (teW ac (a 4) (a 1) (a 10) te ++ (paW ac a pa ++ (fcW ac (a 6) w1 w2 fc ++ (frW ac (a 7) to ++ (frW ac (a 8) tp ++ (reW ac (a 9) re ++ (shW ac (a 40) k0 ++ (shW ac (a 41) k1 ++ (shW ac (a 10) ti))))))))))))) ++ ringW ac a rg) sz) := by
  refine Met.ofW (cc := cX7_keep) (maxL := 2) (ret := (some .boolean)) (by decide) rfl ?_
  intro p e s m args below meth c s₁ B hml hv
  obtain ⟨rfl, hsz, hP, hKX, hD0, hC⟩ := hv
  have hx := B.exec
  have hb := B.bytes
  have hr := B.returns
  have hts := atoms_spec (ws := cWW yX7_keep cX7_keep 2 (some .boolean)) B.pre
  have htw : ∀ w ∈ WW, w.before _ s = true := fun w h => hts w (List.mem_cons_of_mem _ h)
  have hown : s.vm.findClass RX7 = some m.cls := findClass_of_methodNamed B.named
  have hlocks := B.notSynchronized
  clear hts B
  subst hsz
  have hD := hD0.self (sz := s.heap.size)
  generalize hAe : va_A ((koW ac a ko ++ (txW ac (a 1) tx ++ (shW ac (a 2) now ++ (shW ac (a 3) tr ++ (teW ac (a 4) (a 1) (a 10) te ++ (paW ac a pa ++ (fcW ac (a 6) w1 w2 fc ++ (frW ac (a 7) to ++ (frW ac (a 8) tp ++ (reW ac (a 9) re ++ (shW ac (a 40) k0 ++ (shW ac (a 41) k1 ++ (shW ac (a 10) ti))))))))))))) ++ ringW ac a rg) s.heap.size = A at hD hC ⊢
  have hA : ∀ q : Nat, s.heap.size ≤ q → A q := fun q h => by rw [← hAe]; exact Or.inr h
  have hS : va_S A s.heap s.heap [] := va_S.rf
  clear hD0 hAe
  have hP : va_P D vwCl ((koW ac a ko ++ (txW ac (a 1) tx ++ (shW ac (a 2) now ++ (shW ac (a 3) tr ++ (teW ac (a 4) (a 1) (a 10) te ++ (paW ac a pa ++ (fcW ac (a 6) w1 w2 fc ++ (frW ac (a 7) to ++ (frW ac (a 8) tp ++ (reW ac (a 9) re ++ (shW ac (a 40) k0 ++ (shW ac (a 41) k1 ++ (shW ac (a 10) ti))))))))))))) ++ ringW ac a rg) s.heap := hP
  have hl := lv_entry ([.ref (a 0 0), .int a1]) (n := 2) (Nat.le_of_ble_eq_true rfl)
  rw [lg_entry_eq]
  generalize (lg_sl ([.ref (a 0 0), .int a1]) ++ List.replicate (2 - (lg_sl ([.ref (a 0 0), .int a1])).length) Slot.unset).toArray = ls at hl ⊢
  have hl : lv_has ls 2 [(0, .ref (a 0 0)), (1, .int a1)] := hl
  unfold K_keep at hf
  show W p l e ({ frames := 1, cells := 0, slots := 0, locals := 22 } : Room) s m _ below meth c s.heap [] 0 0 _ (F0 m 0 ls [])
  refine lv_iload_n hx hb dX7_keep_0 rfl (lv_at hl 1 rfl) ?_
  refine lv_if_lt (tgt := 19) hx hb dX7_keep_1 (by decide) (fun c1 => ?_) (fun c1 => ?_)
  · have hf := z_p c1 hf
    refine lv_iconst (v := 0) hx hb dX7_keep_19 rfl ?_
    obtain rfl := Option.some.inj hf
    exact zr_Mz hx hb hr hlocks (z_b_n z_b0) hP hD hS dX7_keep_20
  · have hf := z_n c1 hf
    refine lv_iload_n hx hb dX7_keep_4 rfl (lv_at hl 1 rfl) ?_
    refine lv_iconst (v := 2) hx hb dX7_keep_5 rfl ?_
    refine lv_icmp_ge (tgt := 19) hx hb dX7_keep_6 (by decide) (fun c2 => ?_) (fun c2 => ?_)
    · have hf := z_p c2 hf
      refine lv_iconst (v := 0) hx hb dX7_keep_19 rfl ?_
      obtain rfl := Option.some.inj hf
      exact zr_Mz hx hb hr hlocks (z_b_n z_b0) hP hD hS dX7_keep_20
    · have hf := z_n c2 hf
      refine lv_aload_n hx hb dX7_keep_9 rfl (lv_at hl 0 rfl) ?_
      refine va_get (D := D) (ci := 7) (v := .ref (a 2 0)) (C := RX7) (T := TX7) (N := 13) hx hb htw WW_wsX70 hown hKX.1 hP 0 rfl rfl 2 (Nat.le_of_ble_eq_true rfl) (htw _ mF_RX7_26) (fun _ h9 => h9) rfl dX7_keep_10 ?_
      refine va_getN (D := D) (ci := 4) (v := .int (sh_shooters now)) (C := RX4) (T := TX4) (N := 10) hx hb htw WW_wsX40 hown hKX.1 hP 6 rfl rfl 0 (Nat.le_of_ble_eq_true rfl) (va_Nw.use rfl (hKX.2 _ (List.mem_of_getElem? (i := 3) rfl))) (fun _ h9 => h9) rfl dX7_keep_13 ?_
      refine lv_if_ne (tgt := 21) hx hb dX7_keep_16 (by decide) (fun c3 => ?_) (fun c3 => ?_)
      · have hf := z_n c3 hf
        refine lv_aload_n hx hb dX7_keep_21 rfl (lv_at hl 0 rfl) ?_
        refine va_get (D := D) (ci := 7) (v := .ref (a 0 1)) (C := RX7) (T := TX7) (N := 13) hx hb htw WW_wsX70 hown hKX.1 hP 0 rfl rfl 5 (Nat.le_of_ble_eq_true rfl) (htw _ mF_RX7_40) (fun _ h9 => h9) rfl dX7_keep_22 ?_
        refine lv_iload_n hx hb dX7_keep_25 rfl (lv_at hl 1 rfl) ?_
        by_cases c4 : a1 = 0
        · have hf := z_p c4 hf
          refine zv_aldq (b := a 40 0) hx hb hKX.1 hP 1 5 rfl rfl (z_in_c rfl (Nat.le_of_ble_eq_true rfl) c1 c2) (by rw [c4]; rfl) dX7_keep_26 ?_
          refine lv_aload_n hx hb dX7_keep_27 rfl (lv_at hl 0 rfl) ?_
          refine va_get (D := D) (ci := 7) (v := .ref (a 2 0)) (C := RX7) (T := TX7) (N := 13) hx hb htw WW_wsX70 hown hKX.1 hP 0 rfl rfl 2 (Nat.le_of_ble_eq_true rfl) (htw _ mF_RX7_26) (fun _ h9 => h9) rfl dX7_keep_28 ?_
          obtain ⟨u5, hu5, hf⟩ := z_bd_u hf
          refine zc_MVvT (As := [.ref (a 2 0)]) (rest := []) (wr := koW ac a ko ++ (txW ac (a 1) tx ++ (shW ac (a 3) tr ++ (teW ac (a 4) (a 1) (a 10) te ++ (paW ac a pa ++ (fcW ac (a 6) w1 w2 fc ++ (frW ac (a 7) to ++ (frW ac (a 8) tp ++ (reW ac (a 9) re ++ (shW ac (a 41) k1 ++ (shW ac (a 10) ti))))))))))) (wsc := shW ac (a 40) k0 ++ (shW ac (a 2) now)) (wsc' := shW ac (a 40) u5 ++ (shW ac (a 2) now)) hx hb hml hown htw (ctX4_copyFrom l D ac cs (a 40) (a 2) s.heap.size k0 now    F u5 hu5) (g_V mM_RX7_93 mI_yX4_copyFrom mS_RX4_yX4_copyFrom_yX4_copyFrom mN_RX4 mC_yX4_copyFrom) rfl (hd_yX4_copyFrom) ⟨rfl, rfl⟩ ⟨(Nat.le_of_ble_eq_true rfl), (Nat.le_of_ble_eq_true rfl)⟩ hKX hC hS hA hP hD [29, 30, 31, 6, 7, 8] [0, 1, 2, 3, 4, 5, 9, 10, 11, 12, 13, 14, 15, 16, 17, 18, 19, 20, 21, 22, 23, 24, 25, 26, 27, 28, 32, 33, 34, 35, 36, 37] rfl (by decide) rfl (by decide) (by decide) 4 rfl rfl rfl hl.1 rfl (Nat.le_of_ble_eq_true rfl) ⟨Nat.zero_le _, Nat.zero_le _⟩ dX7_keep_31 (fun H locs hP hD hS => ?_)
          have hP : va_P D vwCl ((koW ac a ko ++ (txW ac (a 1) tx ++ (shW ac (a 2) now ++ (shW ac (a 3) tr ++ (teW ac (a 4) (a 1) (a 10) te ++ (paW ac a pa ++ (fcW ac (a 6) w1 w2 fc ++ (frW ac (a 7) to ++ (frW ac (a 8) tp ++ (reW ac (a 9) re ++ (shW ac (a 40) u5 ++ (shW ac (a 41) k1 ++ (shW ac (a 10) ti))))))))))))) ++ ringW ac a rg) H := zsubPT hP [0, 1, 2, 3, 4, 5, 35, 36, 37, 6, 7, 8, 9, 10, 11, 12, 13, 14, 15, 16, 17, 18, 19, 20, 21, 22, 23, 24, 25, 32, 33, 34, 26, 27, 28, 29, 30, 31] rfl
          have hD : va_D A ((koW ac a ko ++ (txW ac (a 1) tx ++ (shW ac (a 2) now ++ (shW ac (a 3) tr ++ (teW ac (a 4) (a 1) (a 10) te ++ (paW ac a pa ++ (fcW ac (a 6) w1 w2 fc ++ (frW ac (a 7) to ++ (frW ac (a 8) tp ++ (reW ac (a 9) re ++ (shW ac (a 40) u5 ++ (shW ac (a 41) k1 ++ (shW ac (a 10) ti))))))))))))) ++ ringW ac a rg) := zsubDT hD [0, 1, 2, 3, 4, 5, 35, 36, 37, 6, 7, 8, 9, 10, 11, 12, 13, 14, 15, 16, 17, 18, 19, 20, 21, 22, 23, 24, 25, 32, 33, 34, 26, 27, 28, 29, 30, 31] (by decide) rfl
          refine lv_aload_n hx hb dX7_keep_34 rfl (lv_at hl 0 rfl) ?_
          refine va_get (D := D) (ci := 7) (v := .ref (a 0 2)) (C := RX7) (T := TX7) (N := 13) hx hb htw WW_wsX70 hown hKX.1 hP 0 rfl rfl 6 (Nat.le_of_ble_eq_true rfl) (htw _ mF_RX7_44) (fun _ h9 => h9) rfl dX7_keep_35 ?_
          refine lv_iload_n hx hb dX7_keep_38 rfl (lv_at hl 1 rfl) ?_
          refine lv_iconst (v := 1) hx hb dX7_keep_39 rfl ?_
          refine va_zast hx hb hKX.1 hP hD hS 2 4 rfl rfl (z_in_c rfl (Nat.le_of_ble_eq_true rfl) c1 c2) dX7_keep_40 (fun H locs hP hD hS => ?_)
          have hP : va_P D vwCl ((koW ac a ((upd (ko_isKept ko) a1.toNatClampNeg (vp_nar .boolean 1)), (ko_verdict ko), (ko_hasVerdict ko)) ++ (txW ac (a 1) tx ++ (shW ac (a 2) now ++ (shW ac (a 3) tr ++ (teW ac (a 4) (a 1) (a 10) te ++ (paW ac a pa ++ (fcW ac (a 6) w1 w2 fc ++ (frW ac (a 7) to ++ (frW ac (a 8) tp ++ (reW ac (a 9) re ++ (shW ac (a 40) u5 ++ (shW ac (a 41) k1 ++ (shW ac (a 10) ti))))))))))))) ++ ringW ac a rg) H := hP
          have hD : va_D A ((koW ac a ((upd (ko_isKept ko) a1.toNatClampNeg (vp_nar .boolean 1)), (ko_verdict ko), (ko_hasVerdict ko)) ++ (txW ac (a 1) tx ++ (shW ac (a 2) now ++ (shW ac (a 3) tr ++ (teW ac (a 4) (a 1) (a 10) te ++ (paW ac a pa ++ (fcW ac (a 6) w1 w2 fc ++ (frW ac (a 7) to ++ (frW ac (a 8) tp ++ (reW ac (a 9) re ++ (shW ac (a 40) u5 ++ (shW ac (a 41) k1 ++ (shW ac (a 10) ti))))))))))))) ++ ringW ac a rg) := hD
          refine lv_iconst (v := 1) hx hb dX7_keep_41 rfl ?_
          obtain rfl := Option.some.inj hf
          exact zr_Mz hx hb hr hlocks (z_b_n z_b1) hP hD hS dX7_keep_42
        have hf := z_n c4 hf
        refine zv_aldq (b := a 41 0) hx hb hKX.1 hP 1 5 rfl rfl (z_in_c rfl (Nat.le_of_ble_eq_true rfl) c1 c2) (z_k1 c4 (z_in_c rfl (Nat.le_of_ble_eq_true rfl) c1 c2)) dX7_keep_26 ?_
        refine lv_aload_n hx hb dX7_keep_27 rfl (lv_at hl 0 rfl) ?_
        refine va_get (D := D) (ci := 7) (v := .ref (a 2 0)) (C := RX7) (T := TX7) (N := 13) hx hb htw WW_wsX70 hown hKX.1 hP 0 rfl rfl 2 (Nat.le_of_ble_eq_true rfl) (htw _ mF_RX7_26) (fun _ h9 => h9) rfl dX7_keep_28 ?_
        obtain ⟨u6, hu6, hf⟩ := z_bd_u hf
        refine zc_MVvT (As := [.ref (a 2 0)]) (rest := []) (wr := koW ac a ko ++ (txW ac (a 1) tx ++ (shW ac (a 3) tr ++ (teW ac (a 4) (a 1) (a 10) te ++ (paW ac a pa ++ (fcW ac (a 6) w1 w2 fc ++ (frW ac (a 7) to ++ (frW ac (a 8) tp ++ (reW ac (a 9) re ++ (shW ac (a 40) k0 ++ (shW ac (a 10) ti))))))))))) (wsc := shW ac (a 41) k1 ++ (shW ac (a 2) now)) (wsc' := shW ac (a 41) u6 ++ (shW ac (a 2) now)) hx hb hml hown htw (ctX4_copyFrom l D ac cs (a 41) (a 2) s.heap.size k1 now    F u6 hu6) (g_V mM_RX7_93 mI_yX4_copyFrom mS_RX4_yX4_copyFrom_yX4_copyFrom mN_RX4 mC_yX4_copyFrom) rfl (hd_yX4_copyFrom) ⟨rfl, rfl⟩ ⟨(Nat.le_of_ble_eq_true rfl), (Nat.le_of_ble_eq_true rfl)⟩ hKX hC hS hA hP hD [32, 33, 34, 6, 7, 8] [0, 1, 2, 3, 4, 5, 9, 10, 11, 12, 13, 14, 15, 16, 17, 18, 19, 20, 21, 22, 23, 24, 25, 26, 27, 28, 29, 30, 31, 35, 36, 37] rfl (by decide) rfl (by decide) (by decide) 4 rfl rfl rfl hl.1 rfl (Nat.le_of_ble_eq_true rfl) ⟨Nat.zero_le _, Nat.zero_le _⟩ dX7_keep_31 (fun H locs hP hD hS => ?_)
        have hP : va_P D vwCl ((koW ac a ko ++ (txW ac (a 1) tx ++ (shW ac (a 2) now ++ (shW ac (a 3) tr ++ (teW ac (a 4) (a 1) (a 10) te ++ (paW ac a pa ++ (fcW ac (a 6) w1 w2 fc ++ (frW ac (a 7) to ++ (frW ac (a 8) tp ++ (reW ac (a 9) re ++ (shW ac (a 40) k0 ++ (shW ac (a 41) u6 ++ (shW ac (a 10) ti))))))))))))) ++ ringW ac a rg) H := zsubPT hP [0, 1, 2, 3, 4, 5, 35, 36, 37, 6, 7, 8, 9, 10, 11, 12, 13, 14, 15, 16, 17, 18, 19, 20, 21, 22, 23, 24, 25, 26, 27, 28, 32, 33, 34, 29, 30, 31] rfl
        have hD : va_D A ((koW ac a ko ++ (txW ac (a 1) tx ++ (shW ac (a 2) now ++ (shW ac (a 3) tr ++ (teW ac (a 4) (a 1) (a 10) te ++ (paW ac a pa ++ (fcW ac (a 6) w1 w2 fc ++ (frW ac (a 7) to ++ (frW ac (a 8) tp ++ (reW ac (a 9) re ++ (shW ac (a 40) k0 ++ (shW ac (a 41) u6 ++ (shW ac (a 10) ti))))))))))))) ++ ringW ac a rg) := zsubDT hD [0, 1, 2, 3, 4, 5, 35, 36, 37, 6, 7, 8, 9, 10, 11, 12, 13, 14, 15, 16, 17, 18, 19, 20, 21, 22, 23, 24, 25, 26, 27, 28, 32, 33, 34, 29, 30, 31] (by decide) rfl
        refine lv_aload_n hx hb dX7_keep_34 rfl (lv_at hl 0 rfl) ?_
        refine va_get (D := D) (ci := 7) (v := .ref (a 0 2)) (C := RX7) (T := TX7) (N := 13) hx hb htw WW_wsX70 hown hKX.1 hP 0 rfl rfl 6 (Nat.le_of_ble_eq_true rfl) (htw _ mF_RX7_44) (fun _ h9 => h9) rfl dX7_keep_35 ?_
        refine lv_iload_n hx hb dX7_keep_38 rfl (lv_at hl 1 rfl) ?_
        refine lv_iconst (v := 1) hx hb dX7_keep_39 rfl ?_
        refine va_zast hx hb hKX.1 hP hD hS 2 4 rfl rfl (z_in_c rfl (Nat.le_of_ble_eq_true rfl) c1 c2) dX7_keep_40 (fun H locs hP hD hS => ?_)
        have hP : va_P D vwCl ((koW ac a ((upd (ko_isKept ko) a1.toNatClampNeg (vp_nar .boolean 1)), (ko_verdict ko), (ko_hasVerdict ko)) ++ (txW ac (a 1) tx ++ (shW ac (a 2) now ++ (shW ac (a 3) tr ++ (teW ac (a 4) (a 1) (a 10) te ++ (paW ac a pa ++ (fcW ac (a 6) w1 w2 fc ++ (frW ac (a 7) to ++ (frW ac (a 8) tp ++ (reW ac (a 9) re ++ (shW ac (a 40) k0 ++ (shW ac (a 41) u6 ++ (shW ac (a 10) ti))))))))))))) ++ ringW ac a rg) H := hP
        have hD : va_D A ((koW ac a ((upd (ko_isKept ko) a1.toNatClampNeg (vp_nar .boolean 1)), (ko_verdict ko), (ko_hasVerdict ko)) ++ (txW ac (a 1) tx ++ (shW ac (a 2) now ++ (shW ac (a 3) tr ++ (teW ac (a 4) (a 1) (a 10) te ++ (paW ac a pa ++ (fcW ac (a 6) w1 w2 fc ++ (frW ac (a 7) to ++ (frW ac (a 8) tp ++ (reW ac (a 9) re ++ (shW ac (a 40) k0 ++ (shW ac (a 41) u6 ++ (shW ac (a 10) ti))))))))))))) ++ ringW ac a rg) := hD
        refine lv_iconst (v := 1) hx hb dX7_keep_41 rfl ?_
        obtain rfl := Option.some.inj hf
        exact zr_Mz hx hb hr hlocks (z_b_n z_b1) hP hD hS dX7_keep_42
      · have hf := z_p c3 hf
        refine lv_iconst (v := 0) hx hb dX7_keep_19 rfl ?_
        obtain rfl := Option.some.inj hf
        exact zr_Mz hx hb hr hlocks (z_b_n z_b0) hP hD hS dX7_keep_20

theorem hd_yX7_again : hdY yX7_again 1 := by decide +kernel
def K_again (F : Nat) (ko : Ko) (now : Sh) (pa : Pa) (re : Re) (k0 : Sh) (k1 : Sh) (rg : Nat → Sh) (a1 : Int32) : Option (Int32 × Sh × Pa × Re × (Nat → Sh)) := if a1 < 0 then (some (0, now, pa, re, rg)) else (if 2 ≤ a1 then (some (0, now, pa, re, rg)) else (if ((ko_isKept ko) a1.toNatClampNeg) = 0 then (some (0, now, pa, re, rg)) else (z_bd (K_remember F now pa re rg) (fun u4 : Pa × Re × (Nat → Sh) => if a1 = 0 then (z_bd (Sh_copyFrom F now k0) (fun u6 : Sh => some (1, u6, u4.1, u4.2.1, u4.2.2))) else (z_bd (Sh_copyFrom F now k1) (fun u7 : Sh => some (1, u7, u4.1, u4.2.1, u4.2.2)))))))
set_option maxHeartbeats 4000000 in
set_option maxRecDepth 100000 in
theorem ctX7_again (l : Launch) (D : va_G) (ac cs : Nat → Nat) (a : Nat → Nat → Nat) (w1 w2 : Nat) (sz : Nat) (ko : Ko) (tx : Tx) (now : Sh) (tr : Sh) (te : Te) (pa : Pa) (fc : Fc) (to : Fr) (tp : Fr) (re : Re) (k0 : Sh) (k1 : Sh) (ti : Sh) (rg : Nat → Sh) (a1 : Int32) (F : Nat) (res : Int32 × Sh × Pa × Re × (Nat → Sh)) (hf : K_again F ko now pa re k0 k1 rg a1 = some res) : Met l yX7_again (cWW yX7_again cX7_again 2 (some .boolean)) { frames := 3, cells := 0, slots := 0, locals := 63 } (zM D ac cs [.ref (a 0 0), .int a1] ((koW ac a ko ++ (txW ac (a 1) tx ++ (shW ac (a 2) now ++ (shW ac (a 3) tr ++ (teW ac (a 4) (a 1) (a 10) te ++ (paW ac a pa ++ (fcW ac (a 6) w1 w2 fc ++ (frW ac (a 7) to ++ (frW ac (a 8) tp ++ (reW ac (a 9) re ++ (shW ac (a 40) k0 ++ (shW ac (a 41) k1 ++ (shW ac (a 10) ti))))))))))))) ++ ringW ac a rg) sz) (va_Qi (fun r (_ : Unit) => r = res.1) (fun _ => zB D (va_A ((koW ac a ko ++ (txW ac (a 1) tx ++ (shW ac (a 2) now ++ (shW ac (a 3) tr ++ (teW ac (a 4) (a 1) (a 10) te ++ (paW ac a pa ++ (fcW ac (a 6) w1 w2 fc ++ (frW ac (a 7) to ++ (frW ac (a 8) tp ++ (reW ac (a 9) re ++ (shW ac (a 40) k0 ++ (shW ac (a 41) k1 ++ (shW ac (a 10) ti))))))))))))) ++ ringW ac a rg) sz) ((koW ac a ko ++ (txW ac (a 1) tx ++ (shW ac (a 2) res.2.1 ++ (shW ac (a 3) tr ++ (teW ac (a 4) (a 1) (a 10) te ++ (paW ac a res.2.2.1 ++ (fcW ac (a 6) w1 w2 fc ++ (frW ac (a 7) to ++ (frW ac (a 8) tp ++ (reW ac (a 9) res.2.2.2.1 ++ (shW ac (a 40) k0 ++ (shW ac (a 41) k1 ++ (shW ac (a 10) ti))))))))))))) ++ ringW ac a res.2.2.2.2)) (va_A ((koW ac a ko ++ (txW ac (a 1) tx ++ (shW ac (a 2) now ++ (shW ac (a 3) tr ++ (teW ac (a 4) (a 1) (a 10) te ++ (paW ac a pa ++ (fcW ac (a 6) w1 w2 fc ++ (frW ac (a 7) to ++ (frW ac (a 8) tp ++ (reW ac (a 9) re ++ (shW ac (a 40) k0 ++ (shW ac (a 41) k1 ++ (shW ac (a 10) ti))))))))))))) ++ ringW ac a rg) sz)) 0 0 (va_A ((koW ac a ko ++ (txW ac (a 1) tx ++ (shW ac (a 2) now ++ (shW ac (a 3) tr ++ (teW ac (a 4) (a 1) (a 10) te ++ (paW ac a pa ++ (fcW ac (a 6) w1 w2 fc ++ (frW ac (a 7) to ++ (frW ac (a 8) tp ++ (reW ac (a 9) re ++ (shW ac (a 40) k0 ++ (shW ac (a 41) k1 ++ (shW ac (a 10) ti))))))))))))) ++ ringW ac a rg) sz) := by
  refine Met.ofW (cc := cX7_again) (maxL := 2) (ret := (some .boolean)) (by decide) rfl ?_
  intro p e s m args below meth c s₁ B hml hv
  obtain ⟨rfl, hsz, hP, hKX, hD0, hC⟩ := hv
  have hx := B.exec
  have hb := B.bytes
  have hr := B.returns
  have hts := atoms_spec (ws := cWW yX7_again cX7_again 2 (some .boolean)) B.pre
  have htw : ∀ w ∈ WW, w.before _ s = true := fun w h => hts w (List.mem_cons_of_mem _ h)
  have hown : s.vm.findClass RX7 = some m.cls := findClass_of_methodNamed B.named
  have hlocks := B.notSynchronized
  clear hts B
  subst hsz
  have hD := hD0.self (sz := s.heap.size)
  generalize hAe : va_A ((koW ac a ko ++ (txW ac (a 1) tx ++ (shW ac (a 2) now ++ (shW ac (a 3) tr ++ (teW ac (a 4) (a 1) (a 10) te ++ (paW ac a pa ++ (fcW ac (a 6) w1 w2 fc ++ (frW ac (a 7) to ++ (frW ac (a 8) tp ++ (reW ac (a 9) re ++ (shW ac (a 40) k0 ++ (shW ac (a 41) k1 ++ (shW ac (a 10) ti))))))))))))) ++ ringW ac a rg) s.heap.size = A at hD hC ⊢
  have hA : ∀ q : Nat, s.heap.size ≤ q → A q := fun q h => by rw [← hAe]; exact Or.inr h
  have hS : va_S A s.heap s.heap [] := va_S.rf
  clear hD0 hAe
  have hP : va_P D vwCl ((koW ac a ko ++ (txW ac (a 1) tx ++ (shW ac (a 2) now ++ (shW ac (a 3) tr ++ (teW ac (a 4) (a 1) (a 10) te ++ (paW ac a pa ++ (fcW ac (a 6) w1 w2 fc ++ (frW ac (a 7) to ++ (frW ac (a 8) tp ++ (reW ac (a 9) re ++ (shW ac (a 40) k0 ++ (shW ac (a 41) k1 ++ (shW ac (a 10) ti))))))))))))) ++ ringW ac a rg) s.heap := hP
  have hl := lv_entry ([.ref (a 0 0), .int a1]) (n := 2) (Nat.le_of_ble_eq_true rfl)
  rw [lg_entry_eq]
  generalize (lg_sl ([.ref (a 0 0), .int a1]) ++ List.replicate (2 - (lg_sl ([.ref (a 0 0), .int a1])).length) Slot.unset).toArray = ls at hl ⊢
  have hl : lv_has ls 2 [(0, .ref (a 0 0)), (1, .int a1)] := hl
  unfold K_again at hf
  show W p l e ({ frames := 3, cells := 0, slots := 0, locals := 63 } : Room) s m _ below meth c s.heap [] 0 0 _ (F0 m 0 ls [])
  refine lv_iload_n hx hb dX7_again_0 rfl (lv_at hl 1 rfl) ?_
  refine lv_if_lt (tgt := 18) hx hb dX7_again_1 (by decide) (fun c1 => ?_) (fun c1 => ?_)
  · have hf := z_p c1 hf
    refine lv_iconst (v := 0) hx hb dX7_again_18 rfl ?_
    obtain rfl := Option.some.inj hf
    exact zr_Mz hx hb hr hlocks (z_b_n z_b0) hP hD hS dX7_again_19
  · have hf := z_n c1 hf
    refine lv_iload_n hx hb dX7_again_4 rfl (lv_at hl 1 rfl) ?_
    refine lv_iconst (v := 2) hx hb dX7_again_5 rfl ?_
    refine lv_icmp_ge (tgt := 18) hx hb dX7_again_6 (by decide) (fun c2 => ?_) (fun c2 => ?_)
    · have hf := z_p c2 hf
      refine lv_iconst (v := 0) hx hb dX7_again_18 rfl ?_
      obtain rfl := Option.some.inj hf
      exact zr_Mz hx hb hr hlocks (z_b_n z_b0) hP hD hS dX7_again_19
    · have hf := z_n c2 hf
      refine lv_aload_n hx hb dX7_again_9 rfl (lv_at hl 0 rfl) ?_
      refine va_get (D := D) (ci := 7) (v := .ref (a 0 2)) (C := RX7) (T := TX7) (N := 13) hx hb htw WW_wsX70 hown hKX.1 hP 0 rfl rfl 6 (Nat.le_of_ble_eq_true rfl) (htw _ mF_RX7_44) (fun _ h9 => h9) rfl dX7_again_10 ?_
      refine lv_iload_n hx hb dX7_again_13 rfl (lv_at hl 1 rfl) ?_
      refine va_zald hx hb hKX.1 hP 2 4 rfl rfl (z_in_c rfl (Nat.le_of_ble_eq_true rfl) c1 c2) dX7_again_14 ?_
      refine lv_if_ne (tgt := 20) hx hb dX7_again_15 (by decide) (fun c3 => ?_) (fun c3 => ?_)
      · have hf := z_n c3 hf
        refine lv_aload_n hx hb dX7_again_20 rfl (lv_at hl 0 rfl) ?_
        obtain ⟨u4, hu4, hf⟩ := z_bd_u hf
        refine zc_MVvT (E := (koW ac a ko ++ (txW ac (a 1) tx ++ (shW ac (a 2) now ++ (shW ac (a 3) tr ++ (teW ac (a 4) (a 1) (a 10) te ++ (paW ac a pa ++ (fcW ac (a 6) w1 w2 fc ++ (frW ac (a 7) to ++ (frW ac (a 8) tp ++ (reW ac (a 9) re ++ (shW ac (a 40) k0 ++ (shW ac (a 41) k1 ++ (shW ac (a 10) ti))))))))))))) ++ ringW ac a rg) (TT := []) (As := []) (rest := []) (wr := []) (wsc := (koW ac a ko ++ (txW ac (a 1) tx ++ (shW ac (a 2) now ++ (shW ac (a 3) tr ++ (teW ac (a 4) (a 1) (a 10) te ++ (paW ac a pa ++ (fcW ac (a 6) w1 w2 fc ++ (frW ac (a 7) to ++ (frW ac (a 8) tp ++ (reW ac (a 9) re ++ (shW ac (a 40) k0 ++ (shW ac (a 41) k1 ++ (shW ac (a 10) ti))))))))))))) ++ ringW ac a rg) (wsc' := (koW ac a ko ++ (txW ac (a 1) tx ++ (shW ac (a 2) now ++ (shW ac (a 3) tr ++ (teW ac (a 4) (a 1) (a 10) te ++ (paW ac a u4.1 ++ (fcW ac (a 6) w1 w2 fc ++ (frW ac (a 7) to ++ (frW ac (a 8) tp ++ (reW ac (a 9) u4.2.1 ++ (shW ac (a 40) k0 ++ (shW ac (a 41) k1 ++ (shW ac (a 10) ti))))))))))))) ++ ringW ac a u4.2.2) hx hb hml hown htw (ctX7_remember l D ac cs a w1 w2 s.heap.size ko tx now tr te pa fc to tp re k0 k1 ti rg    F u4 hu4) (g_V mM_RX7_130 mI_yX7_remember mS_RX7_yX7_remember_yX7_remember mN_RX7 mC_yX7_remember) rfl (hd_yX7_remember) ⟨rfl, rfl⟩ ⟨(Nat.le_of_ble_eq_true rfl), (Nat.le_of_ble_eq_true rfl)⟩ hKX hC hS hA (zP_nil hP) (zD_nil hD) (List.range _) [] (zrange _) (zndr _) rfl rfl (fun _ h => by cases h) 7 rfl rfl rfl hl.1 rfl (Nat.le_of_ble_eq_true rfl) ⟨Nat.zero_le _, Nat.zero_le _⟩ dX7_again_21 (fun H locs hP hD hS => ?_)
        have hP : va_P D vwCl ((koW ac a ko ++ (txW ac (a 1) tx ++ (shW ac (a 2) now ++ (shW ac (a 3) tr ++ (teW ac (a 4) (a 1) (a 10) te ++ (paW ac a u4.1 ++ (fcW ac (a 6) w1 w2 fc ++ (frW ac (a 7) to ++ (frW ac (a 8) tp ++ (reW ac (a 9) u4.2.1 ++ (shW ac (a 40) k0 ++ (shW ac (a 41) k1 ++ (shW ac (a 10) ti))))))))))))) ++ ringW ac a u4.2.2) H := zP_un hP
        have hD : va_D A ((koW ac a ko ++ (txW ac (a 1) tx ++ (shW ac (a 2) now ++ (shW ac (a 3) tr ++ (teW ac (a 4) (a 1) (a 10) te ++ (paW ac a u4.1 ++ (fcW ac (a 6) w1 w2 fc ++ (frW ac (a 7) to ++ (frW ac (a 8) tp ++ (reW ac (a 9) u4.2.1 ++ (shW ac (a 40) k0 ++ (shW ac (a 41) k1 ++ (shW ac (a 10) ti))))))))))))) ++ ringW ac a u4.2.2) := zD_un hD
        refine lv_aload_n hx hb dX7_again_24 rfl (lv_at hl 0 rfl) ?_
        refine va_get (D := D) (ci := 7) (v := .ref (a 2 0)) (C := RX7) (T := TX7) (N := 13) hx hb htw WW_wsX70 hown hKX.1 hP 0 rfl rfl 2 (Nat.le_of_ble_eq_true rfl) (htw _ mF_RX7_26) (fun _ h9 => h9) rfl dX7_again_25 ?_
        refine lv_aload_n hx hb dX7_again_28 rfl (lv_at hl 0 rfl) ?_
        refine va_get (D := D) (ci := 7) (v := .ref (a 0 1)) (C := RX7) (T := TX7) (N := 13) hx hb htw WW_wsX70 hown hKX.1 hP 0 rfl rfl 5 (Nat.le_of_ble_eq_true rfl) (htw _ mF_RX7_40) (fun _ h9 => h9) rfl dX7_again_29 ?_
        refine lv_iload_n hx hb dX7_again_32 rfl (lv_at hl 1 rfl) ?_
        by_cases c5 : a1 = 0
        · have hf := z_p c5 hf
          refine zv_aldq (b := a 40 0) hx hb hKX.1 hP 1 5 rfl rfl (z_in_c rfl (Nat.le_of_ble_eq_true rfl) c1 c2) (by rw [c5]; rfl) dX7_again_33 ?_
          obtain ⟨u6, hu6, hf⟩ := z_bd_u hf
          refine zc_MVvT (As := [.ref (a 40 0)]) (rest := []) (wr := koW ac a ko ++ (txW ac (a 1) tx ++ (shW ac (a 3) tr ++ (teW ac (a 4) (a 1) (a 10) te ++ (paW ac a u4.1 ++ (fcW ac (a 6) w1 w2 fc ++ (frW ac (a 7) to ++ (frW ac (a 8) tp ++ (reW ac (a 9) u4.2.1 ++ (shW ac (a 41) k1 ++ (shW ac (a 10) ti))))))))))) (wsc := shW ac (a 2) now ++ (shW ac (a 40) k0)) (wsc' := shW ac (a 2) u6 ++ (shW ac (a 40) k0)) hx hb hml hown htw (ctX4_copyFrom l D ac cs (a 2) (a 40) H.size now k0    F u6 hu6) (g_V mM_RX7_93 mI_yX4_copyFrom mS_RX4_yX4_copyFrom_yX4_copyFrom mN_RX4 mC_yX4_copyFrom) rfl (hd_yX4_copyFrom) ⟨rfl, rfl⟩ ⟨(Nat.le_of_ble_eq_true rfl), (Nat.le_of_ble_eq_true rfl)⟩ hKX hC hS hA hP hD [6, 7, 8, 29, 30, 31] [0, 1, 2, 3, 4, 5, 9, 10, 11, 12, 13, 14, 15, 16, 17, 18, 19, 20, 21, 22, 23, 24, 25, 26, 27, 28, 32, 33, 34, 35, 36, 37] rfl (by decide) rfl (by decide) (by decide) 4 rfl rfl rfl hl.1 rfl (Nat.le_of_ble_eq_true rfl) ⟨Nat.zero_le _, Nat.zero_le _⟩ dX7_again_34 (fun H locs hP hD hS => ?_)
          have hP : va_P D vwCl ((koW ac a ko ++ (txW ac (a 1) tx ++ (shW ac (a 2) u6 ++ (shW ac (a 3) tr ++ (teW ac (a 4) (a 1) (a 10) te ++ (paW ac a u4.1 ++ (fcW ac (a 6) w1 w2 fc ++ (frW ac (a 7) to ++ (frW ac (a 8) tp ++ (reW ac (a 9) u4.2.1 ++ (shW ac (a 40) k0 ++ (shW ac (a 41) k1 ++ (shW ac (a 10) ti))))))))))))) ++ ringW ac a u4.2.2) H := zsubPT hP [0, 1, 2, 3, 4, 5, 32, 33, 34, 6, 7, 8, 9, 10, 11, 12, 13, 14, 15, 16, 17, 18, 19, 20, 21, 22, 23, 24, 25, 35, 36, 37, 26, 27, 28, 29, 30, 31] rfl
          have hD : va_D A ((koW ac a ko ++ (txW ac (a 1) tx ++ (shW ac (a 2) u6 ++ (shW ac (a 3) tr ++ (teW ac (a 4) (a 1) (a 10) te ++ (paW ac a u4.1 ++ (fcW ac (a 6) w1 w2 fc ++ (frW ac (a 7) to ++ (frW ac (a 8) tp ++ (reW ac (a 9) u4.2.1 ++ (shW ac (a 40) k0 ++ (shW ac (a 41) k1 ++ (shW ac (a 10) ti))))))))))))) ++ ringW ac a u4.2.2) := zsubDT hD [0, 1, 2, 3, 4, 5, 32, 33, 34, 6, 7, 8, 9, 10, 11, 12, 13, 14, 15, 16, 17, 18, 19, 20, 21, 22, 23, 24, 25, 35, 36, 37, 26, 27, 28, 29, 30, 31] (by decide) rfl
          refine lv_iconst (v := 1) hx hb dX7_again_37 rfl ?_
          obtain rfl := Option.some.inj hf
          exact zr_Mz hx hb hr hlocks (z_b_n z_b1) hP hD hS dX7_again_38
        have hf := z_n c5 hf
        refine zv_aldq (b := a 41 0) hx hb hKX.1 hP 1 5 rfl rfl (z_in_c rfl (Nat.le_of_ble_eq_true rfl) c1 c2) (z_k1 c5 (z_in_c rfl (Nat.le_of_ble_eq_true rfl) c1 c2)) dX7_again_33 ?_
        obtain ⟨u7, hu7, hf⟩ := z_bd_u hf
        refine zc_MVvT (As := [.ref (a 41 0)]) (rest := []) (wr := koW ac a ko ++ (txW ac (a 1) tx ++ (shW ac (a 3) tr ++ (teW ac (a 4) (a 1) (a 10) te ++ (paW ac a u4.1 ++ (fcW ac (a 6) w1 w2 fc ++ (frW ac (a 7) to ++ (frW ac (a 8) tp ++ (reW ac (a 9) u4.2.1 ++ (shW ac (a 40) k0 ++ (shW ac (a 10) ti))))))))))) (wsc := shW ac (a 2) now ++ (shW ac (a 41) k1)) (wsc' := shW ac (a 2) u7 ++ (shW ac (a 41) k1)) hx hb hml hown htw (ctX4_copyFrom l D ac cs (a 2) (a 41) H.size now k1    F u7 hu7) (g_V mM_RX7_93 mI_yX4_copyFrom mS_RX4_yX4_copyFrom_yX4_copyFrom mN_RX4 mC_yX4_copyFrom) rfl (hd_yX4_copyFrom) ⟨rfl, rfl⟩ ⟨(Nat.le_of_ble_eq_true rfl), (Nat.le_of_ble_eq_true rfl)⟩ hKX hC hS hA hP hD [6, 7, 8, 32, 33, 34] [0, 1, 2, 3, 4, 5, 9, 10, 11, 12, 13, 14, 15, 16, 17, 18, 19, 20, 21, 22, 23, 24, 25, 26, 27, 28, 29, 30, 31, 35, 36, 37] rfl (by decide) rfl (by decide) (by decide) 4 rfl rfl rfl hl.1 rfl (Nat.le_of_ble_eq_true rfl) ⟨Nat.zero_le _, Nat.zero_le _⟩ dX7_again_34 (fun H locs hP hD hS => ?_)
        have hP : va_P D vwCl ((koW ac a ko ++ (txW ac (a 1) tx ++ (shW ac (a 2) u7 ++ (shW ac (a 3) tr ++ (teW ac (a 4) (a 1) (a 10) te ++ (paW ac a u4.1 ++ (fcW ac (a 6) w1 w2 fc ++ (frW ac (a 7) to ++ (frW ac (a 8) tp ++ (reW ac (a 9) u4.2.1 ++ (shW ac (a 40) k0 ++ (shW ac (a 41) k1 ++ (shW ac (a 10) ti))))))))))))) ++ ringW ac a u4.2.2) H := zsubPT hP [0, 1, 2, 3, 4, 5, 32, 33, 34, 6, 7, 8, 9, 10, 11, 12, 13, 14, 15, 16, 17, 18, 19, 20, 21, 22, 23, 24, 25, 26, 27, 28, 35, 36, 37, 29, 30, 31] rfl
        have hD : va_D A ((koW ac a ko ++ (txW ac (a 1) tx ++ (shW ac (a 2) u7 ++ (shW ac (a 3) tr ++ (teW ac (a 4) (a 1) (a 10) te ++ (paW ac a u4.1 ++ (fcW ac (a 6) w1 w2 fc ++ (frW ac (a 7) to ++ (frW ac (a 8) tp ++ (reW ac (a 9) u4.2.1 ++ (shW ac (a 40) k0 ++ (shW ac (a 41) k1 ++ (shW ac (a 10) ti))))))))))))) ++ ringW ac a u4.2.2) := zsubDT hD [0, 1, 2, 3, 4, 5, 32, 33, 34, 6, 7, 8, 9, 10, 11, 12, 13, 14, 15, 16, 17, 18, 19, 20, 21, 22, 23, 24, 25, 26, 27, 28, 35, 36, 37, 29, 30, 31] (by decide) rfl
        refine lv_iconst (v := 1) hx hb dX7_again_37 rfl ?_
        obtain rfl := Option.some.inj hf
        exact zr_Mz hx hb hr hlocks (z_b_n z_b1) hP hD hS dX7_again_38
      · have hf := z_p c3 hf
        refine lv_iconst (v := 0) hx hb dX7_again_18 rfl ?_
        obtain rfl := Option.some.inj hf
        exact zr_Mz hx hb hr hlocks (z_b_n z_b0) hP hD hS dX7_again_19

theorem hd_yX7_count : hdY yX7_count 1 := by decide +kernel
def K_count (tx : Tx) (now : Sh) (pa : Pa) (a1 : Int32) : Int32 := if a1 = 0 then (sh_shooters now) else (if a1 = 1 then (sh_kicks now) else (if a1 = 2 then (sh_order now) else (if a1 = 3 then (sh_first now) else (if a1 = 4 then (if Sh_isOver now = 0 then 0 else 1) else (if a1 = 5 then (tx_length tx) else (if a1 = 6 then (pa_size pa) else (-1)))))))
set_option maxHeartbeats 4000000 in
set_option maxRecDepth 100000 in
theorem ctX7_count (l : Launch) (D : va_G) (ac cs : Nat → Nat) (a : Nat → Nat → Nat) (w1 w2 : Nat) (ko : Ko) (tx : Tx) (now : Sh) (tr : Sh) (te : Te) (pa : Pa) (fc : Fc) (to : Fr) (tp : Fr) (re : Re) (k0 : Sh) (k1 : Sh) (ti : Sh) (rg : Nat → Sh) (a1 : Int32) (res : Int32) (hf : K_count tx now pa a1 = res) : Met l yX7_count (cWW yX7_count cX7_count 2 (some .int)) { frames := 2, cells := 0, slots := 0, locals := 46 } (zR D ac cs [.ref (a 0 0), .int a1] ((koW ac a ko ++ (txW ac (a 1) tx ++ (shW ac (a 2) now ++ (shW ac (a 3) tr ++ (teW ac (a 4) (a 1) (a 10) te ++ (paW ac a pa ++ (fcW ac (a 6) w1 w2 fc ++ (frW ac (a 7) to ++ (frW ac (a 8) tp ++ (reW ac (a 9) re ++ (shW ac (a 40) k0 ++ (shW ac (a 41) k1 ++ (shW ac (a 10) ti))))))))))))) ++ ringW ac a rg)) (vp_Si (fun r => r = res)) 0 0 (fun _ => False) := by
  refine Met.ofW (cc := cX7_count) (maxL := 2) (ret := (some .int)) (by decide) rfl ?_
  intro p e s m args below meth c s₁ B hml hv
  obtain ⟨rfl, hP, hKX, hC⟩ := hv
  have hx := B.exec
  have hb := B.bytes
  have hr := B.returns
  have hts := atoms_spec (ws := cWW yX7_count cX7_count 2 (some .int)) B.pre
  have htw : ∀ w ∈ WW, w.before _ s = true := fun w h => hts w (List.mem_cons_of_mem _ h)
  have hown : s.vm.findClass RX7 = some m.cls := findClass_of_methodNamed B.named
  have hlocks := B.notSynchronized
  clear hts B
  have hS : va_S (fun _ => False) s.heap s.heap [] := va_S.rf
  have hl := lv_entry ([.ref (a 0 0), .int a1]) (n := 2) (Nat.le_of_ble_eq_true rfl)
  rw [lg_entry_eq]
  generalize (lg_sl ([.ref (a 0 0), .int a1]) ++ List.replicate (2 - (lg_sl ([.ref (a 0 0), .int a1])).length) Slot.unset).toArray = ls at hl ⊢
  have hl : lv_has ls 2 [(0, .ref (a 0 0)), (1, .int a1)] := hl
  unfold K_count at hf
  show W p l e ({ frames := 2, cells := 0, slots := 0, locals := 46 } : Room) s m _ below meth c s.heap [] 0 0 _ (F0 m 0 ls [])
  refine lv_iload_n hx hb dX7_count_0 rfl (lv_at hl 1 rfl) ?_
  by_cases c1 : a1 = 0
  · have hf := z_p c1 hf
    refine lv_tableIn (tgt := 44) hx hb dX7_count_1 (by rw [c1]; decide +kernel) (by rw [c1]; decide +kernel) (by rw [c1]; rfl) (by decide +kernel) ?_
    refine lv_aload_n hx hb dX7_count_44 rfl (lv_at hl 0 rfl) ?_
    refine va_get (D := D) (ci := 7) (v := .ref (a 2 0)) (C := RX7) (T := TX7) (N := 13) hx hb htw WW_wsX70 hown hKX.1 hP 0 rfl rfl 2 (Nat.le_of_ble_eq_true rfl) (htw _ mF_RX7_26) (fun _ h9 => h9) rfl dX7_count_45 ?_
    refine va_getN (D := D) (ci := 4) (v := .int (sh_shooters now)) (C := RX4) (T := TX4) (N := 10) hx hb htw WW_wsX40 hown hKX.1 hP 6 rfl rfl 0 (Nat.le_of_ble_eq_true rfl) (va_Nw.use rfl (hKX.2 _ (List.mem_of_getElem? (i := 3) rfl))) (fun _ h9 => h9) rfl dX7_count_48 ?_
    exact zr_Ri hx hb hr hlocks hf dX7_count_51
  have hf := z_n c1 hf
  by_cases c2 : a1 = 1
  · have hf := z_p c2 hf
    refine lv_tableIn (tgt := 52) hx hb dX7_count_1 (by rw [c2]; decide +kernel) (by rw [c2]; decide +kernel) (by rw [c2]; rfl) (by decide +kernel) ?_
    refine lv_aload_n hx hb dX7_count_52 rfl (lv_at hl 0 rfl) ?_
    refine va_get (D := D) (ci := 7) (v := .ref (a 2 0)) (C := RX7) (T := TX7) (N := 13) hx hb htw WW_wsX70 hown hKX.1 hP 0 rfl rfl 2 (Nat.le_of_ble_eq_true rfl) (htw _ mF_RX7_26) (fun _ h9 => h9) rfl dX7_count_53 ?_
    refine va_getN (D := D) (ci := 4) (v := .int (sh_kicks now)) (C := RX4) (T := TX4) (N := 10) hx hb htw WW_wsX40 hown hKX.1 hP 6 rfl rfl 3 (Nat.le_of_ble_eq_true rfl) (va_Nw.use rfl (hKX.2 _ (List.mem_of_getElem? (i := 11) rfl))) (fun _ h9 => h9) rfl dX7_count_56 ?_
    exact zr_Ri hx hb hr hlocks hf dX7_count_59
  have hf := z_n c2 hf
  by_cases c3 : a1 = 2
  · have hf := z_p c3 hf
    refine lv_tableIn (tgt := 60) hx hb dX7_count_1 (by rw [c3]; decide +kernel) (by rw [c3]; decide +kernel) (by rw [c3]; rfl) (by decide +kernel) ?_
    refine lv_aload_n hx hb dX7_count_60 rfl (lv_at hl 0 rfl) ?_
    refine va_get (D := D) (ci := 7) (v := .ref (a 2 0)) (C := RX7) (T := TX7) (N := 13) hx hb htw WW_wsX70 hown hKX.1 hP 0 rfl rfl 2 (Nat.le_of_ble_eq_true rfl) (htw _ mF_RX7_26) (fun _ h9 => h9) rfl dX7_count_61 ?_
    refine va_getN (D := D) (ci := 4) (v := .int (sh_order now)) (C := RX4) (T := TX4) (N := 10) hx hb htw WW_wsX40 hown hKX.1 hP 6 rfl rfl 1 (Nat.le_of_ble_eq_true rfl) (va_Nw.use rfl (hKX.2 _ (List.mem_of_getElem? (i := 5) rfl))) (fun _ h9 => h9) rfl dX7_count_64 ?_
    exact zr_Ri hx hb hr hlocks hf dX7_count_67
  have hf := z_n c3 hf
  by_cases c4 : a1 = 3
  · have hf := z_p c4 hf
    refine lv_tableIn (tgt := 68) hx hb dX7_count_1 (by rw [c4]; decide +kernel) (by rw [c4]; decide +kernel) (by rw [c4]; rfl) (by decide +kernel) ?_
    refine lv_aload_n hx hb dX7_count_68 rfl (lv_at hl 0 rfl) ?_
    refine va_get (D := D) (ci := 7) (v := .ref (a 2 0)) (C := RX7) (T := TX7) (N := 13) hx hb htw WW_wsX70 hown hKX.1 hP 0 rfl rfl 2 (Nat.le_of_ble_eq_true rfl) (htw _ mF_RX7_26) (fun _ h9 => h9) rfl dX7_count_69 ?_
    refine va_getN (D := D) (ci := 4) (v := .int (sh_first now)) (C := RX4) (T := TX4) (N := 10) hx hb htw WW_wsX40 hown hKX.1 hP 6 rfl rfl 2 (Nat.le_of_ble_eq_true rfl) (va_Nw.use rfl (hKX.2 _ (List.mem_of_getElem? (i := 8) rfl))) (fun _ h9 => h9) rfl dX7_count_72 ?_
    exact zr_Ri hx hb hr hlocks hf dX7_count_75
  have hf := z_n c4 hf
  by_cases c5 : a1 = 4
  · have hf := z_p c5 hf
    refine lv_tableIn (tgt := 76) hx hb dX7_count_1 (by rw [c5]; decide +kernel) (by rw [c5]; decide +kernel) (by rw [c5]; rfl) (by decide +kernel) ?_
    refine lv_aload_n hx hb dX7_count_76 rfl (lv_at hl 0 rfl) ?_
    refine va_get (D := D) (ci := 7) (v := .ref (a 2 0)) (C := RX7) (T := TX7) (N := 13) hx hb htw WW_wsX70 hown hKX.1 hP 0 rfl rfl 2 (Nat.le_of_ble_eq_true rfl) (htw _ mF_RX7_26) (fun _ h9 => h9) rfl dX7_count_77 ?_
    refine zc_RVi (As := []) (rest := []) hx hb hml hown htw (ctX4_isOver l D ac cs (a 2) now    _ rfl) (g_V mM_RX7_168 mI_yX4_isOver mS_RX4_yX4_isOver_yX4_isOver mN_RX4 mC_yX4_isOver) rfl (hd_yX4_isOver) ⟨rfl, rfl⟩ ⟨(Nat.le_of_ble_eq_true rfl), (Nat.le_of_ble_eq_true rfl)⟩ hKX hC hS (hP.sub [6, 7, 8] rfl) 4 rfl rfl rfl hl.1 rfl (Nat.le_of_ble_eq_true rfl) ⟨Nat.zero_le _, Nat.zero_le _⟩ dX7_count_80 ?_
    refine lv_if_eq (tgt := 90) hx hb dX7_count_83 (by decide) (fun c6 => ?_) (fun c6 => ?_)
    · have hf := z_p c6 hf
      refine lv_iconst (v := 0) hx hb dX7_count_90 rfl ?_
      exact zr_Ri hx hb hr hlocks hf dX7_count_91
    · have hf := z_n c6 hf
      refine lv_iconst (v := 1) hx hb dX7_count_86 rfl ?_
      refine lv_goto (tgt := 91) hx hb dX7_count_87 (by decide) ?_
      exact zr_Ri hx hb hr hlocks hf dX7_count_91
  have hf := z_n c5 hf
  by_cases c7 : a1 = 5
  · have hf := z_p c7 hf
    refine lv_tableIn (tgt := 92) hx hb dX7_count_1 (by rw [c7]; decide +kernel) (by rw [c7]; decide +kernel) (by rw [c7]; rfl) (by decide +kernel) ?_
    refine lv_aload_n hx hb dX7_count_92 rfl (lv_at hl 0 rfl) ?_
    refine va_get (D := D) (ci := 7) (v := .ref (a 1 0)) (C := RX7) (T := TX7) (N := 13) hx hb htw WW_wsX70 hown hKX.1 hP 0 rfl rfl 1 (Nat.le_of_ble_eq_true rfl) (htw _ mF_RX7_22) (fun _ h9 => h9) rfl dX7_count_93 ?_
    refine va_getN (D := D) (ci := 6) (v := .int (tx_length tx)) (C := RX6) (T := TX6) (N := 2) hx hb htw WW_wsX60 hown hKX.1 hP 4 rfl rfl 1 (Nat.le_of_ble_eq_true rfl) (va_Nw.use rfl (hKX.2 _ (List.mem_of_getElem? (i := 0) rfl))) (fun _ h9 => h9) rfl dX7_count_96 ?_
    exact zr_Ri hx hb hr hlocks hf dX7_count_99
  have hf := z_n c7 hf
  by_cases c8 : a1 = 6
  · have hf := z_p c8 hf
    refine lv_tableIn (tgt := 100) hx hb dX7_count_1 (by rw [c8]; decide +kernel) (by rw [c8]; decide +kernel) (by rw [c8]; rfl) (by decide +kernel) ?_
    refine lv_aload_n hx hb dX7_count_100 rfl (lv_at hl 0 rfl) ?_
    refine va_get (D := D) (ci := 7) (v := .ref (a 5 0)) (C := RX7) (T := TX7) (N := 13) hx hb htw WW_wsX70 hown hKX.1 hP 0 rfl rfl 4 (Nat.le_of_ble_eq_true rfl) (htw _ mF_RX7_36) (fun _ h9 => h9) rfl dX7_count_101 ?_
    refine va_getN (D := D) (ci := 2) (v := .int (pa_size pa)) (C := RX2) (T := TX2) (N := 3) hx hb htw WW_wsX20 hown hKX.1 hP 14 rfl rfl 2 (Nat.le_of_ble_eq_true rfl) (va_Nw.use rfl (hKX.2 _ (List.mem_of_getElem? (i := 14) rfl))) (fun _ h9 => h9) rfl dX7_count_104 ?_
    exact zr_Ri hx hb hr hlocks hf dX7_count_107
  have hf := z_n c8 hf
  refine lv_tableOut (tgt := 108) hx hb dX7_count_1 (z_tout0_6 c1 c2 c3 c4 c5 c7 c8) (by decide +kernel) ?_
  refine lv_iconst (v := (-1)) hx hb dX7_count_108 rfl ?_
  exact zr_Ri hx hb hr hlocks hf dX7_count_109

theorem hd_yX7_drawTrial : hdY yX7_drawTrial 1 := by decide +kernel
def K_drawTrial_L4 : Nat → Int32 → Int32 → Sh → Option (Int32 × Sh)
  | 0, _, _, _ => none
  | n5 + 1, x1, x2, sh3 => if 60 ≤ x2 then (some (x1, sh3)) else (if Sh_goesOn sh3 = 0 then (some (x1, sh3)) else (z_let (z_rem ((1103 * x1) + 12345) 1000003) (fun x9 : Int32 => z_let (if Sh_chance sh3 ≤ (z_rem x9 6) then 0 else 1) (fun v10 : Int32 => z_let (Sh_put sh3 v10) (fun u14 : Sh => z_let (x2 + 1) (fun x15 : Int32 => K_drawTrial_L4 n5 x9 x15 u14))))))
def K_drawTrial (F : Nat) (tr : Sh) (a1 : Int32) : Option (Int32 × Sh) := K_drawTrial_L4  F a1 0 tr
set_option maxHeartbeats 4000000 in
set_option maxRecDepth 100000 in
theorem ctX7_drawTrial (l : Launch) (D : va_G) (ac cs : Nat → Nat) (a : Nat → Nat → Nat) (w1 w2 : Nat) (sz : Nat) (ko : Ko) (tx : Tx) (now : Sh) (tr : Sh) (te : Te) (pa : Pa) (fc : Fc) (to : Fr) (tp : Fr) (re : Re) (k0 : Sh) (k1 : Sh) (ti : Sh) (rg : Nat → Sh) (a1 : Int32) (F : Nat) (res : Int32 × Sh) (hf : K_drawTrial F tr a1 = some res) : Met l yX7_drawTrial (cWW yX7_drawTrial cX7_drawTrial 4 (some .int)) { frames := 5, cells := 0, slots := 0, locals := 105 } (zM D ac cs [.ref (a 0 0), .int a1] ((koW ac a ko ++ (txW ac (a 1) tx ++ (shW ac (a 2) now ++ (shW ac (a 3) tr ++ (teW ac (a 4) (a 1) (a 10) te ++ (paW ac a pa ++ (fcW ac (a 6) w1 w2 fc ++ (frW ac (a 7) to ++ (frW ac (a 8) tp ++ (reW ac (a 9) re ++ (shW ac (a 40) k0 ++ (shW ac (a 41) k1 ++ (shW ac (a 10) ti))))))))))))) ++ ringW ac a rg) sz) (va_Qi (fun r (_ : Unit) => r = res.1) (fun _ => zB D (va_A ((koW ac a ko ++ (txW ac (a 1) tx ++ (shW ac (a 2) now ++ (shW ac (a 3) tr ++ (teW ac (a 4) (a 1) (a 10) te ++ (paW ac a pa ++ (fcW ac (a 6) w1 w2 fc ++ (frW ac (a 7) to ++ (frW ac (a 8) tp ++ (reW ac (a 9) re ++ (shW ac (a 40) k0 ++ (shW ac (a 41) k1 ++ (shW ac (a 10) ti))))))))))))) ++ ringW ac a rg) sz) ((koW ac a ko ++ (txW ac (a 1) tx ++ (shW ac (a 2) now ++ (shW ac (a 3) res.2 ++ (teW ac (a 4) (a 1) (a 10) te ++ (paW ac a pa ++ (fcW ac (a 6) w1 w2 fc ++ (frW ac (a 7) to ++ (frW ac (a 8) tp ++ (reW ac (a 9) re ++ (shW ac (a 40) k0 ++ (shW ac (a 41) k1 ++ (shW ac (a 10) ti))))))))))))) ++ ringW ac a rg)) (va_A ((koW ac a ko ++ (txW ac (a 1) tx ++ (shW ac (a 2) now ++ (shW ac (a 3) tr ++ (teW ac (a 4) (a 1) (a 10) te ++ (paW ac a pa ++ (fcW ac (a 6) w1 w2 fc ++ (frW ac (a 7) to ++ (frW ac (a 8) tp ++ (reW ac (a 9) re ++ (shW ac (a 40) k0 ++ (shW ac (a 41) k1 ++ (shW ac (a 10) ti))))))))))))) ++ ringW ac a rg) sz)) 0 0 (va_A ((koW ac a ko ++ (txW ac (a 1) tx ++ (shW ac (a 2) now ++ (shW ac (a 3) tr ++ (teW ac (a 4) (a 1) (a 10) te ++ (paW ac a pa ++ (fcW ac (a 6) w1 w2 fc ++ (frW ac (a 7) to ++ (frW ac (a 8) tp ++ (reW ac (a 9) re ++ (shW ac (a 40) k0 ++ (shW ac (a 41) k1 ++ (shW ac (a 10) ti))))))))))))) ++ ringW ac a rg) sz) := by
  refine Met.ofW (cc := cX7_drawTrial) (maxL := 4) (ret := (some .int)) (by decide) rfl ?_
  intro p e s m args below meth c s₁ B hml hv
  obtain ⟨rfl, hsz, hP, hKX, hD0, hC⟩ := hv
  have hx := B.exec
  have hb := B.bytes
  have hr := B.returns
  have hts := atoms_spec (ws := cWW yX7_drawTrial cX7_drawTrial 4 (some .int)) B.pre
  have htw : ∀ w ∈ WW, w.before _ s = true := fun w h => hts w (List.mem_cons_of_mem _ h)
  have hown : s.vm.findClass RX7 = some m.cls := findClass_of_methodNamed B.named
  have hlocks := B.notSynchronized
  clear hts B
  subst hsz
  have hD := hD0.self (sz := s.heap.size)
  generalize hAe : va_A ((koW ac a ko ++ (txW ac (a 1) tx ++ (shW ac (a 2) now ++ (shW ac (a 3) tr ++ (teW ac (a 4) (a 1) (a 10) te ++ (paW ac a pa ++ (fcW ac (a 6) w1 w2 fc ++ (frW ac (a 7) to ++ (frW ac (a 8) tp ++ (reW ac (a 9) re ++ (shW ac (a 40) k0 ++ (shW ac (a 41) k1 ++ (shW ac (a 10) ti))))))))))))) ++ ringW ac a rg) s.heap.size = A at hD hC ⊢
  have hA : ∀ q : Nat, s.heap.size ≤ q → A q := fun q h => by rw [← hAe]; exact Or.inr h
  have hS : va_S A s.heap s.heap [] := va_S.rf
  clear hD0 hAe
  have hP : va_P D vwCl ((koW ac a ko ++ (txW ac (a 1) tx ++ (shW ac (a 2) now ++ (shW ac (a 3) tr ++ (teW ac (a 4) (a 1) (a 10) te ++ (paW ac a pa ++ (fcW ac (a 6) w1 w2 fc ++ (frW ac (a 7) to ++ (frW ac (a 8) tp ++ (reW ac (a 9) re ++ (shW ac (a 40) k0 ++ (shW ac (a 41) k1 ++ (shW ac (a 10) ti))))))))))))) ++ ringW ac a rg) s.heap := hP
  have hl := lv_entry ([.ref (a 0 0), .int a1]) (n := 4) (Nat.le_of_ble_eq_true rfl)
  rw [lg_entry_eq]
  generalize (lg_sl ([.ref (a 0 0), .int a1]) ++ List.replicate (4 - (lg_sl ([.ref (a 0 0), .int a1])).length) Slot.unset).toArray = ls at hl ⊢
  have hl : lv_has ls 4 [(0, .ref (a 0 0)), (1, .int a1)] := hl
  unfold K_drawTrial at hf
  show W p l e ({ frames := 5, cells := 0, slots := 0, locals := 105 } : Room) s m _ below meth c s.heap [] 0 0 _ (F0 m 0 ls [])
  refine lv_iload_n hx hb dX7_drawTrial_0 rfl (lv_at hl 1 rfl) ?_
  refine lv_istore_n (lv' := [(2, .int a1), (0, .ref (a 0 0)), (1, .int a1)]) hx hb dX7_drawTrial_1 rfl hl (Nat.le_of_ble_eq_true rfl) rfl (fun ls hl => ?_)
  refine lv_iconst (v := 0) hx hb dX7_drawTrial_2 rfl ?_
  refine lv_istore_n (lv' := [(3, .int 0), (2, .int a1), (0, .ref (a 0 0)), (1, .int a1)]) hx hb dX7_drawTrial_3 rfl hl (Nat.le_of_ble_eq_true rfl) rfl (fun ls hl => ?_)
  have hL4 : ∀ (n5 : Nat) (x1 : Int32) (x2 : Int32) (sh3 : Sh), K_drawTrial_L4 n5 x1 x2 sh3 = some res → ∀ (H : Heap) (locs : List Loc) (ls : Array Slot), va_P D vwCl ((koW ac a ko ++ (txW ac (a 1) tx ++ (shW ac (a 2) now ++ (shW ac (a 3) sh3 ++ (teW ac (a 4) (a 1) (a 10) te ++ (paW ac a pa ++ (fcW ac (a 6) w1 w2 fc ++ (frW ac (a 7) to ++ (frW ac (a 8) tp ++ (reW ac (a 9) re ++ (shW ac (a 40) k0 ++ (shW ac (a 41) k1 ++ (shW ac (a 10) ti))))))))))))) ++ ringW ac a rg) H → va_D A ((koW ac a ko ++ (txW ac (a 1) tx ++ (shW ac (a 2) now ++ (shW ac (a 3) sh3 ++ (teW ac (a 4) (a 1) (a 10) te ++ (paW ac a pa ++ (fcW ac (a 6) w1 w2 fc ++ (frW ac (a 7) to ++ (frW ac (a 8) tp ++ (reW ac (a 9) re ++ (shW ac (a 40) k0 ++ (shW ac (a 41) k1 ++ (shW ac (a 10) ti))))))))))))) ++ ringW ac a rg) → va_S A s.heap H locs → lv_has ls 4 [(0, .ref (a 0 0)), (2, .int x1), (3, .int x2)] → W p l e ({ frames := 5, cells := 0, slots := 0, locals := 105 } : Room) s m (([.ref (a 0 0), .int a1] : List Value).toArray) below meth c H locs 0 0 (MQ below (va_Qi (fun r (_ : Unit) => r = res.1) (fun _ => zB D A ((koW ac a ko ++ (txW ac (a 1) tx ++ (shW ac (a 2) now ++ (shW ac (a 3) res.2 ++ (teW ac (a 4) (a 1) (a 10) te ++ (paW ac a pa ++ (fcW ac (a 6) w1 w2 fc ++ (frW ac (a 7) to ++ (frW ac (a 8) tp ++ (reW ac (a 9) re ++ (shW ac (a 40) k0 ++ (shW ac (a 41) k1 ++ (shW ac (a 10) ti))))))))))))) ++ ringW ac a rg)) A) ([.ref (a 0 0), .int a1] : List Value).toArray s 0 0 A) (F0 m 4 ls []) := by
    intro n5
    induction n5 with
    | zero => intro x1 x2 sh3 hf; rw [K_drawTrial_L4] at hf; cases hf
    | succ n5 ih6 =>
      intro x1 x2 sh3 hf H locs ls hP hD hS hl
      rw [K_drawTrial_L4] at hf
      refine lv_iload_n hx hb dX7_drawTrial_4 rfl (lv_at hl 2 rfl) ?_
      refine lv_bipush (v := 60) hx hb dX7_drawTrial_5 rfl ?_
      refine lv_icmp_ge (tgt := 66) hx hb dX7_drawTrial_7 (by decide) (fun c7 => ?_) (fun c7 => ?_)
      · have hf := z_p c7 hf
        refine lv_iload_n hx hb dX7_drawTrial_66 rfl (lv_at hl 1 rfl) ?_
        obtain rfl := Option.some.inj hf
        exact zr_Mi hx hb hr hlocks hP hD hS dX7_drawTrial_67
      · have hf := z_n c7 hf
        refine lv_aload_n hx hb dX7_drawTrial_10 rfl (lv_at hl 0 rfl) ?_
        refine va_get (D := D) (ci := 7) (v := .ref (a 3 0)) (C := RX7) (T := TX7) (N := 13) hx hb htw WW_wsX70 hown hKX.1 hP 0 rfl rfl 3 (Nat.le_of_ble_eq_true rfl) (htw _ mF_RX7_30) (fun _ h9 => h9) rfl dX7_drawTrial_11 ?_
        refine zc_RVi (As := []) (rest := []) hx hb hml hown htw (ctX4_goesOn l D ac cs (a 3) sh3    _ rfl) (g_V mM_RX7_126 mI_yX4_goesOn mS_RX4_yX4_goesOn_yX4_goesOn mN_RX4 mC_yX4_goesOn) rfl (hd_yX4_goesOn) ⟨rfl, rfl⟩ ⟨(Nat.le_of_ble_eq_true rfl), (Nat.le_of_ble_eq_true rfl)⟩ hKX hC hS (hP.sub [9, 10, 11] rfl) 4 rfl rfl rfl hl.1 rfl (Nat.le_of_ble_eq_true rfl) ⟨Nat.zero_le _, Nat.zero_le _⟩ dX7_drawTrial_14 ?_
        refine lv_if_eq (tgt := 66) hx hb dX7_drawTrial_17 (by decide) (fun c8 => ?_) (fun c8 => ?_)
        · have hf := z_p c8 hf
          refine lv_iload_n hx hb dX7_drawTrial_66 rfl (lv_at hl 1 rfl) ?_
          obtain rfl := Option.some.inj hf
          exact zr_Mi hx hb hr hlocks hP hD hS dX7_drawTrial_67
        · have hf := z_n c8 hf
          refine lv_sipush (v := 1103) hx hb dX7_drawTrial_20 rfl ?_
          refine lv_iload_n hx hb dX7_drawTrial_23 rfl (lv_at hl 1 rfl) ?_
          refine lv_imul hx hb dX7_drawTrial_24 ?_
          refine lv_sipush (v := 12345) hx hb dX7_drawTrial_25 rfl ?_
          refine lv_iadd hx hb dX7_drawTrial_28 ?_
          refine lv_ldcw (v := 1000003) hx hb hown (htw _ mG_RX7_340) dX7_drawTrial_29 ?_
          refine zv_irem hx hb dX7_drawTrial_32 (by decide) ?_
          refine lv_topi (fun x9 hx9 => ?_)
          have hf := z_let_u hx9 hf
          refine lv_istore_n (lv' := [(2, .int x9), (0, .ref (a 0 0)), (3, .int x2)]) hx hb dX7_drawTrial_33 rfl hl (Nat.le_of_ble_eq_true rfl) rfl (fun ls hl => ?_)
          refine lv_aload_n hx hb dX7_drawTrial_34 rfl (lv_at hl 1 rfl) ?_
          refine va_get (D := D) (ci := 7) (v := .ref (a 3 0)) (C := RX7) (T := TX7) (N := 13) hx hb htw WW_wsX70 hown hKX.1 hP 0 rfl rfl 3 (Nat.le_of_ble_eq_true rfl) (htw _ mF_RX7_30) (fun _ h9 => h9) rfl dX7_drawTrial_35 ?_
          refine lv_iload_n hx hb dX7_drawTrial_38 rfl (lv_at hl 0 rfl) ?_
          refine lv_bipush (v := 6) hx hb dX7_drawTrial_39 rfl ?_
          refine zv_irem hx hb dX7_drawTrial_41 (by decide) ?_
          refine lv_aload_n hx hb dX7_drawTrial_42 rfl (lv_at hl 1 rfl) ?_
          refine va_get (D := D) (ci := 7) (v := .ref (a 3 0)) (C := RX7) (T := TX7) (N := 13) hx hb htw WW_wsX70 hown hKX.1 hP 0 rfl rfl 3 (Nat.le_of_ble_eq_true rfl) (htw _ mF_RX7_30) (fun _ h9 => h9) rfl dX7_drawTrial_43 ?_
          refine zc_RVi (As := []) (rest := [.int (z_rem x9 6), .ref (a 3 0)]) hx hb hml hown htw (ctX4_chance l D ac cs (a 3) sh3    _ rfl) (g_V mM_RX7_177 mI_yX4_chance mS_RX4_yX4_chance_yX4_chance mN_RX4 mC_yX4_chance) rfl (hd_yX4_chance) ⟨rfl, rfl⟩ ⟨(Nat.le_of_ble_eq_true rfl), (Nat.le_of_ble_eq_true rfl)⟩ hKX hC hS (hP.sub [9, 10, 11] rfl) 4 rfl rfl rfl hl.1 rfl (Nat.le_of_ble_eq_true rfl) ⟨Nat.zero_le _, Nat.zero_le _⟩ dX7_drawTrial_46 ?_
          have hj12 : ∀ (v10 : Int32), v10 = (if Sh_chance sh3 ≤ (z_rem x9 6) then 0 else 1) → z_b v10 = true → ∀ (H : Heap) (locs : List Loc) (ls : Array Slot), va_P D vwCl ((koW ac a ko ++ (txW ac (a 1) tx ++ (shW ac (a 2) now ++ (shW ac (a 3) sh3 ++ (teW ac (a 4) (a 1) (a 10) te ++ (paW ac a pa ++ (fcW ac (a 6) w1 w2 fc ++ (frW ac (a 7) to ++ (frW ac (a 8) tp ++ (reW ac (a 9) re ++ (shW ac (a 40) k0 ++ (shW ac (a 41) k1 ++ (shW ac (a 10) ti))))))))))))) ++ ringW ac a rg) H → va_D A ((koW ac a ko ++ (txW ac (a 1) tx ++ (shW ac (a 2) now ++ (shW ac (a 3) sh3 ++ (teW ac (a 4) (a 1) (a 10) te ++ (paW ac a pa ++ (fcW ac (a 6) w1 w2 fc ++ (frW ac (a 7) to ++ (frW ac (a 8) tp ++ (reW ac (a 9) re ++ (shW ac (a 40) k0 ++ (shW ac (a 41) k1 ++ (shW ac (a 10) ti))))))))))))) ++ ringW ac a rg) → va_S A s.heap H locs → lv_has ls 4 [(0, .ref (a 0 0)), (2, .int x9), (3, .int x2)] → W p l e ({ frames := 5, cells := 0, slots := 0, locals := 105 } : Room) s m (([.ref (a 0 0), .int a1] : List Value).toArray) below meth c H locs 0 0 (MQ below (va_Qi (fun r (_ : Unit) => r = res.1) (fun _ => zB D A ((koW ac a ko ++ (txW ac (a 1) tx ++ (shW ac (a 2) now ++ (shW ac (a 3) res.2 ++ (teW ac (a 4) (a 1) (a 10) te ++ (paW ac a pa ++ (fcW ac (a 6) w1 w2 fc ++ (frW ac (a 7) to ++ (frW ac (a 8) tp ++ (reW ac (a 9) re ++ (shW ac (a 40) k0 ++ (shW ac (a 41) k1 ++ (shW ac (a 10) ti))))))))))))) ++ ringW ac a rg)) A) ([.ref (a 0 0), .int a1] : List Value).toArray s 0 0 A) (F0 m 57 ls [.int v10, .ref (a 3 0)]) := by
            intro v10 hv10 bv10 H locs ls hP hD hS hl
            have hf := z_let_u hv10 hf
            obtain ⟨u14, hu14⟩ : ∃ y : Sh, y = Sh_put sh3 v10 := ⟨_, rfl⟩
            have hf := z_let_u hu14 hf
            refine zc_MVvT (As := [.int v10]) (rest := []) (wr := koW ac a ko ++ (txW ac (a 1) tx ++ (shW ac (a 2) now ++ (teW ac (a 4) (a 1) (a 10) te ++ (paW ac a pa ++ (fcW ac (a 6) w1 w2 fc ++ (frW ac (a 7) to ++ (frW ac (a 8) tp ++ (reW ac (a 9) re ++ (shW ac (a 40) k0 ++ (shW ac (a 41) k1 ++ (shW ac (a 10) ti)))))))))))) (wsc := shW ac (a 3) sh3) (wsc' := shW ac (a 3) u14) hx hb hml hown htw (ctX4_put l D ac cs (a 3) H.size sh3 v10   u14 hu14.symm) (g_V mM_RX7_136 mI_yX4_put mS_RX4_yX4_put_yX4_put mN_RX4 mC_yX4_put) rfl (hd_yX4_put) ⟨rfl, rfl⟩ ⟨(Nat.le_of_ble_eq_true rfl), (Nat.le_of_ble_eq_true rfl)⟩ hKX hC hS hA hP hD [9, 10, 11] [0, 1, 2, 3, 4, 5, 6, 7, 8, 12, 13, 14, 15, 16, 17, 18, 19, 20, 21, 22, 23, 24, 25, 26, 27, 28, 29, 30, 31, 32, 33, 34, 35, 36, 37] rfl (by decide) rfl (by decide) (by decide) 4 rfl rfl rfl hl.1 rfl (Nat.le_of_ble_eq_true rfl) ⟨Nat.zero_le _, Nat.zero_le _⟩ dX7_drawTrial_57 (fun H locs hP hD hS => ?_)
            have hP : va_P D vwCl ((koW ac a ko ++ (txW ac (a 1) tx ++ (shW ac (a 2) now ++ (shW ac (a 3) u14 ++ (teW ac (a 4) (a 1) (a 10) te ++ (paW ac a pa ++ (fcW ac (a 6) w1 w2 fc ++ (frW ac (a 7) to ++ (frW ac (a 8) tp ++ (reW ac (a 9) re ++ (shW ac (a 40) k0 ++ (shW ac (a 41) k1 ++ (shW ac (a 10) ti))))))))))))) ++ ringW ac a rg) H := zsubPT hP [0, 1, 2, 3, 4, 5, 6, 7, 8, 35, 36, 37, 9, 10, 11, 12, 13, 14, 15, 16, 17, 18, 19, 20, 21, 22, 23, 24, 25, 26, 27, 28, 29, 30, 31, 32, 33, 34] rfl
            have hD : va_D A ((koW ac a ko ++ (txW ac (a 1) tx ++ (shW ac (a 2) now ++ (shW ac (a 3) u14 ++ (teW ac (a 4) (a 1) (a 10) te ++ (paW ac a pa ++ (fcW ac (a 6) w1 w2 fc ++ (frW ac (a 7) to ++ (frW ac (a 8) tp ++ (reW ac (a 9) re ++ (shW ac (a 40) k0 ++ (shW ac (a 41) k1 ++ (shW ac (a 10) ti))))))))))))) ++ ringW ac a rg) := zsubDT hD [0, 1, 2, 3, 4, 5, 6, 7, 8, 35, 36, 37, 9, 10, 11, 12, 13, 14, 15, 16, 17, 18, 19, 20, 21, 22, 23, 24, 25, 26, 27, 28, 29, 30, 31, 32, 33, 34] (by decide) rfl
            obtain ⟨x15, hx15⟩ : ∃ y : Int32, y = (x2 + 1) := ⟨_, rfl⟩
            have hf := z_let_u hx15 hf
            refine lv_iinc (v := x15) (lv' := [(3, .int x15), (0, .ref (a 0 0)), (2, .int x9)]) hx hb dX7_drawTrial_60 hl (k := 2) rfl (by rw [hx15]; rfl) (Nat.le_of_ble_eq_true rfl) rfl (fun ls hl => ?_)
            refine lv_goto (tgt := 4) hx hb dX7_drawTrial_63 (by decide) ?_
            exact ih6 x9 x15 u14 hf _ _ ls  hP hD hS (lv_sub hl [1, 2, 0] rfl)
          refine lv_icmp_ge (tgt := 56) hx hb dX7_drawTrial_49 (by decide) (fun c13 => ?_) (fun c13 => ?_)
          · skip
            refine lv_iconst (v := 0) hx hb dX7_drawTrial_56 rfl ?_
            exact hj12 0 (if_pos c13).symm z_b0 _ _ ls hP hD hS (lv_sub hl [1, 0, 2] rfl)
          · skip
            refine lv_iconst (v := 1) hx hb dX7_drawTrial_52 rfl ?_
            refine lv_goto (tgt := 57) hx hb dX7_drawTrial_53 (by decide) ?_
            exact hj12 1 (if_neg c13).symm z_b1 _ _ ls hP hD hS (lv_sub hl [1, 0, 2] rfl)
  refine hL4  F a1 0 tr hf _ _ ls  hP hD hS (lv_sub hl [2, 1, 0] rfl)

theorem hd_yX7_drawn : hdY yX7_drawn 3 := by decide +kernel
def K_drawn_L58 (F : Nat) (now : Sh) (a2 : Int32) (a3 : Int32) (kx16 : Int32 → Int32 → Sh → Option (Int32 × Sh)) : Nat → Int32 → Int32 → Int32 → Int32 → Sh → Option (Int32 × Sh)
  | 0, _, _, _, _, _ => none
  | n14 + 1, x8, x9, x10, x11, sh12 => if a2 ≤ x11 then (kx16 x9 x10 sh12) else (z_bd (Sh_copyFrom F sh12 now) (fun u21 : Sh => z_bd (K_drawTrial F u21 x8) (fun u22 : Int32 × Sh => z_let u22.1 (fun x23 : Int32 => z_let (if Sh_winner u22.2 = a3 then 1 else 0) (fun v24 : Int32 => z_let (x9 + v24) (fun x28 : Int32 => z_let (if x10 < (sh_kicks u22.2) then (sh_kicks u22.2) else x10) (fun x29 : Int32 => z_let (x11 + 1) (fun x30 : Int32 => K_drawn_L58 F now a2 a3 kx16 n14 x23 x28 x29 x30 u22.2))))))))
def K_drawn (F : Nat) (now : Sh) (tr : Sh) (a1 : Int32) (a2 : Int32) (a3 : Int32) : Option (Int32 × Sh) := if a1 < 0 then (some ((-1), tr)) else (if 999999 < a1 then (some ((-1), tr)) else (if a2 < 1 then (some ((-1), tr)) else (if 100 < a2 then (some ((-1), tr)) else (if a3 < 0 then (some ((-1), tr)) else (if a3 ≤ 3 then (if (sh_shooters now) = 0 then (some ((-2), tr)) else (K_drawn_L58 F now a2 a3 (fun (x17 : Int32) (x18 : Int32) (sh19 : Sh) => if a3 = 3 then (some (x18, sh19)) else (some (x17, sh19))) F a1 0 0 0 tr)) else (some ((-1), tr)))))))
set_option maxHeartbeats 4000000 in
set_option maxRecDepth 100000 in
theorem ctX7_drawn (l : Launch) (D : va_G) (ac cs : Nat → Nat) (a : Nat → Nat → Nat) (w1 w2 : Nat) (sz : Nat) (ko : Ko) (tx : Tx) (now : Sh) (tr : Sh) (te : Te) (pa : Pa) (fc : Fc) (to : Fr) (tp : Fr) (re : Re) (k0 : Sh) (k1 : Sh) (ti : Sh) (rg : Nat → Sh) (a1 : Int32) (a2 : Int32) (a3 : Int32) (F : Nat) (res : Int32 × Sh) (hf : K_drawn F now tr a1 a2 a3 = some res) : Met l yX7_drawn (cWW yX7_drawn cX7_drawn 8 (some .int)) { frames := 6, cells := 0, slots := 0, locals := 128 } (zM D ac cs [.ref (a 0 0), .int a1, .int a2, .int a3] ((koW ac a ko ++ (txW ac (a 1) tx ++ (shW ac (a 2) now ++ (shW ac (a 3) tr ++ (teW ac (a 4) (a 1) (a 10) te ++ (paW ac a pa ++ (fcW ac (a 6) w1 w2 fc ++ (frW ac (a 7) to ++ (frW ac (a 8) tp ++ (reW ac (a 9) re ++ (shW ac (a 40) k0 ++ (shW ac (a 41) k1 ++ (shW ac (a 10) ti))))))))))))) ++ ringW ac a rg) sz) (va_Qi (fun r (_ : Unit) => r = res.1) (fun _ => zB D (va_A ((koW ac a ko ++ (txW ac (a 1) tx ++ (shW ac (a 2) now ++ (shW ac (a 3) tr ++ (teW ac (a 4) (a 1) (a 10) te ++ (paW ac a pa ++ (fcW ac (a 6) w1 w2 fc ++ (frW ac (a 7) to ++ (frW ac (a 8) tp ++ (reW ac (a 9) re ++ (shW ac (a 40) k0 ++ (shW ac (a 41) k1 ++ (shW ac (a 10) ti))))))))))))) ++ ringW ac a rg) sz) ((koW ac a ko ++ (txW ac (a 1) tx ++ (shW ac (a 2) now ++ (shW ac (a 3) res.2 ++ (teW ac (a 4) (a 1) (a 10) te ++ (paW ac a pa ++ (fcW ac (a 6) w1 w2 fc ++ (frW ac (a 7) to ++ (frW ac (a 8) tp ++ (reW ac (a 9) re ++ (shW ac (a 40) k0 ++ (shW ac (a 41) k1 ++ (shW ac (a 10) ti))))))))))))) ++ ringW ac a rg)) (va_A ((koW ac a ko ++ (txW ac (a 1) tx ++ (shW ac (a 2) now ++ (shW ac (a 3) tr ++ (teW ac (a 4) (a 1) (a 10) te ++ (paW ac a pa ++ (fcW ac (a 6) w1 w2 fc ++ (frW ac (a 7) to ++ (frW ac (a 8) tp ++ (reW ac (a 9) re ++ (shW ac (a 40) k0 ++ (shW ac (a 41) k1 ++ (shW ac (a 10) ti))))))))))))) ++ ringW ac a rg) sz)) 0 0 (va_A ((koW ac a ko ++ (txW ac (a 1) tx ++ (shW ac (a 2) now ++ (shW ac (a 3) tr ++ (teW ac (a 4) (a 1) (a 10) te ++ (paW ac a pa ++ (fcW ac (a 6) w1 w2 fc ++ (frW ac (a 7) to ++ (frW ac (a 8) tp ++ (reW ac (a 9) re ++ (shW ac (a 40) k0 ++ (shW ac (a 41) k1 ++ (shW ac (a 10) ti))))))))))))) ++ ringW ac a rg) sz) := by
  refine Met.ofW (cc := cX7_drawn) (maxL := 8) (ret := (some .int)) (by decide) rfl ?_
  intro p e s m args below meth c s₁ B hml hv
  obtain ⟨rfl, hsz, hP, hKX, hD0, hC⟩ := hv
  have hx := B.exec
  have hb := B.bytes
  have hr := B.returns
  have hts := atoms_spec (ws := cWW yX7_drawn cX7_drawn 8 (some .int)) B.pre
  have htw : ∀ w ∈ WW, w.before _ s = true := fun w h => hts w (List.mem_cons_of_mem _ h)
  have hown : s.vm.findClass RX7 = some m.cls := findClass_of_methodNamed B.named
  have hlocks := B.notSynchronized
  clear hts B
  subst hsz
  have hD := hD0.self (sz := s.heap.size)
  generalize hAe : va_A ((koW ac a ko ++ (txW ac (a 1) tx ++ (shW ac (a 2) now ++ (shW ac (a 3) tr ++ (teW ac (a 4) (a 1) (a 10) te ++ (paW ac a pa ++ (fcW ac (a 6) w1 w2 fc ++ (frW ac (a 7) to ++ (frW ac (a 8) tp ++ (reW ac (a 9) re ++ (shW ac (a 40) k0 ++ (shW ac (a 41) k1 ++ (shW ac (a 10) ti))))))))))))) ++ ringW ac a rg) s.heap.size = A at hD hC ⊢
  have hA : ∀ q : Nat, s.heap.size ≤ q → A q := fun q h => by rw [← hAe]; exact Or.inr h
  have hS : va_S A s.heap s.heap [] := va_S.rf
  clear hD0 hAe
  have hP : va_P D vwCl ((koW ac a ko ++ (txW ac (a 1) tx ++ (shW ac (a 2) now ++ (shW ac (a 3) tr ++ (teW ac (a 4) (a 1) (a 10) te ++ (paW ac a pa ++ (fcW ac (a 6) w1 w2 fc ++ (frW ac (a 7) to ++ (frW ac (a 8) tp ++ (reW ac (a 9) re ++ (shW ac (a 40) k0 ++ (shW ac (a 41) k1 ++ (shW ac (a 10) ti))))))))))))) ++ ringW ac a rg) s.heap := hP
  have hl := lv_entry ([.ref (a 0 0), .int a1, .int a2, .int a3]) (n := 8) (Nat.le_of_ble_eq_true rfl)
  rw [lg_entry_eq]
  generalize (lg_sl ([.ref (a 0 0), .int a1, .int a2, .int a3]) ++ List.replicate (8 - (lg_sl ([.ref (a 0 0), .int a1, .int a2, .int a3])).length) Slot.unset).toArray = ls at hl ⊢
  have hl : lv_has ls 8 [(0, .ref (a 0 0)), (1, .int a1), (2, .int a2), (3, .int a3)] := hl
  unfold K_drawn at hf
  show W p l e ({ frames := 6, cells := 0, slots := 0, locals := 128 } : Room) s m _ below meth c s.heap [] 0 0 _ (F0 m 0 ls [])
  refine lv_iload_n hx hb dX7_drawn_0 rfl (lv_at hl 1 rfl) ?_
  refine lv_if_lt (tgt := 31) hx hb dX7_drawn_1 (by decide) (fun c1 => ?_) (fun c1 => ?_)
  · have hf := z_p c1 hf
    refine lv_iconst (v := (-1)) hx hb dX7_drawn_31 rfl ?_
    obtain rfl := Option.some.inj hf
    exact zr_Mi hx hb hr hlocks hP hD hS dX7_drawn_32
  · have hf := z_n c1 hf
    refine lv_iload_n hx hb dX7_drawn_4 rfl (lv_at hl 1 rfl) ?_
    refine lv_ldcw (v := 999999) hx hb hown (htw _ mG_RX7_292) dX7_drawn_5 ?_
    refine lv_icmp_gt (tgt := 31) hx hb dX7_drawn_8 (by decide) (fun c2 => ?_) (fun c2 => ?_)
    · have hf := z_p c2 hf
      refine lv_iconst (v := (-1)) hx hb dX7_drawn_31 rfl ?_
      obtain rfl := Option.some.inj hf
      exact zr_Mi hx hb hr hlocks hP hD hS dX7_drawn_32
    · have hf := z_n c2 hf
      refine lv_iload_n hx hb dX7_drawn_11 rfl (lv_at hl 2 rfl) ?_
      refine lv_iconst (v := 1) hx hb dX7_drawn_12 rfl ?_
      refine lv_icmp_lt (tgt := 31) hx hb dX7_drawn_13 (by decide) (fun c3 => ?_) (fun c3 => ?_)
      · have hf := z_p c3 hf
        refine lv_iconst (v := (-1)) hx hb dX7_drawn_31 rfl ?_
        obtain rfl := Option.some.inj hf
        exact zr_Mi hx hb hr hlocks hP hD hS dX7_drawn_32
      · have hf := z_n c3 hf
        refine lv_iload_n hx hb dX7_drawn_16 rfl (lv_at hl 2 rfl) ?_
        refine lv_bipush (v := 100) hx hb dX7_drawn_17 rfl ?_
        refine lv_icmp_gt (tgt := 31) hx hb dX7_drawn_19 (by decide) (fun c4 => ?_) (fun c4 => ?_)
        · have hf := z_p c4 hf
          refine lv_iconst (v := (-1)) hx hb dX7_drawn_31 rfl ?_
          obtain rfl := Option.some.inj hf
          exact zr_Mi hx hb hr hlocks hP hD hS dX7_drawn_32
        · have hf := z_n c4 hf
          refine lv_iload_n hx hb dX7_drawn_22 rfl (lv_at hl 3 rfl) ?_
          refine lv_if_lt (tgt := 31) hx hb dX7_drawn_23 (by decide) (fun c5 => ?_) (fun c5 => ?_)
          · have hf := z_p c5 hf
            refine lv_iconst (v := (-1)) hx hb dX7_drawn_31 rfl ?_
            obtain rfl := Option.some.inj hf
            exact zr_Mi hx hb hr hlocks hP hD hS dX7_drawn_32
          · have hf := z_n c5 hf
            refine lv_iload_n hx hb dX7_drawn_26 rfl (lv_at hl 3 rfl) ?_
            refine lv_iconst (v := 3) hx hb dX7_drawn_27 rfl ?_
            refine lv_icmp_le (tgt := 33) hx hb dX7_drawn_28 (by decide) (fun c6 => ?_) (fun c6 => ?_)
            · have hf := z_p c6 hf
              refine lv_aload_n hx hb dX7_drawn_33 rfl (lv_at hl 0 rfl) ?_
              refine va_get (D := D) (ci := 7) (v := .ref (a 2 0)) (C := RX7) (T := TX7) (N := 13) hx hb htw WW_wsX70 hown hKX.1 hP 0 rfl rfl 2 (Nat.le_of_ble_eq_true rfl) (htw _ mF_RX7_26) (fun _ h9 => h9) rfl dX7_drawn_34 ?_
              refine va_getN (D := D) (ci := 4) (v := .int (sh_shooters now)) (C := RX4) (T := TX4) (N := 10) hx hb htw WW_wsX40 hown hKX.1 hP 6 rfl rfl 0 (Nat.le_of_ble_eq_true rfl) (va_Nw.use rfl (hKX.2 _ (List.mem_of_getElem? (i := 3) rfl))) (fun _ h9 => h9) rfl dX7_drawn_37 ?_
              refine lv_if_ne (tgt := 46) hx hb dX7_drawn_40 (by decide) (fun c7 => ?_) (fun c7 => ?_)
              · have hf := z_n c7 hf
                refine lv_iload_n hx hb dX7_drawn_46 rfl (lv_at hl 1 rfl) ?_
                refine lv_istore (lv' := [(4, .int a1), (0, .ref (a 0 0)), (1, .int a1), (2, .int a2), (3, .int a3)]) hx hb dX7_drawn_47 hl (Nat.le_of_ble_eq_true rfl) rfl (fun ls hl => ?_)
                refine lv_iconst (v := 0) hx hb dX7_drawn_49 rfl ?_
                refine lv_istore (lv' := [(5, .int 0), (4, .int a1), (0, .ref (a 0 0)), (1, .int a1), (2, .int a2), (3, .int a3)]) hx hb dX7_drawn_50 hl (Nat.le_of_ble_eq_true rfl) rfl (fun ls hl => ?_)
                refine lv_iconst (v := 0) hx hb dX7_drawn_52 rfl ?_
                refine lv_istore (lv' := [(6, .int 0), (5, .int 0), (4, .int a1), (0, .ref (a 0 0)), (1, .int a1), (2, .int a2), (3, .int a3)]) hx hb dX7_drawn_53 hl (Nat.le_of_ble_eq_true rfl) rfl (fun ls hl => ?_)
                refine lv_iconst (v := 0) hx hb dX7_drawn_55 rfl ?_
                refine lv_istore (lv' := [(7, .int 0), (6, .int 0), (5, .int 0), (4, .int a1), (0, .ref (a 0 0)), (1, .int a1), (2, .int a2), (3, .int a3)]) hx hb dX7_drawn_56 hl (Nat.le_of_ble_eq_true rfl) rfl (fun ls hl => ?_)
                have hL13 : ∀ (kx16 : Int32 → Int32 → Sh → Option (Int32 × Sh)) (hkx16 : ∀ (x17 : Int32) (x18 : Int32) (sh19 : Sh), kx16 x17 x18 sh19 = some res → ∀ (H : Heap) (locs : List Loc) (ls : Array Slot), va_P D vwCl ((koW ac a ko ++ (txW ac (a 1) tx ++ (shW ac (a 2) now ++ (shW ac (a 3) sh19 ++ (teW ac (a 4) (a 1) (a 10) te ++ (paW ac a pa ++ (fcW ac (a 6) w1 w2 fc ++ (frW ac (a 7) to ++ (frW ac (a 8) tp ++ (reW ac (a 9) re ++ (shW ac (a 40) k0 ++ (shW ac (a 41) k1 ++ (shW ac (a 10) ti))))))))))))) ++ ringW ac a rg) H → va_D A ((koW ac a ko ++ (txW ac (a 1) tx ++ (shW ac (a 2) now ++ (shW ac (a 3) sh19 ++ (teW ac (a 4) (a 1) (a 10) te ++ (paW ac a pa ++ (fcW ac (a 6) w1 w2 fc ++ (frW ac (a 7) to ++ (frW ac (a 8) tp ++ (reW ac (a 9) re ++ (shW ac (a 40) k0 ++ (shW ac (a 41) k1 ++ (shW ac (a 10) ti))))))))))))) ++ ringW ac a rg) → va_S A s.heap H locs → lv_has ls 8 [(3, .int a3), (5, .int x17), (6, .int x18)] → W p l e ({ frames := 6, cells := 0, slots := 0, locals := 128 } : Room) s m (([.ref (a 0 0), .int a1, .int a2, .int a3] : List Value).toArray) below meth c H locs 0 0 (MQ below (va_Qi (fun r (_ : Unit) => r = res.1) (fun _ => zB D A ((koW ac a ko ++ (txW ac (a 1) tx ++ (shW ac (a 2) now ++ (shW ac (a 3) res.2 ++ (teW ac (a 4) (a 1) (a 10) te ++ (paW ac a pa ++ (fcW ac (a 6) w1 w2 fc ++ (frW ac (a 7) to ++ (frW ac (a 8) tp ++ (reW ac (a 9) re ++ (shW ac (a 40) k0 ++ (shW ac (a 41) k1 ++ (shW ac (a 10) ti))))))))))))) ++ ringW ac a rg)) A) ([.ref (a 0 0), .int a1, .int a2, .int a3] : List Value).toArray s 0 0 A) (F0 m 124 ls [])) (n14 : Nat) (x8 : Int32) (x9 : Int32) (x10 : Int32) (x11 : Int32) (sh12 : Sh), K_drawn_L58 F now a2 a3 kx16 n14 x8 x9 x10 x11 sh12 = some res → ∀ (H : Heap) (locs : List Loc) (ls : Array Slot), va_P D vwCl ((koW ac a ko ++ (txW ac (a 1) tx ++ (shW ac (a 2) now ++ (shW ac (a 3) sh12 ++ (teW ac (a 4) (a 1) (a 10) te ++ (paW ac a pa ++ (fcW ac (a 6) w1 w2 fc ++ (frW ac (a 7) to ++ (frW ac (a 8) tp ++ (reW ac (a 9) re ++ (shW ac (a 40) k0 ++ (shW ac (a 41) k1 ++ (shW ac (a 10) ti))))))))))))) ++ ringW ac a rg) H → va_D A ((koW ac a ko ++ (txW ac (a 1) tx ++ (shW ac (a 2) now ++ (shW ac (a 3) sh12 ++ (teW ac (a 4) (a 1) (a 10) te ++ (paW ac a pa ++ (fcW ac (a 6) w1 w2 fc ++ (frW ac (a 7) to ++ (frW ac (a 8) tp ++ (reW ac (a 9) re ++ (shW ac (a 40) k0 ++ (shW ac (a 41) k1 ++ (shW ac (a 10) ti))))))))))))) ++ ringW ac a rg) → va_S A s.heap H locs → lv_has ls 8 [(0, .ref (a 0 0)), (2, .int a2), (3, .int a3), (4, .int x8), (5, .int x9), (6, .int x10), (7, .int x11)] → W p l e ({ frames := 6, cells := 0, slots := 0, locals := 128 } : Room) s m (([.ref (a 0 0), .int a1, .int a2, .int a3] : List Value).toArray) below meth c H locs 0 0 (MQ below (va_Qi (fun r (_ : Unit) => r = res.1) (fun _ => zB D A ((koW ac a ko ++ (txW ac (a 1) tx ++ (shW ac (a 2) now ++ (shW ac (a 3) res.2 ++ (teW ac (a 4) (a 1) (a 10) te ++ (paW ac a pa ++ (fcW ac (a 6) w1 w2 fc ++ (frW ac (a 7) to ++ (frW ac (a 8) tp ++ (reW ac (a 9) re ++ (shW ac (a 40) k0 ++ (shW ac (a 41) k1 ++ (shW ac (a 10) ti))))))))))))) ++ ringW ac a rg)) A) ([.ref (a 0 0), .int a1, .int a2, .int a3] : List Value).toArray s 0 0 A) (F0 m 58 ls []) := by
                  intro kx16 hkx16 n14
                  induction n14 with
                  | zero => intro x8 x9 x10 x11 sh12 hf; rw [K_drawn_L58] at hf; cases hf
                  | succ n14 ih15 =>
                    intro x8 x9 x10 x11 sh12 hf H locs ls hP hD hS hl
                    rw [K_drawn_L58] at hf
                    refine lv_iload hx hb dX7_drawn_58 (lv_at hl 6 rfl) ?_
                    refine lv_iload_n hx hb dX7_drawn_60 rfl (lv_at hl 1 rfl) ?_
                    refine lv_icmp_ge (tgt := 124) hx hb dX7_drawn_61 (by decide) (fun c20 => ?_) (fun c20 => ?_)
                    · have hf := z_p c20 hf
                      exact hkx16 x9 x10 sh12 hf _ _ ls  hP hD hS (lv_sub hl [2, 4, 5] rfl)
                    · have hf := z_n c20 hf
                      refine lv_aload_n hx hb dX7_drawn_64 rfl (lv_at hl 0 rfl) ?_
                      refine va_get (D := D) (ci := 7) (v := .ref (a 3 0)) (C := RX7) (T := TX7) (N := 13) hx hb htw WW_wsX70 hown hKX.1 hP 0 rfl rfl 3 (Nat.le_of_ble_eq_true rfl) (htw _ mF_RX7_30) (fun _ h9 => h9) rfl dX7_drawn_65 ?_
                      refine lv_aload_n hx hb dX7_drawn_68 rfl (lv_at hl 0 rfl) ?_
                      refine va_get (D := D) (ci := 7) (v := .ref (a 2 0)) (C := RX7) (T := TX7) (N := 13) hx hb htw WW_wsX70 hown hKX.1 hP 0 rfl rfl 2 (Nat.le_of_ble_eq_true rfl) (htw _ mF_RX7_26) (fun _ h9 => h9) rfl dX7_drawn_69 ?_
                      obtain ⟨u21, hu21, hf⟩ := z_bd_u hf
                      refine zc_MVvT (As := [.ref (a 2 0)]) (rest := []) (wr := koW ac a ko ++ (txW ac (a 1) tx ++ (teW ac (a 4) (a 1) (a 10) te ++ (paW ac a pa ++ (fcW ac (a 6) w1 w2 fc ++ (frW ac (a 7) to ++ (frW ac (a 8) tp ++ (reW ac (a 9) re ++ (shW ac (a 40) k0 ++ (shW ac (a 41) k1 ++ (shW ac (a 10) ti))))))))))) (wsc := shW ac (a 3) sh12 ++ (shW ac (a 2) now)) (wsc' := shW ac (a 3) u21 ++ (shW ac (a 2) now)) hx hb hml hown htw (ctX4_copyFrom l D ac cs (a 3) (a 2) H.size sh12 now    F u21 hu21) (g_V mM_RX7_93 mI_yX4_copyFrom mS_RX4_yX4_copyFrom_yX4_copyFrom mN_RX4 mC_yX4_copyFrom) rfl (hd_yX4_copyFrom) ⟨rfl, rfl⟩ ⟨(Nat.le_of_ble_eq_true rfl), (Nat.le_of_ble_eq_true rfl)⟩ hKX hC hS hA hP hD [9, 10, 11, 6, 7, 8] [0, 1, 2, 3, 4, 5, 12, 13, 14, 15, 16, 17, 18, 19, 20, 21, 22, 23, 24, 25, 26, 27, 28, 29, 30, 31, 32, 33, 34, 35, 36, 37] rfl (by decide) rfl (by decide) (by decide) 4 rfl rfl rfl hl.1 rfl (Nat.le_of_ble_eq_true rfl) ⟨Nat.zero_le _, Nat.zero_le _⟩ dX7_drawn_72 (fun H locs hP hD hS => ?_)
                      have hP : va_P D vwCl ((koW ac a ko ++ (txW ac (a 1) tx ++ (shW ac (a 2) now ++ (shW ac (a 3) u21 ++ (teW ac (a 4) (a 1) (a 10) te ++ (paW ac a pa ++ (fcW ac (a 6) w1 w2 fc ++ (frW ac (a 7) to ++ (frW ac (a 8) tp ++ (reW ac (a 9) re ++ (shW ac (a 40) k0 ++ (shW ac (a 41) k1 ++ (shW ac (a 10) ti))))))))))))) ++ ringW ac a rg) H := zsubPT hP [0, 1, 2, 3, 4, 5, 35, 36, 37, 32, 33, 34, 6, 7, 8, 9, 10, 11, 12, 13, 14, 15, 16, 17, 18, 19, 20, 21, 22, 23, 24, 25, 26, 27, 28, 29, 30, 31] rfl
                      have hD : va_D A ((koW ac a ko ++ (txW ac (a 1) tx ++ (shW ac (a 2) now ++ (shW ac (a 3) u21 ++ (teW ac (a 4) (a 1) (a 10) te ++ (paW ac a pa ++ (fcW ac (a 6) w1 w2 fc ++ (frW ac (a 7) to ++ (frW ac (a 8) tp ++ (reW ac (a 9) re ++ (shW ac (a 40) k0 ++ (shW ac (a 41) k1 ++ (shW ac (a 10) ti))))))))))))) ++ ringW ac a rg) := zsubDT hD [0, 1, 2, 3, 4, 5, 35, 36, 37, 32, 33, 34, 6, 7, 8, 9, 10, 11, 12, 13, 14, 15, 16, 17, 18, 19, 20, 21, 22, 23, 24, 25, 26, 27, 28, 29, 30, 31] (by decide) rfl
                      refine lv_aload_n hx hb dX7_drawn_75 rfl (lv_at hl 0 rfl) ?_
                      refine lv_iload hx hb dX7_drawn_76 (lv_at hl 3 rfl) ?_
                      obtain ⟨u22, hu22, hf⟩ := z_bd_u hf
                      refine zc_MViT (E := (koW ac a ko ++ (txW ac (a 1) tx ++ (shW ac (a 2) now ++ (shW ac (a 3) u21 ++ (teW ac (a 4) (a 1) (a 10) te ++ (paW ac a pa ++ (fcW ac (a 6) w1 w2 fc ++ (frW ac (a 7) to ++ (frW ac (a 8) tp ++ (reW ac (a 9) re ++ (shW ac (a 40) k0 ++ (shW ac (a 41) k1 ++ (shW ac (a 10) ti))))))))))))) ++ ringW ac a rg) (TT := []) (As := [.int x8]) (rest := []) (wr := []) (wsc := (koW ac a ko ++ (txW ac (a 1) tx ++ (shW ac (a 2) now ++ (shW ac (a 3) u21 ++ (teW ac (a 4) (a 1) (a 10) te ++ (paW ac a pa ++ (fcW ac (a 6) w1 w2 fc ++ (frW ac (a 7) to ++ (frW ac (a 8) tp ++ (reW ac (a 9) re ++ (shW ac (a 40) k0 ++ (shW ac (a 41) k1 ++ (shW ac (a 10) ti))))))))))))) ++ ringW ac a rg) (wsc' := (koW ac a ko ++ (txW ac (a 1) tx ++ (shW ac (a 2) now ++ (shW ac (a 3) u22.2 ++ (teW ac (a 4) (a 1) (a 10) te ++ (paW ac a pa ++ (fcW ac (a 6) w1 w2 fc ++ (frW ac (a 7) to ++ (frW ac (a 8) tp ++ (reW ac (a 9) re ++ (shW ac (a 40) k0 ++ (shW ac (a 41) k1 ++ (shW ac (a 10) ti))))))))))))) ++ ringW ac a rg) hx hb hml hown htw (ctX7_drawTrial l D ac cs a w1 w2 H.size ko tx now u21 te pa fc to tp re k0 k1 ti rg x8   F u22 hu22) (g_V mM_RX7_293 mI_yX7_drawTrial mS_RX7_yX7_drawTrial_yX7_drawTrial mN_RX7 mC_yX7_drawTrial) rfl (hd_yX7_drawTrial) ⟨rfl, rfl⟩ ⟨(Nat.le_of_ble_eq_true rfl), (Nat.le_of_ble_eq_true rfl)⟩ hKX hC hS hA (zP_nil hP) (zD_nil hD) (List.range _) [] (zrange _) (zndr _) rfl rfl (fun _ h => by cases h) 7 rfl rfl rfl hl.1 rfl (Nat.le_of_ble_eq_true rfl) ⟨Nat.zero_le _, Nat.zero_le _⟩ dX7_drawn_78 (fun H locs hP hD hS => ?_)
                      have hP : va_P D vwCl ((koW ac a ko ++ (txW ac (a 1) tx ++ (shW ac (a 2) now ++ (shW ac (a 3) u22.2 ++ (teW ac (a 4) (a 1) (a 10) te ++ (paW ac a pa ++ (fcW ac (a 6) w1 w2 fc ++ (frW ac (a 7) to ++ (frW ac (a 8) tp ++ (reW ac (a 9) re ++ (shW ac (a 40) k0 ++ (shW ac (a 41) k1 ++ (shW ac (a 10) ti))))))))))))) ++ ringW ac a rg) H := zP_un hP
                      have hD : va_D A ((koW ac a ko ++ (txW ac (a 1) tx ++ (shW ac (a 2) now ++ (shW ac (a 3) u22.2 ++ (teW ac (a 4) (a 1) (a 10) te ++ (paW ac a pa ++ (fcW ac (a 6) w1 w2 fc ++ (frW ac (a 7) to ++ (frW ac (a 8) tp ++ (reW ac (a 9) re ++ (shW ac (a 40) k0 ++ (shW ac (a 41) k1 ++ (shW ac (a 10) ti))))))))))))) ++ ringW ac a rg) := zD_un hD
                      refine lv_topi (fun x23 hx23 => ?_)
                      have hf := z_let_u hx23 hf
                      refine lv_istore (lv' := [(4, .int x23), (0, .ref (a 0 0)), (2, .int a2), (3, .int a3), (5, .int x9), (6, .int x10), (7, .int x11)]) hx hb dX7_drawn_81 hl (Nat.le_of_ble_eq_true rfl) rfl (fun ls hl => ?_)
                      refine lv_iload hx hb dX7_drawn_83 (lv_at hl 4 rfl) ?_
                      refine lv_aload_n hx hb dX7_drawn_85 rfl (lv_at hl 1 rfl) ?_
                      refine va_get (D := D) (ci := 7) (v := .ref (a 3 0)) (C := RX7) (T := TX7) (N := 13) hx hb htw WW_wsX70 hown hKX.1 hP 0 rfl rfl 3 (Nat.le_of_ble_eq_true rfl) (htw _ mF_RX7_30) (fun _ h9 => h9) rfl dX7_drawn_86 ?_
                      refine zc_RVi (As := []) (rest := [.int x9]) hx hb hml hown htw (ctX4_winner l D ac cs (a 3) u22.2    _ rfl) (g_V mM_RX7_296 mI_yX4_winner mS_RX4_yX4_winner_yX4_winner mN_RX4 mC_yX4_winner) rfl (hd_yX4_winner) ⟨rfl, rfl⟩ ⟨(Nat.le_of_ble_eq_true rfl), (Nat.le_of_ble_eq_true rfl)⟩ hKX hC hS (hP.sub [9, 10, 11] rfl) 4 rfl rfl rfl hl.1 rfl (Nat.le_of_ble_eq_true rfl) ⟨Nat.zero_le _, Nat.zero_le _⟩ dX7_drawn_89 ?_
                      refine lv_iload_n hx hb dX7_drawn_92 rfl (lv_at hl 3 rfl) ?_
                      have hj26 : ∀ (v24 : Int32), v24 = (if Sh_winner u22.2 = a3 then 1 else 0) → z_b v24 = true → ∀ (H : Heap) (locs : List Loc) (ls : Array Slot), va_P D vwCl ((koW ac a ko ++ (txW ac (a 1) tx ++ (shW ac (a 2) now ++ (shW ac (a 3) u22.2 ++ (teW ac (a 4) (a 1) (a 10) te ++ (paW ac a pa ++ (fcW ac (a 6) w1 w2 fc ++ (frW ac (a 7) to ++ (frW ac (a 8) tp ++ (reW ac (a 9) re ++ (shW ac (a 40) k0 ++ (shW ac (a 41) k1 ++ (shW ac (a 10) ti))))))))))))) ++ ringW ac a rg) H → va_D A ((koW ac a ko ++ (txW ac (a 1) tx ++ (shW ac (a 2) now ++ (shW ac (a 3) u22.2 ++ (teW ac (a 4) (a 1) (a 10) te ++ (paW ac a pa ++ (fcW ac (a 6) w1 w2 fc ++ (frW ac (a 7) to ++ (frW ac (a 8) tp ++ (reW ac (a 9) re ++ (shW ac (a 40) k0 ++ (shW ac (a 41) k1 ++ (shW ac (a 10) ti))))))))))))) ++ ringW ac a rg) → va_S A s.heap H locs → lv_has ls 8 [(0, .ref (a 0 0)), (2, .int a2), (3, .int a3), (4, .int x23), (6, .int x10), (7, .int x11)] → W p l e ({ frames := 6, cells := 0, slots := 0, locals := 128 } : Room) s m (([.ref (a 0 0), .int a1, .int a2, .int a3] : List Value).toArray) below meth c H locs 0 0 (MQ below (va_Qi (fun r (_ : Unit) => r = res.1) (fun _ => zB D A ((koW ac a ko ++ (txW ac (a 1) tx ++ (shW ac (a 2) now ++ (shW ac (a 3) res.2 ++ (teW ac (a 4) (a 1) (a 10) te ++ (paW ac a pa ++ (fcW ac (a 6) w1 w2 fc ++ (frW ac (a 7) to ++ (frW ac (a 8) tp ++ (reW ac (a 9) re ++ (shW ac (a 40) k0 ++ (shW ac (a 41) k1 ++ (shW ac (a 10) ti))))))))))))) ++ ringW ac a rg)) A) ([.ref (a 0 0), .int a1, .int a2, .int a3] : List Value).toArray s 0 0 A) (F0 m 101 ls [.int v24, .int x9]) := by
                        intro v24 hv24 bv24 H locs ls hP hD hS hl
                        have hf := z_let_u hv24 hf
                        refine lv_iadd hx hb dX7_drawn_101 ?_
                        refine lv_topi (fun x28 hx28 => ?_)
                        have hf := z_let_u hx28 hf
                        refine lv_istore (lv' := [(5, .int x28), (0, .ref (a 0 0)), (2, .int a2), (3, .int a3), (4, .int x23), (6, .int x10), (7, .int x11)]) hx hb dX7_drawn_102 hl (Nat.le_of_ble_eq_true rfl) rfl (fun ls hl => ?_)
                        refine lv_iload hx hb dX7_drawn_104 (lv_at hl 5 rfl) ?_
                        refine lv_aload_n hx hb dX7_drawn_106 rfl (lv_at hl 1 rfl) ?_
                        refine va_get (D := D) (ci := 7) (v := .ref (a 3 0)) (C := RX7) (T := TX7) (N := 13) hx hb htw WW_wsX70 hown hKX.1 hP 0 rfl rfl 3 (Nat.le_of_ble_eq_true rfl) (htw _ mF_RX7_30) (fun _ h9 => h9) rfl dX7_drawn_107 ?_
                        refine va_getN (D := D) (ci := 4) (v := .int (sh_kicks u22.2)) (C := RX4) (T := TX4) (N := 10) hx hb htw WW_wsX40 hown hKX.1 hP 9 rfl rfl 3 (Nat.le_of_ble_eq_true rfl) (va_Nw.use rfl (hKX.2 _ (List.mem_of_getElem? (i := 11) rfl))) (fun _ h9 => h9) rfl dX7_drawn_110 ?_
                        refine va_mmax hx hb (hml.trans hl.1.symm) hown (htw _ mM_RX7_299) (htw _ mT_Lib_Math_max_name) (htw _ mN_java_lang_Math) (htw _ mC_Lib_Math_max_name) (Nat.le_of_ble_eq_true rfl) (Nat.le_of_ble_eq_true rfl) (Nat.zero_le _) (Nat.zero_le _) dX7_drawn_113 ?_
                        refine lv_topi (fun x29 hx29 => ?_)
                        have hf := z_let_u hx29 hf
                        refine lv_istore (lv' := [(6, .int x29), (5, .int x28), (0, .ref (a 0 0)), (2, .int a2), (3, .int a3), (4, .int x23), (7, .int x11)]) hx hb dX7_drawn_116 hl (Nat.le_of_ble_eq_true rfl) rfl (fun ls hl => ?_)
                        obtain ⟨x30, hx30⟩ : ∃ y : Int32, y = (x11 + 1) := ⟨_, rfl⟩
                        have hf := z_let_u hx30 hf
                        refine lv_iinc (v := x30) (lv' := [(7, .int x30), (6, .int x29), (5, .int x28), (0, .ref (a 0 0)), (2, .int a2), (3, .int a3), (4, .int x23)]) hx hb dX7_drawn_118 hl (k := 6) rfl (by rw [hx30]; rfl) (Nat.le_of_ble_eq_true rfl) rfl (fun ls hl => ?_)
                        refine lv_goto (tgt := 58) hx hb dX7_drawn_121 (by decide) ?_
                        exact ih15 x23 x28 x29 x30 u22.2 hf _ _ ls  hP hD hS (lv_sub hl [3, 4, 5, 6, 2, 1, 0] rfl)
                      refine lv_icmp_ne (tgt := 100) hx hb dX7_drawn_93 (by decide) (fun c27 => ?_) (fun c27 => ?_)
                      · skip
                        refine lv_iconst (v := 0) hx hb dX7_drawn_100 rfl ?_
                        exact hj26 0 (if_neg c27).symm z_b0 _ _ ls hP hD hS (lv_sub hl [1, 2, 3, 0, 5, 6] rfl)
                      · skip
                        refine lv_iconst (v := 1) hx hb dX7_drawn_96 rfl ?_
                        refine lv_goto (tgt := 101) hx hb dX7_drawn_97 (by decide) ?_
                        exact hj26 1 (if_pos c27).symm z_b1 _ _ ls hP hD hS (lv_sub hl [1, 2, 3, 0, 5, 6] rfl)
                refine hL13 _ ?_ F a1 0 0 0 tr hf _ _ ls  hP hD hS (lv_sub hl [4, 6, 7, 3, 2, 1, 0] rfl)
                intro x17 x18 sh19 hf H locs ls hP hD hS hl
                refine lv_iload_n hx hb dX7_drawn_124 rfl (lv_at hl 0 rfl) ?_
                refine lv_iconst (v := 3) hx hb dX7_drawn_125 rfl ?_
                refine lv_icmp_ne (tgt := 134) hx hb dX7_drawn_126 (by decide) (fun c31 => ?_) (fun c31 => ?_)
                · have hf := z_n c31 hf
                  refine lv_iload hx hb dX7_drawn_134 (lv_at hl 1 rfl) ?_
                  obtain rfl := Option.some.inj hf
                  exact zr_Mi hx hb hr hlocks hP hD hS dX7_drawn_136
                · have hf := z_p c31 hf
                  refine lv_iload hx hb dX7_drawn_129 (lv_at hl 2 rfl) ?_
                  refine lv_goto (tgt := 136) hx hb dX7_drawn_131 (by decide) ?_
                  obtain rfl := Option.some.inj hf
                  exact zr_Mi hx hb hr hlocks hP hD hS dX7_drawn_136
              · have hf := z_p c7 hf
                refine lv_bipush (v := (-2)) hx hb dX7_drawn_43 rfl ?_
                obtain rfl := Option.some.inj hf
                exact zr_Mi hx hb hr hlocks hP hD hS dX7_drawn_45
            · have hf := z_n c6 hf
              refine lv_iconst (v := (-1)) hx hb dX7_drawn_31 rfl ?_
              obtain rfl := Option.some.inj hf
              exact zr_Mi hx hb hr hlocks hP hD hS dX7_drawn_32

theorem hd_yX7_needs : hdY yX7_needs 1 := by decide +kernel
def K_needs (now : Sh) (a1 : Int32) : Int32 := if K_isSideTold now a1 = 0 then (-1) else (if Sh_isOver now = 0 then (if (sh_kicks now) < (2 * (sh_shooters now)) then (z_let (((Sh_goalsOf now (1 - a1)) + (sh_shooters now)) - (Sh_kicksOf now (1 - a1))) (fun x4 : Int32 => z_let ((x4 + 1) - (Sh_goalsOf now a1)) (fun x5 : Int32 => if x5 ≤ ((sh_shooters now) - (Sh_kicksOf now a1)) then x5 else (-2)))) else (-1)) else (-1))
set_option maxHeartbeats 4000000 in
set_option maxRecDepth 100000 in
theorem ctX7_needs (l : Launch) (D : va_G) (ac cs : Nat → Nat) (a : Nat → Nat → Nat) (w1 w2 : Nat) (ko : Ko) (tx : Tx) (now : Sh) (tr : Sh) (te : Te) (pa : Pa) (fc : Fc) (to : Fr) (tp : Fr) (re : Re) (k0 : Sh) (k1 : Sh) (ti : Sh) (rg : Nat → Sh) (a1 : Int32) (res : Int32) (hf : K_needs now a1 = res) : Met l yX7_needs (cWW yX7_needs cX7_needs 4 (some .int)) { frames := 2, cells := 0, slots := 0, locals := 46 } (zR D ac cs [.ref (a 0 0), .int a1] ((koW ac a ko ++ (txW ac (a 1) tx ++ (shW ac (a 2) now ++ (shW ac (a 3) tr ++ (teW ac (a 4) (a 1) (a 10) te ++ (paW ac a pa ++ (fcW ac (a 6) w1 w2 fc ++ (frW ac (a 7) to ++ (frW ac (a 8) tp ++ (reW ac (a 9) re ++ (shW ac (a 40) k0 ++ (shW ac (a 41) k1 ++ (shW ac (a 10) ti))))))))))))) ++ ringW ac a rg)) (vp_Si (fun r => r = res)) 0 0 (fun _ => False) := by
  refine Met.ofW (cc := cX7_needs) (maxL := 4) (ret := (some .int)) (by decide) rfl ?_
  intro p e s m args below meth c s₁ B hml hv
  obtain ⟨rfl, hP, hKX, hC⟩ := hv
  have hx := B.exec
  have hb := B.bytes
  have hr := B.returns
  have hts := atoms_spec (ws := cWW yX7_needs cX7_needs 4 (some .int)) B.pre
  have htw : ∀ w ∈ WW, w.before _ s = true := fun w h => hts w (List.mem_cons_of_mem _ h)
  have hown : s.vm.findClass RX7 = some m.cls := findClass_of_methodNamed B.named
  have hlocks := B.notSynchronized
  clear hts B
  have hS : va_S (fun _ => False) s.heap s.heap [] := va_S.rf
  have hl := lv_entry ([.ref (a 0 0), .int a1]) (n := 4) (Nat.le_of_ble_eq_true rfl)
  rw [lg_entry_eq]
  generalize (lg_sl ([.ref (a 0 0), .int a1]) ++ List.replicate (4 - (lg_sl ([.ref (a 0 0), .int a1])).length) Slot.unset).toArray = ls at hl ⊢
  have hl : lv_has ls 4 [(0, .ref (a 0 0)), (1, .int a1)] := hl
  unfold K_needs at hf
  show W p l e ({ frames := 2, cells := 0, slots := 0, locals := 46 } : Room) s m _ below meth c s.heap [] 0 0 _ (F0 m 0 ls [])
  refine lv_aload_n hx hb dX7_needs_0 rfl (lv_at hl 0 rfl) ?_
  refine lv_iload_n hx hb dX7_needs_1 rfl (lv_at hl 1 rfl) ?_
  refine zc_RVi (As := [.int a1]) (rest := []) hx hb hml hown htw (ctX7_isSideTold l D ac cs a w1 w2 ko tx now tr te pa fc to tp re k0 k1 ti rg a1   _ rfl) (g_V mM_RX7_107 mI_yX7_isSideTold mS_RX7_yX7_isSideTold_yX7_isSideTold mN_RX7 mC_yX7_isSideTold) rfl (hd_yX7_isSideTold) ⟨rfl, rfl⟩ ⟨(Nat.le_of_ble_eq_true rfl), (Nat.le_of_ble_eq_true rfl)⟩ hKX hC hS hP 7 rfl rfl rfl hl.1 rfl (Nat.le_of_ble_eq_true rfl) ⟨Nat.zero_le _, Nat.zero_le _⟩ dX7_needs_2 ?_
  refine lv_if_eq (tgt := 37) hx hb dX7_needs_5 (by decide) (fun c1 => ?_) (fun c1 => ?_)
  · have hf := z_p c1 hf
    refine lv_iconst (v := (-1)) hx hb dX7_needs_37 rfl ?_
    exact zr_Ri hx hb hr hlocks hf dX7_needs_38
  · have hf := z_n c1 hf
    refine lv_aload_n hx hb dX7_needs_8 rfl (lv_at hl 0 rfl) ?_
    refine va_get (D := D) (ci := 7) (v := .ref (a 2 0)) (C := RX7) (T := TX7) (N := 13) hx hb htw WW_wsX70 hown hKX.1 hP 0 rfl rfl 2 (Nat.le_of_ble_eq_true rfl) (htw _ mF_RX7_26) (fun _ h9 => h9) rfl dX7_needs_9 ?_
    refine zc_RVi (As := []) (rest := []) hx hb hml hown htw (ctX4_isOver l D ac cs (a 2) now    _ rfl) (g_V mM_RX7_168 mI_yX4_isOver mS_RX4_yX4_isOver_yX4_isOver mN_RX4 mC_yX4_isOver) rfl (hd_yX4_isOver) ⟨rfl, rfl⟩ ⟨(Nat.le_of_ble_eq_true rfl), (Nat.le_of_ble_eq_true rfl)⟩ hKX hC hS (hP.sub [6, 7, 8] rfl) 4 rfl rfl rfl hl.1 rfl (Nat.le_of_ble_eq_true rfl) ⟨Nat.zero_le _, Nat.zero_le _⟩ dX7_needs_12 ?_
    refine lv_if_ne (tgt := 37) hx hb dX7_needs_15 (by decide) (fun c2 => ?_) (fun c2 => ?_)
    · have hf := z_n c2 hf
      refine lv_iconst (v := (-1)) hx hb dX7_needs_37 rfl ?_
      exact zr_Ri hx hb hr hlocks hf dX7_needs_38
    · have hf := z_p c2 hf
      refine lv_aload_n hx hb dX7_needs_18 rfl (lv_at hl 0 rfl) ?_
      refine va_get (D := D) (ci := 7) (v := .ref (a 2 0)) (C := RX7) (T := TX7) (N := 13) hx hb htw WW_wsX70 hown hKX.1 hP 0 rfl rfl 2 (Nat.le_of_ble_eq_true rfl) (htw _ mF_RX7_26) (fun _ h9 => h9) rfl dX7_needs_19 ?_
      refine va_getN (D := D) (ci := 4) (v := .int (sh_kicks now)) (C := RX4) (T := TX4) (N := 10) hx hb htw WW_wsX40 hown hKX.1 hP 6 rfl rfl 3 (Nat.le_of_ble_eq_true rfl) (va_Nw.use rfl (hKX.2 _ (List.mem_of_getElem? (i := 11) rfl))) (fun _ h9 => h9) rfl dX7_needs_22 ?_
      refine lv_iconst (v := 2) hx hb dX7_needs_25 rfl ?_
      refine lv_aload_n hx hb dX7_needs_26 rfl (lv_at hl 0 rfl) ?_
      refine va_get (D := D) (ci := 7) (v := .ref (a 2 0)) (C := RX7) (T := TX7) (N := 13) hx hb htw WW_wsX70 hown hKX.1 hP 0 rfl rfl 2 (Nat.le_of_ble_eq_true rfl) (htw _ mF_RX7_26) (fun _ h9 => h9) rfl dX7_needs_27 ?_
      refine va_getN (D := D) (ci := 4) (v := .int (sh_shooters now)) (C := RX4) (T := TX4) (N := 10) hx hb htw WW_wsX40 hown hKX.1 hP 6 rfl rfl 0 (Nat.le_of_ble_eq_true rfl) (va_Nw.use rfl (hKX.2 _ (List.mem_of_getElem? (i := 3) rfl))) (fun _ h9 => h9) rfl dX7_needs_30 ?_
      refine lv_imul hx hb dX7_needs_33 ?_
      refine lv_icmp_lt (tgt := 39) hx hb dX7_needs_34 (by decide) (fun c3 => ?_) (fun c3 => ?_)
      · have hf := z_p c3 hf
        refine lv_aload_n hx hb dX7_needs_39 rfl (lv_at hl 0 rfl) ?_
        refine va_get (D := D) (ci := 7) (v := .ref (a 2 0)) (C := RX7) (T := TX7) (N := 13) hx hb htw WW_wsX70 hown hKX.1 hP 0 rfl rfl 2 (Nat.le_of_ble_eq_true rfl) (htw _ mF_RX7_26) (fun _ h9 => h9) rfl dX7_needs_40 ?_
        refine lv_iconst (v := 1) hx hb dX7_needs_43 rfl ?_
        refine lv_iload_n hx hb dX7_needs_44 rfl (lv_at hl 1 rfl) ?_
        refine lv_isub hx hb dX7_needs_45 ?_
        refine zc_RVi (As := [.int (1 - a1)]) (rest := []) hx hb hml hown htw (ctX4_goalsOf l D ac cs (a 2) now (1 - a1)   _ rfl) (g_V mM_RX7_115 mI_yX4_goalsOf mS_RX4_yX4_goalsOf_yX4_goalsOf mN_RX4 mC_yX4_goalsOf) rfl (hd_yX4_goalsOf) ⟨rfl, rfl⟩ ⟨(Nat.le_of_ble_eq_true rfl), (Nat.le_of_ble_eq_true rfl)⟩ hKX hC hS (hP.sub [6, 7, 8] rfl) 4 rfl rfl rfl hl.1 rfl (Nat.le_of_ble_eq_true rfl) ⟨Nat.zero_le _, Nat.zero_le _⟩ dX7_needs_46 ?_
        refine lv_aload_n hx hb dX7_needs_49 rfl (lv_at hl 0 rfl) ?_
        refine va_get (D := D) (ci := 7) (v := .ref (a 2 0)) (C := RX7) (T := TX7) (N := 13) hx hb htw WW_wsX70 hown hKX.1 hP 0 rfl rfl 2 (Nat.le_of_ble_eq_true rfl) (htw _ mF_RX7_26) (fun _ h9 => h9) rfl dX7_needs_50 ?_
        refine va_getN (D := D) (ci := 4) (v := .int (sh_shooters now)) (C := RX4) (T := TX4) (N := 10) hx hb htw WW_wsX40 hown hKX.1 hP 6 rfl rfl 0 (Nat.le_of_ble_eq_true rfl) (va_Nw.use rfl (hKX.2 _ (List.mem_of_getElem? (i := 3) rfl))) (fun _ h9 => h9) rfl dX7_needs_53 ?_
        refine lv_iadd hx hb dX7_needs_56 ?_
        refine lv_aload_n hx hb dX7_needs_57 rfl (lv_at hl 0 rfl) ?_
        refine va_get (D := D) (ci := 7) (v := .ref (a 2 0)) (C := RX7) (T := TX7) (N := 13) hx hb htw WW_wsX70 hown hKX.1 hP 0 rfl rfl 2 (Nat.le_of_ble_eq_true rfl) (htw _ mF_RX7_26) (fun _ h9 => h9) rfl dX7_needs_58 ?_
        refine lv_iconst (v := 1) hx hb dX7_needs_61 rfl ?_
        refine lv_iload_n hx hb dX7_needs_62 rfl (lv_at hl 1 rfl) ?_
        refine lv_isub hx hb dX7_needs_63 ?_
        refine zc_RVi (As := [.int (1 - a1)]) (rest := [.int ((Sh_goalsOf now (1 - a1)) + (sh_shooters now))]) hx hb hml hown htw (ctX4_kicksOf l D ac cs (a 2) now (1 - a1)   _ rfl) (g_V mM_RX7_119 mI_yX4_kicksOf mS_RX4_yX4_kicksOf_yX4_kicksOf mN_RX4 mC_yX4_kicksOf) rfl (hd_yX4_kicksOf) ⟨rfl, rfl⟩ ⟨(Nat.le_of_ble_eq_true rfl), (Nat.le_of_ble_eq_true rfl)⟩ hKX hC hS (hP.sub [6, 7, 8] rfl) 4 rfl rfl rfl hl.1 rfl (Nat.le_of_ble_eq_true rfl) ⟨Nat.zero_le _, Nat.zero_le _⟩ dX7_needs_64 ?_
        refine lv_isub hx hb dX7_needs_67 ?_
        refine lv_topi (fun x4 hx4 => ?_)
        have hf := z_let_u hx4 hf
        refine lv_istore_n (lv' := [(2, .int x4), (0, .ref (a 0 0)), (1, .int a1)]) hx hb dX7_needs_68 rfl hl (Nat.le_of_ble_eq_true rfl) rfl (fun ls hl => ?_)
        refine lv_iload_n hx hb dX7_needs_69 rfl (lv_at hl 0 rfl) ?_
        refine lv_iconst (v := 1) hx hb dX7_needs_70 rfl ?_
        refine lv_iadd hx hb dX7_needs_71 ?_
        refine lv_aload_n hx hb dX7_needs_72 rfl (lv_at hl 1 rfl) ?_
        refine va_get (D := D) (ci := 7) (v := .ref (a 2 0)) (C := RX7) (T := TX7) (N := 13) hx hb htw WW_wsX70 hown hKX.1 hP 0 rfl rfl 2 (Nat.le_of_ble_eq_true rfl) (htw _ mF_RX7_26) (fun _ h9 => h9) rfl dX7_needs_73 ?_
        refine lv_iload_n hx hb dX7_needs_76 rfl (lv_at hl 2 rfl) ?_
        refine zc_RVi (As := [.int a1]) (rest := [.int (x4 + 1)]) hx hb hml hown htw (ctX4_goalsOf l D ac cs (a 2) now a1   _ rfl) (g_V mM_RX7_115 mI_yX4_goalsOf mS_RX4_yX4_goalsOf_yX4_goalsOf mN_RX4 mC_yX4_goalsOf) rfl (hd_yX4_goalsOf) ⟨rfl, rfl⟩ ⟨(Nat.le_of_ble_eq_true rfl), (Nat.le_of_ble_eq_true rfl)⟩ hKX hC hS (hP.sub [6, 7, 8] rfl) 4 rfl rfl rfl hl.1 rfl (Nat.le_of_ble_eq_true rfl) ⟨Nat.zero_le _, Nat.zero_le _⟩ dX7_needs_77 ?_
        refine lv_isub hx hb dX7_needs_80 ?_
        refine lv_topi (fun x5 hx5 => ?_)
        have hf := z_let_u hx5 hf
        refine lv_istore_n (lv' := [(3, .int x5), (2, .int x4), (0, .ref (a 0 0)), (1, .int a1)]) hx hb dX7_needs_81 rfl hl (Nat.le_of_ble_eq_true rfl) rfl (fun ls hl => ?_)
        refine lv_iload_n hx hb dX7_needs_82 rfl (lv_at hl 0 rfl) ?_
        refine lv_aload_n hx hb dX7_needs_83 rfl (lv_at hl 2 rfl) ?_
        refine va_get (D := D) (ci := 7) (v := .ref (a 2 0)) (C := RX7) (T := TX7) (N := 13) hx hb htw WW_wsX70 hown hKX.1 hP 0 rfl rfl 2 (Nat.le_of_ble_eq_true rfl) (htw _ mF_RX7_26) (fun _ h9 => h9) rfl dX7_needs_84 ?_
        refine va_getN (D := D) (ci := 4) (v := .int (sh_shooters now)) (C := RX4) (T := TX4) (N := 10) hx hb htw WW_wsX40 hown hKX.1 hP 6 rfl rfl 0 (Nat.le_of_ble_eq_true rfl) (va_Nw.use rfl (hKX.2 _ (List.mem_of_getElem? (i := 3) rfl))) (fun _ h9 => h9) rfl dX7_needs_87 ?_
        refine lv_aload_n hx hb dX7_needs_90 rfl (lv_at hl 2 rfl) ?_
        refine va_get (D := D) (ci := 7) (v := .ref (a 2 0)) (C := RX7) (T := TX7) (N := 13) hx hb htw WW_wsX70 hown hKX.1 hP 0 rfl rfl 2 (Nat.le_of_ble_eq_true rfl) (htw _ mF_RX7_26) (fun _ h9 => h9) rfl dX7_needs_91 ?_
        refine lv_iload_n hx hb dX7_needs_94 rfl (lv_at hl 3 rfl) ?_
        refine zc_RVi (As := [.int a1]) (rest := [.int (sh_shooters now), .int x5]) hx hb hml hown htw (ctX4_kicksOf l D ac cs (a 2) now a1   _ rfl) (g_V mM_RX7_119 mI_yX4_kicksOf mS_RX4_yX4_kicksOf_yX4_kicksOf mN_RX4 mC_yX4_kicksOf) rfl (hd_yX4_kicksOf) ⟨rfl, rfl⟩ ⟨(Nat.le_of_ble_eq_true rfl), (Nat.le_of_ble_eq_true rfl)⟩ hKX hC hS (hP.sub [6, 7, 8] rfl) 4 rfl rfl rfl hl.1 rfl (Nat.le_of_ble_eq_true rfl) ⟨Nat.zero_le _, Nat.zero_le _⟩ dX7_needs_95 ?_
        refine lv_isub hx hb dX7_needs_98 ?_
        refine lv_icmp_le (tgt := 107) hx hb dX7_needs_99 (by decide) (fun c6 => ?_) (fun c6 => ?_)
        · have hf := z_p c6 hf
          refine lv_iload_n hx hb dX7_needs_107 rfl (lv_at hl 0 rfl) ?_
          exact zr_Ri hx hb hr hlocks hf dX7_needs_108
        · have hf := z_n c6 hf
          refine lv_bipush (v := (-2)) hx hb dX7_needs_102 rfl ?_
          refine lv_goto (tgt := 108) hx hb dX7_needs_104 (by decide) ?_
          exact zr_Ri hx hb hr hlocks hf dX7_needs_108
      · have hf := z_n c3 hf
        refine lv_iconst (v := (-1)) hx hb dX7_needs_37 rfl ?_
        exact zr_Ri hx hb hr hlocks hf dX7_needs_38

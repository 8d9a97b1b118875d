theorem hd_yX5_init : hdY yX5_init 0 := by decide +kernel
set_option maxHeartbeats 4000000 in
set_option maxRecDepth 100000 in
theorem ctX5_init (l : Launch) (D : va_G) (ac cs : Nat → Nat) (h0 sz : Nat) : Met l yX5_init (cWW yX5_init cX5_init 1 none) { frames := 2, cells := 6, slots := 228, locals := 32 } (zM D ac cs [.ref h0] ([(h0, .inr (5, [.null, .null, .null, .int 0, .int 0, .int 0]))]) sz) (va_Qv (fun _ : Nat × Nat × Nat × Nat × Nat × Nat => True) (fun u => zB D (va_A ([(h0, .inr (5, [.null, .null, .null, .int 0, .int 0, .int 0]))]) sz) (teW ac (zq [h0, u.2.2.1]) (zq [u.1, u.2.1]) (zq [u.2.2.2.1, u.2.2.2.2.1, u.2.2.2.2.2]) Te0 ++ (txW ac (zq [u.1, u.2.1]) Tx0 ++ shW ac (zq [u.2.2.2.1, u.2.2.2.2.1, u.2.2.2.2.2]) Sh0))) (va_A ([(h0, .inr (5, [.null, .null, .null, .int 0, .int 0, .int 0]))]) sz)) 6 228 (va_A ([(h0, .inr (5, [.null, .null, .null, .int 0, .int 0, .int 0]))]) sz) := by
  refine Met.ofW (cc := cX5_init) (maxL := 1) (ret := none) (by decide) rfl ?_
  intro p e s m args below meth c s₁ B hml hv
  obtain ⟨rfl, hsz, hP, hKX, hD0, hC⟩ := hv
  have hx := B.exec
  have hb := B.bytes
  have hr := B.returns
  have hts := atoms_spec (ws := cWW yX5_init cX5_init 1 none) B.pre
  have htw : ∀ w ∈ WW, w.before _ s = true := fun w h => hts w (List.mem_cons_of_mem _ h)
  have hown : s.vm.findClass RX5 = some m.cls := findClass_of_methodNamed B.named
  have hlocks := B.notSynchronized
  have hin : meth.name = "<init>" := (name_of_methodNamed B.named B.method).1
  clear hts B
  subst hsz
  have hD := hD0.self (sz := s.heap.size)
  generalize hAe : va_A ([(h0, .inr (5, [.null, .null, .null, .int 0, .int 0, .int 0]))]) s.heap.size = A at hD hC ⊢
  have hA : ∀ q : Nat, s.heap.size ≤ q → A q := fun q h => by rw [← hAe]; exact Or.inr h
  have hS : va_S A s.heap s.heap [] := va_S.rf
  clear hD0 hAe
  have hP : va_P D vwCl ([(h0, .inr (5, [.null, .null, .null, .int 0, .int 0, .int 0]))]) s.heap := hP
  have hl := lv_entry ([.ref h0]) (n := 1) (Nat.le_of_ble_eq_true rfl)
  rw [lg_entry_eq]
  generalize (lg_sl ([.ref h0]) ++ List.replicate (1 - (lg_sl ([.ref h0])).length) Slot.unset).toArray = ls at hl ⊢
  have hl : lv_has ls 1 [(0, .ref h0)] := hl
  show W p l e ({ frames := 2, cells := 6, slots := 228, locals := 32 } : Room) s m _ below meth c s.heap [] 0 0 _ (F0 m 0 ls [])
  refine lv_aload_n hx hb dX5_init_0 rfl (lv_at hl 0 rfl) ?_
  refine W.objInit hx hb hown (htw _ mM_RX5_3) (htw _ mI_objectInit) (htw _ mC_objectInit) rfl (by rw [hml]; exact hl.1) rfl dX5_init_1 (Nat.le_of_ble_eq_true rfl) (Nat.le_of_ble_eq_true rfl) ?_
  refine W.eq (g2 := F0 m 4 ls []) rfl ?_
  refine lv_aload_n hx hb dX5_init_4 rfl (lv_at hl 0 rfl) ?_
  refine va_new (ci := 6) (fs := [.null, .int 0]) (C := RX6) (T := TX6) (N := 2) hx hb htw WW_wsX60 tyX6 tyX6_ok hown (htw _ mK_RX5_9) (htw _ mA_RX6) (htw _ mN_RX6) hKX.1 hP hD hS hA rfl (by decide) (Nat.le_of_ble_eq_true rfl) (Nat.le_of_ble_eq_true rfl) dX5_init_5 (fun q5 H hP hD hS => ?_)
  have hP : va_P D vwCl ([(q5, .inr (6, [.null, .int 0]))] ++ ([(h0, .inr (5, [.null, .null, .null, .int 0, .int 0, .int 0]))])) H := zP_perm List.perm_append_comm hP
  have hD : va_D A ([(q5, .inr (6, [.null, .int 0]))] ++ ([(h0, .inr (5, [.null, .null, .null, .int 0, .int 0, .int 0]))])) := zD_perm List.perm_append_comm hD
  refine W.widen (k := 1) (n := 2) (Nat.le_of_ble_eq_true rfl) (Nat.le_of_ble_eq_true rfl) ?_
  refine lv_dup hx hb dX5_init_8 rfl ?_
  refine zmk_N (As := []) (rest := [.ref (q5), .ref (h0)]) (ctX6_init l D ac cs q5 H.size) hx hb hml hown htw (hKX.2 _ (List.mem_of_getElem? (i := 29) rfl)) mN_RX6 mC_yX6_init rfl mI_yX6_init hd_yX6_init ⟨rfl, rfl⟩ ⟨(Nat.le_of_ble_eq_true rfl), (Nat.le_of_ble_eq_true rfl)⟩ hKX hC hS hA hP hD rfl hl.1 rfl (Nat.le_of_ble_eq_true rfl) ⟨(Nat.le_of_ble_eq_true rfl), (Nat.le_of_ble_eq_true rfl)⟩ dX5_init_9 (fun u H locs hu hP hD hS => ?_)
  obtain ⟨q5_s1, rfl⟩ : ∃ z, z = u := ⟨u, rfl⟩
  have hP : va_P D vwCl (txW ac (zq [q5, q5_s1]) Tx0 ++ ([(h0, .inr (5, [.null, .null, .null, .int 0, .int 0, .int 0]))])) H := hP
  have hD : va_D A (txW ac (zq [q5, q5_s1]) Tx0 ++ ([(h0, .inr (5, [.null, .null, .null, .int 0, .int 0, .int 0]))])) := hD
  refine W.widen (k := 2) (n := 202) (Nat.le_of_ble_eq_true rfl) (Nat.le_of_ble_eq_true rfl) ?_
  refine va_putF (D := D) (ci := 5) (v := .ref (q5)) (ty := tyX5 0) (C := RX5) (T := TX5) (N := 6) hx hb htw WW_wsX50 tyX5 tyX5_ok nmX5 hown hKX.1 hP hD hS 2 rfl rfl 0 (Nat.le_of_ble_eq_true rfl) (htw _ mF_RX5_12) (fun _ h9 => h9) rfl hin rfl (tyX5_ok 0 (Nat.le_of_ble_eq_true rfl)) rfl rfl (Nat.le_of_ble_eq_true rfl) dX5_init_12 (fun H locs hP hD hS => ?_)
  have hP : va_P D vwCl (txW ac (zq [q5, q5_s1]) Tx0 ++ ([(h0, .inr (5, [.ref (q5), .null, .null, .int 0, .int 0, .int 0]))])) H := hP
  have hD : va_D A (txW ac (zq [q5, q5_s1]) Tx0 ++ ([(h0, .inr (5, [.ref (q5), .null, .null, .int 0, .int 0, .int 0]))])) := hD
  refine lv_aload_n hx hb dX5_init_15 rfl (lv_at hl 0 rfl) ?_
  refine lv_iconst (v := 2) hx hb dX5_init_16 rfl ?_
  refine zn_arr (atype := .int) (ty := .int) 0 rfl (fun _ _ h => h) hx hb (htw _ mY__int) rfl hKX hP hD hS hA (N' := 2) (a0 := (2, .inl (fun _ => 0))) (fun _ => rfl) (by decide) rfl (Nat.le_of_ble_eq_true rfl) (Nat.le_of_ble_eq_true rfl) (Nat.le_of_ble_eq_true rfl) dX5_init_17 (fun q17 H hP hD hS => ?_)
  have hP : va_P D vwCl ([(q17, .inl (ac 0, 2, .inl (fun _ => 0)))] ++ (txW ac (zq [q5, q5_s1]) Tx0 ++ ([(h0, .inr (5, [.ref (q5), .null, .null, .int 0, .int 0, .int 0]))]))) H := zP_perm List.perm_append_comm hP
  have hD : va_D A ([(q17, .inl (ac 0, 2, .inl (fun _ => 0)))] ++ (txW ac (zq [q5, q5_s1]) Tx0 ++ ([(h0, .inr (5, [.ref (q5), .null, .null, .int 0, .int 0, .int 0]))]))) := zD_perm List.perm_append_comm hD
  refine W.widen (k := 3) (n := 204) (Nat.le_of_ble_eq_true rfl) (Nat.le_of_ble_eq_true rfl) ?_
  refine va_putF (D := D) (ci := 5) (v := .ref (q17)) (ty := tyX5 1) (C := RX5) (T := TX5) (N := 6) hx hb htw WW_wsX50 tyX5 tyX5_ok nmX5 hown hKX.1 hP hD hS 3 rfl rfl 1 (Nat.le_of_ble_eq_true rfl) (htw _ mF_RX5_18) (fun _ h9 => h9) rfl hin rfl (tyX5_ok 1 (Nat.le_of_ble_eq_true rfl)) rfl rfl (Nat.le_of_ble_eq_true rfl) dX5_init_19 (fun H locs hP hD hS => ?_)
  have hP : va_P D vwCl ([(q17, .inl (ac 0, 2, .inl (fun _ => 0)))] ++ (txW ac (zq [q5, q5_s1]) Tx0 ++ ([(h0, .inr (5, [.ref (q5), .ref (q17), .null, .int 0, .int 0, .int 0]))]))) H := hP
  have hD : va_D A ([(q17, .inl (ac 0, 2, .inl (fun _ => 0)))] ++ (txW ac (zq [q5, q5_s1]) Tx0 ++ ([(h0, .inr (5, [.ref (q5), .ref (q17), .null, .int 0, .int 0, .int 0]))]))) := hD
  refine lv_aload_n hx hb dX5_init_22 rfl (lv_at hl 0 rfl) ?_
  refine va_new (ci := 4) (fs := [.int 0, .int 0, .int 0, .int 0, .long 0, .long 0, .int 0, .int 0, .null, .null]) (C := RX4) (T := TX4) (N := 10) hx hb htw WW_wsX40 tyX4 tyX4_ok hown (htw _ mK_RX5_22) (htw _ mA_RX4) (htw _ mN_RX4) hKX.1 hP hD hS hA rfl (by decide) (Nat.le_of_ble_eq_true rfl) (Nat.le_of_ble_eq_true rfl) dX5_init_23 (fun q23 H hP hD hS => ?_)
  have hP : va_P D vwCl ([(q23, .inr (4, [.int 0, .int 0, .int 0, .int 0, .long 0, .long 0, .int 0, .int 0, .null, .null]))] ++ ([(q17, .inl (ac 0, 2, .inl (fun _ => 0)))] ++ (txW ac (zq [q5, q5_s1]) Tx0 ++ ([(h0, .inr (5, [.ref (q5), .ref (q17), .null, .int 0, .int 0, .int 0]))])))) H := zP_perm List.perm_append_comm hP
  have hD : va_D A ([(q23, .inr (4, [.int 0, .int 0, .int 0, .int 0, .long 0, .long 0, .int 0, .int 0, .null, .null]))] ++ ([(q17, .inl (ac 0, 2, .inl (fun _ => 0)))] ++ (txW ac (zq [q5, q5_s1]) Tx0 ++ ([(h0, .inr (5, [.ref (q5), .ref (q17), .null, .int 0, .int 0, .int 0]))])))) := zD_perm List.perm_append_comm hD
  refine W.widen (k := 4) (n := 214) (Nat.le_of_ble_eq_true rfl) (Nat.le_of_ble_eq_true rfl) ?_
  refine lv_dup hx hb dX5_init_26 rfl ?_
  refine zmk_N (As := []) (rest := [.ref (q23), .ref (h0)]) (ctX4_init l D ac cs q23 H.size) hx hb hml hown htw (hKX.2 _ (List.mem_of_getElem? (i := 30) rfl)) mN_RX4 mC_yX4_init rfl mI_yX4_init hd_yX4_init ⟨rfl, rfl⟩ ⟨(Nat.le_of_ble_eq_true rfl), (Nat.le_of_ble_eq_true rfl)⟩ hKX hC hS hA hP hD rfl hl.1 rfl (Nat.le_of_ble_eq_true rfl) ⟨(Nat.le_of_ble_eq_true rfl), (Nat.le_of_ble_eq_true rfl)⟩ dX5_init_27 (fun u H locs hu hP hD hS => ?_)
  obtain ⟨q23_n, q23_k⟩ := u
  have hP : va_P D vwCl (shW ac (zq [q23, q23_n, q23_k]) Sh0 ++ ([(q17, .inl (ac 0, 2, .inl (fun _ => 0)))] ++ (txW ac (zq [q5, q5_s1]) Tx0 ++ ([(h0, .inr (5, [.ref (q5), .ref (q17), .null, .int 0, .int 0, .int 0]))])))) H := hP
  have hD : va_D A (shW ac (zq [q23, q23_n, q23_k]) Sh0 ++ ([(q17, .inl (ac 0, 2, .inl (fun _ => 0)))] ++ (txW ac (zq [q5, q5_s1]) Tx0 ++ ([(h0, .inr (5, [.ref (q5), .ref (q17), .null, .int 0, .int 0, .int 0]))])))) := hD
  refine W.widen (k := 6) (n := 228) (Nat.le_of_ble_eq_true rfl) (Nat.le_of_ble_eq_true rfl) ?_
  refine va_putF (D := D) (ci := 5) (v := .ref (q23)) (ty := tyX5 2) (C := RX5) (T := TX5) (N := 6) hx hb htw WW_wsX50 tyX5 tyX5_ok nmX5 hown hKX.1 hP hD hS 6 rfl rfl 2 (Nat.le_of_ble_eq_true rfl) (htw _ mF_RX5_25) (fun _ h9 => h9) rfl hin rfl (tyX5_ok 2 (Nat.le_of_ble_eq_true rfl)) rfl rfl (Nat.le_of_ble_eq_true rfl) dX5_init_30 (fun H locs hP hD hS => ?_)
  have hP : va_P D vwCl (shW ac (zq [q23, q23_n, q23_k]) Sh0 ++ ([(q17, .inl (ac 0, 2, .inl (fun _ => 0)))] ++ (txW ac (zq [q5, q5_s1]) Tx0 ++ ([(h0, .inr (5, [.ref (q5), .ref (q17), .ref (q23), .int 0, .int 0, .int 0]))])))) H := hP
  have hD : va_D A (shW ac (zq [q23, q23_n, q23_k]) Sh0 ++ ([(q17, .inl (ac 0, 2, .inl (fun _ => 0)))] ++ (txW ac (zq [q5, q5_s1]) Tx0 ++ ([(h0, .inr (5, [.ref (q5), .ref (q17), .ref (q23), .int 0, .int 0, .int 0]))])))) := hD
  have hpm : (shW ac (zq [q23, q23_n, q23_k]) Sh0 ++ ([(q17, .inl (ac 0, 2, .inl (fun _ => 0)))] ++ (txW ac (zq [q5, q5_s1]) Tx0 ++ ([(h0, .inr (5, [.ref (q5), .ref (q17), .ref (q23), .int 0, .int 0, .int 0]))]))) : va_W).Perm (teW ac (zq [h0, q17]) (zq [q5, q5_s1]) (zq [q23, q23_n, q23_k]) Te0 ++ (txW ac (zq [q5, q5_s1]) Tx0 ++ shW ac (zq [q23, q23_n, q23_k]) Sh0)) := zidx [6, 3, 4, 5, 0, 1, 2] rfl (n := 7) rfl (by decide +kernel)
  have hP : va_P D vwCl (teW ac (zq [h0, q17]) (zq [q5, q5_s1]) (zq [q23, q23_n, q23_k]) Te0 ++ (txW ac (zq [q5, q5_s1]) Tx0 ++ shW ac (zq [q23, q23_n, q23_k]) Sh0)) H := zP_perm hpm hP
  have hD : va_D A (teW ac (zq [h0, q17]) (zq [q5, q5_s1]) (zq [q23, q23_n, q23_k]) Te0 ++ (txW ac (zq [q5, q5_s1]) Tx0 ++ shW ac (zq [q23, q23_n, q23_k]) Sh0)) := zD_perm hpm hD
  exact zr_MvX (wf := fun u : Nat × Nat × Nat × Nat × Nat × Nat => teW ac (zq [h0, u.2.2.1]) (zq [u.1, u.2.1]) (zq [u.2.2.2.1, u.2.2.2.2.1, u.2.2.2.2.2]) Te0 ++ (txW ac (zq [u.1, u.2.1]) Tx0 ++ shW ac (zq [u.2.2.2.1, u.2.2.2.2.1, u.2.2.2.2.2]) Sh0)) (q5, q5_s1, q17, q23, q23_n, q23_k) hx hb hr hlocks hP hD hS dX5_init_33

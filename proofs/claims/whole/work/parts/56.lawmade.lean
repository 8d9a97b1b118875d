def L_made (now : Sh) (a1 : Int32) (o : Nat → Int64) : Int32 × (Nat → Int64) := match K_made now a1 with
  | some r => (0, vp_updL o 0 r.toInt64)
  | none => (1, o)
theorem hd_yL_made : hdY yL_made 3 := by decide +kernel
set_option maxHeartbeats 4000000 in
set_option maxRecDepth 100000 in
theorem ctL_made (l : Launch) (htr : l.stackTraces = false) (D : va_G) (ac cs : Nat → Nat) (a : Nat → Nat → Nat) (w1 w2 qo sz : Nat) (ko : Ko) (tx : Tx) (now : Sh) (tr : Sh) (te : Te) (pa : Pa) (fc : Fc) (to : Fr) (tp : Fr) (re : Re) (k0 : Sh) (k1 : Sh) (ti : Sh) (rg : Nat → Sh) (o : Nat → Int64) (a1 : Int32) : Met l yL_made (.codeWith yL_made cL_made 4 (some .int) [(0, 9, 12, 13)] :: wsL_lawJ) { frames := 7, cells := 1, slots := 6, locals := 103 } (zX D ac cs [.ref (a 0 0), .int a1, .ref qo] ((KE ac a w1 w2 ko tx now tr te pa fc to tp re k0 k1 ti ++ ajW ac qo 1 o) ++ ringW ac a rg) sz) (va_Qi (fun r (_ : Unit) => r = (L_made now a1 o).1) (fun _ => zB D (va_A ((KE ac a w1 w2 ko tx now tr te pa fc to tp re k0 k1 ti ++ ajW ac qo 1 o) ++ ringW ac a rg) sz) ((KE ac a w1 w2 ko tx now tr te pa fc to tp re k0 k1 ti ++ ajW ac qo 1 (L_made now a1 o).2) ++ ringW ac a rg)) (va_A ((KE ac a w1 w2 ko tx now tr te pa fc to tp re k0 k1 ti ++ ajW ac qo 1 o) ++ ringW ac a rg) sz)) 1 6 (va_A ((KE ac a w1 w2 ko tx now tr te pa fc to tp re k0 k1 ti ++ ajW ac qo 1 o) ++ ringW ac a rg) sz) := by
  refine va_MetW (cc := cL_made) (maxL := 4) (ret := (some .int)) (hh := [(0, 9, 12, 13)]) (by decide) rfl ?_
  intro p e s m args below meth c s₁ B hml hv
  obtain ⟨⟨rfl, hsz, hP, hKX, hD0, hC⟩, hXF⟩ := hv
  have hx := B.exec
  have hb := B.bytes
  have hr := B.returns
  have hts := atoms_spec (ws := (.codeWith yL_made cL_made 4 (some .int) [(0, 9, 12, 13)] :: wsL_lawJ)) B.pre
  have htab : c.exceptionTable.toList = tableOf [(0, 9, 12, 13)] := vx_table (x := yL_made) B (hts _ List.mem_cons_self)
  have htl : ∀ w ∈ wsL_lawJ, w.before _ s = true := fun w h => hts w (List.mem_cons_of_mem _ h)
  have htw : ∀ w ∈ WW, w.before _ s = true := fun w h => htl w (WWx h)
  have hown : s.vm.findClass RL = some m.cls := findClass_of_methodNamed B.named
  have hlocks := B.notSynchronized
  clear hts B
  subst hsz
  have hD := hD0.self (sz := s.heap.size)
  generalize hAe : va_A ((KE ac a w1 w2 ko tx now tr te pa fc to tp re k0 k1 ti ++ ajW ac qo 1 o) ++ ringW ac a rg) s.heap.size = A at hD hC hXF ⊢
  have hA : ∀ q : Nat, s.heap.size ≤ q → A q := fun q h => by rw [← hAe]; exact Or.inr h
  have hS : va_S A s.heap s.heap [] := va_S.rf
  clear hD0 hAe
  have hP : va_P D vwCl ((KE ac a w1 w2 ko tx now tr te pa fc to tp re k0 k1 ti ++ ajW ac qo 1 o) ++ ringW ac a rg) s.heap := hP
  have hl := lv_entry ([.ref (a 0 0), .int a1, .ref qo]) (n := 4) (Nat.le_of_ble_eq_true rfl)
  rw [lg_entry_eq]
  generalize (lg_sl ([.ref (a 0 0), .int a1, .ref qo]) ++ List.replicate (4 - (lg_sl ([.ref (a 0 0), .int a1, .ref qo])).length) Slot.unset).toArray = ls at hl ⊢
  have hl : lv_has ls 4 [(0, .ref (a 0 0)), (1, .int a1), (2, .ref qo)] := hl
  show W p l e ({ frames := 7, cells := 1, slots := 6, locals := 103 } : Room) s m _ below meth c s.heap [] 0 0 _ (F0 m 0 ls [])
  refine lv_aload_n hx hb dL_made_0 rfl (lv_at hl 2 rfl) ?_
  refine lv_iconst (v := 0) hx hb dL_made_1 rfl ?_
  refine lv_aload_n hx hb dL_made_2 rfl (lv_at hl 0 rfl) ?_
  refine lv_iload_n hx hb dL_made_3 rfl (lv_at hl 1 rfl) ?_
  have hpm : ((KE ac a w1 w2 ko tx now tr te pa fc to tp re k0 k1 ti ++ ajW ac qo 1 o) ++ ringW ac a rg : va_W).Perm ((KE ac a w1 w2 ko tx now tr te pa fc to tp re k0 k1 ti ++ ringW ac a rg) ++ ajW ac qo 1 o) := zpermT (C := KE ac a w1 w2 ko tx now tr te pa fc to tp re k0 k1 ti) (Rr := ajW ac qo 1 o) (List.range 39) rfl (n := 39) rfl (by decide +kernel)
  have hP2 := zP_perm hpm hP
  have hD2 := zD_perm hpm hD
  obtain ⟨hPc, hDc, hF⟩ := zmk_pre hKX hC hS hA hP2 hD2
  have hz := zp_MV (cs := cs) (As := [.int a1]) (b := a 0 0) (C := RX7) hKX hC hS hPc hDc hF (va_recv hKX.1 hPc (ci := 7) (q0 := 0) rfl rfl)
  refine vx_calli (vx_runV (As := [.int a1]) (rest := [.int 0, .ref qo]) ⟨hx, hb, hml, hown, htl⟩ (ctX7_made l htr D ac cs a w1 w2 s.heap.size ko tx now tr te pa fc to tp re k0 k1 ti rg a1) (cwV 1 htl (gx_c (WWx mM_RL_7) (gx_c (WWx mI_yX7_made) (gx_c (WWx mS_RX7_yX7_made_yX7_made) (gx_c (WWx mN_RX7) (gx_c (WWx mC_yX7_made) wsL_GI))))) rfl rfl rfl ⟨rfl, hd_yX7_made⟩ ⟨(Nat.le_of_ble_eq_true rfl), (Nat.le_of_ble_eq_true rfl)⟩) ⟨zX.blind, hz.2.1, fun U hU hW => ⟨hz.2.2 U hU hW, by rw [hU]; exact ((hXF.kept hS.2.1).narrow hF).warm hW⟩⟩ rfl rfl hl.1 rfl (lv_room (Nat.le_of_ble_eq_true rfl)) dL_made_4 ⟨(Nat.le_of_ble_eq_true rfl), (Nat.le_of_ble_eq_true rfl)⟩) hS (fun q _ h => hF q h) hF (fun q _ h => hF q h) (fun E ce q9 u t H1 locs1 ht hvm hpx hBX hz1 hk1 hS hcell hv hcl => ?_) (fun r u t H1 locs1 ht hvm hpr hB hz1 hk1 hS => ?_)
  · obtain ⟨rfl, hP1, hD1⟩ := hBX
    rw [ht] at hP1
    obtain ⟨hP3, hD3⟩ := va_joinT (wr := []) (w1 := KE ac a w1 w2 ko tx now tr te pa fc to tp re k0 k1 ti ++ ringW ac a rg) hP2 hD2 (List.range _) [] (zrange _) rfl rfl (fun _ h => by cases h) hk1 hF hP1 hD1
    have hP : va_P D vwCl ((KE ac a w1 w2 ko tx now tr te pa fc to tp re k0 k1 ti ++ ajW ac qo 1 o) ++ ringW ac a rg) H1 := zP_perm hpm.symm hP3
    have hD : va_D A ((KE ac a w1 w2 ko tx now tr te pa fc to tp re k0 k1 ti ++ ajW ac qo 1 o) ++ ringW ac a rg) := zD_perm hpm.symm hD3
    refine vx_catch (own := RL) (name := "java/util/NoSuchElementException") (E := NSE) hown [] { startPc := 0, endPc := 9, handlerPc := 12, catchType := 13 } [] (by rw [htab]; rfl) (fun _ h => by cases h) (by decide) (by decide) (htw _ mK_RL_13) (badL_use _ (List.mem_of_getElem? (i := 0) rfl) (hXF.1 _ (List.mem_of_getElem? (i := 0) rfl))) hcell hv hcl ?_
    refine lv_astore_n (lv' := [(3, .ref q9), (0, .ref (a 0 0)), (1, .int a1), (2, .ref qo)]) hx hb dL_made_12 rfl hl (Nat.le_of_ble_eq_true rfl) rfl (fun ls hl => ?_)
    refine lv_iconst (v := 1) hx hb dL_made_13 rfl ?_
    have e1 : L_made now a1 o = (1, o) := by unfold L_made; rw [hpx]
    rw [e1]
    exact zr_Mi hx hb hr hlocks hP hD hS dL_made_14
  · obtain ⟨hP1, hD1⟩ := hB
    rw [ht] at hP1
    obtain ⟨hP3, hD3⟩ := va_joinT (wr := []) (w1 := KE ac a w1 w2 ko tx now tr te pa fc to tp re k0 k1 ti ++ ringW ac a rg) hP2 hD2 (List.range _) [] (zrange _) rfl rfl (fun _ h => by cases h) hk1 hF hP1 hD1
    have hP : va_P D vwCl ((KE ac a w1 w2 ko tx now tr te pa fc to tp re k0 k1 ti ++ ajW ac qo 1 o) ++ ringW ac a rg) H1 := zP_perm hpm.symm hP3
    have hD : va_D A ((KE ac a w1 w2 ko tx now tr te pa fc to tp re k0 k1 ti ++ ajW ac qo 1 o) ++ ringW ac a rg) := zD_perm hpm.symm hD3
    refine lv_i2l hx hb dL_made_7 rfl ?_
    refine zv_last_k hx hb hKX.1 hP hD hS 38 1 rfl rfl 0 rfl (z_in_u (by decide +kernel)) dL_made_8 (fun H locs hP hD hS => ?_)
    have hP : va_P D vwCl ((KE ac a w1 w2 ko tx now tr te pa fc to tp re k0 k1 ti ++ ajW ac qo 1 (vp_updL o 0 r.toInt64)) ++ ringW ac a rg) H := hP
    have hD : va_D A ((KE ac a w1 w2 ko tx now tr te pa fc to tp re k0 k1 ti ++ ajW ac qo 1 (vp_updL o 0 r.toInt64)) ++ ringW ac a rg) := hD
    refine lv_goto (tgt := 15) hx hb dL_made_9 (by decide) ?_
    refine lv_iconst (v := 0) hx hb dL_made_15 rfl ?_
    have e1 : L_made now a1 o = (0, vp_updL o 0 r.toInt64) := by unfold L_made; rw [hpr]
    rw [e1]
    exact zr_Mi hx hb hr hlocks hP hD hS dL_made_16

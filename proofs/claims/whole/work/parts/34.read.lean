theorem hd_yX8_wrong : hdY yX8_wrong 1 := by decide +kernel
def M_wrong (ps : Ps) (a1 : Int32) : Ps := z_let (if (ps_isGood ps) = 0 then (ps_fault ps) else a1) (fun v1 : Int32 => ((ps_reading ps), v1, 0, (ps_draft ps), (ps_had ps), (ps_tells ps)))
set_option maxHeartbeats 4000000 in
set_option maxRecDepth 100000 in
theorem ctX8_wrong (l : Launch) (D : va_G) (ac cs : Nat → Nat) (q : Nat → Nat) (sz : Nat) (th : Th) (row : MRow) (un : Un) (kp : Kp) (mt : Mt) (ps : Ps) (bx : Bx) (mo : Mo) (su : Su) (wy : Wy) (wa : Wa) (od : Od) (py : Py) (ju : Ju) (pl : Pl) (rs : Rs) (a1 : Int32) (res : Ps) (hf : M_wrong ps a1 = res) : Met l yX8_wrong (cWW yX8_wrong cX8_wrong 2 none) { frames := 0, cells := 0, slots := 0, locals := 0 } (zM D ac cs [.ref (q 0), .int a1] (moW ac q th row un kp mt ps bx mo su wy wa od py ju pl rs) sz) (va_Qv (fun _ : Unit => True) (fun _ => zB D (va_A (moW ac q th row un kp mt ps bx mo su wy wa od py ju pl rs) sz) (moW ac q th row un kp mt res bx mo su wy wa od py ju pl rs)) (va_A (moW ac q th row un kp mt ps bx mo su wy wa od py ju pl rs) sz)) 0 0 (va_A (moW ac q th row un kp mt ps bx mo su wy wa od py ju pl rs) sz) := by
  refine Met.ofW (cc := cX8_wrong) (maxL := 2) (ret := none) (by decide) rfl ?_
  intro p e s m args below meth c s₁ B hml hv
  obtain ⟨rfl, hsz, hP, hKX, hD0, hC⟩ := hv
  have hx := B.exec
  have hb := B.bytes
  have hr := B.returns
  have hts := atoms_spec (ws := cWW yX8_wrong cX8_wrong 2 none) B.pre
  have htw : ∀ w ∈ WW, w.before _ s = true := fun w h => hts w (List.mem_cons_of_mem _ h)
  have hown : s.vm.findClass RX8 = some m.cls := findClass_of_methodNamed B.named
  have hlocks := B.notSynchronized
  clear hts B
  subst hsz
  have hD := hD0.self (sz := s.heap.size)
  generalize hAe : va_A (moW ac q th row un kp mt ps bx mo su wy wa od py ju pl rs) s.heap.size = A at hD hC ⊢
  have hA : ∀ q : Nat, s.heap.size ≤ q → A q := fun q h => by rw [← hAe]; exact Or.inr h
  have hS : va_S A s.heap s.heap [] := va_S.rf
  clear hD0 hAe
  have hP : va_P D vwCl (moW ac q th row un kp mt ps bx mo su wy wa od py ju pl rs) s.heap := hP
  have hl := lv_entry ([.ref (q 0), .int a1]) (n := 2) (Nat.le_of_ble_eq_true rfl)
  rw [lg_entry_eq]
  generalize (lg_sl ([.ref (q 0), .int a1]) ++ List.replicate (2 - (lg_sl ([.ref (q 0), .int a1])).length) Slot.unset).toArray = ls at hl ⊢
  have hl : lv_has ls 2 [(0, .ref (q 0)), (1, .int a1)] := hl
  unfold M_wrong at hf
  show W p l e ({ frames := 0, cells := 0, slots := 0, locals := 0 } : Room) s m _ below meth c s.heap [] 0 0 _ (F0 m 0 ls [])
  refine lv_aload_n hx hb dX8_wrong_0 rfl (lv_at hl 0 rfl) ?_
  refine lv_aload_n hx hb dX8_wrong_1 rfl (lv_at hl 0 rfl) ?_
  refine va_get (D := D) (ci := 8) (v := .int (ps_isGood ps)) (C := RX8) (T := TX8) (N := 41) hx hb htw WW_wsX80 hown hKX.1 hP 0 rfl rfl 10 (Nat.le_of_ble_eq_true rfl) (htw _ mF_RX8_97) (fun _ h9 => h9) rfl dX8_wrong_2 ?_
  have hj3 : ∀ (v1 : Int32), v1 = (if (ps_isGood ps) = 0 then (ps_fault ps) else a1) → ∀ (H : Heap) (locs : List Loc) (ls : Array Slot), va_P D vwCl (moW ac q th row un kp mt ps bx mo su wy wa od py ju pl rs) H → va_D A (moW ac q th row un kp mt ps bx mo su wy wa od py ju pl rs) → va_S A s.heap H locs → lv_has ls 2 [(0, .ref (q 0))] → W p l e ({ frames := 0, cells := 0, slots := 0, locals := 0 } : Room) s m (([.ref (q 0), .int a1] : List Value).toArray) below meth c H locs 0 0 (MQ below (va_Qv (fun _ : Unit => True) (fun _ => zB D A (moW ac q th row un kp mt res bx mo su wy wa od py ju pl rs)) A) ([.ref (q 0), .int a1] : List Value).toArray s 0 0 A) (F0 m 16 ls [.int v1, .ref (q 0)]) := by
    intro v1 hv1 H locs ls hP hD hS hl
    have hf := z_let_u hv1 hf
    refine va_put (D := D) (ci := 8) (v := .int v1) (ty := tyX8 9) (C := RX8) (T := TX8) (N := 41) hx hb htw WW_wsX80 tyX8 tyX8_ok nmX8 hown hKX.1 hP hD hS 0 rfl rfl 9 (Nat.le_of_ble_eq_true rfl) (htw _ mF_RX8_101) (fun _ h9 => h9) rfl (tyX8_ok 9 (Nat.le_of_ble_eq_true rfl)) rfl rfl (Nat.le_of_ble_eq_true rfl) dX8_wrong_16 (fun H locs hP hD hS => ?_)
    have hP : va_P D vwCl (moW ac q th row un kp mt ((ps_reading ps), v1, (ps_isGood ps), (ps_draft ps), (ps_had ps), (ps_tells ps)) bx mo su wy wa od py ju pl rs) H := hP
    have hD : va_D A (moW ac q th row un kp mt ((ps_reading ps), v1, (ps_isGood ps), (ps_draft ps), (ps_had ps), (ps_tells ps)) bx mo su wy wa od py ju pl rs) := hD
    refine lv_aload_n hx hb dX8_wrong_19 rfl (lv_at hl 0 rfl) ?_
    refine lv_iconst (v := 0) hx hb dX8_wrong_20 rfl ?_
    refine va_put (D := D) (ci := 8) (v := .int 0) (ty := tyX8 10) (C := RX8) (T := TX8) (N := 41) hx hb htw WW_wsX80 tyX8 tyX8_ok nmX8 hown hKX.1 hP hD hS 0 rfl rfl 10 (Nat.le_of_ble_eq_true rfl) (htw _ mF_RX8_97) (fun _ h9 => h9) rfl (tyX8_ok 10 (Nat.le_of_ble_eq_true rfl)) (z_b_n z_b0) (z_b_f z_b0) (Nat.le_of_ble_eq_true rfl) dX8_wrong_21 (fun H locs hP hD hS => ?_)
    have hP : va_P D vwCl (moW ac q th row un kp mt ((ps_reading ps), v1, 0, (ps_draft ps), (ps_had ps), (ps_tells ps)) bx mo su wy wa od py ju pl rs) H := hP
    have hD : va_D A (moW ac q th row un kp mt ((ps_reading ps), v1, 0, (ps_draft ps), (ps_had ps), (ps_tells ps)) bx mo su wy wa od py ju pl rs) := hD
    subst hf
    exact zr_Mv hx hb hr hlocks hP hD hS dX8_wrong_24
  refine lv_if_eq (tgt := 12) hx hb dX8_wrong_5 (by decide) (fun c4 => ?_) (fun c4 => ?_)
  · skip
    refine lv_aload_n hx hb dX8_wrong_12 rfl (lv_at hl 0 rfl) ?_
    refine va_get (D := D) (ci := 8) (v := .int (ps_fault ps)) (C := RX8) (T := TX8) (N := 41) hx hb htw WW_wsX80 hown hKX.1 hP 0 rfl rfl 9 (Nat.le_of_ble_eq_true rfl) (htw _ mF_RX8_101) (fun _ h9 => h9) rfl dX8_wrong_13 ?_
    exact hj3 (ps_fault ps) (if_pos c4).symm _ _ ls hP hD hS (lv_sub hl [0] rfl)
  · skip
    refine lv_iload_n hx hb dX8_wrong_8 rfl (lv_at hl 1 rfl) ?_
    refine lv_goto (tgt := 16) hx hb dX8_wrong_9 (by decide) ?_
    exact hj3 a1 (if_neg c4).symm _ _ ls hP hD hS (lv_sub hl [0] rfl)

theorem hd_yX8_next : hdY yX8_next 0 := by decide +kernel
def M_next_L0 (mt : Mt) (kx5 : Ps → Option (Int32 × Ps)) : Nat → Ps → Option (Int32 × Ps)
  | 0, _ => none
  | n3 + 1, ps1 => if (mt_texted mt) ≤ (ps_reading ps1) then (kx5 ps1) else (z_gd (z_in (ps_reading ps1) 200) (if ((mt_text mt) (ps_reading ps1).toNatClampNeg) = 32 then (z_let ((ps_reading ps1) + 1) (fun x10 : Int32 => M_next_L0 mt kx5 n3 (x10, (ps_fault ps1), (ps_isGood ps1), (ps_draft ps1), (ps_had ps1), (ps_tells ps1)))) else (kx5 ps1)))
def M_next (F : Nat) (mt : Mt) (ps : Ps) : Option (Int32 × Ps) := M_next_L0 mt (fun (ps6 : Ps) => if (mt_texted mt) ≤ (ps_reading ps6) then (some (0, ps6)) else (z_gd (z_in (ps_reading ps6) 200) (some (((mt_text mt) (ps_reading ps6).toNatClampNeg), ps6)))) F ps
set_option maxHeartbeats 4000000 in
set_option maxRecDepth 100000 in
theorem ctX8_next (l : Launch) (D : va_G) (ac cs : Nat → Nat) (q : Nat → Nat) (sz : Nat) (th : Th) (row : MRow) (un : Un) (kp : Kp) (mt : Mt) (ps : Ps) (bx : Bx) (mo : Mo) (su : Su) (wy : Wy) (wa : Wa) (od : Od) (py : Py) (ju : Ju) (pl : Pl) (rs : Rs) (F : Nat) (res : Int32 × Ps) (hf : M_next F mt ps = some res) : Met l yX8_next (cWW yX8_next cX8_next 1 (some .int)) { frames := 0, cells := 0, slots := 0, locals := 0 } (zM D ac cs [.ref (q 0)] (moW ac q th row un kp mt ps bx mo su wy wa od py ju pl rs) sz) (va_Qi (fun r (_ : Unit) => r = res.1) (fun _ => zB D (va_A (moW ac q th row un kp mt ps bx mo su wy wa od py ju pl rs) sz) (moW ac q th row un kp mt res.2 bx mo su wy wa od py ju pl rs)) (va_A (moW ac q th row un kp mt ps bx mo su wy wa od py ju pl rs) sz)) 0 0 (va_A (moW ac q th row un kp mt ps bx mo su wy wa od py ju pl rs) sz) := by
  refine Met.ofW (cc := cX8_next) (maxL := 1) (ret := (some .int)) (by decide) rfl ?_
  intro p e s m args below meth c s₁ B hml hv
  obtain ⟨rfl, hsz, hP, hKX, hD0, hC⟩ := hv
  have hx := B.exec
  have hb := B.bytes
  have hr := B.returns
  have hts := atoms_spec (ws := cWW yX8_next cX8_next 1 (some .int)) B.pre
  have htw : ∀ w ∈ WW, w.before _ s = true := fun w h => hts w (List.mem_cons_of_mem _ h)
  have hown : s.vm.findClass RX8 = some m.cls := findClass_of_methodNamed B.named
  have hlocks := B.notSynchronized
  clear hts B
  subst hsz
  have hD := hD0.self (sz := s.heap.size)
  generalize hAe : va_A (moW ac q th row un kp mt ps bx mo su wy wa od py ju pl rs) s.heap.size = A at hD hC ⊢
  have hA : ∀ q : Nat, s.heap.size ≤ q → A q := fun q h => by rw [← hAe]; exact Or.inr h
  have hS : va_S A s.heap s.heap [] := va_S.rf
  clear hD0 hAe
  have hP : va_P D vwCl (moW ac q th row un kp mt ps bx mo su wy wa od py ju pl rs) s.heap := hP
  have hl := lv_entry ([.ref (q 0)]) (n := 1) (Nat.le_of_ble_eq_true rfl)
  rw [lg_entry_eq]
  generalize (lg_sl ([.ref (q 0)]) ++ List.replicate (1 - (lg_sl ([.ref (q 0)])).length) Slot.unset).toArray = ls at hl ⊢
  have hl : lv_has ls 1 [(0, .ref (q 0))] := hl
  unfold M_next at hf
  show W p l e ({ frames := 0, cells := 0, slots := 0, locals := 0 } : Room) s m _ below meth c s.heap [] 0 0 _ (F0 m 0 ls [])
  have hL2 : ∀ (kx5 : Ps → Option (Int32 × Ps)) (hkx5 : ∀ (ps6 : Ps), kx5 ps6 = some res → ∀ (H : Heap) (locs : List Loc) (ls : Array Slot), va_P D vwCl (moW ac q th row un kp mt ps6 bx mo su wy wa od py ju pl rs) H → va_D A (moW ac q th row un kp mt ps6 bx mo su wy wa od py ju pl rs) → va_S A s.heap H locs → lv_has ls 1 [(0, .ref (q 0))] → W p l e ({ frames := 0, cells := 0, slots := 0, locals := 0 } : Room) s m (([.ref (q 0)] : List Value).toArray) below meth c H locs 0 0 (MQ below (va_Qi (fun r (_ : Unit) => r = res.1) (fun _ => zB D A (moW ac q th row un kp mt res.2 bx mo su wy wa od py ju pl rs)) A) ([.ref (q 0)] : List Value).toArray s 0 0 A) (F0 m 38 ls [])) (n3 : Nat) (ps1 : Ps), M_next_L0 mt kx5 n3 ps1 = some res → ∀ (H : Heap) (locs : List Loc) (ls : Array Slot), va_P D vwCl (moW ac q th row un kp mt ps1 bx mo su wy wa od py ju pl rs) H → va_D A (moW ac q th row un kp mt ps1 bx mo su wy wa od py ju pl rs) → va_S A s.heap H locs → lv_has ls 1 [(0, .ref (q 0))] → W p l e ({ frames := 0, cells := 0, slots := 0, locals := 0 } : Room) s m (([.ref (q 0)] : List Value).toArray) below meth c H locs 0 0 (MQ below (va_Qi (fun r (_ : Unit) => r = res.1) (fun _ => zB D A (moW ac q th row un kp mt res.2 bx mo su wy wa od py ju pl rs)) A) ([.ref (q 0)] : List Value).toArray s 0 0 A) (F0 m 0 ls []) := by
    intro kx5 hkx5 n3
    induction n3 with
    | zero => intro ps1 hf; rw [M_next_L0] at hf; cases hf
    | succ n3 ih4 =>
      intro ps1 hf H locs ls hP hD hS hl
      rw [M_next_L0] at hf
      refine lv_aload_n hx hb dX8_next_0 rfl (lv_at hl 0 rfl) ?_
      refine va_get (D := D) (ci := 8) (v := .int (ps_reading ps1)) (C := RX8) (T := TX8) (N := 41) hx hb htw WW_wsX80 hown hKX.1 hP 0 rfl rfl 8 (Nat.le_of_ble_eq_true rfl) (htw _ mF_RX8_104) (fun _ h9 => h9) rfl dX8_next_1 ?_
      refine lv_aload_n hx hb dX8_next_4 rfl (lv_at hl 0 rfl) ?_
      refine va_get (D := D) (ci := 8) (v := .int (mt_texted mt)) (C := RX8) (T := TX8) (N := 41) hx hb htw WW_wsX80 hown hKX.1 hP 0 rfl rfl 7 (Nat.le_of_ble_eq_true rfl) (htw _ mF_RX8_94) (fun _ h9 => h9) rfl dX8_next_5 ?_
      refine lv_icmp_ge (tgt := 38) hx hb dX8_next_8 (by decide) (fun c7 => ?_) (fun c7 => ?_)
      · have hf := z_p c7 hf
        exact hkx5 ps1 hf _ _ ls  hP hD hS (lv_sub hl [0] rfl)
      · have hf := z_n c7 hf
        refine lv_aload_n hx hb dX8_next_11 rfl (lv_at hl 0 rfl) ?_
        refine va_get (D := D) (ci := 8) (v := .ref (q 5)) (C := RX8) (T := TX8) (N := 41) hx hb htw WW_wsX80 hown hKX.1 hP 0 rfl rfl 6 (Nat.le_of_ble_eq_true rfl) (htw _ mF_RX8_25) (fun _ h9 => h9) rfl dX8_next_12 ?_
        refine lv_aload_n hx hb dX8_next_15 rfl (lv_at hl 0 rfl) ?_
        refine va_get (D := D) (ci := 8) (v := .int (ps_reading ps1)) (C := RX8) (T := TX8) (N := 41) hx hb htw WW_wsX80 hown hKX.1 hP 0 rfl rfl 8 (Nat.le_of_ble_eq_true rfl) (htw _ mF_RX8_104) (fun _ h9 => h9) rfl dX8_next_16 ?_
        obtain ⟨g8, hf⟩ := z_gd_u hf
        refine va_bald hx hb hKX.1 hP 5 3 rfl rfl (z_in_u g8) dX8_next_19 ?_
        refine lv_bipush (v := 32) hx hb dX8_next_20 rfl ?_
        refine lv_icmp_ne (tgt := 38) hx hb dX8_next_22 (by decide) (fun c9 => ?_) (fun c9 => ?_)
        · have hf := z_n c9 hf
          exact hkx5 ps1 hf _ _ ls  hP hD hS (lv_sub hl [0] rfl)
        · have hf := z_p c9 hf
          refine lv_aload_n hx hb dX8_next_25 rfl (lv_at hl 0 rfl) ?_
          refine lv_dup hx hb dX8_next_26 rfl ?_
          refine va_get (D := D) (ci := 8) (v := .int (ps_reading ps1)) (C := RX8) (T := TX8) (N := 41) hx hb htw WW_wsX80 hown hKX.1 hP 0 rfl rfl 8 (Nat.le_of_ble_eq_true rfl) (htw _ mF_RX8_104) (fun _ h9 => h9) rfl dX8_next_27 ?_
          refine lv_iconst (v := 1) hx hb dX8_next_30 rfl ?_
          refine lv_iadd hx hb dX8_next_31 ?_
          refine lv_topi (fun x10 hx10 => ?_)
          have hf := z_let_u hx10 hf
          refine va_put (D := D) (ci := 8) (v := .int x10) (ty := tyX8 8) (C := RX8) (T := TX8) (N := 41) hx hb htw WW_wsX80 tyX8 tyX8_ok nmX8 hown hKX.1 hP hD hS 0 rfl rfl 8 (Nat.le_of_ble_eq_true rfl) (htw _ mF_RX8_104) (fun _ h9 => h9) rfl (tyX8_ok 8 (Nat.le_of_ble_eq_true rfl)) rfl rfl (Nat.le_of_ble_eq_true rfl) dX8_next_32 (fun H locs hP hD hS => ?_)
          have hP : va_P D vwCl (moW ac q th row un kp mt (x10, (ps_fault ps1), (ps_isGood ps1), (ps_draft ps1), (ps_had ps1), (ps_tells ps1)) bx mo su wy wa od py ju pl rs) H := hP
          have hD : va_D A (moW ac q th row un kp mt (x10, (ps_fault ps1), (ps_isGood ps1), (ps_draft ps1), (ps_had ps1), (ps_tells ps1)) bx mo su wy wa od py ju pl rs) := hD
          refine lv_goto (tgt := 0) hx hb dX8_next_35 (by decide) ?_
          exact ih4 (x10, (ps_fault ps1), (ps_isGood ps1), (ps_draft ps1), (ps_had ps1), (ps_tells ps1)) hf _ _ ls  hP hD hS (lv_sub hl [0] rfl)
  refine hL2 _ ?_ F ps hf _ _ ls  hP hD hS (lv_sub hl [0] rfl)
  intro ps6 hf H locs ls hP hD hS hl
  refine lv_aload_n hx hb dX8_next_38 rfl (lv_at hl 0 rfl) ?_
  refine va_get (D := D) (ci := 8) (v := .int (ps_reading ps6)) (C := RX8) (T := TX8) (N := 41) hx hb htw WW_wsX80 hown hKX.1 hP 0 rfl rfl 8 (Nat.le_of_ble_eq_true rfl) (htw _ mF_RX8_104) (fun _ h9 => h9) rfl dX8_next_39 ?_
  refine lv_aload_n hx hb dX8_next_42 rfl (lv_at hl 0 rfl) ?_
  refine va_get (D := D) (ci := 8) (v := .int (mt_texted mt)) (C := RX8) (T := TX8) (N := 41) hx hb htw WW_wsX80 hown hKX.1 hP 0 rfl rfl 7 (Nat.le_of_ble_eq_true rfl) (htw _ mF_RX8_94) (fun _ h9 => h9) rfl dX8_next_43 ?_
  refine lv_icmp_ge (tgt := 61) hx hb dX8_next_46 (by decide) (fun c11 => ?_) (fun c11 => ?_)
  · have hf := z_p c11 hf
    refine lv_iconst (v := 0) hx hb dX8_next_61 rfl ?_
    obtain rfl := Option.some.inj hf
    exact zr_Mi hx hb hr hlocks hP hD hS dX8_next_62
  · have hf := z_n c11 hf
    refine lv_aload_n hx hb dX8_next_49 rfl (lv_at hl 0 rfl) ?_
    refine va_get (D := D) (ci := 8) (v := .ref (q 5)) (C := RX8) (T := TX8) (N := 41) hx hb htw WW_wsX80 hown hKX.1 hP 0 rfl rfl 6 (Nat.le_of_ble_eq_true rfl) (htw _ mF_RX8_25) (fun _ h9 => h9) rfl dX8_next_50 ?_
    refine lv_aload_n hx hb dX8_next_53 rfl (lv_at hl 0 rfl) ?_
    refine va_get (D := D) (ci := 8) (v := .int (ps_reading ps6)) (C := RX8) (T := TX8) (N := 41) hx hb htw WW_wsX80 hown hKX.1 hP 0 rfl rfl 8 (Nat.le_of_ble_eq_true rfl) (htw _ mF_RX8_104) (fun _ h9 => h9) rfl dX8_next_54 ?_
    obtain ⟨g12, hf⟩ := z_gd_u hf
    refine va_bald hx hb hKX.1 hP 5 3 rfl rfl (z_in_u g12) dX8_next_57 ?_
    refine lv_goto (tgt := 62) hx hb dX8_next_58 (by decide) ?_
    obtain rfl := Option.some.inj hf
    exact zr_Mi hx hb hr hlocks hP hD hS dX8_next_62

theorem hd_yX8_isEnd : hdY yX8_isEnd 0 := by decide +kernel
def M_isEnd (F : Nat) (mt : Mt) (ps : Ps) : Option (Int32 × Ps) := z_bd (M_next F mt ps) (fun u1 : Int32 × Ps => if u1.1 = 0 then (if (ps_reading u1.2) < (mt_texted mt) then (some (0, u1.2)) else (some (1, u1.2))) else (some (0, u1.2)))
set_option maxHeartbeats 4000000 in
set_option maxRecDepth 100000 in
theorem ctX8_isEnd (l : Launch) (D : va_G) (ac cs : Nat → Nat) (q : Nat → Nat) (sz : Nat) (th : Th) (row : MRow) (un : Un) (kp : Kp) (mt : Mt) (ps : Ps) (bx : Bx) (mo : Mo) (su : Su) (wy : Wy) (wa : Wa) (od : Od) (py : Py) (ju : Ju) (pl : Pl) (rs : Rs) (F : Nat) (res : Int32 × Ps) (hf : M_isEnd F mt ps = some res) : Met l yX8_isEnd (cWW yX8_isEnd cX8_isEnd 1 (some .boolean)) { frames := 1, cells := 0, slots := 0, locals := 20 } (zM D ac cs [.ref (q 0)] (moW ac q th row un kp mt ps bx mo su wy wa od py ju pl rs) sz) (va_Qi (fun r (_ : Unit) => r = res.1) (fun _ => zB D (va_A (moW ac q th row un kp mt ps bx mo su wy wa od py ju pl rs) sz) (moW ac q th row un kp mt res.2 bx mo su wy wa od py ju pl rs)) (va_A (moW ac q th row un kp mt ps bx mo su wy wa od py ju pl rs) sz)) 0 0 (va_A (moW ac q th row un kp mt ps bx mo su wy wa od py ju pl rs) sz) := by
  refine Met.ofW (cc := cX8_isEnd) (maxL := 1) (ret := (some .boolean)) (by decide) rfl ?_
  intro p e s m args below meth c s₁ B hml hv
  obtain ⟨rfl, hsz, hP, hKX, hD0, hC⟩ := hv
  have hx := B.exec
  have hb := B.bytes
  have hr := B.returns
  have hts := atoms_spec (ws := cWW yX8_isEnd cX8_isEnd 1 (some .boolean)) B.pre
  have htw : ∀ w ∈ WW, w.before _ s = true := fun w h => hts w (List.mem_cons_of_mem _ h)
  have hown : s.vm.findClass RX8 = some m.cls := findClass_of_methodNamed B.named
  have hlocks := B.notSynchronized
  clear hts B
  subst hsz
  have hD := hD0.self (sz := s.heap.size)
  generalize hAe : va_A (moW ac q th row un kp mt ps bx mo su wy wa od py ju pl rs) s.heap.size = A at hD hC ⊢
  have hA : ∀ q : Nat, s.heap.size ≤ q → A q := fun q h => by rw [← hAe]; exact Or.inr h
  have hS : va_S A s.heap s.heap [] := va_S.rf
  clear hD0 hAe
  have hP : va_P D vwCl (moW ac q th row un kp mt ps bx mo su wy wa od py ju pl rs) s.heap := hP
  have hl := lv_entry ([.ref (q 0)]) (n := 1) (Nat.le_of_ble_eq_true rfl)
  rw [lg_entry_eq]
  generalize (lg_sl ([.ref (q 0)]) ++ List.replicate (1 - (lg_sl ([.ref (q 0)])).length) Slot.unset).toArray = ls at hl ⊢
  have hl : lv_has ls 1 [(0, .ref (q 0))] := hl
  unfold M_isEnd at hf
  show W p l e ({ frames := 1, cells := 0, slots := 0, locals := 20 } : Room) s m _ below meth c s.heap [] 0 0 _ (F0 m 0 ls [])
  refine lv_aload_n hx hb dX8_isEnd_0 rfl (lv_at hl 0 rfl) ?_
  obtain ⟨u1, hu1, hf⟩ := z_bd_u hf
  refine zc_MVi (As := []) (rest := []) (wr := []) (wsc := moW ac q th row un kp mt ps bx mo su wy wa od py ju pl rs) (wsc' := moW ac q th row un kp mt u1.2 bx mo su wy wa od py ju pl rs) hx hb hml hown htw (ctX8_next l D ac cs q s.heap.size th row un kp mt ps bx mo su wy wa od py ju pl rs    F u1 hu1) (g_V mM_RX8_107 mI_yX8_next mS_RX8_yX8_next_yX8_next mN_RX8 mC_yX8_next) rfl (hd_yX8_next) ⟨rfl, rfl⟩ ⟨(Nat.le_of_ble_eq_true rfl), (Nat.le_of_ble_eq_true rfl)⟩ hKX hC hS hA hP hD [0, 1, 2, 3, 4, 5, 6, 7, 8, 9, 10, 11, 12, 13, 14, 15, 16, 17, 18, 19, 20] [] rfl (by decide) rfl (by decide) (by decide) 8 rfl rfl rfl hl.1 rfl (Nat.le_of_ble_eq_true rfl) ⟨Nat.zero_le _, Nat.zero_le _⟩ dX8_isEnd_1 (fun H locs hP hD hS => ?_)
  have hP : va_P D vwCl (moW ac q th row un kp mt u1.2 bx mo su wy wa od py ju pl rs) H := hP
  have hD : va_D A (moW ac q th row un kp mt u1.2 bx mo su wy wa od py ju pl rs) := hD
  refine lv_if_ne (tgt := 22) hx hb dX8_isEnd_4 (by decide) (fun c2 => ?_) (fun c2 => ?_)
  · have hf := z_n c2 hf
    refine lv_iconst (v := 0) hx hb dX8_isEnd_22 rfl ?_
    obtain rfl := Option.some.inj hf
    exact zr_Mz hx hb hr hlocks (z_b_n z_b0) hP hD hS dX8_isEnd_23
  · have hf := z_p c2 hf
    refine lv_aload_n hx hb dX8_isEnd_7 rfl (lv_at hl 0 rfl) ?_
    refine va_get (D := D) (ci := 8) (v := .int (ps_reading u1.2)) (C := RX8) (T := TX8) (N := 41) hx hb htw WW_wsX80 hown hKX.1 hP 0 rfl rfl 8 (Nat.le_of_ble_eq_true rfl) (htw _ mF_RX8_104) (fun _ h9 => h9) rfl dX8_isEnd_8 ?_
    refine lv_aload_n hx hb dX8_isEnd_11 rfl (lv_at hl 0 rfl) ?_
    refine va_get (D := D) (ci := 8) (v := .int (mt_texted mt)) (C := RX8) (T := TX8) (N := 41) hx hb htw WW_wsX80 hown hKX.1 hP 0 rfl rfl 7 (Nat.le_of_ble_eq_true rfl) (htw _ mF_RX8_94) (fun _ h9 => h9) rfl dX8_isEnd_12 ?_
    refine lv_icmp_lt (tgt := 22) hx hb dX8_isEnd_15 (by decide) (fun c3 => ?_) (fun c3 => ?_)
    · have hf := z_p c3 hf
      refine lv_iconst (v := 0) hx hb dX8_isEnd_22 rfl ?_
      obtain rfl := Option.some.inj hf
      exact zr_Mz hx hb hr hlocks (z_b_n z_b0) hP hD hS dX8_isEnd_23
    · have hf := z_n c3 hf
      refine lv_iconst (v := 1) hx hb dX8_isEnd_18 rfl ?_
      refine lv_goto (tgt := 23) hx hb dX8_isEnd_19 (by decide) ?_
      obtain rfl := Option.some.inj hf
      exact zr_Mz hx hb hr hlocks (z_b_n z_b1) hP hD hS dX8_isEnd_23

theorem hd_yX8_isLetter : hdY yX8_isLetter 1 := by decide +kernel
def M_isLetter (mt : Mt) (a1 : Int32) : Option (Int32) := if (mt_texted mt) ≤ a1 then (some 0) else (z_gd (z_in a1 200) (if M_in (((mt_text mt) a1.toNatClampNeg).toInt64) 97 122 = 0 then (some 0) else (some 1)))
set_option maxHeartbeats 4000000 in
set_option maxRecDepth 100000 in
theorem ctX8_isLetter (l : Launch) (D : va_G) (ac cs : Nat → Nat) (q : Nat → Nat) (th : Th) (row : MRow) (un : Un) (kp : Kp) (mt : Mt) (ps : Ps) (bx : Bx) (mo : Mo) (su : Su) (wy : Wy) (wa : Wa) (od : Od) (py : Py) (ju : Ju) (pl : Pl) (rs : Rs) (a1 : Int32) (res : Int32) (hf : M_isLetter mt a1 = some res) : Met l yX8_isLetter (cWW yX8_isLetter cX8_isLetter 2 (some .boolean)) { frames := 1, cells := 0, slots := 0, locals := 25 } (zR D ac cs [.ref (q 0), .int a1] (moW ac q th row un kp mt ps bx mo su wy wa od py ju pl rs)) (vp_Si (fun r => r = res)) 0 0 (fun _ => False) := by
  refine Met.ofW (cc := cX8_isLetter) (maxL := 2) (ret := (some .boolean)) (by decide) rfl ?_
  intro p e s m args below meth c s₁ B hml hv
  obtain ⟨rfl, hP, hKX, hC⟩ := hv
  have hx := B.exec
  have hb := B.bytes
  have hr := B.returns
  have hts := atoms_spec (ws := cWW yX8_isLetter cX8_isLetter 2 (some .boolean)) B.pre
  have htw : ∀ w ∈ WW, w.before _ s = true := fun w h => hts w (List.mem_cons_of_mem _ h)
  have hown : s.vm.findClass RX8 = some m.cls := findClass_of_methodNamed B.named
  have hlocks := B.notSynchronized
  clear hts B
  have hS : va_S (fun _ => False) s.heap s.heap [] := va_S.rf
  have hl := lv_entry ([.ref (q 0), .int a1]) (n := 2) (Nat.le_of_ble_eq_true rfl)
  rw [lg_entry_eq]
  generalize (lg_sl ([.ref (q 0), .int a1]) ++ List.replicate (2 - (lg_sl ([.ref (q 0), .int a1])).length) Slot.unset).toArray = ls at hl ⊢
  have hl : lv_has ls 2 [(0, .ref (q 0)), (1, .int a1)] := hl
  unfold M_isLetter at hf
  show W p l e ({ frames := 1, cells := 0, slots := 0, locals := 25 } : Room) s m _ below meth c s.heap [] 0 0 _ (F0 m 0 ls [])
  refine lv_iload_n hx hb dX8_isLetter_0 rfl (lv_at hl 1 rfl) ?_
  refine lv_aload_n hx hb dX8_isLetter_1 rfl (lv_at hl 0 rfl) ?_
  refine va_get (D := D) (ci := 8) (v := .int (mt_texted mt)) (C := RX8) (T := TX8) (N := 41) hx hb htw WW_wsX80 hown hKX.1 hP 0 rfl rfl 7 (Nat.le_of_ble_eq_true rfl) (htw _ mF_RX8_94) (fun _ h9 => h9) rfl dX8_isLetter_2 ?_
  refine lv_icmp_ge (tgt := 31) hx hb dX8_isLetter_5 (by decide) (fun c1 => ?_) (fun c1 => ?_)
  · have hf := z_p c1 hf
    refine lv_iconst (v := 0) hx hb dX8_isLetter_31 rfl ?_
    exact zr_Rz hx hb hr hlocks (z_b_n z_b0) (Option.some.inj hf) dX8_isLetter_32
  · have hf := z_n c1 hf
    refine lv_aload_n hx hb dX8_isLetter_8 rfl (lv_at hl 0 rfl) ?_
    refine va_get (D := D) (ci := 8) (v := .ref (q 5)) (C := RX8) (T := TX8) (N := 41) hx hb htw WW_wsX80 hown hKX.1 hP 0 rfl rfl 6 (Nat.le_of_ble_eq_true rfl) (htw _ mF_RX8_25) (fun _ h9 => h9) rfl dX8_isLetter_9 ?_
    refine lv_iload_n hx hb dX8_isLetter_12 rfl (lv_at hl 1 rfl) ?_
    obtain ⟨g2, hf⟩ := z_gd_u hf
    refine va_bald hx hb hKX.1 hP 5 3 rfl rfl (z_in_u g2) dX8_isLetter_13 ?_
    refine lv_i2l hx hb dX8_isLetter_14 rfl ?_
    refine lv_ldc2 (v := 97) hx hb hown (htw _ mG_RX8_111) dX8_isLetter_15 ?_
    refine lv_ldc2 (v := 122) hx hb hown (htw _ mG_RX8_113) dX8_isLetter_18 ?_
    refine zc_RSi (As := [.long (((mt_text mt) a1.toNatClampNeg).toInt64), .long 97, .long 122]) (rest := []) hx hb hml hown htw (ctX8_in l D ac cs   (((mt_text mt) a1.toNatClampNeg).toInt64) 97 122   _ rfl) (g_S mM_RX8_79 mT_yX8_in mN_RX8 mC_yX8_in) (hd_yX8_in) ⟨rfl, rfl⟩ ⟨(Nat.le_of_ble_eq_true rfl), (Nat.le_of_ble_eq_true rfl)⟩ hKX hC hS zP0 rfl hl.1 rfl (Nat.le_of_ble_eq_true rfl) ⟨Nat.zero_le _, Nat.zero_le _⟩ dX8_isLetter_21 ?_
    refine lv_if_eq (tgt := 31) hx hb dX8_isLetter_24 (by decide) (fun c3 => ?_) (fun c3 => ?_)
    · have hf := z_p c3 hf
      refine lv_iconst (v := 0) hx hb dX8_isLetter_31 rfl ?_
      exact zr_Rz hx hb hr hlocks (z_b_n z_b0) (Option.some.inj hf) dX8_isLetter_32
    · have hf := z_n c3 hf
      refine lv_iconst (v := 1) hx hb dX8_isLetter_27 rfl ?_
      refine lv_goto (tgt := 32) hx hb dX8_isLetter_28 (by decide) ?_
      exact zr_Rz hx hb hr hlocks (z_b_n z_b1) (Option.some.inj hf) dX8_isLetter_32

theorem hd_yX8_wordNext : hdY yX8_wordNext 0 := by decide +kernel
def M_wordNext_L10 (mt : Mt) (u1 : Int32 × Ps) : Nat → Int32 → Option (Int32 × Ps)
  | 0, _ => none
  | n5 + 1, x3 => z_bd (M_isLetter mt x3) (fun r7 : Int32 => if r7 = 0 then (some ((x3 - (ps_reading u1.2)), u1.2)) else (z_let (x3 + 1) (fun x9 : Int32 => M_wordNext_L10 mt u1 n5 x9)))
def M_wordNext (F : Nat) (mt : Mt) (ps : Ps) : Option (Int32 × Ps) := z_bd (M_next F mt ps) (fun u1 : Int32 × Ps => z_let (ps_reading u1.2) (fun x2 : Int32 => M_wordNext_L10 mt u1 F x2))
set_option maxHeartbeats 4000000 in
set_option maxRecDepth 100000 in
theorem ctX8_wordNext (l : Launch) (D : va_G) (ac cs : Nat → Nat) (q : Nat → Nat) (sz : Nat) (th : Th) (row : MRow) (un : Un) (kp : Kp) (mt : Mt) (ps : Ps) (bx : Bx) (mo : Mo) (su : Su) (wy : Wy) (wa : Wa) (od : Od) (py : Py) (ju : Ju) (pl : Pl) (rs : Rs) (F : Nat) (res : Int32 × Ps) (hf : M_wordNext F mt ps = some res) : Met l yX8_wordNext (cWW yX8_wordNext cX8_wordNext 2 (some .int)) { frames := 2, cells := 0, slots := 0, locals := 46 } (zM D ac cs [.ref (q 0)] (moW ac q th row un kp mt ps bx mo su wy wa od py ju pl rs) sz) (va_Qi (fun r (_ : Unit) => r = res.1) (fun _ => zB D (va_A (moW ac q th row un kp mt ps bx mo su wy wa od py ju pl rs) sz) (moW ac q th row un kp mt res.2 bx mo su wy wa od py ju pl rs)) (va_A (moW ac q th row un kp mt ps bx mo su wy wa od py ju pl rs) sz)) 0 0 (va_A (moW ac q th row un kp mt ps bx mo su wy wa od py ju pl rs) sz) := by
  refine Met.ofW (cc := cX8_wordNext) (maxL := 2) (ret := (some .int)) (by decide) rfl ?_
  intro p e s m args below meth c s₁ B hml hv
  obtain ⟨rfl, hsz, hP, hKX, hD0, hC⟩ := hv
  have hx := B.exec
  have hb := B.bytes
  have hr := B.returns
  have hts := atoms_spec (ws := cWW yX8_wordNext cX8_wordNext 2 (some .int)) B.pre
  have htw : ∀ w ∈ WW, w.before _ s = true := fun w h => hts w (List.mem_cons_of_mem _ h)
  have hown : s.vm.findClass RX8 = some m.cls := findClass_of_methodNamed B.named
  have hlocks := B.notSynchronized
  clear hts B
  subst hsz
  have hD := hD0.self (sz := s.heap.size)
  generalize hAe : va_A (moW ac q th row un kp mt ps bx mo su wy wa od py ju pl rs) s.heap.size = A at hD hC ⊢
  have hA : ∀ q : Nat, s.heap.size ≤ q → A q := fun q h => by rw [← hAe]; exact Or.inr h
  have hS : va_S A s.heap s.heap [] := va_S.rf
  clear hD0 hAe
  have hP : va_P D vwCl (moW ac q th row un kp mt ps bx mo su wy wa od py ju pl rs) s.heap := hP
  have hl := lv_entry ([.ref (q 0)]) (n := 2) (Nat.le_of_ble_eq_true rfl)
  rw [lg_entry_eq]
  generalize (lg_sl ([.ref (q 0)]) ++ List.replicate (2 - (lg_sl ([.ref (q 0)])).length) Slot.unset).toArray = ls at hl ⊢
  have hl : lv_has ls 2 [(0, .ref (q 0))] := hl
  unfold M_wordNext at hf
  show W p l e ({ frames := 2, cells := 0, slots := 0, locals := 46 } : Room) s m _ below meth c s.heap [] 0 0 _ (F0 m 0 ls [])
  refine lv_aload_n hx hb dX8_wordNext_0 rfl (lv_at hl 0 rfl) ?_
  obtain ⟨u1, hu1, hf⟩ := z_bd_u hf
  refine zc_MVi (As := []) (rest := []) (wr := []) (wsc := moW ac q th row un kp mt ps bx mo su wy wa od py ju pl rs) (wsc' := moW ac q th row un kp mt u1.2 bx mo su wy wa od py ju pl rs) hx hb hml hown htw (ctX8_next l D ac cs q s.heap.size th row un kp mt ps bx mo su wy wa od py ju pl rs    F u1 hu1) (g_V mM_RX8_107 mI_yX8_next mS_RX8_yX8_next_yX8_next mN_RX8 mC_yX8_next) rfl (hd_yX8_next) ⟨rfl, rfl⟩ ⟨(Nat.le_of_ble_eq_true rfl), (Nat.le_of_ble_eq_true rfl)⟩ hKX hC hS hA hP hD [0, 1, 2, 3, 4, 5, 6, 7, 8, 9, 10, 11, 12, 13, 14, 15, 16, 17, 18, 19, 20] [] rfl (by decide) rfl (by decide) (by decide) 8 rfl rfl rfl hl.1 rfl (Nat.le_of_ble_eq_true rfl) ⟨Nat.zero_le _, Nat.zero_le _⟩ dX8_wordNext_1 (fun H locs hP hD hS => ?_)
  have hP : va_P D vwCl (moW ac q th row un kp mt u1.2 bx mo su wy wa od py ju pl rs) H := hP
  have hD : va_D A (moW ac q th row un kp mt u1.2 bx mo su wy wa od py ju pl rs) := hD
  refine lv_pop hx hb dX8_wordNext_4 rfl ?_
  refine lv_aload_n hx hb dX8_wordNext_5 rfl (lv_at hl 0 rfl) ?_
  refine va_get (D := D) (ci := 8) (v := .int (ps_reading u1.2)) (C := RX8) (T := TX8) (N := 41) hx hb htw WW_wsX80 hown hKX.1 hP 0 rfl rfl 8 (Nat.le_of_ble_eq_true rfl) (htw _ mF_RX8_104) (fun _ h9 => h9) rfl dX8_wordNext_6 ?_
  refine lv_topi (fun x2 hx2 => ?_)
  have hf := z_let_u hx2 hf
  refine lv_istore_n (lv' := [(1, .int x2), (0, .ref (q 0))]) hx hb dX8_wordNext_9 rfl hl (Nat.le_of_ble_eq_true rfl) rfl (fun ls hl => ?_)
  have hL4 : ∀ (n5 : Nat) (x3 : Int32), M_wordNext_L10 mt u1 n5 x3 = some res → ∀ (H : Heap) (locs : List Loc) (ls : Array Slot), va_P D vwCl (moW ac q th row un kp mt u1.2 bx mo su wy wa od py ju pl rs) H → va_D A (moW ac q th row un kp mt u1.2 bx mo su wy wa od py ju pl rs) → va_S A s.heap H locs → lv_has ls 2 [(0, .ref (q 0)), (1, .int x3)] → W p l e ({ frames := 2, cells := 0, slots := 0, locals := 46 } : Room) s m (([.ref (q 0)] : List Value).toArray) below meth c H locs 0 0 (MQ below (va_Qi (fun r (_ : Unit) => r = res.1) (fun _ => zB D A (moW ac q th row un kp mt res.2 bx mo su wy wa od py ju pl rs)) A) ([.ref (q 0)] : List Value).toArray s 0 0 A) (F0 m 10 ls []) := by
    intro n5
    induction n5 with
    | zero => intro x3 hf; rw [M_wordNext_L10] at hf; cases hf
    | succ n5 ih6 =>
      intro x3 hf H locs ls hP hD hS hl
      rw [M_wordNext_L10] at hf
      refine lv_aload_n hx hb dX8_wordNext_10 rfl (lv_at hl 0 rfl) ?_
      refine lv_iload_n hx hb dX8_wordNext_11 rfl (lv_at hl 1 rfl) ?_
      obtain ⟨r7, hr7, hf⟩ := z_bd_u hf
      refine zc_RVi (As := [.int x3]) (rest := []) hx hb hml hown htw (ctX8_isLetter l D ac cs q th row un kp mt u1.2 bx mo su wy wa od py ju pl rs x3   _ hr7) (g_V mM_RX8_115 mI_yX8_isLetter mS_RX8_yX8_isLetter_yX8_isLetter mN_RX8 mC_yX8_isLetter) rfl (hd_yX8_isLetter) ⟨rfl, rfl⟩ ⟨(Nat.le_of_ble_eq_true rfl), (Nat.le_of_ble_eq_true rfl)⟩ hKX hC hS hP 8 rfl rfl rfl hl.1 rfl (Nat.le_of_ble_eq_true rfl) ⟨Nat.zero_le _, Nat.zero_le _⟩ dX8_wordNext_12 ?_
      refine lv_if_eq (tgt := 24) hx hb dX8_wordNext_15 (by decide) (fun c8 => ?_) (fun c8 => ?_)
      · have hf := z_p c8 hf
        refine lv_iload_n hx hb dX8_wordNext_24 rfl (lv_at hl 1 rfl) ?_
        refine lv_aload_n hx hb dX8_wordNext_25 rfl (lv_at hl 0 rfl) ?_
        refine va_get (D := D) (ci := 8) (v := .int (ps_reading u1.2)) (C := RX8) (T := TX8) (N := 41) hx hb htw WW_wsX80 hown hKX.1 hP 0 rfl rfl 8 (Nat.le_of_ble_eq_true rfl) (htw _ mF_RX8_104) (fun _ h9 => h9) rfl dX8_wordNext_26 ?_
        refine lv_isub hx hb dX8_wordNext_29 ?_
        obtain rfl := Option.some.inj hf
        exact zr_Mi hx hb hr hlocks hP hD hS dX8_wordNext_30
      · have hf := z_n c8 hf
        obtain ⟨x9, hx9⟩ : ∃ y : Int32, y = (x3 + 1) := ⟨_, rfl⟩
        have hf := z_let_u hx9 hf
        refine lv_iinc (v := x9) (lv' := [(1, .int x9), (0, .ref (q 0))]) hx hb dX8_wordNext_18 hl (k := 1) rfl (by rw [hx9]; rfl) (Nat.le_of_ble_eq_true rfl) rfl (fun ls hl => ?_)
        refine lv_goto (tgt := 10) hx hb dX8_wordNext_21 (by decide) ?_
        exact ih6 x9 hf _ _ ls  hP hD hS (lv_sub hl [1, 0] rfl)
  refine hL4  F x2 hf _ _ ls  hP hD hS (lv_sub hl [1, 0] rfl)

theorem hd_yX8_takes : hdY yX8_takes 1 := by decide +kernel
def M_takes (F : Nat) (mt : Mt) (ps : Ps) (a1 : Int32) : Option (Int32 × Ps) := z_jn (fun u_k3 : Int32 × Ps => z_let (if u_k3.1 = 0 then 0 else 1) (fun v5 : Int32 => z_let ((ps_reading u_k3.2) + v5) (fun x9 : Int32 => z_gd (z_b u_k3.1) (some (u_k3.1, (x9, (ps_fault u_k3.2), (ps_isGood u_k3.2), (ps_draft u_k3.2), (ps_had u_k3.2), (ps_tells u_k3.2))))))) (fun k3 => z_jn (fun ps11 : Ps => k3 (0, ps11)) (fun k12 => if (ps_isGood ps) = 0 then (k12 ps) else (z_bd (M_next F mt ps) (fun u15 : Int32 × Ps => if u15.1 = a1 then (if (mt_texted mt) ≤ (ps_reading u15.2) then (k12 u15.2) else (k3 (1, u15.2))) else (k12 u15.2)))))
set_option maxHeartbeats 4000000 in
set_option maxRecDepth 100000 in
theorem ctX8_takes (l : Launch) (D : va_G) (ac cs : Nat → Nat) (q : Nat → Nat) (sz : Nat) (th : Th) (row : MRow) (un : Un) (kp : Kp) (mt : Mt) (ps : Ps) (bx : Bx) (mo : Mo) (su : Su) (wy : Wy) (wa : Wa) (od : Od) (py : Py) (ju : Ju) (pl : Pl) (rs : Rs) (a1 : Int32) (F : Nat) (res : Int32 × Ps) (hf : M_takes F mt ps a1 = some res) : Met l yX8_takes (cWW yX8_takes cX8_takes 3 (some .boolean)) { frames := 1, cells := 0, slots := 0, locals := 20 } (zM D ac cs [.ref (q 0), .int a1] (moW ac q th row un kp mt ps bx mo su wy wa od py ju pl rs) sz) (va_Qi (fun r (_ : Unit) => r = res.1) (fun _ => zB D (va_A (moW ac q th row un kp mt ps bx mo su wy wa od py ju pl rs) sz) (moW ac q th row un kp mt res.2 bx mo su wy wa od py ju pl rs)) (va_A (moW ac q th row un kp mt ps bx mo su wy wa od py ju pl rs) sz)) 0 0 (va_A (moW ac q th row un kp mt ps bx mo su wy wa od py ju pl rs) sz) := by
  refine Met.ofW (cc := cX8_takes) (maxL := 3) (ret := (some .boolean)) (by decide) rfl ?_
  intro p e s m args below meth c s₁ B hml hv
  obtain ⟨rfl, hsz, hP, hKX, hD0, hC⟩ := hv
  have hx := B.exec
  have hb := B.bytes
  have hr := B.returns
  have hts := atoms_spec (ws := cWW yX8_takes cX8_takes 3 (some .boolean)) B.pre
  have htw : ∀ w ∈ WW, w.before _ s = true := fun w h => hts w (List.mem_cons_of_mem _ h)
  have hown : s.vm.findClass RX8 = some m.cls := findClass_of_methodNamed B.named
  have hlocks := B.notSynchronized
  clear hts B
  subst hsz
  have hD := hD0.self (sz := s.heap.size)
  generalize hAe : va_A (moW ac q th row un kp mt ps bx mo su wy wa od py ju pl rs) s.heap.size = A at hD hC ⊢
  have hA : ∀ q : Nat, s.heap.size ≤ q → A q := fun q h => by rw [← hAe]; exact Or.inr h
  have hS : va_S A s.heap s.heap [] := va_S.rf
  clear hD0 hAe
  have hP : va_P D vwCl (moW ac q th row un kp mt ps bx mo su wy wa od py ju pl rs) s.heap := hP
  have hl := lv_entry ([.ref (q 0), .int a1]) (n := 3) (Nat.le_of_ble_eq_true rfl)
  rw [lg_entry_eq]
  generalize (lg_sl ([.ref (q 0), .int a1]) ++ List.replicate (3 - (lg_sl ([.ref (q 0), .int a1])).length) Slot.unset).toArray = ls at hl ⊢
  have hl : lv_has ls 3 [(0, .ref (q 0)), (1, .int a1)] := hl
  unfold M_takes at hf
  show W p l e ({ frames := 1, cells := 0, slots := 0, locals := 20 } : Room) s m _ below meth c s.heap [] 0 0 _ (F0 m 0 ls [])
  refine lv_aload_n hx hb dX8_takes_0 rfl (lv_at hl 0 rfl) ?_
  refine va_get (D := D) (ci := 8) (v := .int (ps_isGood ps)) (C := RX8) (T := TX8) (N := 41) hx hb htw WW_wsX80 hown hKX.1 hP 0 rfl rfl 10 (Nat.le_of_ble_eq_true rfl) (htw _ mF_RX8_97) (fun _ h9 => h9) rfl dX8_takes_1 ?_
  obtain ⟨k3, hk3, hf⟩ := z_jn_u hf
  have hj4 : ∀ (v1 : Int32) (ps2 : Ps), k3 (v1, ps2) = some res → ∀ (H : Heap) (locs : List Loc) (ls : Array Slot), va_P D vwCl (moW ac q th row un kp mt ps2 bx mo su wy wa od py ju pl rs) H → va_D A (moW ac q th row un kp mt ps2 bx mo su wy wa od py ju pl rs) → va_S A s.heap H locs → lv_has ls 3 [(0, .ref (q 0))] → W p l e ({ frames := 1, cells := 0, slots := 0, locals := 20 } : Room) s m (([.ref (q 0), .int a1] : List Value).toArray) below meth c H locs 0 0 (MQ below (va_Qi (fun r (_ : Unit) => r = res.1) (fun _ => zB D A (moW ac q th row un kp mt res.2 bx mo su wy wa od py ju pl rs)) A) ([.ref (q 0), .int a1] : List Value).toArray s 0 0 A) (F0 m 31 ls [.int v1]) := by
    intro v1 ps2 hf H locs ls hP hD hS hl
    have hf := hk3 _ hf
    refine lv_istore_n (lv' := [(2, .int v1), (0, .ref (q 0))]) hx hb dX8_takes_31 rfl hl (Nat.le_of_ble_eq_true rfl) rfl (fun ls hl => ?_)
    refine lv_aload_n hx hb dX8_takes_32 rfl (lv_at hl 1 rfl) ?_
    refine lv_dup hx hb dX8_takes_33 rfl ?_
    refine va_get (D := D) (ci := 8) (v := .int (ps_reading ps2)) (C := RX8) (T := TX8) (N := 41) hx hb htw WW_wsX80 hown hKX.1 hP 0 rfl rfl 8 (Nat.le_of_ble_eq_true rfl) (htw _ mF_RX8_104) (fun _ h9 => h9) rfl dX8_takes_34 ?_
    refine lv_iload_n hx hb dX8_takes_37 rfl (lv_at hl 0 rfl) ?_
    have hj7 : ∀ (v5 : Int32), v5 = (if v1 = 0 then 0 else 1) → z_b v5 = true → ∀ (H : Heap) (locs : List Loc) (ls : Array Slot), va_P D vwCl (moW ac q th row un kp mt ps2 bx mo su wy wa od py ju pl rs) H → va_D A (moW ac q th row un kp mt ps2 bx mo su wy wa od py ju pl rs) → va_S A s.heap H locs → lv_has ls 3 [(2, .int v1)] → W p l e ({ frames := 1, cells := 0, slots := 0, locals := 20 } : Room) s m (([.ref (q 0), .int a1] : List Value).toArray) below meth c H locs 0 0 (MQ below (va_Qi (fun r (_ : Unit) => r = res.1) (fun _ => zB D A (moW ac q th row un kp mt res.2 bx mo su wy wa od py ju pl rs)) A) ([.ref (q 0), .int a1] : List Value).toArray s 0 0 A) (F0 m 46 ls [.int v5, .int (ps_reading ps2), .ref (q 0)]) := by
      intro v5 hv5 bv5 H locs ls hP hD hS hl
      have hf := z_let_u hv5 hf
      refine lv_iadd hx hb dX8_takes_46 ?_
      refine lv_topi (fun x9 hx9 => ?_)
      have hf := z_let_u hx9 hf
      refine va_put (D := D) (ci := 8) (v := .int x9) (ty := tyX8 8) (C := RX8) (T := TX8) (N := 41) hx hb htw WW_wsX80 tyX8 tyX8_ok nmX8 hown hKX.1 hP hD hS 0 rfl rfl 8 (Nat.le_of_ble_eq_true rfl) (htw _ mF_RX8_104) (fun _ h9 => h9) rfl (tyX8_ok 8 (Nat.le_of_ble_eq_true rfl)) rfl rfl (Nat.le_of_ble_eq_true rfl) dX8_takes_47 (fun H locs hP hD hS => ?_)
      have hP : va_P D vwCl (moW ac q th row un kp mt (x9, (ps_fault ps2), (ps_isGood ps2), (ps_draft ps2), (ps_had ps2), (ps_tells ps2)) bx mo su wy wa od py ju pl rs) H := hP
      have hD : va_D A (moW ac q th row un kp mt (x9, (ps_fault ps2), (ps_isGood ps2), (ps_draft ps2), (ps_had ps2), (ps_tells ps2)) bx mo su wy wa od py ju pl rs) := hD
      refine lv_iload_n hx hb dX8_takes_50 rfl (lv_at hl 0 rfl) ?_
      obtain ⟨g10, hf⟩ := z_gd_u hf
      obtain rfl := Option.some.inj hf
      exact zr_Mz hx hb hr hlocks (z_b_n g10) hP hD hS dX8_takes_51
    refine lv_if_eq (tgt := 45) hx hb dX8_takes_38 (by decide) (fun c8 => ?_) (fun c8 => ?_)
    · skip
      refine lv_iconst (v := 0) hx hb dX8_takes_45 rfl ?_
      exact hj7 0 (if_pos c8).symm z_b0 _ _ ls hP hD hS (lv_sub hl [0] rfl)
    · skip
      refine lv_iconst (v := 1) hx hb dX8_takes_41 rfl ?_
      refine lv_goto (tgt := 46) hx hb dX8_takes_42 (by decide) ?_
      exact hj7 1 (if_neg c8).symm z_b1 _ _ ls hP hD hS (lv_sub hl [0] rfl)
  obtain ⟨k12, hk12, hf⟩ := z_jn_u hf
  have hj13 : ∀ (ps11 : Ps), k12 ps11 = some res → ∀ (H : Heap) (locs : List Loc) (ls : Array Slot), va_P D vwCl (moW ac q th row un kp mt ps11 bx mo su wy wa od py ju pl rs) H → va_D A (moW ac q th row un kp mt ps11 bx mo su wy wa od py ju pl rs) → va_S A s.heap H locs → lv_has ls 3 [(0, .ref (q 0))] → W p l e ({ frames := 1, cells := 0, slots := 0, locals := 20 } : Room) s m (([.ref (q 0), .int a1] : List Value).toArray) below meth c H locs 0 0 (MQ below (va_Qi (fun r (_ : Unit) => r = res.1) (fun _ => zB D A (moW ac q th row un kp mt res.2 bx mo su wy wa od py ju pl rs)) A) ([.ref (q 0), .int a1] : List Value).toArray s 0 0 A) (F0 m 30 ls []) := by
    intro ps11 hf H locs ls hP hD hS hl
    have hf := hk12 _ hf
    refine lv_iconst (v := 0) hx hb dX8_takes_30 rfl ?_
    exact hj4 0 ps11 hf _ _ ls  hP hD hS (lv_sub hl [0] rfl)
  refine lv_if_eq (tgt := 30) hx hb dX8_takes_4 (by decide) (fun c14 => ?_) (fun c14 => ?_)
  · have hf := z_p c14 hf
    exact hj13 ps hf _ _ ls  hP hD hS (lv_sub hl [0] rfl)
  · have hf := z_n c14 hf
    refine lv_aload_n hx hb dX8_takes_7 rfl (lv_at hl 0 rfl) ?_
    obtain ⟨u15, hu15, hf⟩ := z_bd_u hf
    refine zc_MVi (As := []) (rest := []) (wr := []) (wsc := moW ac q th row un kp mt ps bx mo su wy wa od py ju pl rs) (wsc' := moW ac q th row un kp mt u15.2 bx mo su wy wa od py ju pl rs) hx hb hml hown htw (ctX8_next l D ac cs q s.heap.size th row un kp mt ps bx mo su wy wa od py ju pl rs    F u15 hu15) (g_V mM_RX8_107 mI_yX8_next mS_RX8_yX8_next_yX8_next mN_RX8 mC_yX8_next) rfl (hd_yX8_next) ⟨rfl, rfl⟩ ⟨(Nat.le_of_ble_eq_true rfl), (Nat.le_of_ble_eq_true rfl)⟩ hKX hC hS hA hP hD [0, 1, 2, 3, 4, 5, 6, 7, 8, 9, 10, 11, 12, 13, 14, 15, 16, 17, 18, 19, 20] [] rfl (by decide) rfl (by decide) (by decide) 8 rfl rfl rfl hl.1 rfl (Nat.le_of_ble_eq_true rfl) ⟨Nat.zero_le _, Nat.zero_le _⟩ dX8_takes_8 (fun H locs hP hD hS => ?_)
    have hP : va_P D vwCl (moW ac q th row un kp mt u15.2 bx mo su wy wa od py ju pl rs) H := hP
    have hD : va_D A (moW ac q th row un kp mt u15.2 bx mo su wy wa od py ju pl rs) := hD
    refine lv_iload_n hx hb dX8_takes_11 rfl (lv_at hl 1 rfl) ?_
    refine lv_icmp_ne (tgt := 30) hx hb dX8_takes_12 (by decide) (fun c16 => ?_) (fun c16 => ?_)
    · have hf := z_n c16 hf
      exact hj13 u15.2 hf _ _ ls  hP hD hS (lv_sub hl [0] rfl)
    · have hf := z_p c16 hf
      refine lv_aload_n hx hb dX8_takes_15 rfl (lv_at hl 0 rfl) ?_
      refine va_get (D := D) (ci := 8) (v := .int (ps_reading u15.2)) (C := RX8) (T := TX8) (N := 41) hx hb htw WW_wsX80 hown hKX.1 hP 0 rfl rfl 8 (Nat.le_of_ble_eq_true rfl) (htw _ mF_RX8_104) (fun _ h9 => h9) rfl dX8_takes_16 ?_
      refine lv_aload_n hx hb dX8_takes_19 rfl (lv_at hl 0 rfl) ?_
      refine va_get (D := D) (ci := 8) (v := .int (mt_texted mt)) (C := RX8) (T := TX8) (N := 41) hx hb htw WW_wsX80 hown hKX.1 hP 0 rfl rfl 7 (Nat.le_of_ble_eq_true rfl) (htw _ mF_RX8_94) (fun _ h9 => h9) rfl dX8_takes_20 ?_
      refine lv_icmp_ge (tgt := 30) hx hb dX8_takes_23 (by decide) (fun c17 => ?_) (fun c17 => ?_)
      · have hf := z_p c17 hf
        exact hj13 u15.2 hf _ _ ls  hP hD hS (lv_sub hl [0] rfl)
      · have hf := z_n c17 hf
        refine lv_iconst (v := 1) hx hb dX8_takes_26 rfl ?_
        refine lv_goto (tgt := 31) hx hb dX8_takes_27 (by decide) ?_
        exact hj4 1 u15.2 hf _ _ ls  hP hD hS (lv_sub hl [0] rfl)

theorem hd_yX8_isDigitNext : hdY yX8_isDigitNext 0 := by decide +kernel
def M_isDigitNext (F : Nat) (mt : Mt) (ps : Ps) : Option (Int32 × Ps) := if (ps_isGood ps) = 0 then (some (0, ps)) else (z_bd (M_next F mt ps) (fun u2 : Int32 × Ps => if M_in u2.1.toInt64 48 57 = 0 then (some (0, u2.2)) else (if (mt_texted mt) ≤ (ps_reading u2.2) then (some (0, u2.2)) else (some (1, u2.2)))))
set_option maxHeartbeats 4000000 in
set_option maxRecDepth 100000 in
theorem ctX8_isDigitNext (l : Launch) (D : va_G) (ac cs : Nat → Nat) (q : Nat → Nat) (sz : Nat) (th : Th) (row : MRow) (un : Un) (kp : Kp) (mt : Mt) (ps : Ps) (bx : Bx) (mo : Mo) (su : Su) (wy : Wy) (wa : Wa) (od : Od) (py : Py) (ju : Ju) (pl : Pl) (rs : Rs) (F : Nat) (res : Int32 × Ps) (hf : M_isDigitNext F mt ps = some res) : Met l yX8_isDigitNext (cWW yX8_isDigitNext cX8_isDigitNext 1 (some .boolean)) { frames := 1, cells := 0, slots := 0, locals := 25 } (zM D ac cs [.ref (q 0)] (moW ac q th row un kp mt ps bx mo su wy wa od py ju pl rs) sz) (va_Qi (fun r (_ : Unit) => r = res.1) (fun _ => zB D (va_A (moW ac q th row un kp mt ps bx mo su wy wa od py ju pl rs) sz) (moW ac q th row un kp mt res.2 bx mo su wy wa od py ju pl rs)) (va_A (moW ac q th row un kp mt ps bx mo su wy wa od py ju pl rs) sz)) 0 0 (va_A (moW ac q th row un kp mt ps bx mo su wy wa od py ju pl rs) sz) := by
  refine Met.ofW (cc := cX8_isDigitNext) (maxL := 1) (ret := (some .boolean)) (by decide) rfl ?_
  intro p e s m args below meth c s₁ B hml hv
  obtain ⟨rfl, hsz, hP, hKX, hD0, hC⟩ := hv
  have hx := B.exec
  have hb := B.bytes
  have hr := B.returns
  have hts := atoms_spec (ws := cWW yX8_isDigitNext cX8_isDigitNext 1 (some .boolean)) B.pre
  have htw : ∀ w ∈ WW, w.before _ s = true := fun w h => hts w (List.mem_cons_of_mem _ h)
  have hown : s.vm.findClass RX8 = some m.cls := findClass_of_methodNamed B.named
  have hlocks := B.notSynchronized
  clear hts B
  subst hsz
  have hD := hD0.self (sz := s.heap.size)
  generalize hAe : va_A (moW ac q th row un kp mt ps bx mo su wy wa od py ju pl rs) s.heap.size = A at hD hC ⊢
  have hA : ∀ q : Nat, s.heap.size ≤ q → A q := fun q h => by rw [← hAe]; exact Or.inr h
  have hS : va_S A s.heap s.heap [] := va_S.rf
  clear hD0 hAe
  have hP : va_P D vwCl (moW ac q th row un kp mt ps bx mo su wy wa od py ju pl rs) s.heap := hP
  have hl := lv_entry ([.ref (q 0)]) (n := 1) (Nat.le_of_ble_eq_true rfl)
  rw [lg_entry_eq]
  generalize (lg_sl ([.ref (q 0)]) ++ List.replicate (1 - (lg_sl ([.ref (q 0)])).length) Slot.unset).toArray = ls at hl ⊢
  have hl : lv_has ls 1 [(0, .ref (q 0))] := hl
  unfold M_isDigitNext at hf
  show W p l e ({ frames := 1, cells := 0, slots := 0, locals := 25 } : Room) s m _ below meth c s.heap [] 0 0 _ (F0 m 0 ls [])
  refine lv_aload_n hx hb dX8_isDigitNext_0 rfl (lv_at hl 0 rfl) ?_
  refine va_get (D := D) (ci := 8) (v := .int (ps_isGood ps)) (C := RX8) (T := TX8) (N := 41) hx hb htw WW_wsX80 hown hKX.1 hP 0 rfl rfl 10 (Nat.le_of_ble_eq_true rfl) (htw _ mF_RX8_97) (fun _ h9 => h9) rfl dX8_isDigitNext_1 ?_
  refine lv_if_eq (tgt := 39) hx hb dX8_isDigitNext_4 (by decide) (fun c1 => ?_) (fun c1 => ?_)
  · have hf := z_p c1 hf
    refine lv_iconst (v := 0) hx hb dX8_isDigitNext_39 rfl ?_
    obtain rfl := Option.some.inj hf
    exact zr_Mz hx hb hr hlocks (z_b_n z_b0) hP hD hS dX8_isDigitNext_40
  · have hf := z_n c1 hf
    refine lv_aload_n hx hb dX8_isDigitNext_7 rfl (lv_at hl 0 rfl) ?_
    obtain ⟨u2, hu2, hf⟩ := z_bd_u hf
    refine zc_MVi (As := []) (rest := []) (wr := []) (wsc := moW ac q th row un kp mt ps bx mo su wy wa od py ju pl rs) (wsc' := moW ac q th row un kp mt u2.2 bx mo su wy wa od py ju pl rs) hx hb hml hown htw (ctX8_next l D ac cs q s.heap.size th row un kp mt ps bx mo su wy wa od py ju pl rs    F u2 hu2) (g_V mM_RX8_107 mI_yX8_next mS_RX8_yX8_next_yX8_next mN_RX8 mC_yX8_next) rfl (hd_yX8_next) ⟨rfl, rfl⟩ ⟨(Nat.le_of_ble_eq_true rfl), (Nat.le_of_ble_eq_true rfl)⟩ hKX hC hS hA hP hD [0, 1, 2, 3, 4, 5, 6, 7, 8, 9, 10, 11, 12, 13, 14, 15, 16, 17, 18, 19, 20] [] rfl (by decide) rfl (by decide) (by decide) 8 rfl rfl rfl hl.1 rfl (Nat.le_of_ble_eq_true rfl) ⟨Nat.zero_le _, Nat.zero_le _⟩ dX8_isDigitNext_8 (fun H locs hP hD hS => ?_)
    have hP : va_P D vwCl (moW ac q th row un kp mt u2.2 bx mo su wy wa od py ju pl rs) H := hP
    have hD : va_D A (moW ac q th row un kp mt u2.2 bx mo su wy wa od py ju pl rs) := hD
    refine lv_i2l hx hb dX8_isDigitNext_11 rfl ?_
    refine lv_ldc2 (v := 48) hx hb hown (htw _ mG_RX8_134) dX8_isDigitNext_12 ?_
    refine lv_ldc2 (v := 57) hx hb hown (htw _ mG_RX8_136) dX8_isDigitNext_15 ?_
    refine zc_RSi (As := [.long u2.1.toInt64, .long 48, .long 57]) (rest := []) hx hb hml hown htw (ctX8_in l D ac cs   u2.1.toInt64 48 57   _ rfl) (g_S mM_RX8_79 mT_yX8_in mN_RX8 mC_yX8_in) (hd_yX8_in) ⟨rfl, rfl⟩ ⟨(Nat.le_of_ble_eq_true rfl), (Nat.le_of_ble_eq_true rfl)⟩ hKX hC hS zP0 rfl hl.1 rfl (Nat.le_of_ble_eq_true rfl) ⟨Nat.zero_le _, Nat.zero_le _⟩ dX8_isDigitNext_18 ?_
    refine lv_if_eq (tgt := 39) hx hb dX8_isDigitNext_21 (by decide) (fun c3 => ?_) (fun c3 => ?_)
    · have hf := z_p c3 hf
      refine lv_iconst (v := 0) hx hb dX8_isDigitNext_39 rfl ?_
      obtain rfl := Option.some.inj hf
      exact zr_Mz hx hb hr hlocks (z_b_n z_b0) hP hD hS dX8_isDigitNext_40
    · have hf := z_n c3 hf
      refine lv_aload_n hx hb dX8_isDigitNext_24 rfl (lv_at hl 0 rfl) ?_
      refine va_get (D := D) (ci := 8) (v := .int (ps_reading u2.2)) (C := RX8) (T := TX8) (N := 41) hx hb htw WW_wsX80 hown hKX.1 hP 0 rfl rfl 8 (Nat.le_of_ble_eq_true rfl) (htw _ mF_RX8_104) (fun _ h9 => h9) rfl dX8_isDigitNext_25 ?_
      refine lv_aload_n hx hb dX8_isDigitNext_28 rfl (lv_at hl 0 rfl) ?_
      refine va_get (D := D) (ci := 8) (v := .int (mt_texted mt)) (C := RX8) (T := TX8) (N := 41) hx hb htw WW_wsX80 hown hKX.1 hP 0 rfl rfl 7 (Nat.le_of_ble_eq_true rfl) (htw _ mF_RX8_94) (fun _ h9 => h9) rfl dX8_isDigitNext_29 ?_
      refine lv_icmp_ge (tgt := 39) hx hb dX8_isDigitNext_32 (by decide) (fun c4 => ?_) (fun c4 => ?_)
      · have hf := z_p c4 hf
        refine lv_iconst (v := 0) hx hb dX8_isDigitNext_39 rfl ?_
        obtain rfl := Option.some.inj hf
        exact zr_Mz hx hb hr hlocks (z_b_n z_b0) hP hD hS dX8_isDigitNext_40
      · have hf := z_n c4 hf
        refine lv_iconst (v := 1) hx hb dX8_isDigitNext_35 rfl ?_
        refine lv_goto (tgt := 40) hx hb dX8_isDigitNext_36 (by decide) ?_
        obtain rfl := Option.some.inj hf
        exact zr_Mz hx hb hr hlocks (z_b_n z_b1) hP hD hS dX8_isDigitNext_40

theorem hd_yX8_digit : hdY yX8_digit 1 := by decide +kernel
def M_digit (F : Nat) (mt : Mt) (ps : Ps) (a1 : Int32) : Option (Int32 × Ps) := z_bd (M_isDigitNext F mt ps) (fun u1 : Int32 × Ps => z_jn (fun _ : Unit => z_let (M_wrong u1.2 (ps_reading u1.2)) (fun u4 : Ps => some (0, u4))) (fun k2 => if u1.1 = 0 then (k2 ()) else (z_gd (z_in (ps_reading u1.2) 200) (if (((mt_text mt) (ps_reading u1.2).toNatClampNeg) - 48) ≤ a1 then (z_let ((ps_reading u1.2) + 1) (fun x8 : Int32 => z_gd (z_in (x8 - 1) 200) (some ((((mt_text mt) (x8 - 1).toNatClampNeg) - 48), (x8, (ps_fault u1.2), (ps_isGood u1.2), (ps_draft u1.2), (ps_had u1.2), (ps_tells u1.2)))))) else (k2 ())))))
set_option maxHeartbeats 4000000 in
set_option maxRecDepth 100000 in
theorem ctX8_digit (l : Launch) (D : va_G) (ac cs : Nat → Nat) (q : Nat → Nat) (sz : Nat) (th : Th) (row : MRow) (un : Un) (kp : Kp) (mt : Mt) (ps : Ps) (bx : Bx) (mo : Mo) (su : Su) (wy : Wy) (wa : Wa) (od : Od) (py : Py) (ju : Ju) (pl : Pl) (rs : Rs) (a1 : Int32) (F : Nat) (res : Int32 × Ps) (hf : M_digit F mt ps a1 = some res) : Met l yX8_digit (cWW yX8_digit cX8_digit 2 (some .int)) { frames := 2, cells := 0, slots := 0, locals := 45 } (zM D ac cs [.ref (q 0), .int a1] (moW ac q th row un kp mt ps bx mo su wy wa od py ju pl rs) sz) (va_Qi (fun r (_ : Unit) => r = res.1) (fun _ => zB D (va_A (moW ac q th row un kp mt ps bx mo su wy wa od py ju pl rs) sz) (moW ac q th row un kp mt res.2 bx mo su wy wa od py ju pl rs)) (va_A (moW ac q th row un kp mt ps bx mo su wy wa od py ju pl rs) sz)) 0 0 (va_A (moW ac q th row un kp mt ps bx mo su wy wa od py ju pl rs) sz) := by
  refine Met.ofW (cc := cX8_digit) (maxL := 2) (ret := (some .int)) (by decide) rfl ?_
  intro p e s m args below meth c s₁ B hml hv
  obtain ⟨rfl, hsz, hP, hKX, hD0, hC⟩ := hv
  have hx := B.exec
  have hb := B.bytes
  have hr := B.returns
  have hts := atoms_spec (ws := cWW yX8_digit cX8_digit 2 (some .int)) B.pre
  have htw : ∀ w ∈ WW, w.before _ s = true := fun w h => hts w (List.mem_cons_of_mem _ h)
  have hown : s.vm.findClass RX8 = some m.cls := findClass_of_methodNamed B.named
  have hlocks := B.notSynchronized
  clear hts B
  subst hsz
  have hD := hD0.self (sz := s.heap.size)
  generalize hAe : va_A (moW ac q th row un kp mt ps bx mo su wy wa od py ju pl rs) s.heap.size = A at hD hC ⊢
  have hA : ∀ q : Nat, s.heap.size ≤ q → A q := fun q h => by rw [← hAe]; exact Or.inr h
  have hS : va_S A s.heap s.heap [] := va_S.rf
  clear hD0 hAe
  have hP : va_P D vwCl (moW ac q th row un kp mt ps bx mo su wy wa od py ju pl rs) s.heap := hP
  have hl := lv_entry ([.ref (q 0), .int a1]) (n := 2) (Nat.le_of_ble_eq_true rfl)
  rw [lg_entry_eq]
  generalize (lg_sl ([.ref (q 0), .int a1]) ++ List.replicate (2 - (lg_sl ([.ref (q 0), .int a1])).length) Slot.unset).toArray = ls at hl ⊢
  have hl : lv_has ls 2 [(0, .ref (q 0)), (1, .int a1)] := hl
  unfold M_digit at hf
  show W p l e ({ frames := 2, cells := 0, slots := 0, locals := 45 } : Room) s m _ below meth c s.heap [] 0 0 _ (F0 m 0 ls [])
  refine lv_aload_n hx hb dX8_digit_0 rfl (lv_at hl 0 rfl) ?_
  obtain ⟨u1, hu1, hf⟩ := z_bd_u hf
  refine zc_MVi (As := []) (rest := []) (wr := []) (wsc := moW ac q th row un kp mt ps bx mo su wy wa od py ju pl rs) (wsc' := moW ac q th row un kp mt u1.2 bx mo su wy wa od py ju pl rs) hx hb hml hown htw (ctX8_isDigitNext l D ac cs q s.heap.size th row un kp mt ps bx mo su wy wa od py ju pl rs    F u1 hu1) (g_V mM_RX8_138 mI_yX8_isDigitNext mS_RX8_yX8_isDigitNext_yX8_isDigitNext mN_RX8 mC_yX8_isDigitNext) rfl (hd_yX8_isDigitNext) ⟨rfl, rfl⟩ ⟨(Nat.le_of_ble_eq_true rfl), (Nat.le_of_ble_eq_true rfl)⟩ hKX hC hS hA hP hD [0, 1, 2, 3, 4, 5, 6, 7, 8, 9, 10, 11, 12, 13, 14, 15, 16, 17, 18, 19, 20] [] rfl (by decide) rfl (by decide) (by decide) 8 rfl rfl rfl hl.1 rfl (Nat.le_of_ble_eq_true rfl) ⟨Nat.zero_le _, Nat.zero_le _⟩ dX8_digit_1 (fun H locs hP hD hS => ?_)
  have hP : va_P D vwCl (moW ac q th row un kp mt u1.2 bx mo su wy wa od py ju pl rs) H := hP
  have hD : va_D A (moW ac q th row un kp mt u1.2 bx mo su wy wa od py ju pl rs) := hD
  obtain ⟨k2, hk2, hf⟩ := z_jn_u hf
  have hj3 : k2 () = some res → ∀ (H : Heap) (locs : List Loc) (ls : Array Slot), va_P D vwCl (moW ac q th row un kp mt u1.2 bx mo su wy wa od py ju pl rs) H → va_D A (moW ac q th row un kp mt u1.2 bx mo su wy wa od py ju pl rs) → va_S A s.heap H locs → lv_has ls 2 [(0, .ref (q 0))] → W p l e ({ frames := 2, cells := 0, slots := 0, locals := 45 } : Room) s m (([.ref (q 0), .int a1] : List Value).toArray) below meth c H locs 0 0 (MQ below (va_Qi (fun r (_ : Unit) => r = res.1) (fun _ => zB D A (moW ac q th row un kp mt res.2 bx mo su wy wa od py ju pl rs)) A) ([.ref (q 0), .int a1] : List Value).toArray s 0 0 A) (F0 m 23 ls []) := by
    intro hf H locs ls hP hD hS hl
    have hf := hk2 _ hf
    refine lv_aload_n hx hb dX8_digit_23 rfl (lv_at hl 0 rfl) ?_
    refine lv_aload_n hx hb dX8_digit_24 rfl (lv_at hl 0 rfl) ?_
    refine va_get (D := D) (ci := 8) (v := .int (ps_reading u1.2)) (C := RX8) (T := TX8) (N := 41) hx hb htw WW_wsX80 hown hKX.1 hP 0 rfl rfl 8 (Nat.le_of_ble_eq_true rfl) (htw _ mF_RX8_104) (fun _ h9 => h9) rfl dX8_digit_25 ?_
    obtain ⟨u4, hu4⟩ : ∃ y : Ps, y = M_wrong u1.2 (ps_reading u1.2) := ⟨_, rfl⟩
    have hf := z_let_u hu4 hf
    refine zc_MVv (As := [.int (ps_reading u1.2)]) (rest := []) (wr := []) (wsc := moW ac q th row un kp mt u1.2 bx mo su wy wa od py ju pl rs) (wsc' := moW ac q th row un kp mt u4 bx mo su wy wa od py ju pl rs) hx hb hml hown htw (ctX8_wrong l D ac cs q H.size th row un kp mt u1.2 bx mo su wy wa od py ju pl rs (ps_reading u1.2)   u4 hu4.symm) (g_V mM_RX8_141 mI_yX8_wrong mS_RX8_yX8_wrong_yX8_wrong mN_RX8 mC_yX8_wrong) rfl (hd_yX8_wrong) ⟨rfl, rfl⟩ ⟨(Nat.le_of_ble_eq_true rfl), (Nat.le_of_ble_eq_true rfl)⟩ hKX hC hS hA hP hD [0, 1, 2, 3, 4, 5, 6, 7, 8, 9, 10, 11, 12, 13, 14, 15, 16, 17, 18, 19, 20] [] rfl (by decide) rfl (by decide) (by decide) 8 rfl rfl rfl hl.1 rfl (Nat.le_of_ble_eq_true rfl) ⟨Nat.zero_le _, Nat.zero_le _⟩ dX8_digit_28 (fun H locs hP hD hS => ?_)
    have hP : va_P D vwCl (moW ac q th row un kp mt u4 bx mo su wy wa od py ju pl rs) H := hP
    have hD : va_D A (moW ac q th row un kp mt u4 bx mo su wy wa od py ju pl rs) := hD
    refine lv_iconst (v := 0) hx hb dX8_digit_31 rfl ?_
    obtain rfl := Option.some.inj hf
    exact zr_Mi hx hb hr hlocks hP hD hS dX8_digit_32
  refine lv_if_eq (tgt := 23) hx hb dX8_digit_4 (by decide) (fun c5 => ?_) (fun c5 => ?_)
  · have hf := z_p c5 hf
    exact hj3  hf _ _ ls  hP hD hS (lv_sub hl [0] rfl)
  · have hf := z_n c5 hf
    refine lv_aload_n hx hb dX8_digit_7 rfl (lv_at hl 0 rfl) ?_
    refine va_get (D := D) (ci := 8) (v := .ref (q 5)) (C := RX8) (T := TX8) (N := 41) hx hb htw WW_wsX80 hown hKX.1 hP 0 rfl rfl 6 (Nat.le_of_ble_eq_true rfl) (htw _ mF_RX8_25) (fun _ h9 => h9) rfl dX8_digit_8 ?_
    refine lv_aload_n hx hb dX8_digit_11 rfl (lv_at hl 0 rfl) ?_
    refine va_get (D := D) (ci := 8) (v := .int (ps_reading u1.2)) (C := RX8) (T := TX8) (N := 41) hx hb htw WW_wsX80 hown hKX.1 hP 0 rfl rfl 8 (Nat.le_of_ble_eq_true rfl) (htw _ mF_RX8_104) (fun _ h9 => h9) rfl dX8_digit_12 ?_
    obtain ⟨g6, hf⟩ := z_gd_u hf
    refine va_bald hx hb hKX.1 hP 5 3 rfl rfl (z_in_u g6) dX8_digit_15 ?_
    refine lv_bipush (v := 48) hx hb dX8_digit_16 rfl ?_
    refine lv_isub hx hb dX8_digit_18 ?_
    refine lv_iload_n hx hb dX8_digit_19 rfl (lv_at hl 1 rfl) ?_
    refine lv_icmp_le (tgt := 33) hx hb dX8_digit_20 (by decide) (fun c7 => ?_) (fun c7 => ?_)
    · have hf := z_p c7 hf
      refine lv_aload_n hx hb dX8_digit_33 rfl (lv_at hl 0 rfl) ?_
      refine lv_dup hx hb dX8_digit_34 rfl ?_
      refine va_get (D := D) (ci := 8) (v := .int (ps_reading u1.2)) (C := RX8) (T := TX8) (N := 41) hx hb htw WW_wsX80 hown hKX.1 hP 0 rfl rfl 8 (Nat.le_of_ble_eq_true rfl) (htw _ mF_RX8_104) (fun _ h9 => h9) rfl dX8_digit_35 ?_
      refine lv_iconst (v := 1) hx hb dX8_digit_38 rfl ?_
      refine lv_iadd hx hb dX8_digit_39 ?_
      refine lv_topi (fun x8 hx8 => ?_)
      have hf := z_let_u hx8 hf
      refine va_put (D := D) (ci := 8) (v := .int x8) (ty := tyX8 8) (C := RX8) (T := TX8) (N := 41) hx hb htw WW_wsX80 tyX8 tyX8_ok nmX8 hown hKX.1 hP hD hS 0 rfl rfl 8 (Nat.le_of_ble_eq_true rfl) (htw _ mF_RX8_104) (fun _ h9 => h9) rfl (tyX8_ok 8 (Nat.le_of_ble_eq_true rfl)) rfl rfl (Nat.le_of_ble_eq_true rfl) dX8_digit_40 (fun H locs hP hD hS => ?_)
      have hP : va_P D vwCl (moW ac q th row un kp mt (x8, (ps_fault u1.2), (ps_isGood u1.2), (ps_draft u1.2), (ps_had u1.2), (ps_tells u1.2)) bx mo su wy wa od py ju pl rs) H := hP
      have hD : va_D A (moW ac q th row un kp mt (x8, (ps_fault u1.2), (ps_isGood u1.2), (ps_draft u1.2), (ps_had u1.2), (ps_tells u1.2)) bx mo su wy wa od py ju pl rs) := hD
      refine lv_aload_n hx hb dX8_digit_43 rfl (lv_at hl 0 rfl) ?_
      refine va_get (D := D) (ci := 8) (v := .ref (q 5)) (C := RX8) (T := TX8) (N := 41) hx hb htw WW_wsX80 hown hKX.1 hP 0 rfl rfl 6 (Nat.le_of_ble_eq_true rfl) (htw _ mF_RX8_25) (fun _ h9 => h9) rfl dX8_digit_44 ?_
      refine lv_aload_n hx hb dX8_digit_47 rfl (lv_at hl 0 rfl) ?_
      refine va_get (D := D) (ci := 8) (v := .int x8) (C := RX8) (T := TX8) (N := 41) hx hb htw WW_wsX80 hown hKX.1 hP 0 rfl rfl 8 (Nat.le_of_ble_eq_true rfl) (htw _ mF_RX8_104) (fun _ h9 => h9) rfl dX8_digit_48 ?_
      refine lv_iconst (v := 1) hx hb dX8_digit_51 rfl ?_
      refine lv_isub hx hb dX8_digit_52 ?_
      obtain ⟨g9, hf⟩ := z_gd_u hf
      refine va_bald hx hb hKX.1 hP 5 3 rfl rfl (z_in_u g9) dX8_digit_53 ?_
      refine lv_bipush (v := 48) hx hb dX8_digit_54 rfl ?_
      refine lv_isub hx hb dX8_digit_56 ?_
      obtain rfl := Option.some.inj hf
      exact zr_Mi hx hb hr hlocks hP hD hS dX8_digit_57
    · have hf := z_n c7 hf
      exact hj3  hf _ _ ls  hP hD hS (lv_sub hl [0] rfl)

theorem hd_yX8_readSkills : hdY yX8_readSkills 1 := by decide +kernel
def M_readSkills_L4 (F : Nat) (mt : Mt) (a1 : Int32) (kx7 : Int32 → Ps → Option (Ps)) : Nat → Int32 → Int32 → Ps → Option (Ps)
  | 0, _, _, _ => none
  | n5 + 1, x1, x2, ps3 => if x2 = 0 then (kx7 x1 ps3) else (z_jn (fun ps11 : Ps => z_bd (M_digit F mt ps11 6) (fun u14 : Int32 × Ps => z_let u14.1 (fun x15 : Int32 => z_jn (fun u_k18 : Int32 × Ps => z_bd (M_isDigitNext F mt u_k18.2) (fun u20 : Int32 × Ps => z_let u20.1 (fun x21 : Int32 => M_readSkills_L4 F mt a1 kx7 n5 u_k18.1 x21 u20.2))) (fun k18 => if (ps_isGood u14.2) = 0 then (k18 (x1, u14.2)) else (z_gd (z_in ((8 + (5 * a1)) + x1) 78) (z_let (x1 + 1) (fun x24 : Int32 => k18 (x24, ((ps_reading u14.2), (ps_fault u14.2), (ps_isGood u14.2), (upd (ps_draft u14.2) ((8 + (5 * a1)) + x1).toNatClampNeg x15), (ps_had u14.2), (ps_tells u14.2)))))))))) (fun k12 => if x1 = 5 then (z_bd (M_next F mt ps3) (fun u26 : Int32 × Ps => z_let (M_wrong u26.2 (ps_reading u26.2)) (fun u27 : Ps => k12 u27))) else (k12 ps3)))
def M_readSkills (F : Nat) (mt : Mt) (ps : Ps) (a1 : Int32) : Option (Ps) := M_readSkills_L4 F mt a1 (fun (x8 : Int32) (ps9 : Ps) => z_gd (z_in a1 2) (some ((ps_reading ps9), (ps_fault ps9), (ps_isGood ps9), (ps_draft ps9), (ps_had ps9), (upd (ps_tells ps9) a1.toNatClampNeg x8)))) F 0 1 ps
set_option maxHeartbeats 4000000 in
set_option maxRecDepth 100000 in
theorem ctX8_readSkills (l : Launch) (D : va_G) (ac cs : Nat → Nat) (q : Nat → Nat) (sz : Nat) (th : Th) (row : MRow) (un : Un) (kp : Kp) (mt : Mt) (ps : Ps) (bx : Bx) (mo : Mo) (su : Su) (wy : Wy) (wa : Wa) (od : Od) (py : Py) (ju : Ju) (pl : Pl) (rs : Rs) (a1 : Int32) (F : Nat) (res : Ps) (hf : M_readSkills F mt ps a1 = some res) : Met l yX8_readSkills (cWW yX8_readSkills cX8_readSkills 5 none) { frames := 3, cells := 0, slots := 0, locals := 66 } (zM D ac cs [.ref (q 0), .int a1] (moW ac q th row un kp mt ps bx mo su wy wa od py ju pl rs) sz) (va_Qv (fun _ : Unit => True) (fun _ => zB D (va_A (moW ac q th row un kp mt ps bx mo su wy wa od py ju pl rs) sz) (moW ac q th row un kp mt res bx mo su wy wa od py ju pl rs)) (va_A (moW ac q th row un kp mt ps bx mo su wy wa od py ju pl rs) sz)) 0 0 (va_A (moW ac q th row un kp mt ps bx mo su wy wa od py ju pl rs) sz) := by
  refine Met.ofW (cc := cX8_readSkills) (maxL := 5) (ret := none) (by decide) rfl ?_
  intro p e s m args below meth c s₁ B hml hv
  obtain ⟨rfl, hsz, hP, hKX, hD0, hC⟩ := hv
  have hx := B.exec
  have hb := B.bytes
  have hr := B.returns
  have hts := atoms_spec (ws := cWW yX8_readSkills cX8_readSkills 5 none) B.pre
  have htw : ∀ w ∈ WW, w.before _ s = true := fun w h => hts w (List.mem_cons_of_mem _ h)
  have hown : s.vm.findClass RX8 = some m.cls := findClass_of_methodNamed B.named
  have hlocks := B.notSynchronized
  clear hts B
  subst hsz
  have hD := hD0.self (sz := s.heap.size)
  generalize hAe : va_A (moW ac q th row un kp mt ps bx mo su wy wa od py ju pl rs) s.heap.size = A at hD hC ⊢
  have hA : ∀ q : Nat, s.heap.size ≤ q → A q := fun q h => by rw [← hAe]; exact Or.inr h
  have hS : va_S A s.heap s.heap [] := va_S.rf
  clear hD0 hAe
  have hP : va_P D vwCl (moW ac q th row un kp mt ps bx mo su wy wa od py ju pl rs) s.heap := hP
  have hl := lv_entry ([.ref (q 0), .int a1]) (n := 5) (Nat.le_of_ble_eq_true rfl)
  rw [lg_entry_eq]
  generalize (lg_sl ([.ref (q 0), .int a1]) ++ List.replicate (5 - (lg_sl ([.ref (q 0), .int a1])).length) Slot.unset).toArray = ls at hl ⊢
  have hl : lv_has ls 5 [(0, .ref (q 0)), (1, .int a1)] := hl
  unfold M_readSkills at hf
  show W p l e ({ frames := 3, cells := 0, slots := 0, locals := 66 } : Room) s m _ below meth c s.heap [] 0 0 _ (F0 m 0 ls [])
  refine lv_iconst (v := 0) hx hb dX8_readSkills_0 rfl ?_
  refine lv_istore_n (lv' := [(2, .int 0), (0, .ref (q 0)), (1, .int a1)]) hx hb dX8_readSkills_1 rfl hl (Nat.le_of_ble_eq_true rfl) rfl (fun ls hl => ?_)
  refine lv_iconst (v := 1) hx hb dX8_readSkills_2 rfl ?_
  refine lv_istore_n (lv' := [(3, .int 1), (2, .int 0), (0, .ref (q 0)), (1, .int a1)]) hx hb dX8_readSkills_3 rfl hl (Nat.le_of_ble_eq_true rfl) rfl (fun ls hl => ?_)
  have hL4 : ∀ (kx7 : Int32 → Ps → Option (Ps)) (hkx7 : ∀ (x8 : Int32) (ps9 : Ps), kx7 x8 ps9 = some res → ∀ (H : Heap) (locs : List Loc) (ls : Array Slot), va_P D vwCl (moW ac q th row un kp mt ps9 bx mo su wy wa od py ju pl rs) H → va_D A (moW ac q th row un kp mt ps9 bx mo su wy wa od py ju pl rs) → va_S A s.heap H locs → lv_has ls 5 [(0, .ref (q 0)), (1, .int a1), (2, .int x8)] → W p l e ({ frames := 3, cells := 0, slots := 0, locals := 66 } : Room) s m (([.ref (q 0), .int a1] : List Value).toArray) below meth c H locs 0 0 (MQ below (va_Qv (fun _ : Unit => True) (fun _ => zB D A (moW ac q th row un kp mt res bx mo su wy wa od py ju pl rs)) A) ([.ref (q 0), .int a1] : List Value).toArray s 0 0 A) (F0 m 67 ls [])) (n5 : Nat) (x1 : Int32) (x2 : Int32) (ps3 : Ps), M_readSkills_L4 F mt a1 kx7 n5 x1 x2 ps3 = some res → ∀ (H : Heap) (locs : List Loc) (ls : Array Slot), va_P D vwCl (moW ac q th row un kp mt ps3 bx mo su wy wa od py ju pl rs) H → va_D A (moW ac q th row un kp mt ps3 bx mo su wy wa od py ju pl rs) → va_S A s.heap H locs → lv_has ls 5 [(0, .ref (q 0)), (1, .int a1), (2, .int x1), (3, .int x2)] → W p l e ({ frames := 3, cells := 0, slots := 0, locals := 66 } : Room) s m (([.ref (q 0), .int a1] : List Value).toArray) below meth c H locs 0 0 (MQ below (va_Qv (fun _ : Unit => True) (fun _ => zB D A (moW ac q th row un kp mt res bx mo su wy wa od py ju pl rs)) A) ([.ref (q 0), .int a1] : List Value).toArray s 0 0 A) (F0 m 4 ls []) := by
    intro kx7 hkx7 n5
    induction n5 with
    | zero => intro x1 x2 ps3 hf; rw [M_readSkills_L4] at hf; cases hf
    | succ n5 ih6 =>
      intro x1 x2 ps3 hf H locs ls hP hD hS hl
      rw [M_readSkills_L4] at hf
      refine lv_iload_n hx hb dX8_readSkills_4 rfl (lv_at hl 3 rfl) ?_
      refine lv_if_eq (tgt := 67) hx hb dX8_readSkills_5 (by decide) (fun c10 => ?_) (fun c10 => ?_)
      · have hf := z_p c10 hf
        exact hkx7 x1 ps3 hf _ _ ls  hP hD hS (lv_sub hl [0, 1, 2] rfl)
      · have hf := z_n c10 hf
        refine lv_iload_n hx hb dX8_readSkills_8 rfl (lv_at hl 2 rfl) ?_
        refine lv_iconst (v := 5) hx hb dX8_readSkills_9 rfl ?_
        obtain ⟨k12, hk12, hf⟩ := z_jn_u hf
        have hj13 : ∀ (ps11 : Ps), k12 ps11 = some res → ∀ (H : Heap) (locs : List Loc) (ls : Array Slot), va_P D vwCl (moW ac q th row un kp mt ps11 bx mo su wy wa od py ju pl rs) H → va_D A (moW ac q th row un kp mt ps11 bx mo su wy wa od py ju pl rs) → va_S A s.heap H locs → lv_has ls 5 [(0, .ref (q 0)), (1, .int a1), (2, .int x1)] → W p l e ({ frames := 3, cells := 0, slots := 0, locals := 66 } : Room) s m (([.ref (q 0), .int a1] : List Value).toArray) below meth c H locs 0 0 (MQ below (va_Qv (fun _ : Unit => True) (fun _ => zB D A (moW ac q th row un kp mt res bx mo su wy wa od py ju pl rs)) A) ([.ref (q 0), .int a1] : List Value).toArray s 0 0 A) (F0 m 26 ls []) := by
          intro ps11 hf H locs ls hP hD hS hl
          have hf := hk12 _ hf
          refine lv_aload_n hx hb dX8_readSkills_26 rfl (lv_at hl 0 rfl) ?_
          refine lv_bipush (v := 6) hx hb dX8_readSkills_27 rfl ?_
          obtain ⟨u14, hu14, hf⟩ := z_bd_u hf
          refine zc_MVi (As := [.int 6]) (rest := []) (wr := []) (wsc := moW ac q th row un kp mt ps11 bx mo su wy wa od py ju pl rs) (wsc' := moW ac q th row un kp mt u14.2 bx mo su wy wa od py ju pl rs) hx hb hml hown htw (ctX8_digit l D ac cs q H.size th row un kp mt ps11 bx mo su wy wa od py ju pl rs 6   F u14 hu14) (g_V mM_RX8_152 mI_yX8_digit mS_RX8_yX8_digit_yX8_digit mN_RX8 mC_yX8_digit) rfl (hd_yX8_digit) ⟨rfl, rfl⟩ ⟨(Nat.le_of_ble_eq_true rfl), (Nat.le_of_ble_eq_true rfl)⟩ hKX hC hS hA hP hD [0, 1, 2, 3, 4, 5, 6, 7, 8, 9, 10, 11, 12, 13, 14, 15, 16, 17, 18, 19, 20] [] rfl (by decide) rfl (by decide) (by decide) 8 rfl rfl rfl hl.1 rfl (Nat.le_of_ble_eq_true rfl) ⟨Nat.zero_le _, Nat.zero_le _⟩ dX8_readSkills_29 (fun H locs hP hD hS => ?_)
          have hP : va_P D vwCl (moW ac q th row un kp mt u14.2 bx mo su wy wa od py ju pl rs) H := hP
          have hD : va_D A (moW ac q th row un kp mt u14.2 bx mo su wy wa od py ju pl rs) := hD
          refine lv_topi (fun x15 hx15 => ?_)
          have hf := z_let_u hx15 hf
          refine lv_istore (lv' := [(4, .int x15), (0, .ref (q 0)), (1, .int a1), (2, .int x1)]) hx hb dX8_readSkills_32 hl (Nat.le_of_ble_eq_true rfl) rfl (fun ls hl => ?_)
          refine lv_aload_n hx hb dX8_readSkills_34 rfl (lv_at hl 1 rfl) ?_
          refine va_get (D := D) (ci := 8) (v := .int (ps_isGood u14.2)) (C := RX8) (T := TX8) (N := 41) hx hb htw WW_wsX80 hown hKX.1 hP 0 rfl rfl 10 (Nat.le_of_ble_eq_true rfl) (htw _ mF_RX8_97) (fun _ h9 => h9) rfl dX8_readSkills_35 ?_
          obtain ⟨k18, hk18, hf⟩ := z_jn_u hf
          have hj19 : ∀ (v16 : Int32) (ps17 : Ps), k18 (v16, ps17) = some res → ∀ (H : Heap) (locs : List Loc) (ls : Array Slot), va_P D vwCl (moW ac q th row un kp mt ps17 bx mo su wy wa od py ju pl rs) H → va_D A (moW ac q th row un kp mt ps17 bx mo su wy wa od py ju pl rs) → va_S A s.heap H locs → lv_has ls 5 [(0, .ref (q 0)), (1, .int a1), (2, .int v16)] → W p l e ({ frames := 3, cells := 0, slots := 0, locals := 66 } : Room) s m (([.ref (q 0), .int a1] : List Value).toArray) below meth c H locs 0 0 (MQ below (va_Qv (fun _ : Unit => True) (fun _ => zB D A (moW ac q th row un kp mt res bx mo su wy wa od py ju pl rs)) A) ([.ref (q 0), .int a1] : List Value).toArray s 0 0 A) (F0 m 59 ls []) := by
            intro v16 ps17 hf H locs ls hP hD hS hl
            have hf := hk18 _ hf
            refine lv_aload_n hx hb dX8_readSkills_59 rfl (lv_at hl 0 rfl) ?_
            obtain ⟨u20, hu20, hf⟩ := z_bd_u hf
            refine zc_MVi (As := []) (rest := []) (wr := []) (wsc := moW ac q th row un kp mt ps17 bx mo su wy wa od py ju pl rs) (wsc' := moW ac q th row un kp mt u20.2 bx mo su wy wa od py ju pl rs) hx hb hml hown htw (ctX8_isDigitNext l D ac cs q H.size th row un kp mt ps17 bx mo su wy wa od py ju pl rs    F u20 hu20) (g_V mM_RX8_138 mI_yX8_isDigitNext mS_RX8_yX8_isDigitNext_yX8_isDigitNext mN_RX8 mC_yX8_isDigitNext) rfl (hd_yX8_isDigitNext) ⟨rfl, rfl⟩ ⟨(Nat.le_of_ble_eq_true rfl), (Nat.le_of_ble_eq_true rfl)⟩ hKX hC hS hA hP hD [0, 1, 2, 3, 4, 5, 6, 7, 8, 9, 10, 11, 12, 13, 14, 15, 16, 17, 18, 19, 20] [] rfl (by decide) rfl (by decide) (by decide) 8 rfl rfl rfl hl.1 rfl (Nat.le_of_ble_eq_true rfl) ⟨Nat.zero_le _, Nat.zero_le _⟩ dX8_readSkills_60 (fun H locs hP hD hS => ?_)
            have hP : va_P D vwCl (moW ac q th row un kp mt u20.2 bx mo su wy wa od py ju pl rs) H := hP
            have hD : va_D A (moW ac q th row un kp mt u20.2 bx mo su wy wa od py ju pl rs) := hD
            refine lv_topi (fun x21 hx21 => ?_)
            have hf := z_let_u hx21 hf
            refine lv_istore_n (lv' := [(3, .int x21), (0, .ref (q 0)), (1, .int a1), (2, .int v16)]) hx hb dX8_readSkills_63 rfl hl (Nat.le_of_ble_eq_true rfl) rfl (fun ls hl => ?_)
            refine lv_goto (tgt := 4) hx hb dX8_readSkills_64 (by decide) ?_
            exact ih6 v16 x21 u20.2 hf _ _ ls  hP hD hS (lv_sub hl [1, 2, 3, 0] rfl)
          refine lv_if_eq (tgt := 59) hx hb dX8_readSkills_38 (by decide) (fun c22 => ?_) (fun c22 => ?_)
          · have hf := z_p c22 hf
            exact hj19 x1 u14.2 hf _ _ ls  hP hD hS (lv_sub hl [1, 2, 3] rfl)
          · have hf := z_n c22 hf
            refine lv_aload_n hx hb dX8_readSkills_41 rfl (lv_at hl 1 rfl) ?_
            refine va_get (D := D) (ci := 8) (v := .ref (q 6)) (C := RX8) (T := TX8) (N := 41) hx hb htw WW_wsX80 hown hKX.1 hP 0 rfl rfl 11 (Nat.le_of_ble_eq_true rfl) (htw _ mF_RX8_29) (fun _ h9 => h9) rfl dX8_readSkills_42 ?_
            refine lv_bipush (v := 8) hx hb dX8_readSkills_45 rfl ?_
            refine lv_iconst (v := 5) hx hb dX8_readSkills_47 rfl ?_
            refine lv_iload_n hx hb dX8_readSkills_48 rfl (lv_at hl 2 rfl) ?_
            refine lv_imul hx hb dX8_readSkills_49 ?_
            refine lv_iadd hx hb dX8_readSkills_50 ?_
            refine lv_iload_n hx hb dX8_readSkills_51 rfl (lv_at hl 3 rfl) ?_
            refine lv_iadd hx hb dX8_readSkills_52 ?_
            refine lv_iload hx hb dX8_readSkills_53 (lv_at hl 0 rfl) ?_
            obtain ⟨g23, hf⟩ := z_gd_u hf
            refine va_iast hx hb hKX.1 hP hD hS 6 0 rfl rfl (z_in_u g23) dX8_readSkills_55 (fun H locs hP hD hS => ?_)
            have hP : va_P D vwCl (moW ac q th row un kp mt ((ps_reading u14.2), (ps_fault u14.2), (ps_isGood u14.2), (upd (ps_draft u14.2) ((8 + (5 * a1)) + x1).toNatClampNeg x15), (ps_had u14.2), (ps_tells u14.2)) bx mo su wy wa od py ju pl rs) H := hP
            have hD : va_D A (moW ac q th row un kp mt ((ps_reading u14.2), (ps_fault u14.2), (ps_isGood u14.2), (upd (ps_draft u14.2) ((8 + (5 * a1)) + x1).toNatClampNeg x15), (ps_had u14.2), (ps_tells u14.2)) bx mo su wy wa od py ju pl rs) := hD
            obtain ⟨x24, hx24⟩ : ∃ y : Int32, y = (x1 + 1) := ⟨_, rfl⟩
            have hf := z_let_u hx24 hf
            refine lv_iinc (v := x24) (lv' := [(2, .int x24), (4, .int x15), (0, .ref (q 0)), (1, .int a1)]) hx hb dX8_readSkills_56 hl (k := 3) rfl (by rw [hx24]; rfl) (Nat.le_of_ble_eq_true rfl) rfl (fun ls hl => ?_)
            exact hj19 x24 ((ps_reading u14.2), (ps_fault u14.2), (ps_isGood u14.2), (upd (ps_draft u14.2) ((8 + (5 * a1)) + x1).toNatClampNeg x15), (ps_had u14.2), (ps_tells u14.2)) hf _ _ ls  hP hD hS (lv_sub hl [2, 3, 0] rfl)
        refine lv_icmp_ne (tgt := 26) hx hb dX8_readSkills_10 (by decide) (fun c25 => ?_) (fun c25 => ?_)
        · have hf := z_n c25 hf
          exact hj13 ps3 hf _ _ ls  hP hD hS (lv_sub hl [0, 1, 2] rfl)
        · have hf := z_p c25 hf
          refine lv_aload_n hx hb dX8_readSkills_13 rfl (lv_at hl 0 rfl) ?_
          obtain ⟨u26, hu26, hf⟩ := z_bd_u hf
          refine zc_MVi (As := []) (rest := []) (wr := []) (wsc := moW ac q th row un kp mt ps3 bx mo su wy wa od py ju pl rs) (wsc' := moW ac q th row un kp mt u26.2 bx mo su wy wa od py ju pl rs) hx hb hml hown htw (ctX8_next l D ac cs q H.size th row un kp mt ps3 bx mo su wy wa od py ju pl rs    F u26 hu26) (g_V mM_RX8_107 mI_yX8_next mS_RX8_yX8_next_yX8_next mN_RX8 mC_yX8_next) rfl (hd_yX8_next) ⟨rfl, rfl⟩ ⟨(Nat.le_of_ble_eq_true rfl), (Nat.le_of_ble_eq_true rfl)⟩ hKX hC hS hA hP hD [0, 1, 2, 3, 4, 5, 6, 7, 8, 9, 10, 11, 12, 13, 14, 15, 16, 17, 18, 19, 20] [] rfl (by decide) rfl (by decide) (by decide) 8 rfl rfl rfl hl.1 rfl (Nat.le_of_ble_eq_true rfl) ⟨Nat.zero_le _, Nat.zero_le _⟩ dX8_readSkills_14 (fun H locs hP hD hS => ?_)
          have hP : va_P D vwCl (moW ac q th row un kp mt u26.2 bx mo su wy wa od py ju pl rs) H := hP
          have hD : va_D A (moW ac q th row un kp mt u26.2 bx mo su wy wa od py ju pl rs) := hD
          refine lv_pop hx hb dX8_readSkills_17 rfl ?_
          refine lv_aload_n hx hb dX8_readSkills_18 rfl (lv_at hl 0 rfl) ?_
          refine lv_aload_n hx hb dX8_readSkills_19 rfl (lv_at hl 0 rfl) ?_
          refine va_get (D := D) (ci := 8) (v := .int (ps_reading u26.2)) (C := RX8) (T := TX8) (N := 41) hx hb htw WW_wsX80 hown hKX.1 hP 0 rfl rfl 8 (Nat.le_of_ble_eq_true rfl) (htw _ mF_RX8_104) (fun _ h9 => h9) rfl dX8_readSkills_20 ?_
          obtain ⟨u27, hu27⟩ : ∃ y : Ps, y = M_wrong u26.2 (ps_reading u26.2) := ⟨_, rfl⟩
          have hf := z_let_u hu27 hf
          refine zc_MVv (As := [.int (ps_reading u26.2)]) (rest := []) (wr := []) (wsc := moW ac q th row un kp mt u26.2 bx mo su wy wa od py ju pl rs) (wsc' := moW ac q th row un kp mt u27 bx mo su wy wa od py ju pl rs) hx hb hml hown htw (ctX8_wrong l D ac cs q H.size th row un kp mt u26.2 bx mo su wy wa od py ju pl rs (ps_reading u26.2)   u27 hu27.symm) (g_V mM_RX8_141 mI_yX8_wrong mS_RX8_yX8_wrong_yX8_wrong mN_RX8 mC_yX8_wrong) rfl (hd_yX8_wrong) ⟨rfl, rfl⟩ ⟨(Nat.le_of_ble_eq_true rfl), (Nat.le_of_ble_eq_true rfl)⟩ hKX hC hS hA hP hD [0, 1, 2, 3, 4, 5, 6, 7, 8, 9, 10, 11, 12, 13, 14, 15, 16, 17, 18, 19, 20] [] rfl (by decide) rfl (by decide) (by decide) 8 rfl rfl rfl hl.1 rfl (Nat.le_of_ble_eq_true rfl) ⟨Nat.zero_le _, Nat.zero_le _⟩ dX8_readSkills_23 (fun H locs hP hD hS => ?_)
          have hP : va_P D vwCl (moW ac q th row un kp mt u27 bx mo su wy wa od py ju pl rs) H := hP
          have hD : va_D A (moW ac q th row un kp mt u27 bx mo su wy wa od py ju pl rs) := hD
          exact hj13 u27 hf _ _ ls  hP hD hS (lv_sub hl [0, 1, 2] rfl)
  refine hL4 _ ?_ F 0 1 ps hf _ _ ls  hP hD hS (lv_sub hl [2, 3, 1, 0] rfl)
  intro x8 ps9 hf H locs ls hP hD hS hl
  refine lv_aload_n hx hb dX8_readSkills_67 rfl (lv_at hl 0 rfl) ?_
  refine va_get (D := D) (ci := 8) (v := .ref (q 7)) (C := RX8) (T := TX8) (N := 41) hx hb htw WW_wsX80 hown hKX.1 hP 0 rfl rfl 13 (Nat.le_of_ble_eq_true rfl) (htw _ mF_RX8_32) (fun _ h9 => h9) rfl dX8_readSkills_68 ?_
  refine lv_iload_n hx hb dX8_readSkills_71 rfl (lv_at hl 1 rfl) ?_
  refine lv_iload_n hx hb dX8_readSkills_72 rfl (lv_at hl 2 rfl) ?_
  obtain ⟨g28, hf⟩ := z_gd_u hf
  refine va_iast hx hb hKX.1 hP hD hS 7 0 rfl rfl (z_in_u g28) dX8_readSkills_73 (fun H locs hP hD hS => ?_)
  have hP : va_P D vwCl (moW ac q th row un kp mt ((ps_reading ps9), (ps_fault ps9), (ps_isGood ps9), (ps_draft ps9), (ps_had ps9), (upd (ps_tells ps9) a1.toNatClampNeg x8)) bx mo su wy wa od py ju pl rs) H := hP
  have hD : va_D A (moW ac q th row un kp mt ((ps_reading ps9), (ps_fault ps9), (ps_isGood ps9), (ps_draft ps9), (ps_had ps9), (upd (ps_tells ps9) a1.toNatClampNeg x8)) bx mo su wy wa od py ju pl rs) := hD
  obtain rfl := Option.some.inj hf
  exact zr_Mv hx hb hr hlocks hP hD hS dX8_readSkills_74

theorem hd_yX8_digits : hdY yX8_digits 0 := by decide +kernel
def M_digits_L4 (row : MRow) (pl : Pl) : Nat → Int32 → Int32 → Option (Int32)
  | 0, _, _ => none
  | n4 + 1, x1, x2 => if M_n row ≤ x2 then (some x1) else (z_gd (z_in x2 5) (z_let ((10 * x1) + (pl x2.toNatClampNeg)) (fun x8 : Int32 => z_let (x2 + 1) (fun x9 : Int32 => M_digits_L4 row pl n4 x8 x9))))
def M_digits (F : Nat) (row : MRow) (pl : Pl) : Option (Int32) := M_digits_L4 row pl F 0 0
set_option maxHeartbeats 4000000 in
set_option maxRecDepth 100000 in
theorem ctX8_digits (l : Launch) (D : va_G) (ac cs : Nat → Nat) (q : Nat → Nat) (th : Th) (row : MRow) (un : Un) (kp : Kp) (mt : Mt) (ps : Ps) (bx : Bx) (mo : Mo) (su : Su) (wy : Wy) (wa : Wa) (od : Od) (py : Py) (ju : Ju) (pl : Pl) (rs : Rs) (F : Nat) (res : Int32) (hf : M_digits F row pl = some res) : Met l yX8_digits (cWW yX8_digits cX8_digits 3 (some .int)) { frames := 1, cells := 0, slots := 0, locals := 20 } (zR D ac cs [.ref (q 0)] (moW ac q th row un kp mt ps bx mo su wy wa od py ju pl rs)) (vp_Si (fun r => r = res)) 0 0 (fun _ => False) := by
  refine Met.ofW (cc := cX8_digits) (maxL := 3) (ret := (some .int)) (by decide) rfl ?_
  intro p e s m args below meth c s₁ B hml hv
  obtain ⟨rfl, hP, hKX, hC⟩ := hv
  have hx := B.exec
  have hb := B.bytes
  have hr := B.returns
  have hts := atoms_spec (ws := cWW yX8_digits cX8_digits 3 (some .int)) B.pre
  have htw : ∀ w ∈ WW, w.before _ s = true := fun w h => hts w (List.mem_cons_of_mem _ h)
  have hown : s.vm.findClass RX8 = some m.cls := findClass_of_methodNamed B.named
  have hlocks := B.notSynchronized
  clear hts B
  have hS : va_S (fun _ => False) s.heap s.heap [] := va_S.rf
  have hl := lv_entry ([.ref (q 0)]) (n := 3) (Nat.le_of_ble_eq_true rfl)
  rw [lg_entry_eq]
  generalize (lg_sl ([.ref (q 0)]) ++ List.replicate (3 - (lg_sl ([.ref (q 0)])).length) Slot.unset).toArray = ls at hl ⊢
  have hl : lv_has ls 3 [(0, .ref (q 0))] := hl
  unfold M_digits at hf
  show W p l e ({ frames := 1, cells := 0, slots := 0, locals := 20 } : Room) s m _ below meth c s.heap [] 0 0 _ (F0 m 0 ls [])
  refine lv_iconst (v := 0) hx hb dX8_digits_0 rfl ?_
  refine lv_istore_n (lv' := [(1, .int 0), (0, .ref (q 0))]) hx hb dX8_digits_1 rfl hl (Nat.le_of_ble_eq_true rfl) rfl (fun ls hl => ?_)
  refine lv_iconst (v := 0) hx hb dX8_digits_2 rfl ?_
  refine lv_istore_n (lv' := [(2, .int 0), (1, .int 0), (0, .ref (q 0))]) hx hb dX8_digits_3 rfl hl (Nat.le_of_ble_eq_true rfl) rfl (fun ls hl => ?_)
  have hL3 : ∀ (n4 : Nat) (x1 : Int32) (x2 : Int32), M_digits_L4 row pl n4 x1 x2 = some res → ∀ (ls : Array Slot), lv_has ls 3 [(0, .ref (q 0)), (1, .int x1), (2, .int x2)] → W p l e ({ frames := 1, cells := 0, slots := 0, locals := 20 } : Room) s m (([.ref (q 0)] : List Value).toArray) below meth c s.heap [] 0 0 (MQ below (vp_Si (fun r => r = res)) ([.ref (q 0)] : List Value).toArray s 0 0 (fun _ => False)) (F0 m 4 ls []) := by
    intro n4
    induction n4 with
    | zero => intro x1 x2 hf; rw [M_digits_L4] at hf; cases hf
    | succ n4 ih5 =>
      intro x1 x2 hf ls hl
      rw [M_digits_L4] at hf
      refine lv_iload_n hx hb dX8_digits_4 rfl (lv_at hl 2 rfl) ?_
      refine lv_aload_n hx hb dX8_digits_5 rfl (lv_at hl 0 rfl) ?_
      refine zc_RVi (As := []) (rest := [.int x2]) hx hb hml hown htw (ctX8_n l D ac cs q th row un kp mt ps bx mo su wy wa od py ju pl rs    _ rfl) (g_V mM_RX8_190 mI_yX8_n mS_RX8_yX8_n_yX8_n mN_RX8 mC_yX8_n) rfl (hd_yX8_n) ⟨rfl, rfl⟩ ⟨(Nat.le_of_ble_eq_true rfl), (Nat.le_of_ble_eq_true rfl)⟩ hKX hC hS hP 8 rfl rfl rfl hl.1 rfl (Nat.le_of_ble_eq_true rfl) ⟨Nat.zero_le _, Nat.zero_le _⟩ dX8_digits_6 ?_
      refine lv_icmp_ge (tgt := 30) hx hb dX8_digits_9 (by decide) (fun c6 => ?_) (fun c6 => ?_)
      · have hf := z_p c6 hf
        refine lv_iload_n hx hb dX8_digits_30 rfl (lv_at hl 1 rfl) ?_
        exact zr_Ri hx hb hr hlocks (Option.some.inj hf) dX8_digits_31
      · have hf := z_n c6 hf
        refine lv_bipush (v := 10) hx hb dX8_digits_12 rfl ?_
        refine lv_iload_n hx hb dX8_digits_14 rfl (lv_at hl 1 rfl) ?_
        refine lv_imul hx hb dX8_digits_15 ?_
        refine lv_aload_n hx hb dX8_digits_16 rfl (lv_at hl 0 rfl) ?_
        refine va_get (D := D) (ci := 8) (v := .ref (q 17)) (C := RX8) (T := TX8) (N := 41) hx hb htw WW_wsX80 hown hKX.1 hP 0 rfl rfl 36 (Nat.le_of_ble_eq_true rfl) (htw _ mF_RX8_63) (fun _ h9 => h9) rfl dX8_digits_17 ?_
        refine lv_iload_n hx hb dX8_digits_20 rfl (lv_at hl 2 rfl) ?_
        obtain ⟨g7, hf⟩ := z_gd_u hf
        refine va_iald hx hb hKX.1 hP 17 0 rfl rfl (z_in_u g7) dX8_digits_21 ?_
        refine lv_iadd hx hb dX8_digits_22 ?_
        refine lv_topi (fun x8 hx8 => ?_)
        have hf := z_let_u hx8 hf
        refine lv_istore_n (lv' := [(1, .int x8), (0, .ref (q 0)), (2, .int x2)]) hx hb dX8_digits_23 rfl hl (Nat.le_of_ble_eq_true rfl) rfl (fun ls hl => ?_)
        obtain ⟨x9, hx9⟩ : ∃ y : Int32, y = (x2 + 1) := ⟨_, rfl⟩
        have hf := z_let_u hx9 hf
        refine lv_iinc (v := x9) (lv' := [(2, .int x9), (1, .int x8), (0, .ref (q 0))]) hx hb dX8_digits_24 hl (k := 2) rfl (by rw [hx9]; rfl) (Nat.le_of_ble_eq_true rfl) rfl (fun ls hl => ?_)
        refine lv_goto (tgt := 4) hx hb dX8_digits_27 (by decide) ?_
        exact ih5 x8 x9 hf ls (lv_sub hl [2, 1, 0] rfl)
  refine hL3  F 0 0 hf ls (lv_sub hl [2, 1, 0] rfl)

theorem hd_yX8_firstRow : hdY yX8_firstRow 0 := by decide +kernel
def M_firstRow_L2 : Nat → Int32 → Pl → Option (Pl)
  | 0, _, _ => none
  | n4 + 1, x1, pl2 => if 5 ≤ x1 then (some pl2) else (z_gd (z_in x1 5) (z_let (x1 + 1) (fun x8 : Int32 => M_firstRow_L2 n4 x8 (upd pl2 x1.toNatClampNeg x1))))
def M_firstRow (F : Nat) (pl : Pl) : Option (Pl) := M_firstRow_L2  F 0 pl
set_option maxHeartbeats 4000000 in
set_option maxRecDepth 100000 in
theorem ctX8_firstRow (l : Launch) (D : va_G) (ac cs : Nat → Nat) (q : Nat → Nat) (sz : Nat) (th : Th) (row : MRow) (un : Un) (kp : Kp) (mt : Mt) (ps : Ps) (bx : Bx) (mo : Mo) (su : Su) (wy : Wy) (wa : Wa) (od : Od) (py : Py) (ju : Ju) (pl : Pl) (rs : Rs) (F : Nat) (res : Pl) (hf : M_firstRow F pl = some res) : Met l yX8_firstRow (cWW yX8_firstRow cX8_firstRow 2 none) { frames := 0, cells := 0, slots := 0, locals := 0 } (zM D ac cs [.ref (q 0)] (moW ac q th row un kp mt ps bx mo su wy wa od py ju pl rs) sz) (va_Qv (fun _ : Unit => True) (fun _ => zB D (va_A (moW ac q th row un kp mt ps bx mo su wy wa od py ju pl rs) sz) (moW ac q th row un kp mt ps bx mo su wy wa od py ju res rs)) (va_A (moW ac q th row un kp mt ps bx mo su wy wa od py ju pl rs) sz)) 0 0 (va_A (moW ac q th row un kp mt ps bx mo su wy wa od py ju pl rs) sz) := by
  refine Met.ofW (cc := cX8_firstRow) (maxL := 2) (ret := none) (by decide) rfl ?_
  intro p e s m args below meth c s₁ B hml hv
  obtain ⟨rfl, hsz, hP, hKX, hD0, hC⟩ := hv
  have hx := B.exec
  have hb := B.bytes
  have hr := B.returns
  have hts := atoms_spec (ws := cWW yX8_firstRow cX8_firstRow 2 none) B.pre
  have htw : ∀ w ∈ WW, w.before _ s = true := fun w h => hts w (List.mem_cons_of_mem _ h)
  have hown : s.vm.findClass RX8 = some m.cls := findClass_of_methodNamed B.named
  have hlocks := B.notSynchronized
  clear hts B
  subst hsz
  have hD := hD0.self (sz := s.heap.size)
  generalize hAe : va_A (moW ac q th row un kp mt ps bx mo su wy wa od py ju pl rs) s.heap.size = A at hD hC ⊢
  have hA : ∀ q : Nat, s.heap.size ≤ q → A q := fun q h => by rw [← hAe]; exact Or.inr h
  have hS : va_S A s.heap s.heap [] := va_S.rf
  clear hD0 hAe
  have hP : va_P D vwCl (moW ac q th row un kp mt ps bx mo su wy wa od py ju pl rs) s.heap := hP
  have hl := lv_entry ([.ref (q 0)]) (n := 2) (Nat.le_of_ble_eq_true rfl)
  rw [lg_entry_eq]
  generalize (lg_sl ([.ref (q 0)]) ++ List.replicate (2 - (lg_sl ([.ref (q 0)])).length) Slot.unset).toArray = ls at hl ⊢
  have hl : lv_has ls 2 [(0, .ref (q 0))] := hl
  unfold M_firstRow at hf
  show W p l e ({ frames := 0, cells := 0, slots := 0, locals := 0 } : Room) s m _ below meth c s.heap [] 0 0 _ (F0 m 0 ls [])
  refine lv_iconst (v := 0) hx hb dX8_firstRow_0 rfl ?_
  refine lv_istore_n (lv' := [(1, .int 0), (0, .ref (q 0))]) hx hb dX8_firstRow_1 rfl hl (Nat.le_of_ble_eq_true rfl) rfl (fun ls hl => ?_)
  have hL3 : ∀ (n4 : Nat) (x1 : Int32) (pl2 : Pl), M_firstRow_L2 n4 x1 pl2 = some res → ∀ (H : Heap) (locs : List Loc) (ls : Array Slot), va_P D vwCl (moW ac q th row un kp mt ps bx mo su wy wa od py ju pl2 rs) H → va_D A (moW ac q th row un kp mt ps bx mo su wy wa od py ju pl2 rs) → va_S A s.heap H locs → lv_has ls 2 [(0, .ref (q 0)), (1, .int x1)] → W p l e ({ frames := 0, cells := 0, slots := 0, locals := 0 } : Room) s m (([.ref (q 0)] : List Value).toArray) below meth c H locs 0 0 (MQ below (va_Qv (fun _ : Unit => True) (fun _ => zB D A (moW ac q th row un kp mt ps bx mo su wy wa od py ju res rs)) A) ([.ref (q 0)] : List Value).toArray s 0 0 A) (F0 m 2 ls []) := by
    intro n4
    induction n4 with
    | zero => intro x1 pl2 hf; rw [M_firstRow_L2] at hf; cases hf
    | succ n4 ih5 =>
      intro x1 pl2 hf H locs ls hP hD hS hl
      rw [M_firstRow_L2] at hf
      refine lv_iload_n hx hb dX8_firstRow_2 rfl (lv_at hl 1 rfl) ?_
      refine lv_iconst (v := 5) hx hb dX8_firstRow_3 rfl ?_
      refine lv_icmp_ge (tgt := 20) hx hb dX8_firstRow_4 (by decide) (fun c6 => ?_) (fun c6 => ?_)
      · have hf := z_p c6 hf
        obtain rfl := Option.some.inj hf
        exact zr_Mv hx hb hr hlocks hP hD hS dX8_firstRow_20
      · have hf := z_n c6 hf
        refine lv_aload_n hx hb dX8_firstRow_7 rfl (lv_at hl 0 rfl) ?_
        refine va_get (D := D) (ci := 8) (v := .ref (q 17)) (C := RX8) (T := TX8) (N := 41) hx hb htw WW_wsX80 hown hKX.1 hP 0 rfl rfl 36 (Nat.le_of_ble_eq_true rfl) (htw _ mF_RX8_63) (fun _ h9 => h9) rfl dX8_firstRow_8 ?_
        refine lv_iload_n hx hb dX8_firstRow_11 rfl (lv_at hl 1 rfl) ?_
        refine lv_iload_n hx hb dX8_firstRow_12 rfl (lv_at hl 1 rfl) ?_
        obtain ⟨g7, hf⟩ := z_gd_u hf
        refine va_iast hx hb hKX.1 hP hD hS 17 0 rfl rfl (z_in_u g7) dX8_firstRow_13 (fun H locs hP hD hS => ?_)
        have hP : va_P D vwCl (moW ac q th row un kp mt ps bx mo su wy wa od py ju (upd pl2 x1.toNatClampNeg x1) rs) H := hP
        have hD : va_D A (moW ac q th row un kp mt ps bx mo su wy wa od py ju (upd pl2 x1.toNatClampNeg x1) rs) := hD
        obtain ⟨x8, hx8⟩ : ∃ y : Int32, y = (x1 + 1) := ⟨_, rfl⟩
        have hf := z_let_u hx8 hf
        refine lv_iinc (v := x8) (lv' := [(1, .int x8), (0, .ref (q 0))]) hx hb dX8_firstRow_14 hl (k := 1) rfl (by rw [hx8]; rfl) (Nat.le_of_ble_eq_true rfl) rfl (fun ls hl => ?_)
        refine lv_goto (tgt := 2) hx hb dX8_firstRow_17 (by decide) ?_
        exact ih5 x8 (upd pl2 x1.toNatClampNeg x1) hf _ _ ls  hP hD hS (lv_sub hl [1, 0] rfl)
  refine hL3  F 0 pl hf _ _ ls  hP hD hS (lv_sub hl [1, 0] rfl)

theorem hd_yX8_swap : hdY yX8_swap 2 := by decide +kernel
def M_swap (pl : Pl) (a1 : Int32) (a2 : Int32) : Option (Pl) := z_gd (z_in a1 5) (z_let (pl a1.toNatClampNeg) (fun x2 : Int32 => z_gd (z_in a2 5) (z_let (pl a2.toNatClampNeg) (fun x4 : Int32 => z_gd (z_in a1 5) (z_gd (z_in a2 5) (some (upd (upd pl a1.toNatClampNeg x4) a2.toNatClampNeg x2)))))))
set_option maxHeartbeats 4000000 in
set_option maxRecDepth 100000 in
theorem ctX8_swap (l : Launch) (D : va_G) (ac cs : Nat → Nat) (q : Nat → Nat) (sz : Nat) (th : Th) (row : MRow) (un : Un) (kp : Kp) (mt : Mt) (ps : Ps) (bx : Bx) (mo : Mo) (su : Su) (wy : Wy) (wa : Wa) (od : Od) (py : Py) (ju : Ju) (pl : Pl) (rs : Rs) (a1 : Int32) (a2 : Int32) (res : Pl) (hf : M_swap pl a1 a2 = some res) : Met l yX8_swap (cWW yX8_swap cX8_swap 4 none) { frames := 0, cells := 0, slots := 0, locals := 0 } (zM D ac cs [.ref (q 0), .int a1, .int a2] (moW ac q th row un kp mt ps bx mo su wy wa od py ju pl rs) sz) (va_Qv (fun _ : Unit => True) (fun _ => zB D (va_A (moW ac q th row un kp mt ps bx mo su wy wa od py ju pl rs) sz) (moW ac q th row un kp mt ps bx mo su wy wa od py ju res rs)) (va_A (moW ac q th row un kp mt ps bx mo su wy wa od py ju pl rs) sz)) 0 0 (va_A (moW ac q th row un kp mt ps bx mo su wy wa od py ju pl rs) sz) := by
  refine Met.ofW (cc := cX8_swap) (maxL := 4) (ret := none) (by decide) rfl ?_
  intro p e s m args below meth c s₁ B hml hv
  obtain ⟨rfl, hsz, hP, hKX, hD0, hC⟩ := hv
  have hx := B.exec
  have hb := B.bytes
  have hr := B.returns
  have hts := atoms_spec (ws := cWW yX8_swap cX8_swap 4 none) B.pre
  have htw : ∀ w ∈ WW, w.before _ s = true := fun w h => hts w (List.mem_cons_of_mem _ h)
  have hown : s.vm.findClass RX8 = some m.cls := findClass_of_methodNamed B.named
  have hlocks := B.notSynchronized
  clear hts B
  subst hsz
  have hD := hD0.self (sz := s.heap.size)
  generalize hAe : va_A (moW ac q th row un kp mt ps bx mo su wy wa od py ju pl rs) s.heap.size = A at hD hC ⊢
  have hA : ∀ q : Nat, s.heap.size ≤ q → A q := fun q h => by rw [← hAe]; exact Or.inr h
  have hS : va_S A s.heap s.heap [] := va_S.rf
  clear hD0 hAe
  have hP : va_P D vwCl (moW ac q th row un kp mt ps bx mo su wy wa od py ju pl rs) s.heap := hP
  have hl := lv_entry ([.ref (q 0), .int a1, .int a2]) (n := 4) (Nat.le_of_ble_eq_true rfl)
  rw [lg_entry_eq]
  generalize (lg_sl ([.ref (q 0), .int a1, .int a2]) ++ List.replicate (4 - (lg_sl ([.ref (q 0), .int a1, .int a2])).length) Slot.unset).toArray = ls at hl ⊢
  have hl : lv_has ls 4 [(0, .ref (q 0)), (1, .int a1), (2, .int a2)] := hl
  unfold M_swap at hf
  show W p l e ({ frames := 0, cells := 0, slots := 0, locals := 0 } : Room) s m _ below meth c s.heap [] 0 0 _ (F0 m 0 ls [])
  refine lv_aload_n hx hb dX8_swap_0 rfl (lv_at hl 0 rfl) ?_
  refine va_get (D := D) (ci := 8) (v := .ref (q 17)) (C := RX8) (T := TX8) (N := 41) hx hb htw WW_wsX80 hown hKX.1 hP 0 rfl rfl 36 (Nat.le_of_ble_eq_true rfl) (htw _ mF_RX8_63) (fun _ h9 => h9) rfl dX8_swap_1 ?_
  refine lv_iload_n hx hb dX8_swap_4 rfl (lv_at hl 1 rfl) ?_
  obtain ⟨g1, hf⟩ := z_gd_u hf
  refine va_iald hx hb hKX.1 hP 17 0 rfl rfl (z_in_u g1) dX8_swap_5 ?_
  refine lv_topi (fun x2 hx2 => ?_)
  have hf := z_let_u hx2 hf
  refine lv_istore_n (lv' := [(3, .int x2), (0, .ref (q 0)), (1, .int a1), (2, .int a2)]) hx hb dX8_swap_6 rfl hl (Nat.le_of_ble_eq_true rfl) rfl (fun ls hl => ?_)
  refine lv_aload_n hx hb dX8_swap_7 rfl (lv_at hl 1 rfl) ?_
  refine va_get (D := D) (ci := 8) (v := .ref (q 17)) (C := RX8) (T := TX8) (N := 41) hx hb htw WW_wsX80 hown hKX.1 hP 0 rfl rfl 36 (Nat.le_of_ble_eq_true rfl) (htw _ mF_RX8_63) (fun _ h9 => h9) rfl dX8_swap_8 ?_
  refine lv_iload_n hx hb dX8_swap_11 rfl (lv_at hl 2 rfl) ?_
  refine lv_aload_n hx hb dX8_swap_12 rfl (lv_at hl 1 rfl) ?_
  refine va_get (D := D) (ci := 8) (v := .ref (q 17)) (C := RX8) (T := TX8) (N := 41) hx hb htw WW_wsX80 hown hKX.1 hP 0 rfl rfl 36 (Nat.le_of_ble_eq_true rfl) (htw _ mF_RX8_63) (fun _ h9 => h9) rfl dX8_swap_13 ?_
  refine lv_iload_n hx hb dX8_swap_16 rfl (lv_at hl 3 rfl) ?_
  obtain ⟨g3, hf⟩ := z_gd_u hf
  refine va_iald hx hb hKX.1 hP 17 0 rfl rfl (z_in_u g3) dX8_swap_17 ?_
  refine lv_topi (fun x4 hx4 => ?_)
  have hf := z_let_u hx4 hf
  obtain ⟨g5, hf⟩ := z_gd_u hf
  refine va_iast hx hb hKX.1 hP hD hS 17 0 rfl rfl (z_in_u g5) dX8_swap_18 (fun H locs hP hD hS => ?_)
  have hP : va_P D vwCl (moW ac q th row un kp mt ps bx mo su wy wa od py ju (upd pl a1.toNatClampNeg x4) rs) H := hP
  have hD : va_D A (moW ac q th row un kp mt ps bx mo su wy wa od py ju (upd pl a1.toNatClampNeg x4) rs) := hD
  refine lv_aload_n hx hb dX8_swap_19 rfl (lv_at hl 1 rfl) ?_
  refine va_get (D := D) (ci := 8) (v := .ref (q 17)) (C := RX8) (T := TX8) (N := 41) hx hb htw WW_wsX80 hown hKX.1 hP 0 rfl rfl 36 (Nat.le_of_ble_eq_true rfl) (htw _ mF_RX8_63) (fun _ h9 => h9) rfl dX8_swap_20 ?_
  refine lv_iload_n hx hb dX8_swap_23 rfl (lv_at hl 3 rfl) ?_
  refine lv_iload_n hx hb dX8_swap_24 rfl (lv_at hl 0 rfl) ?_
  obtain ⟨g6, hf⟩ := z_gd_u hf
  refine va_iast hx hb hKX.1 hP hD hS 17 0 rfl rfl (z_in_u g6) dX8_swap_25 (fun H locs hP hD hS => ?_)
  have hP : va_P D vwCl (moW ac q th row un kp mt ps bx mo su wy wa od py ju (upd (upd pl a1.toNatClampNeg x4) a2.toNatClampNeg x2) rs) H := hP
  have hD : va_D A (moW ac q th row un kp mt ps bx mo su wy wa od py ju (upd (upd pl a1.toNatClampNeg x4) a2.toNatClampNeg x2) rs) := hD
  obtain rfl := Option.some.inj hf
  exact zr_Mv hx hb hr hlocks hP hD hS dX8_swap_26

theorem hd_yX8_nextRow : hdY yX8_nextRow 0 := by decide +kernel
def M_nextRow_L9 (pl : Pl) (kx7 : Int32 → Option (Int32 × Pl)) : Nat → Int32 → Option (Int32 × Pl)
  | 0, _ => none
  | n5 + 1, x3 => if x3 < 0 then (kx7 x3) else (z_gd (z_in x3 5) (z_gd (z_in (x3 + 1) 5) (if (pl x3.toNatClampNeg) ≤ (pl (x3 + 1).toNatClampNeg) then (kx7 x3) else (z_let (x3 + (-1)) (fun x13 : Int32 => M_nextRow_L9 pl kx7 n5 x13)))))
def M_nextRow_L46 (pl : Pl) (x8 : Int32) (kx20 : Int32 → Option (Int32 × Pl)) : Nat → Int32 → Option (Int32 × Pl)
  | 0, _ => none
  | n18 + 1, x16 => z_gd (z_in x16 5) (z_gd (z_in x8 5) (if (pl x8.toNatClampNeg) ≤ (pl x16.toNatClampNeg) then (kx20 x16) else (z_let (x16 + (-1)) (fun x25 : Int32 => M_nextRow_L46 pl x8 kx20 n18 x25))))
def M_nextRow_L83 : Nat → Int32 → Int32 → Pl → Option (Int32 × Pl)
  | 0, _, _, _ => none
  | n33 + 1, x29, x30, pl31 => if x29 ≤ x30 then (some (1, pl31)) else (z_bd (M_swap pl31 x30 x29) (fun u36 : Pl => z_let (x29 + (-1)) (fun x37 : Int32 => z_let (x30 + 1) (fun x38 : Int32 => M_nextRow_L83 n33 x37 x38 u36))))
def M_nextRow (F : Nat) (row : MRow) (pl : Pl) : Option (Int32 × Pl) := z_let (M_n row) (fun x1 : Int32 => z_let (x1 - 2) (fun x2 : Int32 => M_nextRow_L9 pl (fun (x8 : Int32) => if 0 ≤ x8 then (z_let (x1 - 1) (fun x15 : Int32 => M_nextRow_L46 pl x8 (fun (x21 : Int32) => z_bd (M_swap pl x8 x21) (fun u26 : Pl => z_let (x1 - 1) (fun x27 : Int32 => z_let (x8 + 1) (fun x28 : Int32 => M_nextRow_L83  F x27 x28 u26)))) F x15)) else (some (0, pl))) F x2))
set_option maxHeartbeats 4000000 in
set_option maxRecDepth 100000 in
theorem ctX8_nextRow (l : Launch) (D : va_G) (ac cs : Nat → Nat) (q : Nat → Nat) (sz : Nat) (th : Th) (row : MRow) (un : Un) (kp : Kp) (mt : Mt) (ps : Ps) (bx : Bx) (mo : Mo) (su : Su) (wy : Wy) (wa : Wa) (od : Od) (py : Py) (ju : Ju) (pl : Pl) (rs : Rs) (F : Nat) (res : Int32 × Pl) (hf : M_nextRow F row pl = some res) : Met l yX8_nextRow (cWW yX8_nextRow cX8_nextRow 6 (some .boolean)) { frames := 1, cells := 0, slots := 0, locals := 23 } (zM D ac cs [.ref (q 0)] (moW ac q th row un kp mt ps bx mo su wy wa od py ju pl rs) sz) (va_Qi (fun r (_ : Unit) => r = res.1) (fun _ => zB D (va_A (moW ac q th row un kp mt ps bx mo su wy wa od py ju pl rs) sz) (moW ac q th row un kp mt ps bx mo su wy wa od py ju res.2 rs)) (va_A (moW ac q th row un kp mt ps bx mo su wy wa od py ju pl rs) sz)) 0 0 (va_A (moW ac q th row un kp mt ps bx mo su wy wa od py ju pl rs) sz) := by
  refine Met.ofW (cc := cX8_nextRow) (maxL := 6) (ret := (some .boolean)) (by decide) rfl ?_
  intro p e s m args below meth c s₁ B hml hv
  obtain ⟨rfl, hsz, hP, hKX, hD0, hC⟩ := hv
  have hx := B.exec
  have hb := B.bytes
  have hr := B.returns
  have hts := atoms_spec (ws := cWW yX8_nextRow cX8_nextRow 6 (some .boolean)) B.pre
  have htw : ∀ w ∈ WW, w.before _ s = true := fun w h => hts w (List.mem_cons_of_mem _ h)
  have hown : s.vm.findClass RX8 = some m.cls := findClass_of_methodNamed B.named
  have hlocks := B.notSynchronized
  clear hts B
  subst hsz
  have hD := hD0.self (sz := s.heap.size)
  generalize hAe : va_A (moW ac q th row un kp mt ps bx mo su wy wa od py ju pl rs) s.heap.size = A at hD hC ⊢
  have hA : ∀ q : Nat, s.heap.size ≤ q → A q := fun q h => by rw [← hAe]; exact Or.inr h
  have hS : va_S A s.heap s.heap [] := va_S.rf
  clear hD0 hAe
  have hP : va_P D vwCl (moW ac q th row un kp mt ps bx mo su wy wa od py ju pl rs) s.heap := hP
  have hl := lv_entry ([.ref (q 0)]) (n := 6) (Nat.le_of_ble_eq_true rfl)
  rw [lg_entry_eq]
  generalize (lg_sl ([.ref (q 0)]) ++ List.replicate (6 - (lg_sl ([.ref (q 0)])).length) Slot.unset).toArray = ls at hl ⊢
  have hl : lv_has ls 6 [(0, .ref (q 0))] := hl
  unfold M_nextRow at hf
  show W p l e ({ frames := 1, cells := 0, slots := 0, locals := 23 } : Room) s m _ below meth c s.heap [] 0 0 _ (F0 m 0 ls [])
  refine lv_aload_n hx hb dX8_nextRow_0 rfl (lv_at hl 0 rfl) ?_
  refine zc_RVi (As := []) (rest := []) hx hb hml hown htw (ctX8_n l D ac cs q th row un kp mt ps bx mo su wy wa od py ju pl rs    _ rfl) (g_V mM_RX8_190 mI_yX8_n mS_RX8_yX8_n_yX8_n mN_RX8 mC_yX8_n) rfl (hd_yX8_n) ⟨rfl, rfl⟩ ⟨(Nat.le_of_ble_eq_true rfl), (Nat.le_of_ble_eq_true rfl)⟩ hKX hC hS hP 8 rfl rfl rfl hl.1 rfl (Nat.le_of_ble_eq_true rfl) ⟨Nat.zero_le _, Nat.zero_le _⟩ dX8_nextRow_1 ?_
  refine lv_topi (fun x1 hx1 => ?_)
  have hf := z_let_u hx1 hf
  refine lv_istore_n (lv' := [(1, .int x1), (0, .ref (q 0))]) hx hb dX8_nextRow_4 rfl hl (Nat.le_of_ble_eq_true rfl) rfl (fun ls hl => ?_)
  refine lv_iload_n hx hb dX8_nextRow_5 rfl (lv_at hl 0 rfl) ?_
  refine lv_iconst (v := 2) hx hb dX8_nextRow_6 rfl ?_
  refine lv_isub hx hb dX8_nextRow_7 ?_
  refine lv_topi (fun x2 hx2 => ?_)
  have hf := z_let_u hx2 hf
  refine lv_istore_n (lv' := [(2, .int x2), (1, .int x1), (0, .ref (q 0))]) hx hb dX8_nextRow_8 rfl hl (Nat.le_of_ble_eq_true rfl) rfl (fun ls hl => ?_)
  have hL4 : ∀ (kx7 : Int32 → Option (Int32 × Pl)) (hkx7 : ∀ (x8 : Int32), kx7 x8 = some res → ∀ (H : Heap) (locs : List Loc) (ls : Array Slot), va_P D vwCl (moW ac q th row un kp mt ps bx mo su wy wa od py ju pl rs) H → va_D A (moW ac q th row un kp mt ps bx mo su wy wa od py ju pl rs) → va_S A s.heap H locs → lv_has ls 6 [(0, .ref (q 0)), (1, .int x1), (2, .int x8)] → W p l e ({ frames := 1, cells := 0, slots := 0, locals := 23 } : Room) s m (([.ref (q 0)] : List Value).toArray) below meth c H locs 0 0 (MQ below (va_Qi (fun r (_ : Unit) => r = res.1) (fun _ => zB D A (moW ac q th row un kp mt ps bx mo su wy wa od py ju res.2 rs)) A) ([.ref (q 0)] : List Value).toArray s 0 0 A) (F0 m 36 ls [])) (n5 : Nat) (x3 : Int32), M_nextRow_L9 pl kx7 n5 x3 = some res → ∀ (H : Heap) (locs : List Loc) (ls : Array Slot), va_P D vwCl (moW ac q th row un kp mt ps bx mo su wy wa od py ju pl rs) H → va_D A (moW ac q th row un kp mt ps bx mo su wy wa od py ju pl rs) → va_S A s.heap H locs → lv_has ls 6 [(0, .ref (q 0)), (1, .int x1), (2, .int x3)] → W p l e ({ frames := 1, cells := 0, slots := 0, locals := 23 } : Room) s m (([.ref (q 0)] : List Value).toArray) below meth c H locs 0 0 (MQ below (va_Qi (fun r (_ : Unit) => r = res.1) (fun _ => zB D A (moW ac q th row un kp mt ps bx mo su wy wa od py ju res.2 rs)) A) ([.ref (q 0)] : List Value).toArray s 0 0 A) (F0 m 9 ls []) := by
    intro kx7 hkx7 n5
    induction n5 with
    | zero => intro x3 hf; rw [M_nextRow_L9] at hf; cases hf
    | succ n5 ih6 =>
      intro x3 hf H locs ls hP hD hS hl
      rw [M_nextRow_L9] at hf
      refine lv_iload_n hx hb dX8_nextRow_9 rfl (lv_at hl 2 rfl) ?_
      refine lv_if_lt (tgt := 36) hx hb dX8_nextRow_10 (by decide) (fun c9 => ?_) (fun c9 => ?_)
      · have hf := z_p c9 hf
        exact hkx7 x3 hf _ _ ls  hP hD hS (lv_sub hl [0, 1, 2] rfl)
      · have hf := z_n c9 hf
        refine lv_aload_n hx hb dX8_nextRow_13 rfl (lv_at hl 0 rfl) ?_
        refine va_get (D := D) (ci := 8) (v := .ref (q 17)) (C := RX8) (T := TX8) (N := 41) hx hb htw WW_wsX80 hown hKX.1 hP 0 rfl rfl 36 (Nat.le_of_ble_eq_true rfl) (htw _ mF_RX8_63) (fun _ h9 => h9) rfl dX8_nextRow_14 ?_
        refine lv_iload_n hx hb dX8_nextRow_17 rfl (lv_at hl 2 rfl) ?_
        obtain ⟨g10, hf⟩ := z_gd_u hf
        refine va_iald hx hb hKX.1 hP 17 0 rfl rfl (z_in_u g10) dX8_nextRow_18 ?_
        refine lv_aload_n hx hb dX8_nextRow_19 rfl (lv_at hl 0 rfl) ?_
        refine va_get (D := D) (ci := 8) (v := .ref (q 17)) (C := RX8) (T := TX8) (N := 41) hx hb htw WW_wsX80 hown hKX.1 hP 0 rfl rfl 36 (Nat.le_of_ble_eq_true rfl) (htw _ mF_RX8_63) (fun _ h9 => h9) rfl dX8_nextRow_20 ?_
        refine lv_iload_n hx hb dX8_nextRow_23 rfl (lv_at hl 2 rfl) ?_
        refine lv_iconst (v := 1) hx hb dX8_nextRow_24 rfl ?_
        refine lv_iadd hx hb dX8_nextRow_25 ?_
        obtain ⟨g11, hf⟩ := z_gd_u hf
        refine va_iald hx hb hKX.1 hP 17 0 rfl rfl (z_in_u g11) dX8_nextRow_26 ?_
        refine lv_icmp_le (tgt := 36) hx hb dX8_nextRow_27 (by decide) (fun c12 => ?_) (fun c12 => ?_)
        · have hf := z_p c12 hf
          exact hkx7 x3 hf _ _ ls  hP hD hS (lv_sub hl [0, 1, 2] rfl)
        · have hf := z_n c12 hf
          obtain ⟨x13, hx13⟩ : ∃ y : Int32, y = (x3 + (-1)) := ⟨_, rfl⟩
          have hf := z_let_u hx13 hf
          refine lv_iinc (v := x13) (lv' := [(2, .int x13), (0, .ref (q 0)), (1, .int x1)]) hx hb dX8_nextRow_30 hl (k := 2) rfl (by rw [hx13]; rfl) (Nat.le_of_ble_eq_true rfl) rfl (fun ls hl => ?_)
          refine lv_goto (tgt := 9) hx hb dX8_nextRow_33 (by decide) ?_
          exact ih6 x13 hf _ _ ls  hP hD hS (lv_sub hl [1, 2, 0] rfl)
  refine hL4 _ ?_ F x2 hf _ _ ls  hP hD hS (lv_sub hl [2, 1, 0] rfl)
  intro x8 hf H locs ls hP hD hS hl
  refine lv_iload_n hx hb dX8_nextRow_36 rfl (lv_at hl 2 rfl) ?_
  refine lv_if_ge (tgt := 42) hx hb dX8_nextRow_37 (by decide) (fun c14 => ?_) (fun c14 => ?_)
  · have hf := z_p c14 hf
    refine lv_iload_n hx hb dX8_nextRow_42 rfl (lv_at hl 1 rfl) ?_
    refine lv_iconst (v := 1) hx hb dX8_nextRow_43 rfl ?_
    refine lv_isub hx hb dX8_nextRow_44 ?_
    refine lv_topi (fun x15 hx15 => ?_)
    have hf := z_let_u hx15 hf
    refine lv_istore_n (lv' := [(3, .int x15), (0, .ref (q 0)), (1, .int x1), (2, .int x8)]) hx hb dX8_nextRow_45 rfl hl (Nat.le_of_ble_eq_true rfl) rfl (fun ls hl => ?_)
    have hL17 : ∀ (kx20 : Int32 → Option (Int32 × Pl)) (hkx20 : ∀ (x21 : Int32), kx20 x21 = some res → ∀ (H : Heap) (locs : List Loc) (ls : Array Slot), va_P D vwCl (moW ac q th row un kp mt ps bx mo su wy wa od py ju pl rs) H → va_D A (moW ac q th row un kp mt ps bx mo su wy wa od py ju pl rs) → va_S A s.heap H locs → lv_has ls 6 [(0, .ref (q 0)), (1, .int x1), (2, .int x8), (3, .int x21)] → W p l e ({ frames := 1, cells := 0, slots := 0, locals := 23 } : Room) s m (([.ref (q 0)] : List Value).toArray) below meth c H locs 0 0 (MQ below (va_Qi (fun r (_ : Unit) => r = res.1) (fun _ => zB D A (moW ac q th row un kp mt ps bx mo su wy wa od py ju res.2 rs)) A) ([.ref (q 0)] : List Value).toArray s 0 0 A) (F0 m 67 ls [])) (n18 : Nat) (x16 : Int32), M_nextRow_L46 pl x8 kx20 n18 x16 = some res → ∀ (H : Heap) (locs : List Loc) (ls : Array Slot), va_P D vwCl (moW ac q th row un kp mt ps bx mo su wy wa od py ju pl rs) H → va_D A (moW ac q th row un kp mt ps bx mo su wy wa od py ju pl rs) → va_S A s.heap H locs → lv_has ls 6 [(0, .ref (q 0)), (1, .int x1), (2, .int x8), (3, .int x16)] → W p l e ({ frames := 1, cells := 0, slots := 0, locals := 23 } : Room) s m (([.ref (q 0)] : List Value).toArray) below meth c H locs 0 0 (MQ below (va_Qi (fun r (_ : Unit) => r = res.1) (fun _ => zB D A (moW ac q th row un kp mt ps bx mo su wy wa od py ju res.2 rs)) A) ([.ref (q 0)] : List Value).toArray s 0 0 A) (F0 m 46 ls []) := by
      intro kx20 hkx20 n18
      induction n18 with
      | zero => intro x16 hf; rw [M_nextRow_L46] at hf; cases hf
      | succ n18 ih19 =>
        intro x16 hf H locs ls hP hD hS hl
        rw [M_nextRow_L46] at hf
        refine lv_aload_n hx hb dX8_nextRow_46 rfl (lv_at hl 0 rfl) ?_
        refine va_get (D := D) (ci := 8) (v := .ref (q 17)) (C := RX8) (T := TX8) (N := 41) hx hb htw WW_wsX80 hown hKX.1 hP 0 rfl rfl 36 (Nat.le_of_ble_eq_true rfl) (htw _ mF_RX8_63) (fun _ h9 => h9) rfl dX8_nextRow_47 ?_
        refine lv_iload_n hx hb dX8_nextRow_50 rfl (lv_at hl 3 rfl) ?_
        obtain ⟨g22, hf⟩ := z_gd_u hf
        refine va_iald hx hb hKX.1 hP 17 0 rfl rfl (z_in_u g22) dX8_nextRow_51 ?_
        refine lv_aload_n hx hb dX8_nextRow_52 rfl (lv_at hl 0 rfl) ?_
        refine va_get (D := D) (ci := 8) (v := .ref (q 17)) (C := RX8) (T := TX8) (N := 41) hx hb htw WW_wsX80 hown hKX.1 hP 0 rfl rfl 36 (Nat.le_of_ble_eq_true rfl) (htw _ mF_RX8_63) (fun _ h9 => h9) rfl dX8_nextRow_53 ?_
        refine lv_iload_n hx hb dX8_nextRow_56 rfl (lv_at hl 2 rfl) ?_
        obtain ⟨g23, hf⟩ := z_gd_u hf
        refine va_iald hx hb hKX.1 hP 17 0 rfl rfl (z_in_u g23) dX8_nextRow_57 ?_
        refine lv_icmp_ge (tgt := 67) hx hb dX8_nextRow_58 (by decide) (fun c24 => ?_) (fun c24 => ?_)
        · have hf := z_p c24 hf
          exact hkx20 x16 hf _ _ ls  hP hD hS (lv_sub hl [0, 1, 2, 3] rfl)
        · have hf := z_n c24 hf
          obtain ⟨x25, hx25⟩ : ∃ y : Int32, y = (x16 + (-1)) := ⟨_, rfl⟩
          have hf := z_let_u hx25 hf
          refine lv_iinc (v := x25) (lv' := [(3, .int x25), (0, .ref (q 0)), (1, .int x1), (2, .int x8)]) hx hb dX8_nextRow_61 hl (k := 3) rfl (by rw [hx25]; rfl) (Nat.le_of_ble_eq_true rfl) rfl (fun ls hl => ?_)
          refine lv_goto (tgt := 46) hx hb dX8_nextRow_64 (by decide) ?_
          exact ih19 x25 hf _ _ ls  hP hD hS (lv_sub hl [1, 2, 3, 0] rfl)
    refine hL17 _ ?_ F x15 hf _ _ ls  hP hD hS (lv_sub hl [1, 2, 3, 0] rfl)
    intro x21 hf H locs ls hP hD hS hl
    refine lv_aload_n hx hb dX8_nextRow_67 rfl (lv_at hl 0 rfl) ?_
    refine lv_iload_n hx hb dX8_nextRow_68 rfl (lv_at hl 2 rfl) ?_
    refine lv_iload_n hx hb dX8_nextRow_69 rfl (lv_at hl 3 rfl) ?_
    obtain ⟨u26, hu26, hf⟩ := z_bd_u hf
    refine zc_MVv (As := [.int x8, .int x21]) (rest := []) (wr := []) (wsc := moW ac q th row un kp mt ps bx mo su wy wa od py ju pl rs) (wsc' := moW ac q th row un kp mt ps bx mo su wy wa od py ju u26 rs) hx hb hml hown htw (ctX8_swap l D ac cs q H.size th row un kp mt ps bx mo su wy wa od py ju pl rs x8 x21   u26 hu26) (g_V mM_RX8_358 mI_yX8_swap mS_RX8_yX8_swap_yX8_swap mN_RX8 mC_yX8_swap) rfl (hd_yX8_swap) ⟨rfl, rfl⟩ ⟨(Nat.le_of_ble_eq_true rfl), (Nat.le_of_ble_eq_true rfl)⟩ hKX hC hS hA hP hD [0, 1, 2, 3, 4, 5, 6, 7, 8, 9, 10, 11, 12, 13, 14, 15, 16, 17, 18, 19, 20] [] rfl (by decide) rfl (by decide) (by decide) 8 rfl rfl rfl hl.1 rfl (Nat.le_of_ble_eq_true rfl) ⟨Nat.zero_le _, Nat.zero_le _⟩ dX8_nextRow_70 (fun H locs hP hD hS => ?_)
    have hP : va_P D vwCl (moW ac q th row un kp mt ps bx mo su wy wa od py ju u26 rs) H := hP
    have hD : va_D A (moW ac q th row un kp mt ps bx mo su wy wa od py ju u26 rs) := hD
    refine lv_iload_n hx hb dX8_nextRow_73 rfl (lv_at hl 1 rfl) ?_
    refine lv_iconst (v := 1) hx hb dX8_nextRow_74 rfl ?_
    refine lv_isub hx hb dX8_nextRow_75 ?_
    refine lv_topi (fun x27 hx27 => ?_)
    have hf := z_let_u hx27 hf
    refine lv_istore (lv' := [(4, .int x27), (0, .ref (q 0)), (1, .int x1), (2, .int x8), (3, .int x21)]) hx hb dX8_nextRow_76 hl (Nat.le_of_ble_eq_true rfl) rfl (fun ls hl => ?_)
    refine lv_iload_n hx hb dX8_nextRow_78 rfl (lv_at hl 3 rfl) ?_
    refine lv_iconst (v := 1) hx hb dX8_nextRow_79 rfl ?_
    refine lv_iadd hx hb dX8_nextRow_80 ?_
    refine lv_topi (fun x28 hx28 => ?_)
    have hf := z_let_u hx28 hf
    refine lv_istore (lv' := [(5, .int x28), (4, .int x27), (0, .ref (q 0)), (1, .int x1), (2, .int x8), (3, .int x21)]) hx hb dX8_nextRow_81 hl (Nat.le_of_ble_eq_true rfl) rfl (fun ls hl => ?_)
    have hL32 : ∀ (n33 : Nat) (x29 : Int32) (x30 : Int32) (pl31 : Pl), M_nextRow_L83 n33 x29 x30 pl31 = some res → ∀ (H : Heap) (locs : List Loc) (ls : Array Slot), va_P D vwCl (moW ac q th row un kp mt ps bx mo su wy wa od py ju pl31 rs) H → va_D A (moW ac q th row un kp mt ps bx mo su wy wa od py ju pl31 rs) → va_S A s.heap H locs → lv_has ls 6 [(0, .ref (q 0)), (4, .int x29), (5, .int x30)] → W p l e ({ frames := 1, cells := 0, slots := 0, locals := 23 } : Room) s m (([.ref (q 0)] : List Value).toArray) below meth c H locs 0 0 (MQ below (va_Qi (fun r (_ : Unit) => r = res.1) (fun _ => zB D A (moW ac q th row un kp mt ps bx mo su wy wa od py ju res.2 rs)) A) ([.ref (q 0)] : List Value).toArray s 0 0 A) (F0 m 83 ls []) := by
      intro n33
      induction n33 with
      | zero => intro x29 x30 pl31 hf; rw [M_nextRow_L83] at hf; cases hf
      | succ n33 ih34 =>
        intro x29 x30 pl31 hf H locs ls hP hD hS hl
        rw [M_nextRow_L83] at hf
        refine lv_iload hx hb dX8_nextRow_83 (lv_at hl 2 rfl) ?_
        refine lv_iload hx hb dX8_nextRow_85 (lv_at hl 1 rfl) ?_
        refine lv_icmp_ge (tgt := 107) hx hb dX8_nextRow_87 (by decide) (fun c35 => ?_) (fun c35 => ?_)
        · have hf := z_p c35 hf
          refine lv_iconst (v := 1) hx hb dX8_nextRow_107 rfl ?_
          obtain rfl := Option.some.inj hf
          exact zr_Mz hx hb hr hlocks (z_b_n z_b1) hP hD hS dX8_nextRow_108
        · have hf := z_n c35 hf
          refine lv_aload_n hx hb dX8_nextRow_90 rfl (lv_at hl 0 rfl) ?_
          refine lv_iload hx hb dX8_nextRow_91 (lv_at hl 2 rfl) ?_
          refine lv_iload hx hb dX8_nextRow_93 (lv_at hl 1 rfl) ?_
          obtain ⟨u36, hu36, hf⟩ := z_bd_u hf
          refine zc_MVv (As := [.int x30, .int x29]) (rest := []) (wr := []) (wsc := moW ac q th row un kp mt ps bx mo su wy wa od py ju pl31 rs) (wsc' := moW ac q th row un kp mt ps bx mo su wy wa od py ju u36 rs) hx hb hml hown htw (ctX8_swap l D ac cs q H.size th row un kp mt ps bx mo su wy wa od py ju pl31 rs x30 x29   u36 hu36) (g_V mM_RX8_358 mI_yX8_swap mS_RX8_yX8_swap_yX8_swap mN_RX8 mC_yX8_swap) rfl (hd_yX8_swap) ⟨rfl, rfl⟩ ⟨(Nat.le_of_ble_eq_true rfl), (Nat.le_of_ble_eq_true rfl)⟩ hKX hC hS hA hP hD [0, 1, 2, 3, 4, 5, 6, 7, 8, 9, 10, 11, 12, 13, 14, 15, 16, 17, 18, 19, 20] [] rfl (by decide) rfl (by decide) (by decide) 8 rfl rfl rfl hl.1 rfl (Nat.le_of_ble_eq_true rfl) ⟨Nat.zero_le _, Nat.zero_le _⟩ dX8_nextRow_95 (fun H locs hP hD hS => ?_)
          have hP : va_P D vwCl (moW ac q th row un kp mt ps bx mo su wy wa od py ju u36 rs) H := hP
          have hD : va_D A (moW ac q th row un kp mt ps bx mo su wy wa od py ju u36 rs) := hD
          obtain ⟨x37, hx37⟩ : ∃ y : Int32, y = (x29 + (-1)) := ⟨_, rfl⟩
          have hf := z_let_u hx37 hf
          refine lv_iinc (v := x37) (lv' := [(4, .int x37), (0, .ref (q 0)), (5, .int x30)]) hx hb dX8_nextRow_98 hl (k := 1) rfl (by rw [hx37]; rfl) (Nat.le_of_ble_eq_true rfl) rfl (fun ls hl => ?_)
          obtain ⟨x38, hx38⟩ : ∃ y : Int32, y = (x30 + 1) := ⟨_, rfl⟩
          have hf := z_let_u hx38 hf
          refine lv_iinc (v := x38) (lv' := [(5, .int x38), (4, .int x37), (0, .ref (q 0))]) hx hb dX8_nextRow_101 hl (k := 2) rfl (by rw [hx38]; rfl) (Nat.le_of_ble_eq_true rfl) rfl (fun ls hl => ?_)
          refine lv_goto (tgt := 83) hx hb dX8_nextRow_104 (by decide) ?_
          exact ih34 x37 x38 u36 hf _ _ ls  hP hD hS (lv_sub hl [2, 1, 0] rfl)
    refine hL32  F x27 x28 u26 hf _ _ ls  hP hD hS (lv_sub hl [2, 1, 0] rfl)
  · have hf := z_n c14 hf
    refine lv_iconst (v := 0) hx hb dX8_nextRow_40 rfl ?_
    obtain rfl := Option.some.inj hf
    exact zr_Mz hx hb hr hlocks (z_b_n z_b0) hP hD hS dX8_nextRow_41

theorem hd_yX8_putRow : hdY yX8_putRow 1 := by decide +kernel
def M_putRow_L2 (row : MRow) (pl : Pl) (a1 : Int32) : Nat → Int32 → Bx → Option (Bx)
  | 0, _, _ => none
  | n4 + 1, x1, bx2 => if M_n row ≤ x1 then (some bx2) else (z_gd (z_in x1 5) (z_gd (z_in ((8 + (5 * a1)) + (pl x1.toNatClampNeg)) 78) (z_let (row ((8 + (5 * a1)) + (pl x1.toNatClampNeg)).toNatClampNeg) (fun x9 : Int32 => z_gd (z_in ((5 * a1) + x1) 10) (z_let (x1 + 1) (fun x11 : Int32 => M_putRow_L2 row pl a1 n4 x11 ((bx_byOrder bx2), (bx_byFirst bx2), (upd (bx_skill bx2) ((5 * a1) + x1).toNatClampNeg x9))))))))
def M_putRow (F : Nat) (row : MRow) (bx : Bx) (pl : Pl) (a1 : Int32) : Option (Bx) := M_putRow_L2 row pl a1 F 0 bx
set_option maxHeartbeats 4000000 in
set_option maxRecDepth 100000 in
theorem ctX8_putRow (l : Launch) (D : va_G) (ac cs : Nat → Nat) (q : Nat → Nat) (sz : Nat) (th : Th) (row : MRow) (un : Un) (kp : Kp) (mt : Mt) (ps : Ps) (bx : Bx) (mo : Mo) (su : Su) (wy : Wy) (wa : Wa) (od : Od) (py : Py) (ju : Ju) (pl : Pl) (rs : Rs) (a1 : Int32) (F : Nat) (res : Bx) (hf : M_putRow F row bx pl a1 = some res) : Met l yX8_putRow (cWW yX8_putRow cX8_putRow 3 none) { frames := 1, cells := 0, slots := 0, locals := 20 } (zM D ac cs [.ref (q 0), .int a1] (moW ac q th row un kp mt ps bx mo su wy wa od py ju pl rs) sz) (va_Qv (fun _ : Unit => True) (fun _ => zB D (va_A (moW ac q th row un kp mt ps bx mo su wy wa od py ju pl rs) sz) (moW ac q th row un kp mt ps res mo su wy wa od py ju pl rs)) (va_A (moW ac q th row un kp mt ps bx mo su wy wa od py ju pl rs) sz)) 0 0 (va_A (moW ac q th row un kp mt ps bx mo su wy wa od py ju pl rs) sz) := by
  refine Met.ofW (cc := cX8_putRow) (maxL := 3) (ret := none) (by decide) rfl ?_
  intro p e s m args below meth c s₁ B hml hv
  obtain ⟨rfl, hsz, hP, hKX, hD0, hC⟩ := hv
  have hx := B.exec
  have hb := B.bytes
  have hr := B.returns
  have hts := atoms_spec (ws := cWW yX8_putRow cX8_putRow 3 none) B.pre
  have htw : ∀ w ∈ WW, w.before _ s = true := fun w h => hts w (List.mem_cons_of_mem _ h)
  have hown : s.vm.findClass RX8 = some m.cls := findClass_of_methodNamed B.named
  have hlocks := B.notSynchronized
  clear hts B
  subst hsz
  have hD := hD0.self (sz := s.heap.size)
  generalize hAe : va_A (moW ac q th row un kp mt ps bx mo su wy wa od py ju pl rs) s.heap.size = A at hD hC ⊢
  have hA : ∀ q : Nat, s.heap.size ≤ q → A q := fun q h => by rw [← hAe]; exact Or.inr h
  have hS : va_S A s.heap s.heap [] := va_S.rf
  clear hD0 hAe
  have hP : va_P D vwCl (moW ac q th row un kp mt ps bx mo su wy wa od py ju pl rs) s.heap := hP
  have hl := lv_entry ([.ref (q 0), .int a1]) (n := 3) (Nat.le_of_ble_eq_true rfl)
  rw [lg_entry_eq]
  generalize (lg_sl ([.ref (q 0), .int a1]) ++ List.replicate (3 - (lg_sl ([.ref (q 0), .int a1])).length) Slot.unset).toArray = ls at hl ⊢
  have hl : lv_has ls 3 [(0, .ref (q 0)), (1, .int a1)] := hl
  unfold M_putRow at hf
  show W p l e ({ frames := 1, cells := 0, slots := 0, locals := 20 } : Room) s m _ below meth c s.heap [] 0 0 _ (F0 m 0 ls [])
  refine lv_iconst (v := 0) hx hb dX8_putRow_0 rfl ?_
  refine lv_istore_n (lv' := [(2, .int 0), (0, .ref (q 0)), (1, .int a1)]) hx hb dX8_putRow_1 rfl hl (Nat.le_of_ble_eq_true rfl) rfl (fun ls hl => ?_)
  have hL3 : ∀ (n4 : Nat) (x1 : Int32) (bx2 : Bx), M_putRow_L2 row pl a1 n4 x1 bx2 = some res → ∀ (H : Heap) (locs : List Loc) (ls : Array Slot), va_P D vwCl (moW ac q th row un kp mt ps bx2 mo su wy wa od py ju pl rs) H → va_D A (moW ac q th row un kp mt ps bx2 mo su wy wa od py ju pl rs) → va_S A s.heap H locs → lv_has ls 3 [(0, .ref (q 0)), (1, .int a1), (2, .int x1)] → W p l e ({ frames := 1, cells := 0, slots := 0, locals := 20 } : Room) s m (([.ref (q 0), .int a1] : List Value).toArray) below meth c H locs 0 0 (MQ below (va_Qv (fun _ : Unit => True) (fun _ => zB D A (moW ac q th row un kp mt ps res mo su wy wa od py ju pl rs)) A) ([.ref (q 0), .int a1] : List Value).toArray s 0 0 A) (F0 m 2 ls []) := by
    intro n4
    induction n4 with
    | zero => intro x1 bx2 hf; rw [M_putRow_L2] at hf; cases hf
    | succ n4 ih5 =>
      intro x1 bx2 hf H locs ls hP hD hS hl
      rw [M_putRow_L2] at hf
      refine lv_iload_n hx hb dX8_putRow_2 rfl (lv_at hl 2 rfl) ?_
      refine lv_aload_n hx hb dX8_putRow_3 rfl (lv_at hl 0 rfl) ?_
      refine zc_RVi (As := []) (rest := [.int x1]) hx hb hml hown htw (ctX8_n l D ac cs q th row un kp mt ps bx2 mo su wy wa od py ju pl rs    _ rfl) (g_V mM_RX8_190 mI_yX8_n mS_RX8_yX8_n_yX8_n mN_RX8 mC_yX8_n) rfl (hd_yX8_n) ⟨rfl, rfl⟩ ⟨(Nat.le_of_ble_eq_true rfl), (Nat.le_of_ble_eq_true rfl)⟩ hKX hC hS hP 8 rfl rfl rfl hl.1 rfl (Nat.le_of_ble_eq_true rfl) ⟨Nat.zero_le _, Nat.zero_le _⟩ dX8_putRow_4 ?_
      refine lv_icmp_ge (tgt := 44) hx hb dX8_putRow_7 (by decide) (fun c6 => ?_) (fun c6 => ?_)
      · have hf := z_p c6 hf
        obtain rfl := Option.some.inj hf
        exact zr_Mv hx hb hr hlocks hP hD hS dX8_putRow_44
      · have hf := z_n c6 hf
        refine lv_aload_n hx hb dX8_putRow_10 rfl (lv_at hl 0 rfl) ?_
        refine va_get (D := D) (ci := 8) (v := .ref (q 8)) (C := RX8) (T := TX8) (N := 41) hx hb htw WW_wsX80 hown hKX.1 hP 0 rfl rfl 16 (Nat.le_of_ble_eq_true rfl) (htw _ mF_RX8_35) (fun _ h9 => h9) rfl dX8_putRow_11 ?_
        refine lv_iconst (v := 5) hx hb dX8_putRow_14 rfl ?_
        refine lv_iload_n hx hb dX8_putRow_15 rfl (lv_at hl 1 rfl) ?_
        refine lv_imul hx hb dX8_putRow_16 ?_
        refine lv_iload_n hx hb dX8_putRow_17 rfl (lv_at hl 2 rfl) ?_
        refine lv_iadd hx hb dX8_putRow_18 ?_
        refine lv_aload_n hx hb dX8_putRow_19 rfl (lv_at hl 0 rfl) ?_
        refine va_get (D := D) (ci := 8) (v := .ref (q 1)) (C := RX8) (T := TX8) (N := 41) hx hb htw WW_wsX80 hown hKX.1 hP 0 rfl rfl 1 (Nat.le_of_ble_eq_true rfl) (htw _ mF_RX8_9) (fun _ h9 => h9) rfl dX8_putRow_20 ?_
        refine lv_bipush (v := 8) hx hb dX8_putRow_23 rfl ?_
        refine lv_iconst (v := 5) hx hb dX8_putRow_25 rfl ?_
        refine lv_iload_n hx hb dX8_putRow_26 rfl (lv_at hl 1 rfl) ?_
        refine lv_imul hx hb dX8_putRow_27 ?_
        refine lv_iadd hx hb dX8_putRow_28 ?_
        refine lv_aload_n hx hb dX8_putRow_29 rfl (lv_at hl 0 rfl) ?_
        refine va_get (D := D) (ci := 8) (v := .ref (q 17)) (C := RX8) (T := TX8) (N := 41) hx hb htw WW_wsX80 hown hKX.1 hP 0 rfl rfl 36 (Nat.le_of_ble_eq_true rfl) (htw _ mF_RX8_63) (fun _ h9 => h9) rfl dX8_putRow_30 ?_
        refine lv_iload_n hx hb dX8_putRow_33 rfl (lv_at hl 2 rfl) ?_
        obtain ⟨g7, hf⟩ := z_gd_u hf
        refine va_iald hx hb hKX.1 hP 17 0 rfl rfl (z_in_u g7) dX8_putRow_34 ?_
        refine lv_iadd hx hb dX8_putRow_35 ?_
        obtain ⟨g8, hf⟩ := z_gd_u hf
        refine va_iald hx hb hKX.1 hP 1 0 rfl rfl (z_in_u g8) dX8_putRow_36 ?_
        refine lv_topi (fun x9 hx9 => ?_)
        have hf := z_let_u hx9 hf
        obtain ⟨g10, hf⟩ := z_gd_u hf
        refine va_iast hx hb hKX.1 hP hD hS 8 0 rfl rfl (z_in_u g10) dX8_putRow_37 (fun H locs hP hD hS => ?_)
        have hP : va_P D vwCl (moW ac q th row un kp mt ps ((bx_byOrder bx2), (bx_byFirst bx2), (upd (bx_skill bx2) ((5 * a1) + x1).toNatClampNeg x9)) mo su wy wa od py ju pl rs) H := hP
        have hD : va_D A (moW ac q th row un kp mt ps ((bx_byOrder bx2), (bx_byFirst bx2), (upd (bx_skill bx2) ((5 * a1) + x1).toNatClampNeg x9)) mo su wy wa od py ju pl rs) := hD
        obtain ⟨x11, hx11⟩ : ∃ y : Int32, y = (x1 + 1) := ⟨_, rfl⟩
        have hf := z_let_u hx11 hf
        refine lv_iinc (v := x11) (lv' := [(2, .int x11), (0, .ref (q 0)), (1, .int a1)]) hx hb dX8_putRow_38 hl (k := 2) rfl (by rw [hx11]; rfl) (Nat.le_of_ble_eq_true rfl) rfl (fun ls hl => ?_)
        refine lv_goto (tgt := 2) hx hb dX8_putRow_41 (by decide) ?_
        exact ih5 x11 ((bx_byOrder bx2), (bx_byFirst bx2), (upd (bx_skill bx2) ((5 * a1) + x1).toNatClampNeg x9)) hf _ _ ls  hP hD hS (lv_sub hl [1, 2, 0] rfl)
  refine hL3  F 0 bx hf _ _ ls  hP hD hS (lv_sub hl [1, 2, 0] rfl)

theorem hd_yX8_oddsByRow : hdY yX8_oddsByRow 1 := by decide +kernel
def M_oddsByRow (F : Nat) (row : MRow) (bx : Bx) (mo : Mo) (su : Su) (wy : Wy) (wa : Wa) (pl : Pl) (a1 : Int32) : Option (Bx × Mo × Su × Wy × Wa × Od) := z_bd (M_begin F row bx mo) (fun u1 : Bx × Mo => z_bd (M_putRow F row u1.1 pl a1) (fun u2 : Bx => z_bd (M_layOdds F row u2 u1.2 su wy wa a1) (fun u3 : Mo × Su × Wy × Wa × Od => some (u2, u3.1, u3.2.1, u3.2.2.1, u3.2.2.2.1, u3.2.2.2.2))))
set_option maxHeartbeats 4000000 in
set_option maxRecDepth 100000 in
theorem ctX8_oddsByRow (l : Launch) (D : va_G) (ac cs : Nat → Nat) (q : Nat → Nat) (sz : Nat) (th : Th) (row : MRow) (un : Un) (kp : Kp) (mt : Mt) (ps : Ps) (bx : Bx) (mo : Mo) (su : Su) (wy : Wy) (wa : Wa) (od : Od) (py : Py) (ju : Ju) (pl : Pl) (rs : Rs) (a1 : Int32) (F : Nat) (res : Bx × Mo × Su × Wy × Wa × Od) (hf : M_oddsByRow F row bx mo su wy wa pl a1 = some res) : Met l yX8_oddsByRow (cWW yX8_oddsByRow cX8_oddsByRow 2 none) { frames := 6, cells := 0, slots := 0, locals := 142 } (zM D ac cs [.ref (q 0), .int a1] (moW ac q th row un kp mt ps bx mo su wy wa od py ju pl rs) sz) (va_Qv (fun _ : Unit => True) (fun _ => zB D (va_A (moW ac q th row un kp mt ps bx mo su wy wa od py ju pl rs) sz) (moW ac q th row un kp mt ps res.1 res.2.1 res.2.2.1 res.2.2.2.1 res.2.2.2.2.1 res.2.2.2.2.2 py ju pl rs)) (va_A (moW ac q th row un kp mt ps bx mo su wy wa od py ju pl rs) sz)) 0 0 (va_A (moW ac q th row un kp mt ps bx mo su wy wa od py ju pl rs) sz) := by
  refine Met.ofW (cc := cX8_oddsByRow) (maxL := 2) (ret := none) (by decide) rfl ?_
  intro p e s m args below meth c s₁ B hml hv
  obtain ⟨rfl, hsz, hP, hKX, hD0, hC⟩ := hv
  have hx := B.exec
  have hb := B.bytes
  have hr := B.returns
  have hts := atoms_spec (ws := cWW yX8_oddsByRow cX8_oddsByRow 2 none) B.pre
  have htw : ∀ w ∈ WW, w.before _ s = true := fun w h => hts w (List.mem_cons_of_mem _ h)
  have hown : s.vm.findClass RX8 = some m.cls := findClass_of_methodNamed B.named
  have hlocks := B.notSynchronized
  clear hts B
  subst hsz
  have hD := hD0.self (sz := s.heap.size)
  generalize hAe : va_A (moW ac q th row un kp mt ps bx mo su wy wa od py ju pl rs) s.heap.size = A at hD hC ⊢
  have hA : ∀ q : Nat, s.heap.size ≤ q → A q := fun q h => by rw [← hAe]; exact Or.inr h
  have hS : va_S A s.heap s.heap [] := va_S.rf
  clear hD0 hAe
  have hP : va_P D vwCl (moW ac q th row un kp mt ps bx mo su wy wa od py ju pl rs) s.heap := hP
  have hl := lv_entry ([.ref (q 0), .int a1]) (n := 2) (Nat.le_of_ble_eq_true rfl)
  rw [lg_entry_eq]
  generalize (lg_sl ([.ref (q 0), .int a1]) ++ List.replicate (2 - (lg_sl ([.ref (q 0), .int a1])).length) Slot.unset).toArray = ls at hl ⊢
  have hl : lv_has ls 2 [(0, .ref (q 0)), (1, .int a1)] := hl
  unfold M_oddsByRow at hf
  show W p l e ({ frames := 6, cells := 0, slots := 0, locals := 142 } : Room) s m _ below meth c s.heap [] 0 0 _ (F0 m 0 ls [])
  refine lv_aload_n hx hb dX8_oddsByRow_0 rfl (lv_at hl 0 rfl) ?_
  obtain ⟨u1, hu1, hf⟩ := z_bd_u hf
  refine zc_MVv (As := []) (rest := []) (wr := []) (wsc := moW ac q th row un kp mt ps bx mo su wy wa od py ju pl rs) (wsc' := moW ac q th row un kp mt ps u1.1 u1.2 su wy wa od py ju pl rs) hx hb hml hown htw (ctX8_begin l D ac cs q s.heap.size th row un kp mt ps bx mo su wy wa od py ju pl rs    F u1 hu1) (g_V mM_RX8_211 mI_yX8_begin mS_RX8_yX8_begin_yX8_begin mN_RX8 mC_yX8_begin) rfl (hd_yX8_begin) ⟨rfl, rfl⟩ ⟨(Nat.le_of_ble_eq_true rfl), (Nat.le_of_ble_eq_true rfl)⟩ hKX hC hS hA hP hD [0, 1, 2, 3, 4, 5, 6, 7, 8, 9, 10, 11, 12, 13, 14, 15, 16, 17, 18, 19, 20] [] rfl (by decide) rfl (by decide) (by decide) 8 rfl rfl rfl hl.1 rfl (Nat.le_of_ble_eq_true rfl) ⟨Nat.zero_le _, Nat.zero_le _⟩ dX8_oddsByRow_1 (fun H locs hP hD hS => ?_)
  have hP : va_P D vwCl (moW ac q th row un kp mt ps u1.1 u1.2 su wy wa od py ju pl rs) H := hP
  have hD : va_D A (moW ac q th row un kp mt ps u1.1 u1.2 su wy wa od py ju pl rs) := hD
  refine lv_aload_n hx hb dX8_oddsByRow_4 rfl (lv_at hl 0 rfl) ?_
  refine lv_iload_n hx hb dX8_oddsByRow_5 rfl (lv_at hl 1 rfl) ?_
  obtain ⟨u2, hu2, hf⟩ := z_bd_u hf
  refine zc_MVv (As := [.int a1]) (rest := []) (wr := []) (wsc := moW ac q th row un kp mt ps u1.1 u1.2 su wy wa od py ju pl rs) (wsc' := moW ac q th row un kp mt ps u2 u1.2 su wy wa od py ju pl rs) hx hb hml hown htw (ctX8_putRow l D ac cs q H.size th row un kp mt ps u1.1 u1.2 su wy wa od py ju pl rs a1   F u2 hu2) (g_V mM_RX8_361 mI_yX8_putRow mS_RX8_yX8_putRow_yX8_putRow mN_RX8 mC_yX8_putRow) rfl (hd_yX8_putRow) ⟨rfl, rfl⟩ ⟨(Nat.le_of_ble_eq_true rfl), (Nat.le_of_ble_eq_true rfl)⟩ hKX hC hS hA hP hD [0, 1, 2, 3, 4, 5, 6, 7, 8, 9, 10, 11, 12, 13, 14, 15, 16, 17, 18, 19, 20] [] rfl (by decide) rfl (by decide) (by decide) 8 rfl rfl rfl hl.1 rfl (Nat.le_of_ble_eq_true rfl) ⟨Nat.zero_le _, Nat.zero_le _⟩ dX8_oddsByRow_6 (fun H locs hP hD hS => ?_)
  have hP : va_P D vwCl (moW ac q th row un kp mt ps u2 u1.2 su wy wa od py ju pl rs) H := hP
  have hD : va_D A (moW ac q th row un kp mt ps u2 u1.2 su wy wa od py ju pl rs) := hD
  refine lv_aload_n hx hb dX8_oddsByRow_9 rfl (lv_at hl 0 rfl) ?_
  refine lv_iload_n hx hb dX8_oddsByRow_10 rfl (lv_at hl 1 rfl) ?_
  obtain ⟨u3, hu3, hf⟩ := z_bd_u hf
  refine zc_MVv (As := [.int a1]) (rest := []) (wr := []) (wsc := moW ac q th row un kp mt ps u2 u1.2 su wy wa od py ju pl rs) (wsc' := moW ac q th row un kp mt ps u2 u3.1 u3.2.1 u3.2.2.1 u3.2.2.2.1 u3.2.2.2.2 py ju pl rs) hx hb hml hown htw (ctX8_layOdds l D ac cs q H.size th row un kp mt ps u2 u1.2 su wy wa od py ju pl rs a1   F u3 hu3) (g_V mM_RX8_334 mI_yX8_layOdds mS_RX8_yX8_layOdds_yX8_layOdds mN_RX8 mC_yX8_layOdds) rfl (hd_yX8_layOdds) ⟨rfl, rfl⟩ ⟨(Nat.le_of_ble_eq_true rfl), (Nat.le_of_ble_eq_true rfl)⟩ hKX hC hS hA hP hD [0, 1, 2, 3, 4, 5, 6, 7, 8, 9, 10, 11, 12, 13, 14, 15, 16, 17, 18, 19, 20] [] rfl (by decide) rfl (by decide) (by decide) 8 rfl rfl rfl hl.1 rfl (Nat.le_of_ble_eq_true rfl) ⟨Nat.zero_le _, Nat.zero_le _⟩ dX8_oddsByRow_11 (fun H locs hP hD hS => ?_)
  have hP : va_P D vwCl (moW ac q th row un kp mt ps u2 u3.1 u3.2.1 u3.2.2.1 u3.2.2.2.1 u3.2.2.2.2 py ju pl rs) H := hP
  have hD : va_D A (moW ac q th row un kp mt ps u2 u3.1 u3.2.1 u3.2.2.1 u3.2.2.2.1 u3.2.2.2.2 py ju pl rs) := hD
  obtain rfl := Option.some.inj hf
  exact zr_Mv hx hb hr hlocks hP hD hS dX8_oddsByRow_14

theorem hd_yX8_readRow : hdY yX8_readRow 1 := by decide +kernel
def M_readRow_L12 (kx9 : Int32 → Int32 → Pl → Option (Int32 × Pl)) : Nat → Int32 → Int32 → Int32 → Pl → Option (Int32 × Pl)
  | 0, _, _, _, _ => none
  | n7 + 1, x2, x3, x4, pl5 => if x4 < 0 then (kx9 x2 x3 pl5) else (z_let (z_rem x3 10) (fun x14 : Int32 => z_gd (z_in x4 5) (z_let (x2 ||| (1 <<< ((z_rem x3 10) &&& 31))) (fun x16 : Int32 => z_let (x3 / 10) (fun x17 : Int32 => z_let (x4 + (-1)) (fun x18 : Int32 => M_readRow_L12 kx9 n7 x16 x17 x18 (upd pl5 x4.toNatClampNeg x14)))))))
def M_readRow (F : Nat) (row : MRow) (pl : Pl) (a1 : Int32) : Option (Int32 × Pl) := z_let ((M_n row) - 1) (fun x1 : Int32 => M_readRow_L12 (fun (x10 : Int32) (x11 : Int32) (pl12 : Pl) => if x11 = 0 then (if x10 = ((1 <<< ((M_n row) &&& 31)) - 1) then (some (1, pl12)) else (some (0, pl12))) else (some (0, pl12))) F 0 a1 x1 pl)
set_option maxHeartbeats 4000000 in
set_option maxRecDepth 100000 in
theorem ctX8_readRow (l : Launch) (D : va_G) (ac cs : Nat → Nat) (q : Nat → Nat) (sz : Nat) (th : Th) (row : MRow) (un : Un) (kp : Kp) (mt : Mt) (ps : Ps) (bx : Bx) (mo : Mo) (su : Su) (wy : Wy) (wa : Wa) (od : Od) (py : Py) (ju : Ju) (pl : Pl) (rs : Rs) (a1 : Int32) (F : Nat) (res : Int32 × Pl) (hf : M_readRow F row pl a1 = some res) : Met l yX8_readRow (cWW yX8_readRow cX8_readRow 5 (some .boolean)) { frames := 1, cells := 0, slots := 0, locals := 20 } (zM D ac cs [.ref (q 0), .int a1] (moW ac q th row un kp mt ps bx mo su wy wa od py ju pl rs) sz) (va_Qi (fun r (_ : Unit) => r = res.1) (fun _ => zB D (va_A (moW ac q th row un kp mt ps bx mo su wy wa od py ju pl rs) sz) (moW ac q th row un kp mt ps bx mo su wy wa od py ju res.2 rs)) (va_A (moW ac q th row un kp mt ps bx mo su wy wa od py ju pl rs) sz)) 0 0 (va_A (moW ac q th row un kp mt ps bx mo su wy wa od py ju pl rs) sz) := by
  refine Met.ofW (cc := cX8_readRow) (maxL := 5) (ret := (some .boolean)) (by decide) rfl ?_
  intro p e s m args below meth c s₁ B hml hv
  obtain ⟨rfl, hsz, hP, hKX, hD0, hC⟩ := hv
  have hx := B.exec
  have hb := B.bytes
  have hr := B.returns
  have hts := atoms_spec (ws := cWW yX8_readRow cX8_readRow 5 (some .boolean)) B.pre
  have htw : ∀ w ∈ WW, w.before _ s = true := fun w h => hts w (List.mem_cons_of_mem _ h)
  have hown : s.vm.findClass RX8 = some m.cls := findClass_of_methodNamed B.named
  have hlocks := B.notSynchronized
  clear hts B
  subst hsz
  have hD := hD0.self (sz := s.heap.size)
  generalize hAe : va_A (moW ac q th row un kp mt ps bx mo su wy wa od py ju pl rs) s.heap.size = A at hD hC ⊢
  have hA : ∀ q : Nat, s.heap.size ≤ q → A q := fun q h => by rw [← hAe]; exact Or.inr h
  have hS : va_S A s.heap s.heap [] := va_S.rf
  clear hD0 hAe
  have hP : va_P D vwCl (moW ac q th row un kp mt ps bx mo su wy wa od py ju pl rs) s.heap := hP
  have hl := lv_entry ([.ref (q 0), .int a1]) (n := 5) (Nat.le_of_ble_eq_true rfl)
  rw [lg_entry_eq]
  generalize (lg_sl ([.ref (q 0), .int a1]) ++ List.replicate (5 - (lg_sl ([.ref (q 0), .int a1])).length) Slot.unset).toArray = ls at hl ⊢
  have hl : lv_has ls 5 [(0, .ref (q 0)), (1, .int a1)] := hl
  unfold M_readRow at hf
  show W p l e ({ frames := 1, cells := 0, slots := 0, locals := 20 } : Room) s m _ below meth c s.heap [] 0 0 _ (F0 m 0 ls [])
  refine lv_iconst (v := 0) hx hb dX8_readRow_0 rfl ?_
  refine lv_istore_n (lv' := [(2, .int 0), (0, .ref (q 0)), (1, .int a1)]) hx hb dX8_readRow_1 rfl hl (Nat.le_of_ble_eq_true rfl) rfl (fun ls hl => ?_)
  refine lv_iload_n hx hb dX8_readRow_2 rfl (lv_at hl 2 rfl) ?_
  refine lv_istore_n (lv' := [(3, .int a1), (2, .int 0), (0, .ref (q 0)), (1, .int a1)]) hx hb dX8_readRow_3 rfl hl (Nat.le_of_ble_eq_true rfl) rfl (fun ls hl => ?_)
  refine lv_aload_n hx hb dX8_readRow_4 rfl (lv_at hl 2 rfl) ?_
  refine zc_RVi (As := []) (rest := []) hx hb hml hown htw (ctX8_n l D ac cs q th row un kp mt ps bx mo su wy wa od py ju pl rs    _ rfl) (g_V mM_RX8_190 mI_yX8_n mS_RX8_yX8_n_yX8_n mN_RX8 mC_yX8_n) rfl (hd_yX8_n) ⟨rfl, rfl⟩ ⟨(Nat.le_of_ble_eq_true rfl), (Nat.le_of_ble_eq_true rfl)⟩ hKX hC hS hP 8 rfl rfl rfl hl.1 rfl (Nat.le_of_ble_eq_true rfl) ⟨Nat.zero_le _, Nat.zero_le _⟩ dX8_readRow_5 ?_
  refine lv_iconst (v := 1) hx hb dX8_readRow_8 rfl ?_
  refine lv_isub hx hb dX8_readRow_9 ?_
  refine lv_topi (fun x1 hx1 => ?_)
  have hf := z_let_u hx1 hf
  refine lv_istore (lv' := [(4, .int x1), (3, .int a1), (2, .int 0), (0, .ref (q 0)), (1, .int a1)]) hx hb dX8_readRow_10 hl (Nat.le_of_ble_eq_true rfl) rfl (fun ls hl => ?_)
  have hL6 : ∀ (kx9 : Int32 → Int32 → Pl → Option (Int32 × Pl)) (hkx9 : ∀ (x10 : Int32) (x11 : Int32) (pl12 : Pl), kx9 x10 x11 pl12 = some res → ∀ (H : Heap) (locs : List Loc) (ls : Array Slot), va_P D vwCl (moW ac q th row un kp mt ps bx mo su wy wa od py ju pl12 rs) H → va_D A (moW ac q th row un kp mt ps bx mo su wy wa od py ju pl12 rs) → va_S A s.heap H locs → lv_has ls 5 [(0, .ref (q 0)), (2, .int x10), (3, .int x11)] → W p l e ({ frames := 1, cells := 0, slots := 0, locals := 20 } : Room) s m (([.ref (q 0), .int a1] : List Value).toArray) below meth c H locs 0 0 (MQ below (va_Qi (fun r (_ : Unit) => r = res.1) (fun _ => zB D A (moW ac q th row un kp mt ps bx mo su wy wa od py ju res.2 rs)) A) ([.ref (q 0), .int a1] : List Value).toArray s 0 0 A) (F0 m 48 ls [])) (n7 : Nat) (x2 : Int32) (x3 : Int32) (x4 : Int32) (pl5 : Pl), M_readRow_L12 kx9 n7 x2 x3 x4 pl5 = some res → ∀ (H : Heap) (locs : List Loc) (ls : Array Slot), va_P D vwCl (moW ac q th row un kp mt ps bx mo su wy wa od py ju pl5 rs) H → va_D A (moW ac q th row un kp mt ps bx mo su wy wa od py ju pl5 rs) → va_S A s.heap H locs → lv_has ls 5 [(0, .ref (q 0)), (2, .int x2), (3, .int x3), (4, .int x4)] → W p l e ({ frames := 1, cells := 0, slots := 0, locals := 20 } : Room) s m (([.ref (q 0), .int a1] : List Value).toArray) below meth c H locs 0 0 (MQ below (va_Qi (fun r (_ : Unit) => r = res.1) (fun _ => zB D A (moW ac q th row un kp mt ps bx mo su wy wa od py ju res.2 rs)) A) ([.ref (q 0), .int a1] : List Value).toArray s 0 0 A) (F0 m 12 ls []) := by
    intro kx9 hkx9 n7
    induction n7 with
    | zero => intro x2 x3 x4 pl5 hf; rw [M_readRow_L12] at hf; cases hf
    | succ n7 ih8 =>
      intro x2 x3 x4 pl5 hf H locs ls hP hD hS hl
      rw [M_readRow_L12] at hf
      refine lv_iload hx hb dX8_readRow_12 (lv_at hl 3 rfl) ?_
      refine lv_if_lt (tgt := 48) hx hb dX8_readRow_14 (by decide) (fun c13 => ?_) (fun c13 => ?_)
      · have hf := z_p c13 hf
        exact hkx9 x2 x3 pl5 hf _ _ ls  hP hD hS (lv_sub hl [0, 1, 2] rfl)
      · have hf := z_n c13 hf
        refine lv_aload_n hx hb dX8_readRow_17 rfl (lv_at hl 0 rfl) ?_
        refine va_get (D := D) (ci := 8) (v := .ref (q 17)) (C := RX8) (T := TX8) (N := 41) hx hb htw WW_wsX80 hown hKX.1 hP 0 rfl rfl 36 (Nat.le_of_ble_eq_true rfl) (htw _ mF_RX8_63) (fun _ h9 => h9) rfl dX8_readRow_18 ?_
        refine lv_iload hx hb dX8_readRow_21 (lv_at hl 3 rfl) ?_
        refine lv_iload_n hx hb dX8_readRow_23 rfl (lv_at hl 2 rfl) ?_
        refine lv_bipush (v := 10) hx hb dX8_readRow_24 rfl ?_
        refine zv_irem hx hb dX8_readRow_26 (by decide) ?_
        refine lv_topi (fun x14 hx14 => ?_)
        have hf := z_let_u hx14 hf
        obtain ⟨g15, hf⟩ := z_gd_u hf
        refine va_iast hx hb hKX.1 hP hD hS 17 0 rfl rfl (z_in_u g15) dX8_readRow_27 (fun H locs hP hD hS => ?_)
        have hP : va_P D vwCl (moW ac q th row un kp mt ps bx mo su wy wa od py ju (upd pl5 x4.toNatClampNeg x14) rs) H := hP
        have hD : va_D A (moW ac q th row un kp mt ps bx mo su wy wa od py ju (upd pl5 x4.toNatClampNeg x14) rs) := hD
        refine lv_iload_n hx hb dX8_readRow_28 rfl (lv_at hl 1 rfl) ?_
        refine lv_iconst (v := 1) hx hb dX8_readRow_29 rfl ?_
        refine lv_iload_n hx hb dX8_readRow_30 rfl (lv_at hl 2 rfl) ?_
        refine lv_bipush (v := 10) hx hb dX8_readRow_31 rfl ?_
        refine zv_irem hx hb dX8_readRow_33 (by decide) ?_
        refine lv_ishl hx hb dX8_readRow_34 ?_
        refine lv_ior hx hb dX8_readRow_35 ?_
        refine lv_topi (fun x16 hx16 => ?_)
        have hf := z_let_u hx16 hf
        refine lv_istore_n (lv' := [(2, .int x16), (0, .ref (q 0)), (3, .int x3), (4, .int x4)]) hx hb dX8_readRow_36 rfl hl (Nat.le_of_ble_eq_true rfl) rfl (fun ls hl => ?_)
        refine lv_iload_n hx hb dX8_readRow_37 rfl (lv_at hl 2 rfl) ?_
        refine lv_bipush (v := 10) hx hb dX8_readRow_38 rfl ?_
        refine lv_idiv hx hb dX8_readRow_40 (by decide) ?_
        refine lv_topi (fun x17 hx17 => ?_)
        have hf := z_let_u hx17 hf
        refine lv_istore_n (lv' := [(3, .int x17), (2, .int x16), (0, .ref (q 0)), (4, .int x4)]) hx hb dX8_readRow_41 rfl hl (Nat.le_of_ble_eq_true rfl) rfl (fun ls hl => ?_)
        obtain ⟨x18, hx18⟩ : ∃ y : Int32, y = (x4 + (-1)) := ⟨_, rfl⟩
        have hf := z_let_u hx18 hf
        refine lv_iinc (v := x18) (lv' := [(4, .int x18), (3, .int x17), (2, .int x16), (0, .ref (q 0))]) hx hb dX8_readRow_42 hl (k := 3) rfl (by rw [hx18]; rfl) (Nat.le_of_ble_eq_true rfl) rfl (fun ls hl => ?_)
        refine lv_goto (tgt := 12) hx hb dX8_readRow_45 (by decide) ?_
        exact ih8 x16 x17 x18 (upd pl5 x4.toNatClampNeg x14) hf _ _ ls  hP hD hS (lv_sub hl [3, 2, 1, 0] rfl)
  refine hL6 _ ?_ F 0 a1 x1 pl hf _ _ ls  hP hD hS (lv_sub hl [3, 2, 1, 0] rfl)
  intro x10 x11 pl12 hf H locs ls hP hD hS hl
  refine lv_iload_n hx hb dX8_readRow_48 rfl (lv_at hl 2 rfl) ?_
  refine lv_if_ne (tgt := 68) hx hb dX8_readRow_49 (by decide) (fun c19 => ?_) (fun c19 => ?_)
  · have hf := z_n c19 hf
    refine lv_iconst (v := 0) hx hb dX8_readRow_68 rfl ?_
    obtain rfl := Option.some.inj hf
    exact zr_Mz hx hb hr hlocks (z_b_n z_b0) hP hD hS dX8_readRow_69
  · have hf := z_p c19 hf
    refine lv_iload_n hx hb dX8_readRow_52 rfl (lv_at hl 1 rfl) ?_
    refine lv_iconst (v := 1) hx hb dX8_readRow_53 rfl ?_
    refine lv_aload_n hx hb dX8_readRow_54 rfl (lv_at hl 0 rfl) ?_
    refine zc_RVi (As := []) (rest := [.int 1, .int x10]) hx hb hml hown htw (ctX8_n l D ac cs q th row un kp mt ps bx mo su wy wa od py ju pl12 rs    _ rfl) (g_V mM_RX8_190 mI_yX8_n mS_RX8_yX8_n_yX8_n mN_RX8 mC_yX8_n) rfl (hd_yX8_n) ⟨rfl, rfl⟩ ⟨(Nat.le_of_ble_eq_true rfl), (Nat.le_of_ble_eq_true rfl)⟩ hKX hC hS hP 8 rfl rfl rfl hl.1 rfl (Nat.le_of_ble_eq_true rfl) ⟨Nat.zero_le _, Nat.zero_le _⟩ dX8_readRow_55 ?_
    refine lv_ishl hx hb dX8_readRow_58 ?_
    refine lv_iconst (v := 1) hx hb dX8_readRow_59 rfl ?_
    refine lv_isub hx hb dX8_readRow_60 ?_
    refine lv_icmp_ne (tgt := 68) hx hb dX8_readRow_61 (by decide) (fun c20 => ?_) (fun c20 => ?_)
    · have hf := z_n c20 hf
      refine lv_iconst (v := 0) hx hb dX8_readRow_68 rfl ?_
      obtain rfl := Option.some.inj hf
      exact zr_Mz hx hb hr hlocks (z_b_n z_b0) hP hD hS dX8_readRow_69
    · have hf := z_p c20 hf
      refine lv_iconst (v := 1) hx hb dX8_readRow_64 rfl ?_
      refine lv_goto (tgt := 69) hx hb dX8_readRow_65 (by decide) ?_
      obtain rfl := Option.some.inj hf
      exact zr_Mz hx hb hr hlocks (z_b_n z_b1) hP hD hS dX8_readRow_69

theorem hd_yX8_oddsOf : hdY yX8_oddsOf 3 := by decide +kernel
def M_oddsOf (F : Nat) (row : MRow) (bx : Bx) (mo : Mo) (su : Su) (wy : Wy) (wa : Wa) (od : Od) (pl : Pl) (a1 : Int32) (a2 : Int32) (a3 : Int32) : Option (Int64 × Th × Bx × Mo × Su × Wy × Wa × Od × Pl) := if M_isThere row a1 = 0 then (some ((-1), 0, bx, mo, su, wy, wa, od, pl)) else (if M_in a3.toInt64 0 1 = 0 then (some ((-1), 0, bx, mo, su, wy, wa, od, pl)) else (if a2 < 0 then (some ((-1), 0, bx, mo, su, wy, wa, od, pl)) else (z_bd (M_readRow F row pl a2) (fun u4 : Int32 × Pl => if u4.1 = 0 then (some ((-1), 0, bx, mo, su, wy, wa, od, u4.2)) else (z_bd (M_oddsByRow F row bx mo su wy wa u4.2 a1) (fun u6 : Bx × Mo × Su × Wy × Wa × Od => z_bd (M_told F (od_upper u6.2.2.2.2.2) (od_under u6.2.2.2.2.2) a3) (fun r7 : Int64 => some (r7, 0, u6.1, u6.2.1, u6.2.2.1, u6.2.2.2.1, u6.2.2.2.2.1, u6.2.2.2.2.2, u4.2))))))))
set_option maxHeartbeats 4000000 in
set_option maxRecDepth 100000 in
theorem ctX8_oddsOf (l : Launch) (D : va_G) (ac cs : Nat → Nat) (q : Nat → Nat) (sz : Nat) (th : Th) (row : MRow) (un : Un) (kp : Kp) (mt : Mt) (ps : Ps) (bx : Bx) (mo : Mo) (su : Su) (wy : Wy) (wa : Wa) (od : Od) (py : Py) (ju : Ju) (pl : Pl) (rs : Rs) (a1 : Int32) (a2 : Int32) (a3 : Int32) (F : Nat) (res : Int64 × Th × Bx × Mo × Su × Wy × Wa × Od × Pl) (hf : M_oddsOf F row bx mo su wy wa od pl a1 a2 a3 = some res) : Met l yX8_oddsOf (cWW yX8_oddsOf cX8_oddsOf 4 (some .long)) { frames := 7, cells := 0, slots := 0, locals := 163 } (zM D ac cs [.ref (q 0), .int a1, .int a2, .int a3] (moW ac q th row un kp mt ps bx mo su wy wa od py ju pl rs) sz) (va_Ql (fun r (_ : Unit) => r = res.1) (fun _ => zB D (va_A (moW ac q th row un kp mt ps bx mo su wy wa od py ju pl rs) sz) (moW ac q res.2.1 row un kp mt ps res.2.2.1 res.2.2.2.1 res.2.2.2.2.1 res.2.2.2.2.2.1 res.2.2.2.2.2.2.1 res.2.2.2.2.2.2.2.1 py ju res.2.2.2.2.2.2.2.2 rs)) (va_A (moW ac q th row un kp mt ps bx mo su wy wa od py ju pl rs) sz)) 0 0 (va_A (moW ac q th row un kp mt ps bx mo su wy wa od py ju pl rs) sz) := by
  refine Met.ofW (cc := cX8_oddsOf) (maxL := 4) (ret := (some .long)) (by decide) rfl ?_
  intro p e s m args below meth c s₁ B hml hv
  obtain ⟨rfl, hsz, hP, hKX, hD0, hC⟩ := hv
  have hx := B.exec
  have hb := B.bytes
  have hr := B.returns
  have hts := atoms_spec (ws := cWW yX8_oddsOf cX8_oddsOf 4 (some .long)) B.pre
  have htw : ∀ w ∈ WW, w.before _ s = true := fun w h => hts w (List.mem_cons_of_mem _ h)
  have hown : s.vm.findClass RX8 = some m.cls := findClass_of_methodNamed B.named
  have hlocks := B.notSynchronized
  clear hts B
  subst hsz
  have hD := hD0.self (sz := s.heap.size)
  generalize hAe : va_A (moW ac q th row un kp mt ps bx mo su wy wa od py ju pl rs) s.heap.size = A at hD hC ⊢
  have hA : ∀ q : Nat, s.heap.size ≤ q → A q := fun q h => by rw [← hAe]; exact Or.inr h
  have hS : va_S A s.heap s.heap [] := va_S.rf
  clear hD0 hAe
  have hP : va_P D vwCl (moW ac q th row un kp mt ps bx mo su wy wa od py ju pl rs) s.heap := hP
  have hl := lv_entry ([.ref (q 0), .int a1, .int a2, .int a3]) (n := 4) (Nat.le_of_ble_eq_true rfl)
  rw [lg_entry_eq]
  generalize (lg_sl ([.ref (q 0), .int a1, .int a2, .int a3]) ++ List.replicate (4 - (lg_sl ([.ref (q 0), .int a1, .int a2, .int a3])).length) Slot.unset).toArray = ls at hl ⊢
  have hl : lv_has ls 4 [(0, .ref (q 0)), (1, .int a1), (2, .int a2), (3, .int a3)] := hl
  unfold M_oddsOf at hf
  show W p l e ({ frames := 7, cells := 0, slots := 0, locals := 163 } : Room) s m _ below meth c s.heap [] 0 0 _ (F0 m 0 ls [])
  refine lv_aload_n hx hb dX8_oddsOf_0 rfl (lv_at hl 0 rfl) ?_
  refine lv_iconst (v := 0) hx hb dX8_oddsOf_1 rfl ?_
  refine va_put (D := D) (ci := 8) (v := .int 0) (ty := tyX8 0) (C := RX8) (T := TX8) (N := 41) hx hb htw WW_wsX80 tyX8 tyX8_ok nmX8 hown hKX.1 hP hD hS 0 rfl rfl 0 (Nat.le_of_ble_eq_true rfl) (htw _ mF_RX8_75) (fun _ h9 => h9) rfl (tyX8_ok 0 (Nat.le_of_ble_eq_true rfl)) rfl rfl (Nat.le_of_ble_eq_true rfl) dX8_oddsOf_2 (fun H locs hP hD hS => ?_)
  have hP : va_P D vwCl (moW ac q 0 row un kp mt ps bx mo su wy wa od py ju pl rs) H := hP
  have hD : va_D A (moW ac q 0 row un kp mt ps bx mo su wy wa od py ju pl rs) := hD
  refine lv_aload_n hx hb dX8_oddsOf_5 rfl (lv_at hl 0 rfl) ?_
  refine lv_iload_n hx hb dX8_oddsOf_6 rfl (lv_at hl 1 rfl) ?_
  refine zc_RVi (As := [.int a1]) (rest := []) hx hb hml hown htw (ctX8_isThere l D ac cs q 0 row un kp mt ps bx mo su wy wa od py ju pl rs a1   _ rfl) (g_V mM_RX8_294 mI_yX8_isThere mS_RX8_yX8_isThere_yX8_isThere mN_RX8 mC_yX8_isThere) rfl (hd_yX8_isThere) ⟨rfl, rfl⟩ ⟨(Nat.le_of_ble_eq_true rfl), (Nat.le_of_ble_eq_true rfl)⟩ hKX hC hS hP 8 rfl rfl rfl hl.1 rfl (Nat.le_of_ble_eq_true rfl) ⟨Nat.zero_le _, Nat.zero_le _⟩ dX8_oddsOf_7 ?_
  refine lv_if_eq (tgt := 35) hx hb dX8_oddsOf_10 (by decide) (fun c1 => ?_) (fun c1 => ?_)
  · have hf := z_p c1 hf
    refine lv_ldc2 (v := (-1)) hx hb hown (htw _ mG_RX8_332) dX8_oddsOf_35 ?_
    obtain rfl := Option.some.inj hf
    exact zr_Ml hx hb hr hlocks hP hD hS dX8_oddsOf_38
  · have hf := z_n c1 hf
    refine lv_iload_n hx hb dX8_oddsOf_13 rfl (lv_at hl 3 rfl) ?_
    refine lv_i2l hx hb dX8_oddsOf_14 rfl ?_
    refine lv_lconst (v := 0) hx hb dX8_oddsOf_15 rfl ?_
    refine lv_lconst (v := 1) hx hb dX8_oddsOf_16 rfl ?_
    refine zc_RSi (As := [.long a3.toInt64, .long 0, .long 1]) (rest := []) hx hb hml hown htw (ctX8_in l D ac cs   a3.toInt64 0 1   _ rfl) (g_S mM_RX8_79 mT_yX8_in mN_RX8 mC_yX8_in) (hd_yX8_in) ⟨rfl, rfl⟩ ⟨(Nat.le_of_ble_eq_true rfl), (Nat.le_of_ble_eq_true rfl)⟩ hKX hC hS zP0 rfl hl.1 rfl (Nat.le_of_ble_eq_true rfl) ⟨Nat.zero_le _, Nat.zero_le _⟩ dX8_oddsOf_17 ?_
    refine lv_if_eq (tgt := 35) hx hb dX8_oddsOf_20 (by decide) (fun c2 => ?_) (fun c2 => ?_)
    · have hf := z_p c2 hf
      refine lv_ldc2 (v := (-1)) hx hb hown (htw _ mG_RX8_332) dX8_oddsOf_35 ?_
      obtain rfl := Option.some.inj hf
      exact zr_Ml hx hb hr hlocks hP hD hS dX8_oddsOf_38
    · have hf := z_n c2 hf
      refine lv_iload_n hx hb dX8_oddsOf_23 rfl (lv_at hl 2 rfl) ?_
      refine lv_if_lt (tgt := 35) hx hb dX8_oddsOf_24 (by decide) (fun c3 => ?_) (fun c3 => ?_)
      · have hf := z_p c3 hf
        refine lv_ldc2 (v := (-1)) hx hb hown (htw _ mG_RX8_332) dX8_oddsOf_35 ?_
        obtain rfl := Option.some.inj hf
        exact zr_Ml hx hb hr hlocks hP hD hS dX8_oddsOf_38
      · have hf := z_n c3 hf
        refine lv_aload_n hx hb dX8_oddsOf_27 rfl (lv_at hl 0 rfl) ?_
        refine lv_iload_n hx hb dX8_oddsOf_28 rfl (lv_at hl 2 rfl) ?_
        obtain ⟨u4, hu4, hf⟩ := z_bd_u hf
        refine zc_MVi (As := [.int a2]) (rest := []) (wr := []) (wsc := moW ac q 0 row un kp mt ps bx mo su wy wa od py ju pl rs) (wsc' := moW ac q 0 row un kp mt ps bx mo su wy wa od py ju u4.2 rs) hx hb hml hown htw (ctX8_readRow l D ac cs q H.size 0 row un kp mt ps bx mo su wy wa od py ju pl rs a2   F u4 hu4) (g_V mM_RX8_364 mI_yX8_readRow mS_RX8_yX8_readRow_yX8_readRow mN_RX8 mC_yX8_readRow) rfl (hd_yX8_readRow) ⟨rfl, rfl⟩ ⟨(Nat.le_of_ble_eq_true rfl), (Nat.le_of_ble_eq_true rfl)⟩ hKX hC hS hA hP hD [0, 1, 2, 3, 4, 5, 6, 7, 8, 9, 10, 11, 12, 13, 14, 15, 16, 17, 18, 19, 20] [] rfl (by decide) rfl (by decide) (by decide) 8 rfl rfl rfl hl.1 rfl (Nat.le_of_ble_eq_true rfl) ⟨Nat.zero_le _, Nat.zero_le _⟩ dX8_oddsOf_29 (fun H locs hP hD hS => ?_)
        have hP : va_P D vwCl (moW ac q 0 row un kp mt ps bx mo su wy wa od py ju u4.2 rs) H := hP
        have hD : va_D A (moW ac q 0 row un kp mt ps bx mo su wy wa od py ju u4.2 rs) := hD
        refine lv_if_ne (tgt := 39) hx hb dX8_oddsOf_32 (by decide) (fun c5 => ?_) (fun c5 => ?_)
        · have hf := z_n c5 hf
          refine lv_aload_n hx hb dX8_oddsOf_39 rfl (lv_at hl 0 rfl) ?_
          refine lv_iload_n hx hb dX8_oddsOf_40 rfl (lv_at hl 1 rfl) ?_
          obtain ⟨u6, hu6, hf⟩ := z_bd_u hf
          refine zc_MVv (As := [.int a1]) (rest := []) (wr := []) (wsc := moW ac q 0 row un kp mt ps bx mo su wy wa od py ju u4.2 rs) (wsc' := moW ac q 0 row un kp mt ps u6.1 u6.2.1 u6.2.2.1 u6.2.2.2.1 u6.2.2.2.2.1 u6.2.2.2.2.2 py ju u4.2 rs) hx hb hml hown htw (ctX8_oddsByRow l D ac cs q H.size 0 row un kp mt ps bx mo su wy wa od py ju u4.2 rs a1   F u6 hu6) (g_V mM_RX8_367 mI_yX8_oddsByRow mS_RX8_yX8_oddsByRow_yX8_oddsByRow mN_RX8 mC_yX8_oddsByRow) rfl (hd_yX8_oddsByRow) ⟨rfl, rfl⟩ ⟨(Nat.le_of_ble_eq_true rfl), (Nat.le_of_ble_eq_true rfl)⟩ hKX hC hS hA hP hD [0, 1, 2, 3, 4, 5, 6, 7, 8, 9, 10, 11, 12, 13, 14, 15, 16, 17, 18, 19, 20] [] rfl (by decide) rfl (by decide) (by decide) 8 rfl rfl rfl hl.1 rfl (Nat.le_of_ble_eq_true rfl) ⟨Nat.zero_le _, Nat.zero_le _⟩ dX8_oddsOf_41 (fun H locs hP hD hS => ?_)
          have hP : va_P D vwCl (moW ac q 0 row un kp mt ps u6.1 u6.2.1 u6.2.2.1 u6.2.2.2.1 u6.2.2.2.2.1 u6.2.2.2.2.2 py ju u4.2 rs) H := hP
          have hD : va_D A (moW ac q 0 row un kp mt ps u6.1 u6.2.1 u6.2.2.1 u6.2.2.2.1 u6.2.2.2.2.1 u6.2.2.2.2.2 py ju u4.2 rs) := hD
          refine lv_aload_n hx hb dX8_oddsOf_44 rfl (lv_at hl 0 rfl) ?_
          refine va_get (D := D) (ci := 8) (v := .long (od_upper u6.2.2.2.2.2)) (C := RX8) (T := TX8) (N := 41) hx hb htw WW_wsX80 hown hKX.1 hP 0 rfl rfl 31 (Nat.le_of_ble_eq_true rfl) (htw _ mF_RX8_278) (fun _ h9 => h9) rfl dX8_oddsOf_45 ?_
          refine lv_aload_n hx hb dX8_oddsOf_48 rfl (lv_at hl 0 rfl) ?_
          refine va_get (D := D) (ci := 8) (v := .long (od_under u6.2.2.2.2.2)) (C := RX8) (T := TX8) (N := 41) hx hb htw WW_wsX80 hown hKX.1 hP 0 rfl rfl 32 (Nat.le_of_ble_eq_true rfl) (htw _ mF_RX8_281) (fun _ h9 => h9) rfl dX8_oddsOf_49 ?_
          refine lv_iload_n hx hb dX8_oddsOf_52 rfl (lv_at hl 3 rfl) ?_
          obtain ⟨r7, hr7, hf⟩ := z_bd_u hf
          refine zc_RSl (As := [.long (od_upper u6.2.2.2.2.2), .long (od_under u6.2.2.2.2.2), .int a3]) (rest := []) hx hb hml hown htw (ctX8_told l D ac cs   (od_upper u6.2.2.2.2.2) (od_under u6.2.2.2.2.2) a3   F _ hr7) (g_S mM_RX8_337 mT_yX8_told mN_RX8 mC_yX8_told) (hd_yX8_told) ⟨rfl, rfl⟩ ⟨(Nat.le_of_ble_eq_true rfl), (Nat.le_of_ble_eq_true rfl)⟩ hKX hC hS zP0 rfl hl.1 rfl (Nat.le_of_ble_eq_true rfl) ⟨Nat.zero_le _, Nat.zero_le _⟩ dX8_oddsOf_53 ?_
          obtain rfl := Option.some.inj hf
          exact zr_Ml hx hb hr hlocks hP hD hS dX8_oddsOf_56
        · have hf := z_p c5 hf
          refine lv_ldc2 (v := (-1)) hx hb hown (htw _ mG_RX8_332) dX8_oddsOf_35 ?_
          obtain rfl := Option.some.inj hf
          exact zr_Ml hx hb hr hlocks hP hD hS dX8_oddsOf_38

theorem hd_yX8_best : hdY yX8_best 1 := by decide +kernel
def M_best_L29 (F : Nat) (row : MRow) (a1 : Int32) : Nat → Int32 → Int64 → Int64 → Int32 → Bx → Mo → Su → Wy → Wa → Od → Pl → Option (Int32 × Th × Bx × Mo × Su × Wy × Wa × Od × Pl)
  | 0, _, _, _, _, _, _, _, _, _, _, _ => none
  | n15 + 1, x3, x4, x5, x6, bx7, mo8, su9, wy10, wa11, od12, pl13 => if x6 = 0 then (some (x3, 0, bx7, mo8, su9, wy10, wa11, od12, pl13)) else (z_bd (M_oddsByRow F row bx7 mo8 su9 wy10 wa11 pl13 a1) (fun u18 : Bx × Mo × Su × Wy × Wa × Od => z_jn (fun u_k22 : Int32 × Int64 × Int64 => z_bd (M_nextRow F row pl13) (fun u24 : Int32 × Pl => z_let u24.1 (fun x25 : Int32 => M_best_L29 F row a1 n15 u_k22.1 u_k22.2.1 u_k22.2.2 x25 u18.1 u18.2.1 u18.2.2.1 u18.2.2.2.1 u18.2.2.2.2.1 u18.2.2.2.2.2 u24.2))) (fun k22 => z_jn (fun _ : Unit => z_bd (M_digits F row pl13) (fun r28 : Int32 => z_let (od_upper u18.2.2.2.2.2) (fun x29 : Int64 => z_let (od_under u18.2.2.2.2.2) (fun x30 : Int64 => k22 (r28, x29, x30))))) (fun k26 => if x3 = (-1) then (k26 ()) else (z_bd (M_against F (od_upper u18.2.2.2.2.2) (od_under u18.2.2.2.2.2) x4 x5) (fun r32 : Int32 => if r32 ≤ 0 then (k22 (x3, x4, x5)) else (k26 ())))))))
def M_best (F : Nat) (row : MRow) (bx : Bx) (mo : Mo) (su : Su) (wy : Wy) (wa : Wa) (od : Od) (pl : Pl) (a1 : Int32) : Option (Int32 × Th × Bx × Mo × Su × Wy × Wa × Od × Pl) := if M_isThere row a1 = 0 then (some ((-1), 0, bx, mo, su, wy, wa, od, pl)) else (z_bd (M_firstRow F pl) (fun u2 : Pl => M_best_L29 F row a1 F (-1) 0 1 1 bx mo su wy wa od u2))
set_option maxHeartbeats 4000000 in
set_option maxRecDepth 100000 in
theorem ctX8_best (l : Launch) (D : va_G) (ac cs : Nat → Nat) (q : Nat → Nat) (sz : Nat) (th : Th) (row : MRow) (un : Un) (kp : Kp) (mt : Mt) (ps : Ps) (bx : Bx) (mo : Mo) (su : Su) (wy : Wy) (wa : Wa) (od : Od) (py : Py) (ju : Ju) (pl : Pl) (rs : Rs) (a1 : Int32) (F : Nat) (res : Int32 × Th × Bx × Mo × Su × Wy × Wa × Od × Pl) (hf : M_best F row bx mo su wy wa od pl a1 = some res) : Met l yX8_best (cWW yX8_best cX8_best 8 (some .int)) { frames := 7, cells := 0, slots := 0, locals := 163 } (zM D ac cs [.ref (q 0), .int a1] (moW ac q th row un kp mt ps bx mo su wy wa od py ju pl rs) sz) (va_Qi (fun r (_ : Unit) => r = res.1) (fun _ => zB D (va_A (moW ac q th row un kp mt ps bx mo su wy wa od py ju pl rs) sz) (moW ac q res.2.1 row un kp mt ps res.2.2.1 res.2.2.2.1 res.2.2.2.2.1 res.2.2.2.2.2.1 res.2.2.2.2.2.2.1 res.2.2.2.2.2.2.2.1 py ju res.2.2.2.2.2.2.2.2 rs)) (va_A (moW ac q th row un kp mt ps bx mo su wy wa od py ju pl rs) sz)) 0 0 (va_A (moW ac q th row un kp mt ps bx mo su wy wa od py ju pl rs) sz) := by
  refine Met.ofW (cc := cX8_best) (maxL := 8) (ret := (some .int)) (by decide) rfl ?_
  intro p e s m args below meth c s₁ B hml hv
  obtain ⟨rfl, hsz, hP, hKX, hD0, hC⟩ := hv
  have hx := B.exec
  have hb := B.bytes
  have hr := B.returns
  have hts := atoms_spec (ws := cWW yX8_best cX8_best 8 (some .int)) B.pre
  have htw : ∀ w ∈ WW, w.before _ s = true := fun w h => hts w (List.mem_cons_of_mem _ h)
  have hown : s.vm.findClass RX8 = some m.cls := findClass_of_methodNamed B.named
  have hlocks := B.notSynchronized
  clear hts B
  subst hsz
  have hD := hD0.self (sz := s.heap.size)
  generalize hAe : va_A (moW ac q th row un kp mt ps bx mo su wy wa od py ju pl rs) s.heap.size = A at hD hC ⊢
  have hA : ∀ q : Nat, s.heap.size ≤ q → A q := fun q h => by rw [← hAe]; exact Or.inr h
  have hS : va_S A s.heap s.heap [] := va_S.rf
  clear hD0 hAe
  have hP : va_P D vwCl (moW ac q th row un kp mt ps bx mo su wy wa od py ju pl rs) s.heap := hP
  have hl := lv_entry ([.ref (q 0), .int a1]) (n := 8) (Nat.le_of_ble_eq_true rfl)
  rw [lg_entry_eq]
  generalize (lg_sl ([.ref (q 0), .int a1]) ++ List.replicate (8 - (lg_sl ([.ref (q 0), .int a1])).length) Slot.unset).toArray = ls at hl ⊢
  have hl : lv_has ls 8 [(0, .ref (q 0)), (1, .int a1)] := hl
  unfold M_best at hf
  show W p l e ({ frames := 7, cells := 0, slots := 0, locals := 163 } : Room) s m _ below meth c s.heap [] 0 0 _ (F0 m 0 ls [])
  refine lv_aload_n hx hb dX8_best_0 rfl (lv_at hl 0 rfl) ?_
  refine lv_iconst (v := 0) hx hb dX8_best_1 rfl ?_
  refine va_put (D := D) (ci := 8) (v := .int 0) (ty := tyX8 0) (C := RX8) (T := TX8) (N := 41) hx hb htw WW_wsX80 tyX8 tyX8_ok nmX8 hown hKX.1 hP hD hS 0 rfl rfl 0 (Nat.le_of_ble_eq_true rfl) (htw _ mF_RX8_75) (fun _ h9 => h9) rfl (tyX8_ok 0 (Nat.le_of_ble_eq_true rfl)) rfl rfl (Nat.le_of_ble_eq_true rfl) dX8_best_2 (fun H locs hP hD hS => ?_)
  have hP : va_P D vwCl (moW ac q 0 row un kp mt ps bx mo su wy wa od py ju pl rs) H := hP
  have hD : va_D A (moW ac q 0 row un kp mt ps bx mo su wy wa od py ju pl rs) := hD
  refine lv_aload_n hx hb dX8_best_5 rfl (lv_at hl 0 rfl) ?_
  refine lv_iload_n hx hb dX8_best_6 rfl (lv_at hl 1 rfl) ?_
  refine zc_RVi (As := [.int a1]) (rest := []) hx hb hml hown htw (ctX8_isThere l D ac cs q 0 row un kp mt ps bx mo su wy wa od py ju pl rs a1   _ rfl) (g_V mM_RX8_294 mI_yX8_isThere mS_RX8_yX8_isThere_yX8_isThere mN_RX8 mC_yX8_isThere) rfl (hd_yX8_isThere) ⟨rfl, rfl⟩ ⟨(Nat.le_of_ble_eq_true rfl), (Nat.le_of_ble_eq_true rfl)⟩ hKX hC hS hP 8 rfl rfl rfl hl.1 rfl (Nat.le_of_ble_eq_true rfl) ⟨Nat.zero_le _, Nat.zero_le _⟩ dX8_best_7 ?_
  refine lv_if_ne (tgt := 15) hx hb dX8_best_10 (by decide) (fun c1 => ?_) (fun c1 => ?_)
  · have hf := z_n c1 hf
    refine lv_aload_n hx hb dX8_best_15 rfl (lv_at hl 0 rfl) ?_
    obtain ⟨u2, hu2, hf⟩ := z_bd_u hf
    refine zc_MVv (As := []) (rest := []) (wr := []) (wsc := moW ac q 0 row un kp mt ps bx mo su wy wa od py ju pl rs) (wsc' := moW ac q 0 row un kp mt ps bx mo su wy wa od py ju u2 rs) hx hb hml hown htw (ctX8_firstRow l D ac cs q H.size 0 row un kp mt ps bx mo su wy wa od py ju pl rs    F u2 hu2) (g_V mM_RX8_370 mI_yX8_firstRow mS_RX8_yX8_firstRow_yX8_firstRow mN_RX8 mC_yX8_firstRow) rfl (hd_yX8_firstRow) ⟨rfl, rfl⟩ ⟨(Nat.le_of_ble_eq_true rfl), (Nat.le_of_ble_eq_true rfl)⟩ hKX hC hS hA hP hD [0, 1, 2, 3, 4, 5, 6, 7, 8, 9, 10, 11, 12, 13, 14, 15, 16, 17, 18, 19, 20] [] rfl (by decide) rfl (by decide) (by decide) 8 rfl rfl rfl hl.1 rfl (Nat.le_of_ble_eq_true rfl) ⟨Nat.zero_le _, Nat.zero_le _⟩ dX8_best_16 (fun H locs hP hD hS => ?_)
    have hP : va_P D vwCl (moW ac q 0 row un kp mt ps bx mo su wy wa od py ju u2 rs) H := hP
    have hD : va_D A (moW ac q 0 row un kp mt ps bx mo su wy wa od py ju u2 rs) := hD
    refine lv_iconst (v := (-1)) hx hb dX8_best_19 rfl ?_
    refine lv_istore_n (lv' := [(2, .int (-1)), (0, .ref (q 0)), (1, .int a1)]) hx hb dX8_best_20 rfl hl (Nat.le_of_ble_eq_true rfl) rfl (fun ls hl => ?_)
    refine lv_lconst (v := 0) hx hb dX8_best_21 rfl ?_
    refine lv_lstore_n (lv' := [(3, .long 0), (2, .int (-1)), (0, .ref (q 0)), (1, .int a1)]) hx hb dX8_best_22 rfl hl (Nat.le_of_ble_eq_true rfl) rfl (fun ls hl => ?_)
    refine lv_lconst (v := 1) hx hb dX8_best_23 rfl ?_
    refine lv_lstore (lv' := [(5, .long 1), (3, .long 0), (2, .int (-1)), (0, .ref (q 0)), (1, .int a1)]) hx hb dX8_best_24 hl (Nat.le_of_ble_eq_true rfl) rfl (fun ls hl => ?_)
    refine lv_iconst (v := 1) hx hb dX8_best_26 rfl ?_
    refine lv_istore (lv' := [(7, .int 1), (5, .long 1), (3, .long 0), (2, .int (-1)), (0, .ref (q 0)), (1, .int a1)]) hx hb dX8_best_27 hl (Nat.le_of_ble_eq_true rfl) rfl (fun ls hl => ?_)
    have hL14 : ∀ (n15 : Nat) (x3 : Int32) (x4 : Int64) (x5 : Int64) (x6 : Int32) (bx7 : Bx) (mo8 : Mo) (su9 : Su) (wy10 : Wy) (wa11 : Wa) (od12 : Od) (pl13 : Pl), M_best_L29 F row a1 n15 x3 x4 x5 x6 bx7 mo8 su9 wy10 wa11 od12 pl13 = some res → ∀ (H : Heap) (locs : List Loc) (ls : Array Slot), va_P D vwCl (moW ac q 0 row un kp mt ps bx7 mo8 su9 wy10 wa11 od12 py ju pl13 rs) H → va_D A (moW ac q 0 row un kp mt ps bx7 mo8 su9 wy10 wa11 od12 py ju pl13 rs) → va_S A s.heap H locs → lv_has ls 8 [(0, .ref (q 0)), (1, .int a1), (2, .int x3), (3, .long x4), (5, .long x5), (7, .int x6)] → W p l e ({ frames := 7, cells := 0, slots := 0, locals := 163 } : Room) s m (([.ref (q 0), .int a1] : List Value).toArray) below meth c H locs 0 0 (MQ below (va_Qi (fun r (_ : Unit) => r = res.1) (fun _ => zB D A (moW ac q res.2.1 row un kp mt ps res.2.2.1 res.2.2.2.1 res.2.2.2.2.1 res.2.2.2.2.2.1 res.2.2.2.2.2.2.1 res.2.2.2.2.2.2.2.1 py ju res.2.2.2.2.2.2.2.2 rs)) A) ([.ref (q 0), .int a1] : List Value).toArray s 0 0 A) (F0 m 29 ls []) := by
      intro n15
      induction n15 with
      | zero => intro x3 x4 x5 x6 bx7 mo8 su9 wy10 wa11 od12 pl13 hf; rw [M_best_L29] at hf; cases hf
      | succ n15 ih16 =>
        intro x3 x4 x5 x6 bx7 mo8 su9 wy10 wa11 od12 pl13 hf H locs ls hP hD hS hl
        rw [M_best_L29] at hf
        refine lv_iload hx hb dX8_best_29 (lv_at hl 5 rfl) ?_
        refine lv_if_eq (tgt := 86) hx hb dX8_best_31 (by decide) (fun c17 => ?_) (fun c17 => ?_)
        · have hf := z_p c17 hf
          refine lv_iload_n hx hb dX8_best_86 rfl (lv_at hl 2 rfl) ?_
          obtain rfl := Option.some.inj hf
          exact zr_Mi hx hb hr hlocks hP hD hS dX8_best_87
        · have hf := z_n c17 hf
          refine lv_aload_n hx hb dX8_best_34 rfl (lv_at hl 0 rfl) ?_
          refine lv_iload_n hx hb dX8_best_35 rfl (lv_at hl 1 rfl) ?_
          obtain ⟨u18, hu18, hf⟩ := z_bd_u hf
          refine zc_MVv (As := [.int a1]) (rest := []) (wr := []) (wsc := moW ac q 0 row un kp mt ps bx7 mo8 su9 wy10 wa11 od12 py ju pl13 rs) (wsc' := moW ac q 0 row un kp mt ps u18.1 u18.2.1 u18.2.2.1 u18.2.2.2.1 u18.2.2.2.2.1 u18.2.2.2.2.2 py ju pl13 rs) hx hb hml hown htw (ctX8_oddsByRow l D ac cs q H.size 0 row un kp mt ps bx7 mo8 su9 wy10 wa11 od12 py ju pl13 rs a1   F u18 hu18) (g_V mM_RX8_367 mI_yX8_oddsByRow mS_RX8_yX8_oddsByRow_yX8_oddsByRow mN_RX8 mC_yX8_oddsByRow) rfl (hd_yX8_oddsByRow) ⟨rfl, rfl⟩ ⟨(Nat.le_of_ble_eq_true rfl), (Nat.le_of_ble_eq_true rfl)⟩ hKX hC hS hA hP hD [0, 1, 2, 3, 4, 5, 6, 7, 8, 9, 10, 11, 12, 13, 14, 15, 16, 17, 18, 19, 20] [] rfl (by decide) rfl (by decide) (by decide) 8 rfl rfl rfl hl.1 rfl (Nat.le_of_ble_eq_true rfl) ⟨Nat.zero_le _, Nat.zero_le _⟩ dX8_best_36 (fun H locs hP hD hS => ?_)
          have hP : va_P D vwCl (moW ac q 0 row un kp mt ps u18.1 u18.2.1 u18.2.2.1 u18.2.2.2.1 u18.2.2.2.2.1 u18.2.2.2.2.2 py ju pl13 rs) H := hP
          have hD : va_D A (moW ac q 0 row un kp mt ps u18.1 u18.2.1 u18.2.2.1 u18.2.2.2.1 u18.2.2.2.2.1 u18.2.2.2.2.2 py ju pl13 rs) := hD
          refine lv_iload_n hx hb dX8_best_39 rfl (lv_at hl 2 rfl) ?_
          refine lv_iconst (v := (-1)) hx hb dX8_best_40 rfl ?_
          obtain ⟨k22, hk22, hf⟩ := z_jn_u hf
          have hj23 : ∀ (v19 : Int32) (v20 : Int64) (v21 : Int64), k22 (v19, v20, v21) = some res → ∀ (H : Heap) (locs : List Loc) (ls : Array Slot), va_P D vwCl (moW ac q 0 row un kp mt ps u18.1 u18.2.1 u18.2.2.1 u18.2.2.2.1 u18.2.2.2.2.1 u18.2.2.2.2.2 py ju pl13 rs) H → va_D A (moW ac q 0 row un kp mt ps u18.1 u18.2.1 u18.2.2.1 u18.2.2.2.1 u18.2.2.2.2.1 u18.2.2.2.2.2 py ju pl13 rs) → va_S A s.heap H locs → lv_has ls 8 [(0, .ref (q 0)), (1, .int a1), (2, .int v19), (3, .long v20), (5, .long v21)] → W p l e ({ frames := 7, cells := 0, slots := 0, locals := 163 } : Room) s m (([.ref (q 0), .int a1] : List Value).toArray) below meth c H locs 0 0 (MQ below (va_Qi (fun r (_ : Unit) => r = res.1) (fun _ => zB D A (moW ac q res.2.1 row un kp mt ps res.2.2.1 res.2.2.2.1 res.2.2.2.2.1 res.2.2.2.2.2.1 res.2.2.2.2.2.2.1 res.2.2.2.2.2.2.2.1 py ju res.2.2.2.2.2.2.2.2 rs)) A) ([.ref (q 0), .int a1] : List Value).toArray s 0 0 A) (F0 m 77 ls []) := by
            intro v19 v20 v21 hf H locs ls hP hD hS hl
            have hf := hk22 _ hf
            refine lv_aload_n hx hb dX8_best_77 rfl (lv_at hl 0 rfl) ?_
            obtain ⟨u24, hu24, hf⟩ := z_bd_u hf
            refine zc_MVi (As := []) (rest := []) (wr := []) (wsc := moW ac q 0 row un kp mt ps u18.1 u18.2.1 u18.2.2.1 u18.2.2.2.1 u18.2.2.2.2.1 u18.2.2.2.2.2 py ju pl13 rs) (wsc' := moW ac q 0 row un kp mt ps u18.1 u18.2.1 u18.2.2.1 u18.2.2.2.1 u18.2.2.2.2.1 u18.2.2.2.2.2 py ju u24.2 rs) hx hb hml hown htw (ctX8_nextRow l D ac cs q H.size 0 row un kp mt ps u18.1 u18.2.1 u18.2.2.1 u18.2.2.2.1 u18.2.2.2.2.1 u18.2.2.2.2.2 py ju pl13 rs    F u24 hu24) (g_V mM_RX8_376 mI_yX8_nextRow mS_RX8_yX8_nextRow_yX8_nextRow mN_RX8 mC_yX8_nextRow) rfl (hd_yX8_nextRow) ⟨rfl, rfl⟩ ⟨(Nat.le_of_ble_eq_true rfl), (Nat.le_of_ble_eq_true rfl)⟩ hKX hC hS hA hP hD [0, 1, 2, 3, 4, 5, 6, 7, 8, 9, 10, 11, 12, 13, 14, 15, 16, 17, 18, 19, 20] [] rfl (by decide) rfl (by decide) (by decide) 8 rfl rfl rfl hl.1 rfl (Nat.le_of_ble_eq_true rfl) ⟨Nat.zero_le _, Nat.zero_le _⟩ dX8_best_78 (fun H locs hP hD hS => ?_)
            have hP : va_P D vwCl (moW ac q 0 row un kp mt ps u18.1 u18.2.1 u18.2.2.1 u18.2.2.2.1 u18.2.2.2.2.1 u18.2.2.2.2.2 py ju u24.2 rs) H := hP
            have hD : va_D A (moW ac q 0 row un kp mt ps u18.1 u18.2.1 u18.2.2.1 u18.2.2.2.1 u18.2.2.2.2.1 u18.2.2.2.2.2 py ju u24.2 rs) := hD
            refine lv_topi (fun x25 hx25 => ?_)
            have hf := z_let_u hx25 hf
            refine lv_istore (lv' := [(7, .int x25), (0, .ref (q 0)), (1, .int a1), (2, .int v19), (3, .long v20), (5, .long v21)]) hx hb dX8_best_81 hl (Nat.le_of_ble_eq_true rfl) rfl (fun ls hl => ?_)
            refine lv_goto (tgt := 29) hx hb dX8_best_83 (by decide) ?_
            exact ih16 v19 v20 v21 x25 u18.1 u18.2.1 u18.2.2.1 u18.2.2.2.1 u18.2.2.2.2.1 u18.2.2.2.2.2 u24.2 hf _ _ ls  hP hD hS (lv_sub hl [1, 2, 3, 4, 5, 0] rfl)
          obtain ⟨k26, hk26, hf⟩ := z_jn_u hf
          have hj27 : k26 () = some res → ∀ (H : Heap) (locs : List Loc) (ls : Array Slot), va_P D vwCl (moW ac q 0 row un kp mt ps u18.1 u18.2.1 u18.2.2.1 u18.2.2.2.1 u18.2.2.2.2.1 u18.2.2.2.2.2 py ju pl13 rs) H → va_D A (moW ac q 0 row un kp mt ps u18.1 u18.2.1 u18.2.2.1 u18.2.2.2.1 u18.2.2.2.2.1 u18.2.2.2.2.2 py ju pl13 rs) → va_S A s.heap H locs → lv_has ls 8 [(0, .ref (q 0)), (1, .int a1)] → W p l e ({ frames := 7, cells := 0, slots := 0, locals := 163 } : Room) s m (([.ref (q 0), .int a1] : List Value).toArray) below meth c H locs 0 0 (MQ below (va_Qi (fun r (_ : Unit) => r = res.1) (fun _ => zB D A (moW ac q res.2.1 row un kp mt ps res.2.2.1 res.2.2.2.1 res.2.2.2.2.1 res.2.2.2.2.2.1 res.2.2.2.2.2.2.1 res.2.2.2.2.2.2.2.1 py ju res.2.2.2.2.2.2.2.2 rs)) A) ([.ref (q 0), .int a1] : List Value).toArray s 0 0 A) (F0 m 61 ls []) := by
            intro hf H locs ls hP hD hS hl
            have hf := hk26 _ hf
            refine lv_aload_n hx hb dX8_best_61 rfl (lv_at hl 0 rfl) ?_
            obtain ⟨r28, hr28, hf⟩ := z_bd_u hf
            refine zc_RVi (As := []) (rest := []) hx hb hml hown htw (ctX8_digits l D ac cs q 0 row un kp mt ps u18.1 u18.2.1 u18.2.2.1 u18.2.2.2.1 u18.2.2.2.2.1 u18.2.2.2.2.2 py ju pl13 rs    F _ hr28) (g_V mM_RX8_373 mI_yX8_digits mS_RX8_yX8_digits_yX8_digits mN_RX8 mC_yX8_digits) rfl (hd_yX8_digits) ⟨rfl, rfl⟩ ⟨(Nat.le_of_ble_eq_true rfl), (Nat.le_of_ble_eq_true rfl)⟩ hKX hC hS hP 8 rfl rfl rfl hl.1 rfl (Nat.le_of_ble_eq_true rfl) ⟨Nat.zero_le _, Nat.zero_le _⟩ dX8_best_62 ?_
            refine lv_istore_n (lv' := [(2, .int r28), (0, .ref (q 0)), (1, .int a1)]) hx hb dX8_best_65 rfl hl (Nat.le_of_ble_eq_true rfl) rfl (fun ls hl => ?_)
            refine lv_aload_n hx hb dX8_best_66 rfl (lv_at hl 1 rfl) ?_
            refine va_get (D := D) (ci := 8) (v := .long (od_upper u18.2.2.2.2.2)) (C := RX8) (T := TX8) (N := 41) hx hb htw WW_wsX80 hown hKX.1 hP 0 rfl rfl 31 (Nat.le_of_ble_eq_true rfl) (htw _ mF_RX8_278) (fun _ h9 => h9) rfl dX8_best_67 ?_
            refine lv_topl (fun x29 hx29 => ?_)
            have hf := z_let_u hx29 hf
            refine lv_lstore_n (lv' := [(3, .long x29), (2, .int r28), (0, .ref (q 0)), (1, .int a1)]) hx hb dX8_best_70 rfl hl (Nat.le_of_ble_eq_true rfl) rfl (fun ls hl => ?_)
            refine lv_aload_n hx hb dX8_best_71 rfl (lv_at hl 2 rfl) ?_
            refine va_get (D := D) (ci := 8) (v := .long (od_under u18.2.2.2.2.2)) (C := RX8) (T := TX8) (N := 41) hx hb htw WW_wsX80 hown hKX.1 hP 0 rfl rfl 32 (Nat.le_of_ble_eq_true rfl) (htw _ mF_RX8_281) (fun _ h9 => h9) rfl dX8_best_72 ?_
            refine lv_topl (fun x30 hx30 => ?_)
            have hf := z_let_u hx30 hf
            refine lv_lstore (lv' := [(5, .long x30), (3, .long x29), (2, .int r28), (0, .ref (q 0)), (1, .int a1)]) hx hb dX8_best_75 hl (Nat.le_of_ble_eq_true rfl) rfl (fun ls hl => ?_)
            exact hj23 r28 x29 x30 hf _ _ ls  hP hD hS (lv_sub hl [3, 4, 2, 1, 0] rfl)
          refine lv_icmp_eq (tgt := 61) hx hb dX8_best_41 (by decide) (fun c31 => ?_) (fun c31 => ?_)
          · have hf := z_p c31 hf
            exact hj27  hf _ _ ls  hP hD hS (lv_sub hl [0, 1] rfl)
          · have hf := z_n c31 hf
            refine lv_aload_n hx hb dX8_best_44 rfl (lv_at hl 0 rfl) ?_
            refine va_get (D := D) (ci := 8) (v := .long (od_upper u18.2.2.2.2.2)) (C := RX8) (T := TX8) (N := 41) hx hb htw WW_wsX80 hown hKX.1 hP 0 rfl rfl 31 (Nat.le_of_ble_eq_true rfl) (htw _ mF_RX8_278) (fun _ h9 => h9) rfl dX8_best_45 ?_
            refine lv_aload_n hx hb dX8_best_48 rfl (lv_at hl 0 rfl) ?_
            refine va_get (D := D) (ci := 8) (v := .long (od_under u18.2.2.2.2.2)) (C := RX8) (T := TX8) (N := 41) hx hb htw WW_wsX80 hown hKX.1 hP 0 rfl rfl 32 (Nat.le_of_ble_eq_true rfl) (htw _ mF_RX8_281) (fun _ h9 => h9) rfl dX8_best_49 ?_
            refine lv_lload_n hx hb dX8_best_52 rfl (lv_at hl 3 rfl) ?_
            refine lv_lload hx hb dX8_best_53 (lv_at hl 4 rfl) ?_
            obtain ⟨r32, hr32, hf⟩ := z_bd_u hf
            refine zc_RSi (As := [.long (od_upper u18.2.2.2.2.2), .long (od_under u18.2.2.2.2.2), .long x4, .long x5]) (rest := []) hx hb hml hown htw (ctX8_against l D ac cs   (od_upper u18.2.2.2.2.2) (od_under u18.2.2.2.2.2) x4 x5   F _ hr32) (g_S mM_RX8_349 mT_yX8_against mN_RX8 mC_yX8_against) (hd_yX8_against) ⟨rfl, rfl⟩ ⟨(Nat.le_of_ble_eq_true rfl), (Nat.le_of_ble_eq_true rfl)⟩ hKX hC hS zP0 rfl hl.1 rfl (Nat.le_of_ble_eq_true rfl) ⟨Nat.zero_le _, Nat.zero_le _⟩ dX8_best_55 ?_
            refine lv_if_le (tgt := 77) hx hb dX8_best_58 (by decide) (fun c33 => ?_) (fun c33 => ?_)
            · have hf := z_p c33 hf
              exact hj23 x3 x4 x5 hf _ _ ls  hP hD hS (lv_sub hl [0, 1, 2, 3, 4] rfl)
            · have hf := z_n c33 hf
              exact hj27  hf _ _ ls  hP hD hS (lv_sub hl [0, 1] rfl)
    refine hL14  F (-1) 0 1 1 bx mo su wy wa od u2 hf _ _ ls  hP hD hS (lv_sub hl [4, 5, 3, 2, 1, 0] rfl)
  · have hf := z_p c1 hf
    refine lv_iconst (v := (-1)) hx hb dX8_best_13 rfl ?_
    obtain rfl := Option.some.inj hf
    exact zr_Mi hx hb hr hlocks hP hD hS dX8_best_14

theorem hd_yX8_climbed : hdY yX8_climbed 2 := by decide +kernel
def M_climbed_L77 (F : Nat) (row : MRow) (a1 : Int32) (x34 : Int32) (kx72 : Int64 → Int64 → Int32 → Bx → Mo → Su → Wy → Wa → Od → Pl → Option (Int32 × Th × Bx × Mo × Su × Wy × Wa × Od × Pl)) : Nat → Int64 → Int64 → Int32 → Int32 → Bx → Mo → Su → Wy → Wa → Od → Pl → Option (Int32 × Th × Bx × Mo × Su × Wy × Wa × Od × Pl)
  | 0, _, _, _, _, _, _, _, _, _, _, _ => none
  | n70 + 1, x58, x59, x60, x61, bx62, mo63, su64, wy65, wa66, od67, pl68 => if M_n row ≤ x61 then (kx72 x58 x59 x60 bx62 mo63 su64 wy65 wa66 od67 pl68) else (z_bd (M_swap pl68 x34 x61) (fun u84 : Pl => z_bd (M_oddsByRow F row bx62 mo63 su64 wy65 wa66 u84 a1) (fun u85 : Bx × Mo × Su × Wy × Wa × Od => z_bd (M_swap u84 x34 x61) (fun u86 : Pl => z_bd (M_against F (od_upper u85.2.2.2.2.2) (od_under u85.2.2.2.2.2) x58 x59) (fun r87 : Int32 => if r87 ≤ 0 then (z_let (x61 + 1) (fun x89 : Int32 => M_climbed_L77 F row a1 x34 kx72 n70 x58 x59 x60 x89 u85.1 u85.2.1 u85.2.2.1 u85.2.2.2.1 u85.2.2.2.2.1 u85.2.2.2.2.2 u86)) else (z_let ((10 * x34) + x61) (fun x90 : Int32 => z_let (od_upper u85.2.2.2.2.2) (fun x91 : Int64 => z_let (od_under u85.2.2.2.2.2) (fun x92 : Int64 => z_let (x61 + 1) (fun x93 : Int32 => M_climbed_L77 F row a1 x34 kx72 n70 x91 x92 x90 x93 u85.1 u85.2.1 u85.2.2.1 u85.2.2.2.1 u85.2.2.2.2.1 u85.2.2.2.2.2 u86))))))))))
def M_climbed_L62 (F : Nat) (row : MRow) (a1 : Int32) (kx45 : Int64 → Int64 → Int32 → Bx → Mo → Su → Wy → Wa → Od → Pl → Option (Int32 × Th × Bx × Mo × Su × Wy × Wa × Od × Pl)) : Nat → Int64 → Int64 → Int32 → Int32 → Bx → Mo → Su → Wy → Wa → Od → Pl → Option (Int32 × Th × Bx × Mo × Su × Wy × Wa × Od × Pl)
  | 0, _, _, _, _, _, _, _, _, _, _, _ => none
  | n43 + 1, x31, x32, x33, x34, bx35, mo36, su37, wy38, wa39, od40, pl41 => if M_n row ≤ x34 then (kx45 x31 x32 x33 bx35 mo36 su37 wy38 wa39 od40 pl41) else (z_let (x34 + 1) (fun x57 : Int32 => M_climbed_L77 F row a1 x34 (fun (x73 : Int64) (x74 : Int64) (x75 : Int32) (bx76 : Bx) (mo77 : Mo) (su78 : Su) (wy79 : Wy) (wa80 : Wa) (od81 : Od) (pl82 : Pl) => z_let (x34 + 1) (fun x94 : Int32 => M_climbed_L62 F row a1 kx45 n43 x73 x74 x75 x94 bx76 mo77 su78 wy79 wa80 od81 pl82)) F x31 x32 x33 x57 bx35 mo36 su37 wy38 wa39 od40 pl41))
def M_climbed_L51 (F : Nat) (row : MRow) (a1 : Int32) (kx21 : Int32 → Bx → Mo → Su → Wy → Wa → Od → Pl → Option (Int32 × Th × Bx × Mo × Su × Wy × Wa × Od × Pl)) : Nat → Int64 → Int64 → Int32 → Int32 → Bx → Mo → Su → Wy → Wa → Od → Pl → Option (Int32 × Th × Bx × Mo × Su × Wy × Wa × Od × Pl)
  | 0, _, _, _, _, _, _, _, _, _, _, _ => none
  | n19 + 1, x7, x8, x9, x10, bx11, mo12, su13, wy14, wa15, od16, pl17 => if x10 = 0 then (kx21 x9 bx11 mo12 su13 wy14 wa15 od16 pl17) else (M_climbed_L62 F row a1 (fun (x46 : Int64) (x47 : Int64) (x48 : Int32) (bx49 : Bx) (mo50 : Mo) (su51 : Su) (wy52 : Wy) (wa53 : Wa) (od54 : Od) (pl55 : Pl) => z_let (if x48 = (-1) then 0 else 1) (fun v95 : Int32 => if v95 = 0 then (M_climbed_L51 F row a1 kx21 n19 x46 x47 x9 v95 bx49 mo50 su51 wy52 wa53 od54 pl55) else (z_bd (M_swap pl55 (x48 / 10) (z_rem x48 10)) (fun u100 : Pl => z_let (x9 + 1) (fun x101 : Int32 => M_climbed_L51 F row a1 kx21 n19 x46 x47 x101 v95 bx49 mo50 su51 wy52 wa53 od54 u100))))) F x7 x8 (-1) 0 bx11 mo12 su13 wy14 wa15 od16 pl17)
def M_climbed (F : Nat) (row : MRow) (bx : Bx) (mo : Mo) (su : Su) (wy : Wy) (wa : Wa) (od : Od) (pl : Pl) (a1 : Int32) (a2 : Int32) : Option (Int32 × Th × Bx × Mo × Su × Wy × Wa × Od × Pl) := if M_isThere row a1 = 0 then (some ((-1), 0, bx, mo, su, wy, wa, od, pl)) else (if M_in a2.toInt64 0 1 = 0 then (some ((-1), 0, bx, mo, su, wy, wa, od, pl)) else (z_bd (M_firstRow F pl) (fun u3 : Pl => z_bd (M_oddsByRow F row bx mo su wy wa u3 a1) (fun u4 : Bx × Mo × Su × Wy × Wa × Od => z_let (od_upper u4.2.2.2.2.2) (fun x5 : Int64 => z_let (od_under u4.2.2.2.2.2) (fun x6 : Int64 => M_climbed_L51 F row a1 (fun (x22 : Int32) (bx23 : Bx) (mo24 : Mo) (su25 : Su) (wy26 : Wy) (wa27 : Wa) (od28 : Od) (pl29 : Pl) => if a2 = 0 then (z_bd (M_digits F row pl29) (fun r103 : Int32 => some (r103, 0, bx23, mo24, su25, wy26, wa27, od28, pl29))) else (some (x22, 0, bx23, mo24, su25, wy26, wa27, od28, pl29))) F x5 x6 0 1 u4.1 u4.2.1 u4.2.2.1 u4.2.2.2.1 u4.2.2.2.2.1 u4.2.2.2.2.2 u3))))))
set_option maxHeartbeats 4000000 in
set_option maxRecDepth 100000 in
theorem ctX8_climbed (l : Launch) (D : va_G) (ac cs : Nat → Nat) (q : Nat → Nat) (sz : Nat) (th : Th) (row : MRow) (un : Un) (kp : Kp) (mt : Mt) (ps : Ps) (bx : Bx) (mo : Mo) (su : Su) (wy : Wy) (wa : Wa) (od : Od) (py : Py) (ju : Ju) (pl : Pl) (rs : Rs) (a1 : Int32) (a2 : Int32) (F : Nat) (res : Int32 × Th × Bx × Mo × Su × Wy × Wa × Od × Pl) (hf : M_climbed F row bx mo su wy wa od pl a1 a2 = some res) : Met l yX8_climbed (cWW yX8_climbed cX8_climbed 12 (some .int)) { frames := 7, cells := 0, slots := 0, locals := 163 } (zM D ac cs [.ref (q 0), .int a1, .int a2] (moW ac q th row un kp mt ps bx mo su wy wa od py ju pl rs) sz) (va_Qi (fun r (_ : Unit) => r = res.1) (fun _ => zB D (va_A (moW ac q th row un kp mt ps bx mo su wy wa od py ju pl rs) sz) (moW ac q res.2.1 row un kp mt ps res.2.2.1 res.2.2.2.1 res.2.2.2.2.1 res.2.2.2.2.2.1 res.2.2.2.2.2.2.1 res.2.2.2.2.2.2.2.1 py ju res.2.2.2.2.2.2.2.2 rs)) (va_A (moW ac q th row un kp mt ps bx mo su wy wa od py ju pl rs) sz)) 0 0 (va_A (moW ac q th row un kp mt ps bx mo su wy wa od py ju pl rs) sz) := by
  refine Met.ofW (cc := cX8_climbed) (maxL := 12) (ret := (some .int)) (by decide) rfl ?_
  intro p e s m args below meth c s₁ B hml hv
  obtain ⟨rfl, hsz, hP, hKX, hD0, hC⟩ := hv
  have hx := B.exec
  have hb := B.bytes
  have hr := B.returns
  have hts := atoms_spec (ws := cWW yX8_climbed cX8_climbed 12 (some .int)) B.pre
  have htw : ∀ w ∈ WW, w.before _ s = true := fun w h => hts w (List.mem_cons_of_mem _ h)
  have hown : s.vm.findClass RX8 = some m.cls := findClass_of_methodNamed B.named
  have hlocks := B.notSynchronized
  clear hts B
  subst hsz
  have hD := hD0.self (sz := s.heap.size)
  generalize hAe : va_A (moW ac q th row un kp mt ps bx mo su wy wa od py ju pl rs) s.heap.size = A at hD hC ⊢
  have hA : ∀ q : Nat, s.heap.size ≤ q → A q := fun q h => by rw [← hAe]; exact Or.inr h
  have hS : va_S A s.heap s.heap [] := va_S.rf
  clear hD0 hAe
  have hP : va_P D vwCl (moW ac q th row un kp mt ps bx mo su wy wa od py ju pl rs) s.heap := hP
  have hl := lv_entry ([.ref (q 0), .int a1, .int a2]) (n := 12) (Nat.le_of_ble_eq_true rfl)
  rw [lg_entry_eq]
  generalize (lg_sl ([.ref (q 0), .int a1, .int a2]) ++ List.replicate (12 - (lg_sl ([.ref (q 0), .int a1, .int a2])).length) Slot.unset).toArray = ls at hl ⊢
  have hl : lv_has ls 12 [(0, .ref (q 0)), (1, .int a1), (2, .int a2)] := hl
  unfold M_climbed at hf
  show W p l e ({ frames := 7, cells := 0, slots := 0, locals := 163 } : Room) s m _ below meth c s.heap [] 0 0 _ (F0 m 0 ls [])
  refine lv_aload_n hx hb dX8_climbed_0 rfl (lv_at hl 0 rfl) ?_
  refine lv_iconst (v := 0) hx hb dX8_climbed_1 rfl ?_
  refine va_put (D := D) (ci := 8) (v := .int 0) (ty := tyX8 0) (C := RX8) (T := TX8) (N := 41) hx hb htw WW_wsX80 tyX8 tyX8_ok nmX8 hown hKX.1 hP hD hS 0 rfl rfl 0 (Nat.le_of_ble_eq_true rfl) (htw _ mF_RX8_75) (fun _ h9 => h9) rfl (tyX8_ok 0 (Nat.le_of_ble_eq_true rfl)) rfl rfl (Nat.le_of_ble_eq_true rfl) dX8_climbed_2 (fun H locs hP hD hS => ?_)
  have hP : va_P D vwCl (moW ac q 0 row un kp mt ps bx mo su wy wa od py ju pl rs) H := hP
  have hD : va_D A (moW ac q 0 row un kp mt ps bx mo su wy wa od py ju pl rs) := hD
  refine lv_aload_n hx hb dX8_climbed_5 rfl (lv_at hl 0 rfl) ?_
  refine lv_iload_n hx hb dX8_climbed_6 rfl (lv_at hl 1 rfl) ?_
  refine zc_RVi (As := [.int a1]) (rest := []) hx hb hml hown htw (ctX8_isThere l D ac cs q 0 row un kp mt ps bx mo su wy wa od py ju pl rs a1   _ rfl) (g_V mM_RX8_294 mI_yX8_isThere mS_RX8_yX8_isThere_yX8_isThere mN_RX8 mC_yX8_isThere) rfl (hd_yX8_isThere) ⟨rfl, rfl⟩ ⟨(Nat.le_of_ble_eq_true rfl), (Nat.le_of_ble_eq_true rfl)⟩ hKX hC hS hP 8 rfl rfl rfl hl.1 rfl (Nat.le_of_ble_eq_true rfl) ⟨Nat.zero_le _, Nat.zero_le _⟩ dX8_climbed_7 ?_
  refine lv_if_eq (tgt := 23) hx hb dX8_climbed_10 (by decide) (fun c1 => ?_) (fun c1 => ?_)
  · have hf := z_p c1 hf
    refine lv_iconst (v := (-1)) hx hb dX8_climbed_23 rfl ?_
    obtain rfl := Option.some.inj hf
    exact zr_Mi hx hb hr hlocks hP hD hS dX8_climbed_24
  · have hf := z_n c1 hf
    refine lv_iload_n hx hb dX8_climbed_13 rfl (lv_at hl 2 rfl) ?_
    refine lv_i2l hx hb dX8_climbed_14 rfl ?_
    refine lv_lconst (v := 0) hx hb dX8_climbed_15 rfl ?_
    refine lv_lconst (v := 1) hx hb dX8_climbed_16 rfl ?_
    refine zc_RSi (As := [.long a2.toInt64, .long 0, .long 1]) (rest := []) hx hb hml hown htw (ctX8_in l D ac cs   a2.toInt64 0 1   _ rfl) (g_S mM_RX8_79 mT_yX8_in mN_RX8 mC_yX8_in) (hd_yX8_in) ⟨rfl, rfl⟩ ⟨(Nat.le_of_ble_eq_true rfl), (Nat.le_of_ble_eq_true rfl)⟩ hKX hC hS zP0 rfl hl.1 rfl (Nat.le_of_ble_eq_true rfl) ⟨Nat.zero_le _, Nat.zero_le _⟩ dX8_climbed_17 ?_
    refine lv_if_ne (tgt := 25) hx hb dX8_climbed_20 (by decide) (fun c2 => ?_) (fun c2 => ?_)
    · have hf := z_n c2 hf
      refine lv_aload_n hx hb dX8_climbed_25 rfl (lv_at hl 0 rfl) ?_
      obtain ⟨u3, hu3, hf⟩ := z_bd_u hf
      refine zc_MVv (As := []) (rest := []) (wr := []) (wsc := moW ac q 0 row un kp mt ps bx mo su wy wa od py ju pl rs) (wsc' := moW ac q 0 row un kp mt ps bx mo su wy wa od py ju u3 rs) hx hb hml hown htw (ctX8_firstRow l D ac cs q H.size 0 row un kp mt ps bx mo su wy wa od py ju pl rs    F u3 hu3) (g_V mM_RX8_370 mI_yX8_firstRow mS_RX8_yX8_firstRow_yX8_firstRow mN_RX8 mC_yX8_firstRow) rfl (hd_yX8_firstRow) ⟨rfl, rfl⟩ ⟨(Nat.le_of_ble_eq_true rfl), (Nat.le_of_ble_eq_true rfl)⟩ hKX hC hS hA hP hD [0, 1, 2, 3, 4, 5, 6, 7, 8, 9, 10, 11, 12, 13, 14, 15, 16, 17, 18, 19, 20] [] rfl (by decide) rfl (by decide) (by decide) 8 rfl rfl rfl hl.1 rfl (Nat.le_of_ble_eq_true rfl) ⟨Nat.zero_le _, Nat.zero_le _⟩ dX8_climbed_26 (fun H locs hP hD hS => ?_)
      have hP : va_P D vwCl (moW ac q 0 row un kp mt ps bx mo su wy wa od py ju u3 rs) H := hP
      have hD : va_D A (moW ac q 0 row un kp mt ps bx mo su wy wa od py ju u3 rs) := hD
      refine lv_aload_n hx hb dX8_climbed_29 rfl (lv_at hl 0 rfl) ?_
      refine lv_iload_n hx hb dX8_climbed_30 rfl (lv_at hl 1 rfl) ?_
      obtain ⟨u4, hu4, hf⟩ := z_bd_u hf
      refine zc_MVv (As := [.int a1]) (rest := []) (wr := []) (wsc := moW ac q 0 row un kp mt ps bx mo su wy wa od py ju u3 rs) (wsc' := moW ac q 0 row un kp mt ps u4.1 u4.2.1 u4.2.2.1 u4.2.2.2.1 u4.2.2.2.2.1 u4.2.2.2.2.2 py ju u3 rs) hx hb hml hown htw (ctX8_oddsByRow l D ac cs q H.size 0 row un kp mt ps bx mo su wy wa od py ju u3 rs a1   F u4 hu4) (g_V mM_RX8_367 mI_yX8_oddsByRow mS_RX8_yX8_oddsByRow_yX8_oddsByRow mN_RX8 mC_yX8_oddsByRow) rfl (hd_yX8_oddsByRow) ⟨rfl, rfl⟩ ⟨(Nat.le_of_ble_eq_true rfl), (Nat.le_of_ble_eq_true rfl)⟩ hKX hC hS hA hP hD [0, 1, 2, 3, 4, 5, 6, 7, 8, 9, 10, 11, 12, 13, 14, 15, 16, 17, 18, 19, 20] [] rfl (by decide) rfl (by decide) (by decide) 8 rfl rfl rfl hl.1 rfl (Nat.le_of_ble_eq_true rfl) ⟨Nat.zero_le _, Nat.zero_le _⟩ dX8_climbed_31 (fun H locs hP hD hS => ?_)
      have hP : va_P D vwCl (moW ac q 0 row un kp mt ps u4.1 u4.2.1 u4.2.2.1 u4.2.2.2.1 u4.2.2.2.2.1 u4.2.2.2.2.2 py ju u3 rs) H := hP
      have hD : va_D A (moW ac q 0 row un kp mt ps u4.1 u4.2.1 u4.2.2.1 u4.2.2.2.1 u4.2.2.2.2.1 u4.2.2.2.2.2 py ju u3 rs) := hD
      refine lv_aload_n hx hb dX8_climbed_34 rfl (lv_at hl 0 rfl) ?_
      refine va_get (D := D) (ci := 8) (v := .long (od_upper u4.2.2.2.2.2)) (C := RX8) (T := TX8) (N := 41) hx hb htw WW_wsX80 hown hKX.1 hP 0 rfl rfl 31 (Nat.le_of_ble_eq_true rfl) (htw _ mF_RX8_278) (fun _ h9 => h9) rfl dX8_climbed_35 ?_
      refine lv_topl (fun x5 hx5 => ?_)
      have hf := z_let_u hx5 hf
      refine lv_lstore_n (lv' := [(3, .long x5), (0, .ref (q 0)), (1, .int a1), (2, .int a2)]) hx hb dX8_climbed_38 rfl hl (Nat.le_of_ble_eq_true rfl) rfl (fun ls hl => ?_)
      refine lv_aload_n hx hb dX8_climbed_39 rfl (lv_at hl 1 rfl) ?_
      refine va_get (D := D) (ci := 8) (v := .long (od_under u4.2.2.2.2.2)) (C := RX8) (T := TX8) (N := 41) hx hb htw WW_wsX80 hown hKX.1 hP 0 rfl rfl 32 (Nat.le_of_ble_eq_true rfl) (htw _ mF_RX8_281) (fun _ h9 => h9) rfl dX8_climbed_40 ?_
      refine lv_topl (fun x6 hx6 => ?_)
      have hf := z_let_u hx6 hf
      refine lv_lstore (lv' := [(5, .long x6), (3, .long x5), (0, .ref (q 0)), (1, .int a1), (2, .int a2)]) hx hb dX8_climbed_43 hl (Nat.le_of_ble_eq_true rfl) rfl (fun ls hl => ?_)
      refine lv_iconst (v := 0) hx hb dX8_climbed_45 rfl ?_
      refine lv_istore (lv' := [(7, .int 0), (5, .long x6), (3, .long x5), (0, .ref (q 0)), (1, .int a1), (2, .int a2)]) hx hb dX8_climbed_46 hl (Nat.le_of_ble_eq_true rfl) rfl (fun ls hl => ?_)
      refine lv_iconst (v := 1) hx hb dX8_climbed_48 rfl ?_
      refine lv_istore (lv' := [(8, .int 1), (7, .int 0), (5, .long x6), (3, .long x5), (0, .ref (q 0)), (1, .int a1), (2, .int a2)]) hx hb dX8_climbed_49 hl (Nat.le_of_ble_eq_true rfl) rfl (fun ls hl => ?_)
      have hL18 : ∀ (kx21 : Int32 → Bx → Mo → Su → Wy → Wa → Od → Pl → Option (Int32 × Th × Bx × Mo × Su × Wy × Wa × Od × Pl)) (hkx21 : ∀ (x22 : Int32) (bx23 : Bx) (mo24 : Mo) (su25 : Su) (wy26 : Wy) (wa27 : Wa) (od28 : Od) (pl29 : Pl), kx21 x22 bx23 mo24 su25 wy26 wa27 od28 pl29 = some res → ∀ (H : Heap) (locs : List Loc) (ls : Array Slot), va_P D vwCl (moW ac q 0 row un kp mt ps bx23 mo24 su25 wy26 wa27 od28 py ju pl29 rs) H → va_D A (moW ac q 0 row un kp mt ps bx23 mo24 su25 wy26 wa27 od28 py ju pl29 rs) → va_S A s.heap H locs → lv_has ls 12 [(0, .ref (q 0)), (2, .int a2), (7, .int x22)] → W p l e ({ frames := 7, cells := 0, slots := 0, locals := 163 } : Room) s m (([.ref (q 0), .int a1, .int a2] : List Value).toArray) below meth c H locs 0 0 (MQ below (va_Qi (fun r (_ : Unit) => r = res.1) (fun _ => zB D A (moW ac q res.2.1 row un kp mt ps res.2.2.1 res.2.2.2.1 res.2.2.2.2.1 res.2.2.2.2.2.1 res.2.2.2.2.2.2.1 res.2.2.2.2.2.2.2.1 py ju res.2.2.2.2.2.2.2.2 rs)) A) ([.ref (q 0), .int a1, .int a2] : List Value).toArray s 0 0 A) (F0 m 195 ls [])) (n19 : Nat) (x7 : Int64) (x8 : Int64) (x9 : Int32) (x10 : Int32) (bx11 : Bx) (mo12 : Mo) (su13 : Su) (wy14 : Wy) (wa15 : Wa) (od16 : Od) (pl17 : Pl), M_climbed_L51 F row a1 kx21 n19 x7 x8 x9 x10 bx11 mo12 su13 wy14 wa15 od16 pl17 = some res → ∀ (H : Heap) (locs : List Loc) (ls : Array Slot), va_P D vwCl (moW ac q 0 row un kp mt ps bx11 mo12 su13 wy14 wa15 od16 py ju pl17 rs) H → va_D A (moW ac q 0 row un kp mt ps bx11 mo12 su13 wy14 wa15 od16 py ju pl17 rs) → va_S A s.heap H locs → lv_has ls 12 [(0, .ref (q 0)), (1, .int a1), (2, .int a2), (3, .long x7), (5, .long x8), (7, .int x9), (8, .int x10)] → W p l e ({ frames := 7, cells := 0, slots := 0, locals := 163 } : Room) s m (([.ref (q 0), .int a1, .int a2] : List Value).toArray) below meth c H locs 0 0 (MQ below (va_Qi (fun r (_ : Unit) => r = res.1) (fun _ => zB D A (moW ac q res.2.1 row un kp mt ps res.2.2.1 res.2.2.2.1 res.2.2.2.2.1 res.2.2.2.2.2.1 res.2.2.2.2.2.2.1 res.2.2.2.2.2.2.2.1 py ju res.2.2.2.2.2.2.2.2 rs)) A) ([.ref (q 0), .int a1, .int a2] : List Value).toArray s 0 0 A) (F0 m 51 ls []) := by
        intro kx21 hkx21 n19
        induction n19 with
        | zero => intro x7 x8 x9 x10 bx11 mo12 su13 wy14 wa15 od16 pl17 hf; rw [M_climbed_L51] at hf; cases hf
        | succ n19 ih20 =>
          intro x7 x8 x9 x10 bx11 mo12 su13 wy14 wa15 od16 pl17 hf H locs ls hP hD hS hl
          rw [M_climbed_L51] at hf
          refine lv_iload hx hb dX8_climbed_51 (lv_at hl 6 rfl) ?_
          refine lv_if_eq (tgt := 195) hx hb dX8_climbed_53 (by decide) (fun c30 => ?_) (fun c30 => ?_)
          · have hf := z_p c30 hf
            exact hkx21 x9 bx11 mo12 su13 wy14 wa15 od16 pl17 hf _ _ ls  hP hD hS (lv_sub hl [0, 2, 5] rfl)
          · have hf := z_n c30 hf
            refine lv_iconst (v := (-1)) hx hb dX8_climbed_56 rfl ?_
            refine lv_istore (lv' := [(9, .int (-1)), (0, .ref (q 0)), (1, .int a1), (2, .int a2), (3, .long x7), (5, .long x8), (7, .int x9), (8, .int x10)]) hx hb dX8_climbed_57 hl (Nat.le_of_ble_eq_true rfl) rfl (fun ls hl => ?_)
            refine lv_iconst (v := 0) hx hb dX8_climbed_59 rfl ?_
            refine lv_istore (lv' := [(10, .int 0), (9, .int (-1)), (0, .ref (q 0)), (1, .int a1), (2, .int a2), (3, .long x7), (5, .long x8), (7, .int x9), (8, .int x10)]) hx hb dX8_climbed_60 hl (Nat.le_of_ble_eq_true rfl) rfl (fun ls hl => ?_)
            have hL42 : ∀ (kx45 : Int64 → Int64 → Int32 → Bx → Mo → Su → Wy → Wa → Od → Pl → Option (Int32 × Th × Bx × Mo × Su × Wy × Wa × Od × Pl)) (hkx45 : ∀ (x46 : Int64) (x47 : Int64) (x48 : Int32) (bx49 : Bx) (mo50 : Mo) (su51 : Su) (wy52 : Wy) (wa53 : Wa) (od54 : Od) (pl55 : Pl), kx45 x46 x47 x48 bx49 mo50 su51 wy52 wa53 od54 pl55 = some res → ∀ (H : Heap) (locs : List Loc) (ls : Array Slot), va_P D vwCl (moW ac q 0 row un kp mt ps bx49 mo50 su51 wy52 wa53 od54 py ju pl55 rs) H → va_D A (moW ac q 0 row un kp mt ps bx49 mo50 su51 wy52 wa53 od54 py ju pl55 rs) → va_S A s.heap H locs → lv_has ls 12 [(0, .ref (q 0)), (1, .int a1), (2, .int a2), (3, .long x46), (5, .long x47), (7, .int x9), (9, .int x48)] → W p l e ({ frames := 7, cells := 0, slots := 0, locals := 163 } : Room) s m (([.ref (q 0), .int a1, .int a2] : List Value).toArray) below meth c H locs 0 0 (MQ below (va_Qi (fun r (_ : Unit) => r = res.1) (fun _ => zB D A (moW ac q res.2.1 row un kp mt ps res.2.2.1 res.2.2.2.1 res.2.2.2.2.1 res.2.2.2.2.2.1 res.2.2.2.2.2.2.1 res.2.2.2.2.2.2.2.1 py ju res.2.2.2.2.2.2.2.2 rs)) A) ([.ref (q 0), .int a1, .int a2] : List Value).toArray s 0 0 A) (F0 m 157 ls [])) (n43 : Nat) (x31 : Int64) (x32 : Int64) (x33 : Int32) (x34 : Int32) (bx35 : Bx) (mo36 : Mo) (su37 : Su) (wy38 : Wy) (wa39 : Wa) (od40 : Od) (pl41 : Pl), M_climbed_L62 F row a1 kx45 n43 x31 x32 x33 x34 bx35 mo36 su37 wy38 wa39 od40 pl41 = some res → ∀ (H : Heap) (locs : List Loc) (ls : Array Slot), va_P D vwCl (moW ac q 0 row un kp mt ps bx35 mo36 su37 wy38 wa39 od40 py ju pl41 rs) H → va_D A (moW ac q 0 row un kp mt ps bx35 mo36 su37 wy38 wa39 od40 py ju pl41 rs) → va_S A s.heap H locs → lv_has ls 12 [(0, .ref (q 0)), (1, .int a1), (2, .int a2), (3, .long x31), (5, .long x32), (7, .int x9), (9, .int x33), (10, .int x34)] → W p l e ({ frames := 7, cells := 0, slots := 0, locals := 163 } : Room) s m (([.ref (q 0), .int a1, .int a2] : List Value).toArray) below meth c H locs 0 0 (MQ below (va_Qi (fun r (_ : Unit) => r = res.1) (fun _ => zB D A (moW ac q res.2.1 row un kp mt ps res.2.2.1 res.2.2.2.1 res.2.2.2.2.1 res.2.2.2.2.2.1 res.2.2.2.2.2.2.1 res.2.2.2.2.2.2.2.1 py ju res.2.2.2.2.2.2.2.2 rs)) A) ([.ref (q 0), .int a1, .int a2] : List Value).toArray s 0 0 A) (F0 m 62 ls []) := by
              intro kx45 hkx45 n43
              induction n43 with
              | zero => intro x31 x32 x33 x34 bx35 mo36 su37 wy38 wa39 od40 pl41 hf; rw [M_climbed_L62] at hf; cases hf
              | succ n43 ih44 =>
                intro x31 x32 x33 x34 bx35 mo36 su37 wy38 wa39 od40 pl41 hf H locs ls hP hD hS hl
                rw [M_climbed_L62] at hf
                refine lv_iload hx hb dX8_climbed_62 (lv_at hl 7 rfl) ?_
                refine lv_aload_n hx hb dX8_climbed_64 rfl (lv_at hl 0 rfl) ?_
                refine zc_RVi (As := []) (rest := [.int x34]) hx hb hml hown htw (ctX8_n l D ac cs q 0 row un kp mt ps bx35 mo36 su37 wy38 wa39 od40 py ju pl41 rs    _ rfl) (g_V mM_RX8_190 mI_yX8_n mS_RX8_yX8_n_yX8_n mN_RX8 mC_yX8_n) rfl (hd_yX8_n) ⟨rfl, rfl⟩ ⟨(Nat.le_of_ble_eq_true rfl), (Nat.le_of_ble_eq_true rfl)⟩ hKX hC hS hP 8 rfl rfl rfl hl.1 rfl (Nat.le_of_ble_eq_true rfl) ⟨Nat.zero_le _, Nat.zero_le _⟩ dX8_climbed_65 ?_
                refine lv_icmp_ge (tgt := 157) hx hb dX8_climbed_68 (by decide) (fun c56 => ?_) (fun c56 => ?_)
                · have hf := z_p c56 hf
                  exact hkx45 x31 x32 x33 bx35 mo36 su37 wy38 wa39 od40 pl41 hf _ _ ls  hP hD hS (lv_sub hl [0, 1, 2, 3, 4, 5, 6] rfl)
                · have hf := z_n c56 hf
                  refine lv_iload hx hb dX8_climbed_71 (lv_at hl 7 rfl) ?_
                  refine lv_iconst (v := 1) hx hb dX8_climbed_73 rfl ?_
                  refine lv_iadd hx hb dX8_climbed_74 ?_
                  refine lv_topi (fun x57 hx57 => ?_)
                  have hf := z_let_u hx57 hf
                  refine lv_istore (lv' := [(11, .int x57), (0, .ref (q 0)), (1, .int a1), (2, .int a2), (3, .long x31), (5, .long x32), (7, .int x9), (9, .int x33), (10, .int x34)]) hx hb dX8_climbed_75 hl (Nat.le_of_ble_eq_true rfl) rfl (fun ls hl => ?_)
                  have hL69 : ∀ (kx72 : Int64 → Int64 → Int32 → Bx → Mo → Su → Wy → Wa → Od → Pl → Option (Int32 × Th × Bx × Mo × Su × Wy × Wa × Od × Pl)) (hkx72 : ∀ (x73 : Int64) (x74 : Int64) (x75 : Int32) (bx76 : Bx) (mo77 : Mo) (su78 : Su) (wy79 : Wy) (wa80 : Wa) (od81 : Od) (pl82 : Pl), kx72 x73 x74 x75 bx76 mo77 su78 wy79 wa80 od81 pl82 = some res → ∀ (H : Heap) (locs : List Loc) (ls : Array Slot), va_P D vwCl (moW ac q 0 row un kp mt ps bx76 mo77 su78 wy79 wa80 od81 py ju pl82 rs) H → va_D A (moW ac q 0 row un kp mt ps bx76 mo77 su78 wy79 wa80 od81 py ju pl82 rs) → va_S A s.heap H locs → lv_has ls 12 [(0, .ref (q 0)), (1, .int a1), (2, .int a2), (3, .long x73), (5, .long x74), (7, .int x9), (9, .int x75), (10, .int x34)] → W p l e ({ frames := 7, cells := 0, slots := 0, locals := 163 } : Room) s m (([.ref (q 0), .int a1, .int a2] : List Value).toArray) below meth c H locs 0 0 (MQ below (va_Qi (fun r (_ : Unit) => r = res.1) (fun _ => zB D A (moW ac q res.2.1 row un kp mt ps res.2.2.1 res.2.2.2.1 res.2.2.2.2.1 res.2.2.2.2.2.1 res.2.2.2.2.2.2.1 res.2.2.2.2.2.2.2.1 py ju res.2.2.2.2.2.2.2.2 rs)) A) ([.ref (q 0), .int a1, .int a2] : List Value).toArray s 0 0 A) (F0 m 151 ls [])) (n70 : Nat) (x58 : Int64) (x59 : Int64) (x60 : Int32) (x61 : Int32) (bx62 : Bx) (mo63 : Mo) (su64 : Su) (wy65 : Wy) (wa66 : Wa) (od67 : Od) (pl68 : Pl), M_climbed_L77 F row a1 x34 kx72 n70 x58 x59 x60 x61 bx62 mo63 su64 wy65 wa66 od67 pl68 = some res → ∀ (H : Heap) (locs : List Loc) (ls : Array Slot), va_P D vwCl (moW ac q 0 row un kp mt ps bx62 mo63 su64 wy65 wa66 od67 py ju pl68 rs) H → va_D A (moW ac q 0 row un kp mt ps bx62 mo63 su64 wy65 wa66 od67 py ju pl68 rs) → va_S A s.heap H locs → lv_has ls 12 [(0, .ref (q 0)), (1, .int a1), (2, .int a2), (3, .long x58), (5, .long x59), (7, .int x9), (9, .int x60), (10, .int x34), (11, .int x61)] → W p l e ({ frames := 7, cells := 0, slots := 0, locals := 163 } : Room) s m (([.ref (q 0), .int a1, .int a2] : List Value).toArray) below meth c H locs 0 0 (MQ below (va_Qi (fun r (_ : Unit) => r = res.1) (fun _ => zB D A (moW ac q res.2.1 row un kp mt ps res.2.2.1 res.2.2.2.1 res.2.2.2.2.1 res.2.2.2.2.2.1 res.2.2.2.2.2.2.1 res.2.2.2.2.2.2.2.1 py ju res.2.2.2.2.2.2.2.2 rs)) A) ([.ref (q 0), .int a1, .int a2] : List Value).toArray s 0 0 A) (F0 m 77 ls []) := by
                    intro kx72 hkx72 n70
                    induction n70 with
                    | zero => intro x58 x59 x60 x61 bx62 mo63 su64 wy65 wa66 od67 pl68 hf; rw [M_climbed_L77] at hf; cases hf
                    | succ n70 ih71 =>
                      intro x58 x59 x60 x61 bx62 mo63 su64 wy65 wa66 od67 pl68 hf H locs ls hP hD hS hl
                      rw [M_climbed_L77] at hf
                      refine lv_iload hx hb dX8_climbed_77 (lv_at hl 8 rfl) ?_
                      refine lv_aload_n hx hb dX8_climbed_79 rfl (lv_at hl 0 rfl) ?_
                      refine zc_RVi (As := []) (rest := [.int x61]) hx hb hml hown htw (ctX8_n l D ac cs q 0 row un kp mt ps bx62 mo63 su64 wy65 wa66 od67 py ju pl68 rs    _ rfl) (g_V mM_RX8_190 mI_yX8_n mS_RX8_yX8_n_yX8_n mN_RX8 mC_yX8_n) rfl (hd_yX8_n) ⟨rfl, rfl⟩ ⟨(Nat.le_of_ble_eq_true rfl), (Nat.le_of_ble_eq_true rfl)⟩ hKX hC hS hP 8 rfl rfl rfl hl.1 rfl (Nat.le_of_ble_eq_true rfl) ⟨Nat.zero_le _, Nat.zero_le _⟩ dX8_climbed_80 ?_
                      refine lv_icmp_ge (tgt := 151) hx hb dX8_climbed_83 (by decide) (fun c83 => ?_) (fun c83 => ?_)
                      · have hf := z_p c83 hf
                        exact hkx72 x58 x59 x60 bx62 mo63 su64 wy65 wa66 od67 pl68 hf _ _ ls  hP hD hS (lv_sub hl [0, 1, 2, 3, 4, 5, 6, 7] rfl)
                      · have hf := z_n c83 hf
                        refine lv_aload_n hx hb dX8_climbed_86 rfl (lv_at hl 0 rfl) ?_
                        refine lv_iload hx hb dX8_climbed_87 (lv_at hl 7 rfl) ?_
                        refine lv_iload hx hb dX8_climbed_89 (lv_at hl 8 rfl) ?_
                        obtain ⟨u84, hu84, hf⟩ := z_bd_u hf
                        refine zc_MVv (As := [.int x34, .int x61]) (rest := []) (wr := []) (wsc := moW ac q 0 row un kp mt ps bx62 mo63 su64 wy65 wa66 od67 py ju pl68 rs) (wsc' := moW ac q 0 row un kp mt ps bx62 mo63 su64 wy65 wa66 od67 py ju u84 rs) hx hb hml hown htw (ctX8_swap l D ac cs q H.size 0 row un kp mt ps bx62 mo63 su64 wy65 wa66 od67 py ju pl68 rs x34 x61   u84 hu84) (g_V mM_RX8_358 mI_yX8_swap mS_RX8_yX8_swap_yX8_swap mN_RX8 mC_yX8_swap) rfl (hd_yX8_swap) ⟨rfl, rfl⟩ ⟨(Nat.le_of_ble_eq_true rfl), (Nat.le_of_ble_eq_true rfl)⟩ hKX hC hS hA hP hD [0, 1, 2, 3, 4, 5, 6, 7, 8, 9, 10, 11, 12, 13, 14, 15, 16, 17, 18, 19, 20] [] rfl (by decide) rfl (by decide) (by decide) 8 rfl rfl rfl hl.1 rfl (Nat.le_of_ble_eq_true rfl) ⟨Nat.zero_le _, Nat.zero_le _⟩ dX8_climbed_91 (fun H locs hP hD hS => ?_)
                        have hP : va_P D vwCl (moW ac q 0 row un kp mt ps bx62 mo63 su64 wy65 wa66 od67 py ju u84 rs) H := hP
                        have hD : va_D A (moW ac q 0 row un kp mt ps bx62 mo63 su64 wy65 wa66 od67 py ju u84 rs) := hD
                        refine lv_aload_n hx hb dX8_climbed_94 rfl (lv_at hl 0 rfl) ?_
                        refine lv_iload_n hx hb dX8_climbed_95 rfl (lv_at hl 1 rfl) ?_
                        obtain ⟨u85, hu85, hf⟩ := z_bd_u hf
                        refine zc_MVv (As := [.int a1]) (rest := []) (wr := []) (wsc := moW ac q 0 row un kp mt ps bx62 mo63 su64 wy65 wa66 od67 py ju u84 rs) (wsc' := moW ac q 0 row un kp mt ps u85.1 u85.2.1 u85.2.2.1 u85.2.2.2.1 u85.2.2.2.2.1 u85.2.2.2.2.2 py ju u84 rs) hx hb hml hown htw (ctX8_oddsByRow l D ac cs q H.size 0 row un kp mt ps bx62 mo63 su64 wy65 wa66 od67 py ju u84 rs a1   F u85 hu85) (g_V mM_RX8_367 mI_yX8_oddsByRow mS_RX8_yX8_oddsByRow_yX8_oddsByRow mN_RX8 mC_yX8_oddsByRow) rfl (hd_yX8_oddsByRow) ⟨rfl, rfl⟩ ⟨(Nat.le_of_ble_eq_true rfl), (Nat.le_of_ble_eq_true rfl)⟩ hKX hC hS hA hP hD [0, 1, 2, 3, 4, 5, 6, 7, 8, 9, 10, 11, 12, 13, 14, 15, 16, 17, 18, 19, 20] [] rfl (by decide) rfl (by decide) (by decide) 8 rfl rfl rfl hl.1 rfl (Nat.le_of_ble_eq_true rfl) ⟨Nat.zero_le _, Nat.zero_le _⟩ dX8_climbed_96 (fun H locs hP hD hS => ?_)
                        have hP : va_P D vwCl (moW ac q 0 row un kp mt ps u85.1 u85.2.1 u85.2.2.1 u85.2.2.2.1 u85.2.2.2.2.1 u85.2.2.2.2.2 py ju u84 rs) H := hP
                        have hD : va_D A (moW ac q 0 row un kp mt ps u85.1 u85.2.1 u85.2.2.1 u85.2.2.2.1 u85.2.2.2.2.1 u85.2.2.2.2.2 py ju u84 rs) := hD
                        refine lv_aload_n hx hb dX8_climbed_99 rfl (lv_at hl 0 rfl) ?_
                        refine lv_iload hx hb dX8_climbed_100 (lv_at hl 7 rfl) ?_
                        refine lv_iload hx hb dX8_climbed_102 (lv_at hl 8 rfl) ?_
                        obtain ⟨u86, hu86, hf⟩ := z_bd_u hf
                        refine zc_MVv (As := [.int x34, .int x61]) (rest := []) (wr := []) (wsc := moW ac q 0 row un kp mt ps u85.1 u85.2.1 u85.2.2.1 u85.2.2.2.1 u85.2.2.2.2.1 u85.2.2.2.2.2 py ju u84 rs) (wsc' := moW ac q 0 row un kp mt ps u85.1 u85.2.1 u85.2.2.1 u85.2.2.2.1 u85.2.2.2.2.1 u85.2.2.2.2.2 py ju u86 rs) hx hb hml hown htw (ctX8_swap l D ac cs q H.size 0 row un kp mt ps u85.1 u85.2.1 u85.2.2.1 u85.2.2.2.1 u85.2.2.2.2.1 u85.2.2.2.2.2 py ju u84 rs x34 x61   u86 hu86) (g_V mM_RX8_358 mI_yX8_swap mS_RX8_yX8_swap_yX8_swap mN_RX8 mC_yX8_swap) rfl (hd_yX8_swap) ⟨rfl, rfl⟩ ⟨(Nat.le_of_ble_eq_true rfl), (Nat.le_of_ble_eq_true rfl)⟩ hKX hC hS hA hP hD [0, 1, 2, 3, 4, 5, 6, 7, 8, 9, 10, 11, 12, 13, 14, 15, 16, 17, 18, 19, 20] [] rfl (by decide) rfl (by decide) (by decide) 8 rfl rfl rfl hl.1 rfl (Nat.le_of_ble_eq_true rfl) ⟨Nat.zero_le _, Nat.zero_le _⟩ dX8_climbed_104 (fun H locs hP hD hS => ?_)
                        have hP : va_P D vwCl (moW ac q 0 row un kp mt ps u85.1 u85.2.1 u85.2.2.1 u85.2.2.2.1 u85.2.2.2.2.1 u85.2.2.2.2.2 py ju u86 rs) H := hP
                        have hD : va_D A (moW ac q 0 row un kp mt ps u85.1 u85.2.1 u85.2.2.1 u85.2.2.2.1 u85.2.2.2.2.1 u85.2.2.2.2.2 py ju u86 rs) := hD
                        refine lv_aload_n hx hb dX8_climbed_107 rfl (lv_at hl 0 rfl) ?_
                        refine va_get (D := D) (ci := 8) (v := .long (od_upper u85.2.2.2.2.2)) (C := RX8) (T := TX8) (N := 41) hx hb htw WW_wsX80 hown hKX.1 hP 0 rfl rfl 31 (Nat.le_of_ble_eq_true rfl) (htw _ mF_RX8_278) (fun _ h9 => h9) rfl dX8_climbed_108 ?_
                        refine lv_aload_n hx hb dX8_climbed_111 rfl (lv_at hl 0 rfl) ?_
                        refine va_get (D := D) (ci := 8) (v := .long (od_under u85.2.2.2.2.2)) (C := RX8) (T := TX8) (N := 41) hx hb htw WW_wsX80 hown hKX.1 hP 0 rfl rfl 32 (Nat.le_of_ble_eq_true rfl) (htw _ mF_RX8_281) (fun _ h9 => h9) rfl dX8_climbed_112 ?_
                        refine lv_lload_n hx hb dX8_climbed_115 rfl (lv_at hl 3 rfl) ?_
                        refine lv_lload hx hb dX8_climbed_116 (lv_at hl 4 rfl) ?_
                        obtain ⟨r87, hr87, hf⟩ := z_bd_u hf
                        refine zc_RSi (As := [.long (od_upper u85.2.2.2.2.2), .long (od_under u85.2.2.2.2.2), .long x58, .long x59]) (rest := []) hx hb hml hown htw (ctX8_against l D ac cs   (od_upper u85.2.2.2.2.2) (od_under u85.2.2.2.2.2) x58 x59   F _ hr87) (g_S mM_RX8_349 mT_yX8_against mN_RX8 mC_yX8_against) (hd_yX8_against) ⟨rfl, rfl⟩ ⟨(Nat.le_of_ble_eq_true rfl), (Nat.le_of_ble_eq_true rfl)⟩ hKX hC hS zP0 rfl hl.1 rfl (Nat.le_of_ble_eq_true rfl) ⟨Nat.zero_le _, Nat.zero_le _⟩ dX8_climbed_118 ?_
                        refine lv_if_le (tgt := 145) hx hb dX8_climbed_121 (by decide) (fun c88 => ?_) (fun c88 => ?_)
                        · have hf := z_p c88 hf
                          obtain ⟨x89, hx89⟩ : ∃ y : Int32, y = (x61 + 1) := ⟨_, rfl⟩
                          have hf := z_let_u hx89 hf
                          refine lv_iinc (v := x89) (lv' := [(11, .int x89), (0, .ref (q 0)), (1, .int a1), (2, .int a2), (3, .long x58), (5, .long x59), (7, .int x9), (9, .int x60), (10, .int x34)]) hx hb dX8_climbed_145 hl (k := 8) rfl (by rw [hx89]; rfl) (Nat.le_of_ble_eq_true rfl) rfl (fun ls hl => ?_)
                          refine lv_goto (tgt := 77) hx hb dX8_climbed_148 (by decide) ?_
                          exact ih71 x58 x59 x60 x89 u85.1 u85.2.1 u85.2.2.1 u85.2.2.2.1 u85.2.2.2.2.1 u85.2.2.2.2.2 u86 hf _ _ ls  hP hD hS (lv_sub hl [1, 2, 3, 4, 5, 6, 7, 8, 0] rfl)
                        · have hf := z_n c88 hf
                          refine lv_bipush (v := 10) hx hb dX8_climbed_124 rfl ?_
                          refine lv_iload hx hb dX8_climbed_126 (lv_at hl 7 rfl) ?_
                          refine lv_imul hx hb dX8_climbed_128 ?_
                          refine lv_iload hx hb dX8_climbed_129 (lv_at hl 8 rfl) ?_
                          refine lv_iadd hx hb dX8_climbed_131 ?_
                          refine lv_topi (fun x90 hx90 => ?_)
                          have hf := z_let_u hx90 hf
                          refine lv_istore (lv' := [(9, .int x90), (0, .ref (q 0)), (1, .int a1), (2, .int a2), (3, .long x58), (5, .long x59), (7, .int x9), (10, .int x34), (11, .int x61)]) hx hb dX8_climbed_132 hl (Nat.le_of_ble_eq_true rfl) rfl (fun ls hl => ?_)
                          refine lv_aload_n hx hb dX8_climbed_134 rfl (lv_at hl 1 rfl) ?_
                          refine va_get (D := D) (ci := 8) (v := .long (od_upper u85.2.2.2.2.2)) (C := RX8) (T := TX8) (N := 41) hx hb htw WW_wsX80 hown hKX.1 hP 0 rfl rfl 31 (Nat.le_of_ble_eq_true rfl) (htw _ mF_RX8_278) (fun _ h9 => h9) rfl dX8_climbed_135 ?_
                          refine lv_topl (fun x91 hx91 => ?_)
                          have hf := z_let_u hx91 hf
                          refine lv_lstore_n (lv' := [(3, .long x91), (9, .int x90), (0, .ref (q 0)), (1, .int a1), (2, .int a2), (5, .long x59), (7, .int x9), (10, .int x34), (11, .int x61)]) hx hb dX8_climbed_138 rfl hl (Nat.le_of_ble_eq_true rfl) rfl (fun ls hl => ?_)
                          refine lv_aload_n hx hb dX8_climbed_139 rfl (lv_at hl 2 rfl) ?_
                          refine va_get (D := D) (ci := 8) (v := .long (od_under u85.2.2.2.2.2)) (C := RX8) (T := TX8) (N := 41) hx hb htw WW_wsX80 hown hKX.1 hP 0 rfl rfl 32 (Nat.le_of_ble_eq_true rfl) (htw _ mF_RX8_281) (fun _ h9 => h9) rfl dX8_climbed_140 ?_
                          refine lv_topl (fun x92 hx92 => ?_)
                          have hf := z_let_u hx92 hf
                          refine lv_lstore (lv' := [(5, .long x92), (3, .long x91), (9, .int x90), (0, .ref (q 0)), (1, .int a1), (2, .int a2), (7, .int x9), (10, .int x34), (11, .int x61)]) hx hb dX8_climbed_143 hl (Nat.le_of_ble_eq_true rfl) rfl (fun ls hl => ?_)
                          obtain ⟨x93, hx93⟩ : ∃ y : Int32, y = (x61 + 1) := ⟨_, rfl⟩
                          have hf := z_let_u hx93 hf
                          refine lv_iinc (v := x93) (lv' := [(11, .int x93), (5, .long x92), (3, .long x91), (9, .int x90), (0, .ref (q 0)), (1, .int a1), (2, .int a2), (7, .int x9), (10, .int x34)]) hx hb dX8_climbed_145 hl (k := 8) rfl (by rw [hx93]; rfl) (Nat.le_of_ble_eq_true rfl) rfl (fun ls hl => ?_)
                          refine lv_goto (tgt := 77) hx hb dX8_climbed_148 (by decide) ?_
                          exact ih71 x91 x92 x90 x93 u85.1 u85.2.1 u85.2.2.1 u85.2.2.2.1 u85.2.2.2.2.1 u85.2.2.2.2.2 u86 hf _ _ ls  hP hD hS (lv_sub hl [4, 5, 6, 2, 1, 7, 3, 8, 0] rfl)
                  refine hL69 _ ?_ F x31 x32 x33 x57 bx35 mo36 su37 wy38 wa39 od40 pl41 hf _ _ ls  hP hD hS (lv_sub hl [1, 2, 3, 4, 5, 6, 7, 8, 0] rfl)
                  intro x73 x74 x75 bx76 mo77 su78 wy79 wa80 od81 pl82 hf H locs ls hP hD hS hl
                  obtain ⟨x94, hx94⟩ : ∃ y : Int32, y = (x34 + 1) := ⟨_, rfl⟩
                  have hf := z_let_u hx94 hf
                  refine lv_iinc (v := x94) (lv' := [(10, .int x94), (0, .ref (q 0)), (1, .int a1), (2, .int a2), (3, .long x73), (5, .long x74), (7, .int x9), (9, .int x75)]) hx hb dX8_climbed_151 hl (k := 7) rfl (by rw [hx94]; rfl) (Nat.le_of_ble_eq_true rfl) rfl (fun ls hl => ?_)
                  refine lv_goto (tgt := 62) hx hb dX8_climbed_154 (by decide) ?_
                  exact ih44 x73 x74 x75 x94 bx76 mo77 su78 wy79 wa80 od81 pl82 hf _ _ ls  hP hD hS (lv_sub hl [1, 2, 3, 4, 5, 6, 7, 0] rfl)
            refine hL42 _ ?_ F x7 x8 (-1) 0 bx11 mo12 su13 wy14 wa15 od16 pl17 hf _ _ ls  hP hD hS (lv_sub hl [2, 3, 4, 5, 6, 7, 1, 0] rfl)
            intro x46 x47 x48 bx49 mo50 su51 wy52 wa53 od54 pl55 hf H locs ls hP hD hS hl
            refine lv_iload hx hb dX8_climbed_157 (lv_at hl 6 rfl) ?_
            refine lv_iconst (v := (-1)) hx hb dX8_climbed_159 rfl ?_
            have hj97 : ∀ (v95 : Int32), v95 = (if x48 = (-1) then 0 else 1) → z_b v95 = true → ∀ (H : Heap) (locs : List Loc) (ls : Array Slot), va_P D vwCl (moW ac q 0 row un kp mt ps bx49 mo50 su51 wy52 wa53 od54 py ju pl55 rs) H → va_D A (moW ac q 0 row un kp mt ps bx49 mo50 su51 wy52 wa53 od54 py ju pl55 rs) → va_S A s.heap H locs → lv_has ls 12 [(0, .ref (q 0)), (1, .int a1), (2, .int a2), (3, .long x46), (5, .long x47), (7, .int x9), (9, .int x48)] → W p l e ({ frames := 7, cells := 0, slots := 0, locals := 163 } : Room) s m (([.ref (q 0), .int a1, .int a2] : List Value).toArray) below meth c H locs 0 0 (MQ below (va_Qi (fun r (_ : Unit) => r = res.1) (fun _ => zB D A (moW ac q res.2.1 row un kp mt ps res.2.2.1 res.2.2.2.1 res.2.2.2.2.1 res.2.2.2.2.2.1 res.2.2.2.2.2.2.1 res.2.2.2.2.2.2.2.1 py ju res.2.2.2.2.2.2.2.2 rs)) A) ([.ref (q 0), .int a1, .int a2] : List Value).toArray s 0 0 A) (F0 m 168 ls [.int v95]) := by
              intro v95 hv95 bv95 H locs ls hP hD hS hl
              have hf := z_let_u hv95 hf
              refine lv_istore (lv' := [(8, .int v95), (0, .ref (q 0)), (1, .int a1), (2, .int a2), (3, .long x46), (5, .long x47), (7, .int x9), (9, .int x48)]) hx hb dX8_climbed_168 hl (Nat.le_of_ble_eq_true rfl) rfl (fun ls hl => ?_)
              refine lv_iload hx hb dX8_climbed_170 (lv_at hl 0 rfl) ?_
              refine lv_if_eq (tgt := 192) hx hb dX8_climbed_172 (by decide) (fun c99 => ?_) (fun c99 => ?_)
              · have hf := z_p c99 hf
                refine lv_goto (tgt := 51) hx hb dX8_climbed_192 (by decide) ?_
                exact ih20 x46 x47 x9 v95 bx49 mo50 su51 wy52 wa53 od54 pl55 hf _ _ ls  hP hD hS (lv_sub hl [1, 2, 3, 4, 5, 6, 0] rfl)
              · have hf := z_n c99 hf
                refine lv_aload_n hx hb dX8_climbed_175 rfl (lv_at hl 1 rfl) ?_
                refine lv_iload hx hb dX8_climbed_176 (lv_at hl 7 rfl) ?_
                refine lv_bipush (v := 10) hx hb dX8_climbed_178 rfl ?_
                refine lv_idiv hx hb dX8_climbed_180 (by decide) ?_
                refine lv_iload hx hb dX8_climbed_181 (lv_at hl 7 rfl) ?_
                refine lv_bipush (v := 10) hx hb dX8_climbed_183 rfl ?_
                refine zv_irem hx hb dX8_climbed_185 (by decide) ?_
                obtain ⟨u100, hu100, hf⟩ := z_bd_u hf
                refine zc_MVv (As := [.int (x48 / 10), .int (z_rem x48 10)]) (rest := []) (wr := []) (wsc := moW ac q 0 row un kp mt ps bx49 mo50 su51 wy52 wa53 od54 py ju pl55 rs) (wsc' := moW ac q 0 row un kp mt ps bx49 mo50 su51 wy52 wa53 od54 py ju u100 rs) hx hb hml hown htw (ctX8_swap l D ac cs q H.size 0 row un kp mt ps bx49 mo50 su51 wy52 wa53 od54 py ju pl55 rs (x48 / 10) (z_rem x48 10)   u100 hu100) (g_V mM_RX8_358 mI_yX8_swap mS_RX8_yX8_swap_yX8_swap mN_RX8 mC_yX8_swap) rfl (hd_yX8_swap) ⟨rfl, rfl⟩ ⟨(Nat.le_of_ble_eq_true rfl), (Nat.le_of_ble_eq_true rfl)⟩ hKX hC hS hA hP hD [0, 1, 2, 3, 4, 5, 6, 7, 8, 9, 10, 11, 12, 13, 14, 15, 16, 17, 18, 19, 20] [] rfl (by decide) rfl (by decide) (by decide) 8 rfl rfl rfl hl.1 rfl (Nat.le_of_ble_eq_true rfl) ⟨Nat.zero_le _, Nat.zero_le _⟩ dX8_climbed_186 (fun H locs hP hD hS => ?_)
                have hP : va_P D vwCl (moW ac q 0 row un kp mt ps bx49 mo50 su51 wy52 wa53 od54 py ju u100 rs) H := hP
                have hD : va_D A (moW ac q 0 row un kp mt ps bx49 mo50 su51 wy52 wa53 od54 py ju u100 rs) := hD
                obtain ⟨x101, hx101⟩ : ∃ y : Int32, y = (x9 + 1) := ⟨_, rfl⟩
                have hf := z_let_u hx101 hf
                refine lv_iinc (v := x101) (lv' := [(7, .int x101), (8, .int v95), (0, .ref (q 0)), (1, .int a1), (2, .int a2), (3, .long x46), (5, .long x47), (9, .int x48)]) hx hb dX8_climbed_189 hl (k := 6) rfl (by rw [hx101]; rfl) (Nat.le_of_ble_eq_true rfl) rfl (fun ls hl => ?_)
                refine lv_goto (tgt := 51) hx hb dX8_climbed_192 (by decide) ?_
                exact ih20 x46 x47 x101 v95 bx49 mo50 su51 wy52 wa53 od54 u100 hf _ _ ls  hP hD hS (lv_sub hl [2, 3, 4, 5, 6, 0, 1] rfl)
            refine lv_icmp_eq (tgt := 167) hx hb dX8_climbed_160 (by decide) (fun c98 => ?_) (fun c98 => ?_)
            · skip
              refine lv_iconst (v := 0) hx hb dX8_climbed_167 rfl ?_
              exact hj97 0 (if_pos c98).symm z_b0 _ _ ls hP hD hS (lv_sub hl [0, 1, 2, 3, 4, 5, 6] rfl)
            · skip
              refine lv_iconst (v := 1) hx hb dX8_climbed_163 rfl ?_
              refine lv_goto (tgt := 168) hx hb dX8_climbed_164 (by decide) ?_
              exact hj97 1 (if_neg c98).symm z_b1 _ _ ls hP hD hS (lv_sub hl [0, 1, 2, 3, 4, 5, 6] rfl)
      refine hL18 _ ?_ F x5 x6 0 1 u4.1 u4.2.1 u4.2.2.1 u4.2.2.2.1 u4.2.2.2.2.1 u4.2.2.2.2.2 u3 hf _ _ ls  hP hD hS (lv_sub hl [4, 5, 6, 3, 2, 1, 0] rfl)
      intro x22 bx23 mo24 su25 wy26 wa27 od28 pl29 hf H locs ls hP hD hS hl
      refine lv_iload_n hx hb dX8_climbed_195 rfl (lv_at hl 1 rfl) ?_
      refine lv_if_ne (tgt := 206) hx hb dX8_climbed_196 (by decide) (fun c102 => ?_) (fun c102 => ?_)
      · have hf := z_n c102 hf
        refine lv_iload hx hb dX8_climbed_206 (lv_at hl 2 rfl) ?_
        obtain rfl := Option.some.inj hf
        exact zr_Mi hx hb hr hlocks hP hD hS dX8_climbed_208
      · have hf := z_p c102 hf
        refine lv_aload_n hx hb dX8_climbed_199 rfl (lv_at hl 0 rfl) ?_
        obtain ⟨r103, hr103, hf⟩ := z_bd_u hf
        refine zc_RVi (As := []) (rest := []) hx hb hml hown htw (ctX8_digits l D ac cs q 0 row un kp mt ps bx23 mo24 su25 wy26 wa27 od28 py ju pl29 rs    F _ hr103) (g_V mM_RX8_373 mI_yX8_digits mS_RX8_yX8_digits_yX8_digits mN_RX8 mC_yX8_digits) rfl (hd_yX8_digits) ⟨rfl, rfl⟩ ⟨(Nat.le_of_ble_eq_true rfl), (Nat.le_of_ble_eq_true rfl)⟩ hKX hC hS hP 8 rfl rfl rfl hl.1 rfl (Nat.le_of_ble_eq_true rfl) ⟨Nat.zero_le _, Nat.zero_le _⟩ dX8_climbed_200 ?_
        refine lv_goto (tgt := 208) hx hb dX8_climbed_203 (by decide) ?_
        obtain rfl := Option.some.inj hf
        exact zr_Mi hx hb hr hlocks hP hD hS dX8_climbed_208
    · have hf := z_p c2 hf
      refine lv_iconst (v := (-1)) hx hb dX8_climbed_23 rfl ?_
      obtain rfl := Option.some.inj hf
      exact zr_Mi hx hb hr hlocks hP hD hS dX8_climbed_24

theorem hd_yX8_layRows : hdY yX8_layRows 0 := by decide +kernel
def M_layRows_L11 (F : Nat) (row : MRow) (kx8 : Pl → Rs → Option (Bx × Mo × Su × Wy × Wa × Od × Pl × Rs)) : Nat → Int32 → Pl → Rs → Option (Bx × Mo × Su × Wy × Wa × Od × Pl × Rs)
  | 0, _, _, _ => none
  | n6 + 1, x2, pl3, rs4 => if x2 = 0 then (kx8 pl3 rs4) else (z_bd (M_digits F row pl3) (fun r12 : Int32 => z_gd (z_in (rs_rows rs4) 24) (z_let ((rs_rows rs4) + 1) (fun x14 : Int32 => z_bd (M_nextRow F row pl3) (fun u15 : Int32 × Pl => z_let u15.1 (fun x16 : Int32 => M_layRows_L11 F row kx8 n6 x16 u15.2 ((rs_ups rs4), (rs_lows rs4), (upd (rs_named rs4) (rs_rows rs4).toNatClampNeg r12), x14)))))))
def M_layRows_L58 (F : Nat) (row : MRow) (x17 : Int32) (kx42 : Bx → Mo → Su → Wy → Wa → Od → Pl → Rs → Option (Bx × Mo × Su × Wy × Wa × Od × Pl × Rs)) : Nat → Int32 → Bx → Mo → Su → Wy → Wa → Od → Pl → Rs → Option (Bx × Mo × Su × Wy × Wa × Od × Pl × Rs)
  | 0, _, _, _, _, _, _, _, _, _ => none
  | n40 + 1, x30, bx31, mo32, su33, wy34, wa35, od36, pl37, rs38 => if (rs_rows rs38) ≤ x30 then (kx42 bx31 mo32 su33 wy34 wa35 od36 pl37 rs38) else (z_bd (M_begin F row bx31 mo32) (fun u52 : Bx × Mo => z_gd (z_in x17 24) (z_bd (M_readRow F row pl37 ((rs_named rs38) x17.toNatClampNeg)) (fun u54 : Int32 × Pl => z_let u54.1 (fun x55 : Int32 => z_bd (M_putRow F row u52.1 u54.2 0) (fun u56 : Bx => z_jn (fun u_k59 : Int32 × Pl => z_bd (M_putRow F row u56 u_k59.2 1) (fun u61 : Bx => z_bd (M_layOdds F row u61 u52.2 su33 wy34 wa35 0) (fun u62 : Mo × Su × Wy × Wa × Od => z_let (od_upper u62.2.2.2.2) (fun x63 : Int64 => z_gd (z_in ((48 * x17) + (2 * x30)) 1152) (z_bd (M_layOdds F row u61 u62.1 u62.2.1 u62.2.2.1 u62.2.2.2.1 1) (fun u65 : Mo × Su × Wy × Wa × Od => z_let (od_upper u65.2.2.2.2) (fun x66 : Int64 => z_gd (z_in (((48 * x17) + (2 * x30)) + 1) 1152) (z_let (od_under u65.2.2.2.2) (fun x68 : Int64 => z_gd (z_in ((24 * x17) + x30) 576) (z_let (x30 + 1) (fun x70 : Int32 => M_layRows_L58 F row x17 kx42 n40 x70 u61 u65.1 u65.2.1 u65.2.2.1 u65.2.2.2.1 u65.2.2.2.2 u_k59.2 ((vp_updL (vp_updL (rs_ups rs38) ((48 * x17) + (2 * x30)).toNatClampNeg x63) (((48 * x17) + (2 * x30)) + 1).toNatClampNeg x66), (vp_updL (rs_lows rs38) ((24 * x17) + x30).toNatClampNeg x68), (rs_named rs38), (rs_rows rs38))))))))))))) (fun k59 => z_jn (fun pl71 : Pl => k59 (0, pl71)) (fun k72 => if x55 = 0 then (k72 u54.2) else (z_gd (z_in x30 24) (z_bd (M_readRow F row u54.2 ((rs_named rs38) x30.toNatClampNeg)) (fun u76 : Int32 × Pl => if u76.1 = 0 then (k72 u76.2) else (k59 (1, u76.2)))))))))))))
def M_layRows_L48 (F : Nat) (row : MRow) : Nat → Int32 → Bx → Mo → Su → Wy → Wa → Od → Pl → Rs → Option (Bx × Mo × Su × Wy × Wa × Od × Pl × Rs)
  | 0, _, _, _, _, _, _, _, _, _ => none
  | n27 + 1, x17, bx18, mo19, su20, wy21, wa22, od23, pl24, rs25 => if (rs_rows rs25) ≤ x17 then (some (bx18, mo19, su20, wy21, wa22, od23, pl24, rs25)) else (M_layRows_L58 F row x17 (fun (bx43 : Bx) (mo44 : Mo) (su45 : Su) (wy46 : Wy) (wa47 : Wa) (od48 : Od) (pl49 : Pl) (rs50 : Rs) => z_let (x17 + 1) (fun x78 : Int32 => M_layRows_L48 F row n27 x78 bx43 mo44 su45 wy46 wa47 od48 pl49 rs50)) F 0 bx18 mo19 su20 wy21 wa22 od23 pl24 rs25)
def M_layRows (F : Nat) (row : MRow) (bx : Bx) (mo : Mo) (su : Su) (wy : Wy) (wa : Wa) (od : Od) (pl : Pl) (rs : Rs) : Option (Bx × Mo × Su × Wy × Wa × Od × Pl × Rs) := z_bd (M_firstRow F pl) (fun u1 : Pl => M_layRows_L11 F row (fun (pl9 : Pl) (rs10 : Rs) => M_layRows_L48 F row F 0 bx mo su wy wa od pl9 rs10) F 1 u1 ((rs_ups rs), (rs_lows rs), (rs_named rs), 0))
set_option maxHeartbeats 4000000 in
set_option maxRecDepth 100000 in
theorem ctX8_layRows (l : Launch) (D : va_G) (ac cs : Nat → Nat) (q : Nat → Nat) (sz : Nat) (th : Th) (row : MRow) (un : Un) (kp : Kp) (mt : Mt) (ps : Ps) (bx : Bx) (mo : Mo) (su : Su) (wy : Wy) (wa : Wa) (od : Od) (py : Py) (ju : Ju) (pl : Pl) (rs : Rs) (F : Nat) (res : Bx × Mo × Su × Wy × Wa × Od × Pl × Rs) (hf : M_layRows F row bx mo su wy wa od pl rs = some res) : Met l yX8_layRows (cWW yX8_layRows cX8_layRows 5 none) { frames := 6, cells := 0, slots := 0, locals := 142 } (zM D ac cs [.ref (q 0)] (moW ac q th row un kp mt ps bx mo su wy wa od py ju pl rs) sz) (va_Qv (fun _ : Unit => True) (fun _ => zB D (va_A (moW ac q th row un kp mt ps bx mo su wy wa od py ju pl rs) sz) (moW ac q th row un kp mt ps res.1 res.2.1 res.2.2.1 res.2.2.2.1 res.2.2.2.2.1 res.2.2.2.2.2.1 py ju res.2.2.2.2.2.2.1 res.2.2.2.2.2.2.2)) (va_A (moW ac q th row un kp mt ps bx mo su wy wa od py ju pl rs) sz)) 0 0 (va_A (moW ac q th row un kp mt ps bx mo su wy wa od py ju pl rs) sz) := by
  refine Met.ofW (cc := cX8_layRows) (maxL := 5) (ret := none) (by decide) rfl ?_
  intro p e s m args below meth c s₁ B hml hv
  obtain ⟨rfl, hsz, hP, hKX, hD0, hC⟩ := hv
  have hx := B.exec
  have hb := B.bytes
  have hr := B.returns
  have hts := atoms_spec (ws := cWW yX8_layRows cX8_layRows 5 none) B.pre
  have htw : ∀ w ∈ WW, w.before _ s = true := fun w h => hts w (List.mem_cons_of_mem _ h)
  have hown : s.vm.findClass RX8 = some m.cls := findClass_of_methodNamed B.named
  have hlocks := B.notSynchronized
  clear hts B
  subst hsz
  have hD := hD0.self (sz := s.heap.size)
  generalize hAe : va_A (moW ac q th row un kp mt ps bx mo su wy wa od py ju pl rs) s.heap.size = A at hD hC ⊢
  have hA : ∀ q : Nat, s.heap.size ≤ q → A q := fun q h => by rw [← hAe]; exact Or.inr h
  have hS : va_S A s.heap s.heap [] := va_S.rf
  clear hD0 hAe
  have hP : va_P D vwCl (moW ac q th row un kp mt ps bx mo su wy wa od py ju pl rs) s.heap := hP
  have hl := lv_entry ([.ref (q 0)]) (n := 5) (Nat.le_of_ble_eq_true rfl)
  rw [lg_entry_eq]
  generalize (lg_sl ([.ref (q 0)]) ++ List.replicate (5 - (lg_sl ([.ref (q 0)])).length) Slot.unset).toArray = ls at hl ⊢
  have hl : lv_has ls 5 [(0, .ref (q 0))] := hl
  unfold M_layRows at hf
  show W p l e ({ frames := 6, cells := 0, slots := 0, locals := 142 } : Room) s m _ below meth c s.heap [] 0 0 _ (F0 m 0 ls [])
  refine lv_aload_n hx hb dX8_layRows_0 rfl (lv_at hl 0 rfl) ?_
  refine lv_iconst (v := 0) hx hb dX8_layRows_1 rfl ?_
  refine va_put (D := D) (ci := 8) (v := .int 0) (ty := tyX8 40) (C := RX8) (T := TX8) (N := 41) hx hb htw WW_wsX80 tyX8 tyX8_ok nmX8 hown hKX.1 hP hD hS 0 rfl rfl 40 (Nat.le_of_ble_eq_true rfl) (htw _ mF_RX8_379) (fun _ h9 => h9) rfl (tyX8_ok 40 (Nat.le_of_ble_eq_true rfl)) rfl rfl (Nat.le_of_ble_eq_true rfl) dX8_layRows_2 (fun H locs hP hD hS => ?_)
  have hP : va_P D vwCl (moW ac q th row un kp mt ps bx mo su wy wa od py ju pl ((rs_ups rs), (rs_lows rs), (rs_named rs), 0)) H := hP
  have hD : va_D A (moW ac q th row un kp mt ps bx mo su wy wa od py ju pl ((rs_ups rs), (rs_lows rs), (rs_named rs), 0)) := hD
  refine lv_aload_n hx hb dX8_layRows_5 rfl (lv_at hl 0 rfl) ?_
  obtain ⟨u1, hu1, hf⟩ := z_bd_u hf
  refine zc_MVv (As := []) (rest := []) (wr := []) (wsc := moW ac q th row un kp mt ps bx mo su wy wa od py ju pl ((rs_ups rs), (rs_lows rs), (rs_named rs), 0)) (wsc' := moW ac q th row un kp mt ps bx mo su wy wa od py ju u1 ((rs_ups rs), (rs_lows rs), (rs_named rs), 0)) hx hb hml hown htw (ctX8_firstRow l D ac cs q H.size th row un kp mt ps bx mo su wy wa od py ju pl ((rs_ups rs), (rs_lows rs), (rs_named rs), 0)    F u1 hu1) (g_V mM_RX8_370 mI_yX8_firstRow mS_RX8_yX8_firstRow_yX8_firstRow mN_RX8 mC_yX8_firstRow) rfl (hd_yX8_firstRow) ⟨rfl, rfl⟩ ⟨(Nat.le_of_ble_eq_true rfl), (Nat.le_of_ble_eq_true rfl)⟩ hKX hC hS hA hP hD [0, 1, 2, 3, 4, 5, 6, 7, 8, 9, 10, 11, 12, 13, 14, 15, 16, 17, 18, 19, 20] [] rfl (by decide) rfl (by decide) (by decide) 8 rfl rfl rfl hl.1 rfl (Nat.le_of_ble_eq_true rfl) ⟨Nat.zero_le _, Nat.zero_le _⟩ dX8_layRows_6 (fun H locs hP hD hS => ?_)
  have hP : va_P D vwCl (moW ac q th row un kp mt ps bx mo su wy wa od py ju u1 ((rs_ups rs), (rs_lows rs), (rs_named rs), 0)) H := hP
  have hD : va_D A (moW ac q th row un kp mt ps bx mo su wy wa od py ju u1 ((rs_ups rs), (rs_lows rs), (rs_named rs), 0)) := hD
  refine lv_iconst (v := 1) hx hb dX8_layRows_9 rfl ?_
  refine lv_istore_n (lv' := [(1, .int 1), (0, .ref (q 0))]) hx hb dX8_layRows_10 rfl hl (Nat.le_of_ble_eq_true rfl) rfl (fun ls hl => ?_)
  have hL5 : ∀ (kx8 : Pl → Rs → Option (Bx × Mo × Su × Wy × Wa × Od × Pl × Rs)) (hkx8 : ∀ (pl9 : Pl) (rs10 : Rs), kx8 pl9 rs10 = some res → ∀ (H : Heap) (locs : List Loc) (ls : Array Slot), va_P D vwCl (moW ac q th row un kp mt ps bx mo su wy wa od py ju pl9 rs10) H → va_D A (moW ac q th row un kp mt ps bx mo su wy wa od py ju pl9 rs10) → va_S A s.heap H locs → lv_has ls 5 [(0, .ref (q 0))] → W p l e ({ frames := 6, cells := 0, slots := 0, locals := 142 } : Room) s m (([.ref (q 0)] : List Value).toArray) below meth c H locs 0 0 (MQ below (va_Qv (fun _ : Unit => True) (fun _ => zB D A (moW ac q th row un kp mt ps res.1 res.2.1 res.2.2.1 res.2.2.2.1 res.2.2.2.2.1 res.2.2.2.2.2.1 py ju res.2.2.2.2.2.2.1 res.2.2.2.2.2.2.2)) A) ([.ref (q 0)] : List Value).toArray s 0 0 A) (F0 m 46 ls [])) (n6 : Nat) (x2 : Int32) (pl3 : Pl) (rs4 : Rs), M_layRows_L11 F row kx8 n6 x2 pl3 rs4 = some res → ∀ (H : Heap) (locs : List Loc) (ls : Array Slot), va_P D vwCl (moW ac q th row un kp mt ps bx mo su wy wa od py ju pl3 rs4) H → va_D A (moW ac q th row un kp mt ps bx mo su wy wa od py ju pl3 rs4) → va_S A s.heap H locs → lv_has ls 5 [(0, .ref (q 0)), (1, .int x2)] → W p l e ({ frames := 6, cells := 0, slots := 0, locals := 142 } : Room) s m (([.ref (q 0)] : List Value).toArray) below meth c H locs 0 0 (MQ below (va_Qv (fun _ : Unit => True) (fun _ => zB D A (moW ac q th row un kp mt ps res.1 res.2.1 res.2.2.1 res.2.2.2.1 res.2.2.2.2.1 res.2.2.2.2.2.1 py ju res.2.2.2.2.2.2.1 res.2.2.2.2.2.2.2)) A) ([.ref (q 0)] : List Value).toArray s 0 0 A) (F0 m 11 ls []) := by
    intro kx8 hkx8 n6
    induction n6 with
    | zero => intro x2 pl3 rs4 hf; rw [M_layRows_L11] at hf; cases hf
    | succ n6 ih7 =>
      intro x2 pl3 rs4 hf H locs ls hP hD hS hl
      rw [M_layRows_L11] at hf
      refine lv_iload_n hx hb dX8_layRows_11 rfl (lv_at hl 1 rfl) ?_
      refine lv_if_eq (tgt := 46) hx hb dX8_layRows_12 (by decide) (fun c11 => ?_) (fun c11 => ?_)
      · have hf := z_p c11 hf
        exact hkx8 pl3 rs4 hf _ _ ls  hP hD hS (lv_sub hl [0] rfl)
      · have hf := z_n c11 hf
        refine lv_aload_n hx hb dX8_layRows_15 rfl (lv_at hl 0 rfl) ?_
        refine va_get (D := D) (ci := 8) (v := .ref (q 20)) (C := RX8) (T := TX8) (N := 41) hx hb htw WW_wsX80 hown hKX.1 hP 0 rfl rfl 39 (Nat.le_of_ble_eq_true rfl) (htw _ mF_RX8_72) (fun _ h9 => h9) rfl dX8_layRows_16 ?_
        refine lv_aload_n hx hb dX8_layRows_19 rfl (lv_at hl 0 rfl) ?_
        refine va_get (D := D) (ci := 8) (v := .int (rs_rows rs4)) (C := RX8) (T := TX8) (N := 41) hx hb htw WW_wsX80 hown hKX.1 hP 0 rfl rfl 40 (Nat.le_of_ble_eq_true rfl) (htw _ mF_RX8_379) (fun _ h9 => h9) rfl dX8_layRows_20 ?_
        refine lv_aload_n hx hb dX8_layRows_23 rfl (lv_at hl 0 rfl) ?_
        obtain ⟨r12, hr12, hf⟩ := z_bd_u hf
        refine zc_RVi (As := []) (rest := [.int (rs_rows rs4), .ref (q 20)]) hx hb hml hown htw (ctX8_digits l D ac cs q th row un kp mt ps bx mo su wy wa od py ju pl3 rs4    F _ hr12) (g_V mM_RX8_373 mI_yX8_digits mS_RX8_yX8_digits_yX8_digits mN_RX8 mC_yX8_digits) rfl (hd_yX8_digits) ⟨rfl, rfl⟩ ⟨(Nat.le_of_ble_eq_true rfl), (Nat.le_of_ble_eq_true rfl)⟩ hKX hC hS hP 8 rfl rfl rfl hl.1 rfl (Nat.le_of_ble_eq_true rfl) ⟨Nat.zero_le _, Nat.zero_le _⟩ dX8_layRows_24 ?_
        obtain ⟨g13, hf⟩ := z_gd_u hf
        refine va_iast hx hb hKX.1 hP hD hS 20 0 rfl rfl (z_in_u g13) dX8_layRows_27 (fun H locs hP hD hS => ?_)
        have hP : va_P D vwCl (moW ac q th row un kp mt ps bx mo su wy wa od py ju pl3 ((rs_ups rs4), (rs_lows rs4), (upd (rs_named rs4) (rs_rows rs4).toNatClampNeg r12), (rs_rows rs4))) H := hP
        have hD : va_D A (moW ac q th row un kp mt ps bx mo su wy wa od py ju pl3 ((rs_ups rs4), (rs_lows rs4), (upd (rs_named rs4) (rs_rows rs4).toNatClampNeg r12), (rs_rows rs4))) := hD
        refine lv_aload_n hx hb dX8_layRows_28 rfl (lv_at hl 0 rfl) ?_
        refine lv_dup hx hb dX8_layRows_29 rfl ?_
        refine va_get (D := D) (ci := 8) (v := .int (rs_rows rs4)) (C := RX8) (T := TX8) (N := 41) hx hb htw WW_wsX80 hown hKX.1 hP 0 rfl rfl 40 (Nat.le_of_ble_eq_true rfl) (htw _ mF_RX8_379) (fun _ h9 => h9) rfl dX8_layRows_30 ?_
        refine lv_iconst (v := 1) hx hb dX8_layRows_33 rfl ?_
        refine lv_iadd hx hb dX8_layRows_34 ?_
        refine lv_topi (fun x14 hx14 => ?_)
        have hf := z_let_u hx14 hf
        refine va_put (D := D) (ci := 8) (v := .int x14) (ty := tyX8 40) (C := RX8) (T := TX8) (N := 41) hx hb htw WW_wsX80 tyX8 tyX8_ok nmX8 hown hKX.1 hP hD hS 0 rfl rfl 40 (Nat.le_of_ble_eq_true rfl) (htw _ mF_RX8_379) (fun _ h9 => h9) rfl (tyX8_ok 40 (Nat.le_of_ble_eq_true rfl)) rfl rfl (Nat.le_of_ble_eq_true rfl) dX8_layRows_35 (fun H locs hP hD hS => ?_)
        have hP : va_P D vwCl (moW ac q th row un kp mt ps bx mo su wy wa od py ju pl3 ((rs_ups rs4), (rs_lows rs4), (upd (rs_named rs4) (rs_rows rs4).toNatClampNeg r12), x14)) H := hP
        have hD : va_D A (moW ac q th row un kp mt ps bx mo su wy wa od py ju pl3 ((rs_ups rs4), (rs_lows rs4), (upd (rs_named rs4) (rs_rows rs4).toNatClampNeg r12), x14)) := hD
        refine lv_aload_n hx hb dX8_layRows_38 rfl (lv_at hl 0 rfl) ?_
        obtain ⟨u15, hu15, hf⟩ := z_bd_u hf
        refine zc_MVi (As := []) (rest := []) (wr := []) (wsc := moW ac q th row un kp mt ps bx mo su wy wa od py ju pl3 ((rs_ups rs4), (rs_lows rs4), (upd (rs_named rs4) (rs_rows rs4).toNatClampNeg r12), x14)) (wsc' := moW ac q th row un kp mt ps bx mo su wy wa od py ju u15.2 ((rs_ups rs4), (rs_lows rs4), (upd (rs_named rs4) (rs_rows rs4).toNatClampNeg r12), x14)) hx hb hml hown htw (ctX8_nextRow l D ac cs q H.size th row un kp mt ps bx mo su wy wa od py ju pl3 ((rs_ups rs4), (rs_lows rs4), (upd (rs_named rs4) (rs_rows rs4).toNatClampNeg r12), x14)    F u15 hu15) (g_V mM_RX8_376 mI_yX8_nextRow mS_RX8_yX8_nextRow_yX8_nextRow mN_RX8 mC_yX8_nextRow) rfl (hd_yX8_nextRow) ⟨rfl, rfl⟩ ⟨(Nat.le_of_ble_eq_true rfl), (Nat.le_of_ble_eq_true rfl)⟩ hKX hC hS hA hP hD [0, 1, 2, 3, 4, 5, 6, 7, 8, 9, 10, 11, 12, 13, 14, 15, 16, 17, 18, 19, 20] [] rfl (by decide) rfl (by decide) (by decide) 8 rfl rfl rfl hl.1 rfl (Nat.le_of_ble_eq_true rfl) ⟨Nat.zero_le _, Nat.zero_le _⟩ dX8_layRows_39 (fun H locs hP hD hS => ?_)
        have hP : va_P D vwCl (moW ac q th row un kp mt ps bx mo su wy wa od py ju u15.2 ((rs_ups rs4), (rs_lows rs4), (upd (rs_named rs4) (rs_rows rs4).toNatClampNeg r12), x14)) H := hP
        have hD : va_D A (moW ac q th row un kp mt ps bx mo su wy wa od py ju u15.2 ((rs_ups rs4), (rs_lows rs4), (upd (rs_named rs4) (rs_rows rs4).toNatClampNeg r12), x14)) := hD
        refine lv_topi (fun x16 hx16 => ?_)
        have hf := z_let_u hx16 hf
        refine lv_istore_n (lv' := [(1, .int x16), (0, .ref (q 0))]) hx hb dX8_layRows_42 rfl hl (Nat.le_of_ble_eq_true rfl) rfl (fun ls hl => ?_)
        refine lv_goto (tgt := 11) hx hb dX8_layRows_43 (by decide) ?_
        exact ih7 x16 u15.2 ((rs_ups rs4), (rs_lows rs4), (upd (rs_named rs4) (rs_rows rs4).toNatClampNeg r12), x14) hf _ _ ls  hP hD hS (lv_sub hl [1, 0] rfl)
  refine hL5 _ ?_ F 1 u1 ((rs_ups rs), (rs_lows rs), (rs_named rs), 0) hf _ _ ls  hP hD hS (lv_sub hl [1, 0] rfl)
  intro pl9 rs10 hf H locs ls hP hD hS hl
  refine lv_iconst (v := 0) hx hb dX8_layRows_46 rfl ?_
  refine lv_istore_n (lv' := [(2, .int 0), (0, .ref (q 0))]) hx hb dX8_layRows_47 rfl hl (Nat.le_of_ble_eq_true rfl) rfl (fun ls hl => ?_)
  have hL26 : ∀ (n27 : Nat) (x17 : Int32) (bx18 : Bx) (mo19 : Mo) (su20 : Su) (wy21 : Wy) (wa22 : Wa) (od23 : Od) (pl24 : Pl) (rs25 : Rs), M_layRows_L48 F row n27 x17 bx18 mo19 su20 wy21 wa22 od23 pl24 rs25 = some res → ∀ (H : Heap) (locs : List Loc) (ls : Array Slot), va_P D vwCl (moW ac q th row un kp mt ps bx18 mo19 su20 wy21 wa22 od23 py ju pl24 rs25) H → va_D A (moW ac q th row un kp mt ps bx18 mo19 su20 wy21 wa22 od23 py ju pl24 rs25) → va_S A s.heap H locs → lv_has ls 5 [(0, .ref (q 0)), (2, .int x17)] → W p l e ({ frames := 6, cells := 0, slots := 0, locals := 142 } : Room) s m (([.ref (q 0)] : List Value).toArray) below meth c H locs 0 0 (MQ below (va_Qv (fun _ : Unit => True) (fun _ => zB D A (moW ac q th row un kp mt ps res.1 res.2.1 res.2.2.1 res.2.2.2.1 res.2.2.2.2.1 res.2.2.2.2.2.1 py ju res.2.2.2.2.2.2.1 res.2.2.2.2.2.2.2)) A) ([.ref (q 0)] : List Value).toArray s 0 0 A) (F0 m 48 ls []) := by
    intro n27
    induction n27 with
    | zero => intro x17 bx18 mo19 su20 wy21 wa22 od23 pl24 rs25 hf; rw [M_layRows_L48] at hf; cases hf
    | succ n27 ih28 =>
      intro x17 bx18 mo19 su20 wy21 wa22 od23 pl24 rs25 hf H locs ls hP hD hS hl
      rw [M_layRows_L48] at hf
      refine lv_iload_n hx hb dX8_layRows_48 rfl (lv_at hl 1 rfl) ?_
      refine lv_aload_n hx hb dX8_layRows_49 rfl (lv_at hl 0 rfl) ?_
      refine va_get (D := D) (ci := 8) (v := .int (rs_rows rs25)) (C := RX8) (T := TX8) (N := 41) hx hb htw WW_wsX80 hown hKX.1 hP 0 rfl rfl 40 (Nat.le_of_ble_eq_true rfl) (htw _ mF_RX8_379) (fun _ h9 => h9) rfl dX8_layRows_50 ?_
      refine lv_icmp_ge (tgt := 190) hx hb dX8_layRows_53 (by decide) (fun c29 => ?_) (fun c29 => ?_)
      · have hf := z_p c29 hf
        obtain rfl := Option.some.inj hf
        exact zr_Mv hx hb hr hlocks hP hD hS dX8_layRows_190
      · have hf := z_n c29 hf
        refine lv_iconst (v := 0) hx hb dX8_layRows_56 rfl ?_
        refine lv_istore_n (lv' := [(3, .int 0), (0, .ref (q 0)), (2, .int x17)]) hx hb dX8_layRows_57 rfl hl (Nat.le_of_ble_eq_true rfl) rfl (fun ls hl => ?_)
        have hL39 : ∀ (kx42 : Bx → Mo → Su → Wy → Wa → Od → Pl → Rs → Option (Bx × Mo × Su × Wy × Wa × Od × Pl × Rs)) (hkx42 : ∀ (bx43 : Bx) (mo44 : Mo) (su45 : Su) (wy46 : Wy) (wa47 : Wa) (od48 : Od) (pl49 : Pl) (rs50 : Rs), kx42 bx43 mo44 su45 wy46 wa47 od48 pl49 rs50 = some res → ∀ (H : Heap) (locs : List Loc) (ls : Array Slot), va_P D vwCl (moW ac q th row un kp mt ps bx43 mo44 su45 wy46 wa47 od48 py ju pl49 rs50) H → va_D A (moW ac q th row un kp mt ps bx43 mo44 su45 wy46 wa47 od48 py ju pl49 rs50) → va_S A s.heap H locs → lv_has ls 5 [(0, .ref (q 0)), (2, .int x17)] → W p l e ({ frames := 6, cells := 0, slots := 0, locals := 142 } : Room) s m (([.ref (q 0)] : List Value).toArray) below meth c H locs 0 0 (MQ below (va_Qv (fun _ : Unit => True) (fun _ => zB D A (moW ac q th row un kp mt ps res.1 res.2.1 res.2.2.1 res.2.2.2.1 res.2.2.2.2.1 res.2.2.2.2.2.1 py ju res.2.2.2.2.2.2.1 res.2.2.2.2.2.2.2)) A) ([.ref (q 0)] : List Value).toArray s 0 0 A) (F0 m 184 ls [])) (n40 : Nat) (x30 : Int32) (bx31 : Bx) (mo32 : Mo) (su33 : Su) (wy34 : Wy) (wa35 : Wa) (od36 : Od) (pl37 : Pl) (rs38 : Rs), M_layRows_L58 F row x17 kx42 n40 x30 bx31 mo32 su33 wy34 wa35 od36 pl37 rs38 = some res → ∀ (H : Heap) (locs : List Loc) (ls : Array Slot), va_P D vwCl (moW ac q th row un kp mt ps bx31 mo32 su33 wy34 wa35 od36 py ju pl37 rs38) H → va_D A (moW ac q th row un kp mt ps bx31 mo32 su33 wy34 wa35 od36 py ju pl37 rs38) → va_S A s.heap H locs → lv_has ls 5 [(0, .ref (q 0)), (2, .int x17), (3, .int x30)] → W p l e ({ frames := 6, cells := 0, slots := 0, locals := 142 } : Room) s m (([.ref (q 0)] : List Value).toArray) below meth c H locs 0 0 (MQ below (va_Qv (fun _ : Unit => True) (fun _ => zB D A (moW ac q th row un kp mt ps res.1 res.2.1 res.2.2.1 res.2.2.2.1 res.2.2.2.2.1 res.2.2.2.2.2.1 py ju res.2.2.2.2.2.2.1 res.2.2.2.2.2.2.2)) A) ([.ref (q 0)] : List Value).toArray s 0 0 A) (F0 m 58 ls []) := by
          intro kx42 hkx42 n40
          induction n40 with
          | zero => intro x30 bx31 mo32 su33 wy34 wa35 od36 pl37 rs38 hf; rw [M_layRows_L58] at hf; cases hf
          | succ n40 ih41 =>
            intro x30 bx31 mo32 su33 wy34 wa35 od36 pl37 rs38 hf H locs ls hP hD hS hl
            rw [M_layRows_L58] at hf
            refine lv_iload_n hx hb dX8_layRows_58 rfl (lv_at hl 2 rfl) ?_
            refine lv_aload_n hx hb dX8_layRows_59 rfl (lv_at hl 0 rfl) ?_
            refine va_get (D := D) (ci := 8) (v := .int (rs_rows rs38)) (C := RX8) (T := TX8) (N := 41) hx hb htw WW_wsX80 hown hKX.1 hP 0 rfl rfl 40 (Nat.le_of_ble_eq_true rfl) (htw _ mF_RX8_379) (fun _ h9 => h9) rfl dX8_layRows_60 ?_
            refine lv_icmp_ge (tgt := 184) hx hb dX8_layRows_63 (by decide) (fun c51 => ?_) (fun c51 => ?_)
            · have hf := z_p c51 hf
              exact hkx42 bx31 mo32 su33 wy34 wa35 od36 pl37 rs38 hf _ _ ls  hP hD hS (lv_sub hl [0, 1] rfl)
            · have hf := z_n c51 hf
              refine lv_aload_n hx hb dX8_layRows_66 rfl (lv_at hl 0 rfl) ?_
              obtain ⟨u52, hu52, hf⟩ := z_bd_u hf
              refine zc_MVv (As := []) (rest := []) (wr := []) (wsc := moW ac q th row un kp mt ps bx31 mo32 su33 wy34 wa35 od36 py ju pl37 rs38) (wsc' := moW ac q th row un kp mt ps u52.1 u52.2 su33 wy34 wa35 od36 py ju pl37 rs38) hx hb hml hown htw (ctX8_begin l D ac cs q H.size th row un kp mt ps bx31 mo32 su33 wy34 wa35 od36 py ju pl37 rs38    F u52 hu52) (g_V mM_RX8_211 mI_yX8_begin mS_RX8_yX8_begin_yX8_begin mN_RX8 mC_yX8_begin) rfl (hd_yX8_begin) ⟨rfl, rfl⟩ ⟨(Nat.le_of_ble_eq_true rfl), (Nat.le_of_ble_eq_true rfl)⟩ hKX hC hS hA hP hD [0, 1, 2, 3, 4, 5, 6, 7, 8, 9, 10, 11, 12, 13, 14, 15, 16, 17, 18, 19, 20] [] rfl (by decide) rfl (by decide) (by decide) 8 rfl rfl rfl hl.1 rfl (Nat.le_of_ble_eq_true rfl) ⟨Nat.zero_le _, Nat.zero_le _⟩ dX8_layRows_67 (fun H locs hP hD hS => ?_)
              have hP : va_P D vwCl (moW ac q th row un kp mt ps u52.1 u52.2 su33 wy34 wa35 od36 py ju pl37 rs38) H := hP
              have hD : va_D A (moW ac q th row un kp mt ps u52.1 u52.2 su33 wy34 wa35 od36 py ju pl37 rs38) := hD
              refine lv_aload_n hx hb dX8_layRows_70 rfl (lv_at hl 0 rfl) ?_
              refine lv_aload_n hx hb dX8_layRows_71 rfl (lv_at hl 0 rfl) ?_
              refine va_get (D := D) (ci := 8) (v := .ref (q 20)) (C := RX8) (T := TX8) (N := 41) hx hb htw WW_wsX80 hown hKX.1 hP 0 rfl rfl 39 (Nat.le_of_ble_eq_true rfl) (htw _ mF_RX8_72) (fun _ h9 => h9) rfl dX8_layRows_72 ?_
              refine lv_iload_n hx hb dX8_layRows_75 rfl (lv_at hl 1 rfl) ?_
              obtain ⟨g53, hf⟩ := z_gd_u hf
              refine va_iald hx hb hKX.1 hP 20 0 rfl rfl (z_in_u g53) dX8_layRows_76 ?_
              obtain ⟨u54, hu54, hf⟩ := z_bd_u hf
              refine zc_MVi (As := [.int ((rs_named rs38) x17.toNatClampNeg)]) (rest := []) (wr := []) (wsc := moW ac q th row un kp mt ps u52.1 u52.2 su33 wy34 wa35 od36 py ju pl37 rs38) (wsc' := moW ac q th row un kp mt ps u52.1 u52.2 su33 wy34 wa35 od36 py ju u54.2 rs38) hx hb hml hown htw (ctX8_readRow l D ac cs q H.size th row un kp mt ps u52.1 u52.2 su33 wy34 wa35 od36 py ju pl37 rs38 ((rs_named rs38) x17.toNatClampNeg)   F u54 hu54) (g_V mM_RX8_364 mI_yX8_readRow mS_RX8_yX8_readRow_yX8_readRow mN_RX8 mC_yX8_readRow) rfl (hd_yX8_readRow) ⟨rfl, rfl⟩ ⟨(Nat.le_of_ble_eq_true rfl), (Nat.le_of_ble_eq_true rfl)⟩ hKX hC hS hA hP hD [0, 1, 2, 3, 4, 5, 6, 7, 8, 9, 10, 11, 12, 13, 14, 15, 16, 17, 18, 19, 20] [] rfl (by decide) rfl (by decide) (by decide) 8 rfl rfl rfl hl.1 rfl (Nat.le_of_ble_eq_true rfl) ⟨Nat.zero_le _, Nat.zero_le _⟩ dX8_layRows_77 (fun H locs hP hD hS => ?_)
              have hP : va_P D vwCl (moW ac q th row un kp mt ps u52.1 u52.2 su33 wy34 wa35 od36 py ju u54.2 rs38) H := hP
              have hD : va_D A (moW ac q th row un kp mt ps u52.1 u52.2 su33 wy34 wa35 od36 py ju u54.2 rs38) := hD
              refine lv_topi (fun x55 hx55 => ?_)
              have hf := z_let_u hx55 hf
              refine lv_istore (lv' := [(4, .int x55), (0, .ref (q 0)), (2, .int x17), (3, .int x30)]) hx hb dX8_layRows_80 hl (Nat.le_of_ble_eq_true rfl) rfl (fun ls hl => ?_)
              refine lv_aload_n hx hb dX8_layRows_82 rfl (lv_at hl 1 rfl) ?_
              refine lv_iconst (v := 0) hx hb dX8_layRows_83 rfl ?_
              obtain ⟨u56, hu56, hf⟩ := z_bd_u hf
              refine zc_MVv (As := [.int 0]) (rest := []) (wr := []) (wsc := moW ac q th row un kp mt ps u52.1 u52.2 su33 wy34 wa35 od36 py ju u54.2 rs38) (wsc' := moW ac q th row un kp mt ps u56 u52.2 su33 wy34 wa35 od36 py ju u54.2 rs38) hx hb hml hown htw (ctX8_putRow l D ac cs q H.size th row un kp mt ps u52.1 u52.2 su33 wy34 wa35 od36 py ju u54.2 rs38 0   F u56 hu56) (g_V mM_RX8_361 mI_yX8_putRow mS_RX8_yX8_putRow_yX8_putRow mN_RX8 mC_yX8_putRow) rfl (hd_yX8_putRow) ⟨rfl, rfl⟩ ⟨(Nat.le_of_ble_eq_true rfl), (Nat.le_of_ble_eq_true rfl)⟩ hKX hC hS hA hP hD [0, 1, 2, 3, 4, 5, 6, 7, 8, 9, 10, 11, 12, 13, 14, 15, 16, 17, 18, 19, 20] [] rfl (by decide) rfl (by decide) (by decide) 8 rfl rfl rfl hl.1 rfl (Nat.le_of_ble_eq_true rfl) ⟨Nat.zero_le _, Nat.zero_le _⟩ dX8_layRows_84 (fun H locs hP hD hS => ?_)
              have hP : va_P D vwCl (moW ac q th row un kp mt ps u56 u52.2 su33 wy34 wa35 od36 py ju u54.2 rs38) H := hP
              have hD : va_D A (moW ac q th row un kp mt ps u56 u52.2 su33 wy34 wa35 od36 py ju u54.2 rs38) := hD
              refine lv_iload hx hb dX8_layRows_87 (lv_at hl 0 rfl) ?_
              obtain ⟨k59, hk59, hf⟩ := z_jn_u hf
              have hj60 : ∀ (v57 : Int32) (pl58 : Pl), k59 (v57, pl58) = some res → ∀ (H : Heap) (locs : List Loc) (ls : Array Slot), va_P D vwCl (moW ac q th row un kp mt ps u56 u52.2 su33 wy34 wa35 od36 py ju pl58 rs38) H → va_D A (moW ac q th row un kp mt ps u56 u52.2 su33 wy34 wa35 od36 py ju pl58 rs38) → va_S A s.heap H locs → lv_has ls 5 [(0, .ref (q 0)), (2, .int x17), (3, .int x30)] → W p l e ({ frames := 6, cells := 0, slots := 0, locals := 142 } : Room) s m (([.ref (q 0)] : List Value).toArray) below meth c H locs 0 0 (MQ below (va_Qv (fun _ : Unit => True) (fun _ => zB D A (moW ac q th row un kp mt ps res.1 res.2.1 res.2.2.1 res.2.2.2.1 res.2.2.2.2.1 res.2.2.2.2.2.1 py ju res.2.2.2.2.2.2.1 res.2.2.2.2.2.2.2)) A) ([.ref (q 0)] : List Value).toArray s 0 0 A) (F0 m 110 ls [.int v57]) := by
                intro v57 pl58 hf H locs ls hP hD hS hl
                have hf := hk59 _ hf
                refine lv_istore (lv' := [(4, .int v57), (0, .ref (q 0)), (2, .int x17), (3, .int x30)]) hx hb dX8_layRows_110 hl (Nat.le_of_ble_eq_true rfl) rfl (fun ls hl => ?_)
                refine lv_aload_n hx hb dX8_layRows_112 rfl (lv_at hl 1 rfl) ?_
                refine lv_iconst (v := 1) hx hb dX8_layRows_113 rfl ?_
                obtain ⟨u61, hu61, hf⟩ := z_bd_u hf
                refine zc_MVv (As := [.int 1]) (rest := []) (wr := []) (wsc := moW ac q th row un kp mt ps u56 u52.2 su33 wy34 wa35 od36 py ju pl58 rs38) (wsc' := moW ac q th row un kp mt ps u61 u52.2 su33 wy34 wa35 od36 py ju pl58 rs38) hx hb hml hown htw (ctX8_putRow l D ac cs q H.size th row un kp mt ps u56 u52.2 su33 wy34 wa35 od36 py ju pl58 rs38 1   F u61 hu61) (g_V mM_RX8_361 mI_yX8_putRow mS_RX8_yX8_putRow_yX8_putRow mN_RX8 mC_yX8_putRow) rfl (hd_yX8_putRow) ⟨rfl, rfl⟩ ⟨(Nat.le_of_ble_eq_true rfl), (Nat.le_of_ble_eq_true rfl)⟩ hKX hC hS hA hP hD [0, 1, 2, 3, 4, 5, 6, 7, 8, 9, 10, 11, 12, 13, 14, 15, 16, 17, 18, 19, 20] [] rfl (by decide) rfl (by decide) (by decide) 8 rfl rfl rfl hl.1 rfl (Nat.le_of_ble_eq_true rfl) ⟨Nat.zero_le _, Nat.zero_le _⟩ dX8_layRows_114 (fun H locs hP hD hS => ?_)
                have hP : va_P D vwCl (moW ac q th row un kp mt ps u61 u52.2 su33 wy34 wa35 od36 py ju pl58 rs38) H := hP
                have hD : va_D A (moW ac q th row un kp mt ps u61 u52.2 su33 wy34 wa35 od36 py ju pl58 rs38) := hD
                refine lv_aload_n hx hb dX8_layRows_117 rfl (lv_at hl 1 rfl) ?_
                refine lv_iconst (v := 0) hx hb dX8_layRows_118 rfl ?_
                obtain ⟨u62, hu62, hf⟩ := z_bd_u hf
                refine zc_MVv (As := [.int 0]) (rest := []) (wr := []) (wsc := moW ac q th row un kp mt ps u61 u52.2 su33 wy34 wa35 od36 py ju pl58 rs38) (wsc' := moW ac q th row un kp mt ps u61 u62.1 u62.2.1 u62.2.2.1 u62.2.2.2.1 u62.2.2.2.2 py ju pl58 rs38) hx hb hml hown htw (ctX8_layOdds l D ac cs q H.size th row un kp mt ps u61 u52.2 su33 wy34 wa35 od36 py ju pl58 rs38 0   F u62 hu62) (g_V mM_RX8_334 mI_yX8_layOdds mS_RX8_yX8_layOdds_yX8_layOdds mN_RX8 mC_yX8_layOdds) rfl (hd_yX8_layOdds) ⟨rfl, rfl⟩ ⟨(Nat.le_of_ble_eq_true rfl), (Nat.le_of_ble_eq_true rfl)⟩ hKX hC hS hA hP hD [0, 1, 2, 3, 4, 5, 6, 7, 8, 9, 10, 11, 12, 13, 14, 15, 16, 17, 18, 19, 20] [] rfl (by decide) rfl (by decide) (by decide) 8 rfl rfl rfl hl.1 rfl (Nat.le_of_ble_eq_true rfl) ⟨Nat.zero_le _, Nat.zero_le _⟩ dX8_layRows_119 (fun H locs hP hD hS => ?_)
                have hP : va_P D vwCl (moW ac q th row un kp mt ps u61 u62.1 u62.2.1 u62.2.2.1 u62.2.2.2.1 u62.2.2.2.2 py ju pl58 rs38) H := hP
                have hD : va_D A (moW ac q th row un kp mt ps u61 u62.1 u62.2.1 u62.2.2.1 u62.2.2.2.1 u62.2.2.2.2 py ju pl58 rs38) := hD
                refine lv_aload_n hx hb dX8_layRows_122 rfl (lv_at hl 1 rfl) ?_
                refine va_get (D := D) (ci := 8) (v := .ref (q 18)) (C := RX8) (T := TX8) (N := 41) hx hb htw WW_wsX80 hown hKX.1 hP 0 rfl rfl 37 (Nat.le_of_ble_eq_true rfl) (htw _ mF_RX8_66) (fun _ h9 => h9) rfl dX8_layRows_123 ?_
                refine lv_bipush (v := 48) hx hb dX8_layRows_126 rfl ?_
                refine lv_iload_n hx hb dX8_layRows_128 rfl (lv_at hl 2 rfl) ?_
                refine lv_imul hx hb dX8_layRows_129 ?_
                refine lv_iconst (v := 2) hx hb dX8_layRows_130 rfl ?_
                refine lv_iload_n hx hb dX8_layRows_131 rfl (lv_at hl 3 rfl) ?_
                refine lv_imul hx hb dX8_layRows_132 ?_
                refine lv_iadd hx hb dX8_layRows_133 ?_
                refine lv_aload_n hx hb dX8_layRows_134 rfl (lv_at hl 1 rfl) ?_
                refine va_get (D := D) (ci := 8) (v := .long (od_upper u62.2.2.2.2)) (C := RX8) (T := TX8) (N := 41) hx hb htw WW_wsX80 hown hKX.1 hP 0 rfl rfl 31 (Nat.le_of_ble_eq_true rfl) (htw _ mF_RX8_278) (fun _ h9 => h9) rfl dX8_layRows_135 ?_
                refine lv_topl (fun x63 hx63 => ?_)
                have hf := z_let_u hx63 hf
                obtain ⟨g64, hf⟩ := z_gd_u hf
                refine va_last hx hb hKX.1 hP hD hS 18 1 rfl rfl (z_in_u g64) dX8_layRows_138 (fun H locs hP hD hS => ?_)
                have hP : va_P D vwCl (moW ac q th row un kp mt ps u61 u62.1 u62.2.1 u62.2.2.1 u62.2.2.2.1 u62.2.2.2.2 py ju pl58 ((vp_updL (rs_ups rs38) ((48 * x17) + (2 * x30)).toNatClampNeg x63), (rs_lows rs38), (rs_named rs38), (rs_rows rs38))) H := hP
                have hD : va_D A (moW ac q th row un kp mt ps u61 u62.1 u62.2.1 u62.2.2.1 u62.2.2.2.1 u62.2.2.2.2 py ju pl58 ((vp_updL (rs_ups rs38) ((48 * x17) + (2 * x30)).toNatClampNeg x63), (rs_lows rs38), (rs_named rs38), (rs_rows rs38))) := hD
                refine lv_aload_n hx hb dX8_layRows_139 rfl (lv_at hl 1 rfl) ?_
                refine lv_iconst (v := 1) hx hb dX8_layRows_140 rfl ?_
                obtain ⟨u65, hu65, hf⟩ := z_bd_u hf
                refine zc_MVv (As := [.int 1]) (rest := []) (wr := []) (wsc := moW ac q th row un kp mt ps u61 u62.1 u62.2.1 u62.2.2.1 u62.2.2.2.1 u62.2.2.2.2 py ju pl58 ((vp_updL (rs_ups rs38) ((48 * x17) + (2 * x30)).toNatClampNeg x63), (rs_lows rs38), (rs_named rs38), (rs_rows rs38))) (wsc' := moW ac q th row un kp mt ps u61 u65.1 u65.2.1 u65.2.2.1 u65.2.2.2.1 u65.2.2.2.2 py ju pl58 ((vp_updL (rs_ups rs38) ((48 * x17) + (2 * x30)).toNatClampNeg x63), (rs_lows rs38), (rs_named rs38), (rs_rows rs38))) hx hb hml hown htw (ctX8_layOdds l D ac cs q H.size th row un kp mt ps u61 u62.1 u62.2.1 u62.2.2.1 u62.2.2.2.1 u62.2.2.2.2 py ju pl58 ((vp_updL (rs_ups rs38) ((48 * x17) + (2 * x30)).toNatClampNeg x63), (rs_lows rs38), (rs_named rs38), (rs_rows rs38)) 1   F u65 hu65) (g_V mM_RX8_334 mI_yX8_layOdds mS_RX8_yX8_layOdds_yX8_layOdds mN_RX8 mC_yX8_layOdds) rfl (hd_yX8_layOdds) ⟨rfl, rfl⟩ ⟨(Nat.le_of_ble_eq_true rfl), (Nat.le_of_ble_eq_true rfl)⟩ hKX hC hS hA hP hD [0, 1, 2, 3, 4, 5, 6, 7, 8, 9, 10, 11, 12, 13, 14, 15, 16, 17, 18, 19, 20] [] rfl (by decide) rfl (by decide) (by decide) 8 rfl rfl rfl hl.1 rfl (Nat.le_of_ble_eq_true rfl) ⟨Nat.zero_le _, Nat.zero_le _⟩ dX8_layRows_141 (fun H locs hP hD hS => ?_)
                have hP : va_P D vwCl (moW ac q th row un kp mt ps u61 u65.1 u65.2.1 u65.2.2.1 u65.2.2.2.1 u65.2.2.2.2 py ju pl58 ((vp_updL (rs_ups rs38) ((48 * x17) + (2 * x30)).toNatClampNeg x63), (rs_lows rs38), (rs_named rs38), (rs_rows rs38))) H := hP
                have hD : va_D A (moW ac q th row un kp mt ps u61 u65.1 u65.2.1 u65.2.2.1 u65.2.2.2.1 u65.2.2.2.2 py ju pl58 ((vp_updL (rs_ups rs38) ((48 * x17) + (2 * x30)).toNatClampNeg x63), (rs_lows rs38), (rs_named rs38), (rs_rows rs38))) := hD
                refine lv_aload_n hx hb dX8_layRows_144 rfl (lv_at hl 1 rfl) ?_
                refine va_get (D := D) (ci := 8) (v := .ref (q 18)) (C := RX8) (T := TX8) (N := 41) hx hb htw WW_wsX80 hown hKX.1 hP 0 rfl rfl 37 (Nat.le_of_ble_eq_true rfl) (htw _ mF_RX8_66) (fun _ h9 => h9) rfl dX8_layRows_145 ?_
                refine lv_bipush (v := 48) hx hb dX8_layRows_148 rfl ?_
                refine lv_iload_n hx hb dX8_layRows_150 rfl (lv_at hl 2 rfl) ?_
                refine lv_imul hx hb dX8_layRows_151 ?_
                refine lv_iconst (v := 2) hx hb dX8_layRows_152 rfl ?_
                refine lv_iload_n hx hb dX8_layRows_153 rfl (lv_at hl 3 rfl) ?_
                refine lv_imul hx hb dX8_layRows_154 ?_
                refine lv_iadd hx hb dX8_layRows_155 ?_
                refine lv_iconst (v := 1) hx hb dX8_layRows_156 rfl ?_
                refine lv_iadd hx hb dX8_layRows_157 ?_
                refine lv_aload_n hx hb dX8_layRows_158 rfl (lv_at hl 1 rfl) ?_
                refine va_get (D := D) (ci := 8) (v := .long (od_upper u65.2.2.2.2)) (C := RX8) (T := TX8) (N := 41) hx hb htw WW_wsX80 hown hKX.1 hP 0 rfl rfl 31 (Nat.le_of_ble_eq_true rfl) (htw _ mF_RX8_278) (fun _ h9 => h9) rfl dX8_layRows_159 ?_
                refine lv_topl (fun x66 hx66 => ?_)
                have hf := z_let_u hx66 hf
                obtain ⟨g67, hf⟩ := z_gd_u hf
                refine va_last hx hb hKX.1 hP hD hS 18 1 rfl rfl (z_in_u g67) dX8_layRows_162 (fun H locs hP hD hS => ?_)
                have hP : va_P D vwCl (moW ac q th row un kp mt ps u61 u65.1 u65.2.1 u65.2.2.1 u65.2.2.2.1 u65.2.2.2.2 py ju pl58 ((vp_updL (vp_updL (rs_ups rs38) ((48 * x17) + (2 * x30)).toNatClampNeg x63) (((48 * x17) + (2 * x30)) + 1).toNatClampNeg x66), (rs_lows rs38), (rs_named rs38), (rs_rows rs38))) H := hP
                have hD : va_D A (moW ac q th row un kp mt ps u61 u65.1 u65.2.1 u65.2.2.1 u65.2.2.2.1 u65.2.2.2.2 py ju pl58 ((vp_updL (vp_updL (rs_ups rs38) ((48 * x17) + (2 * x30)).toNatClampNeg x63) (((48 * x17) + (2 * x30)) + 1).toNatClampNeg x66), (rs_lows rs38), (rs_named rs38), (rs_rows rs38))) := hD
                refine lv_aload_n hx hb dX8_layRows_163 rfl (lv_at hl 1 rfl) ?_
                refine va_get (D := D) (ci := 8) (v := .ref (q 19)) (C := RX8) (T := TX8) (N := 41) hx hb htw WW_wsX80 hown hKX.1 hP 0 rfl rfl 38 (Nat.le_of_ble_eq_true rfl) (htw _ mF_RX8_69) (fun _ h9 => h9) rfl dX8_layRows_164 ?_
                refine lv_bipush (v := 24) hx hb dX8_layRows_167 rfl ?_
                refine lv_iload_n hx hb dX8_layRows_169 rfl (lv_at hl 2 rfl) ?_
                refine lv_imul hx hb dX8_layRows_170 ?_
                refine lv_iload_n hx hb dX8_layRows_171 rfl (lv_at hl 3 rfl) ?_
                refine lv_iadd hx hb dX8_layRows_172 ?_
                refine lv_aload_n hx hb dX8_layRows_173 rfl (lv_at hl 1 rfl) ?_
                refine va_get (D := D) (ci := 8) (v := .long (od_under u65.2.2.2.2)) (C := RX8) (T := TX8) (N := 41) hx hb htw WW_wsX80 hown hKX.1 hP 0 rfl rfl 32 (Nat.le_of_ble_eq_true rfl) (htw _ mF_RX8_281) (fun _ h9 => h9) rfl dX8_layRows_174 ?_
                refine lv_topl (fun x68 hx68 => ?_)
                have hf := z_let_u hx68 hf
                obtain ⟨g69, hf⟩ := z_gd_u hf
                refine va_last hx hb hKX.1 hP hD hS 19 1 rfl rfl (z_in_u g69) dX8_layRows_177 (fun H locs hP hD hS => ?_)
                have hP : va_P D vwCl (moW ac q th row un kp mt ps u61 u65.1 u65.2.1 u65.2.2.1 u65.2.2.2.1 u65.2.2.2.2 py ju pl58 ((vp_updL (vp_updL (rs_ups rs38) ((48 * x17) + (2 * x30)).toNatClampNeg x63) (((48 * x17) + (2 * x30)) + 1).toNatClampNeg x66), (vp_updL (rs_lows rs38) ((24 * x17) + x30).toNatClampNeg x68), (rs_named rs38), (rs_rows rs38))) H := hP
                have hD : va_D A (moW ac q th row un kp mt ps u61 u65.1 u65.2.1 u65.2.2.1 u65.2.2.2.1 u65.2.2.2.2 py ju pl58 ((vp_updL (vp_updL (rs_ups rs38) ((48 * x17) + (2 * x30)).toNatClampNeg x63) (((48 * x17) + (2 * x30)) + 1).toNatClampNeg x66), (vp_updL (rs_lows rs38) ((24 * x17) + x30).toNatClampNeg x68), (rs_named rs38), (rs_rows rs38))) := hD
                obtain ⟨x70, hx70⟩ : ∃ y : Int32, y = (x30 + 1) := ⟨_, rfl⟩
                have hf := z_let_u hx70 hf
                refine lv_iinc (v := x70) (lv' := [(3, .int x70), (4, .int v57), (0, .ref (q 0)), (2, .int x17)]) hx hb dX8_layRows_178 hl (k := 3) rfl (by rw [hx70]; rfl) (Nat.le_of_ble_eq_true rfl) rfl (fun ls hl => ?_)
                refine lv_goto (tgt := 58) hx hb dX8_layRows_181 (by decide) ?_
                exact ih41 x70 u61 u65.1 u65.2.1 u65.2.2.1 u65.2.2.2.1 u65.2.2.2.2 pl58 ((vp_updL (vp_updL (rs_ups rs38) ((48 * x17) + (2 * x30)).toNatClampNeg x63) (((48 * x17) + (2 * x30)) + 1).toNatClampNeg x66), (vp_updL (rs_lows rs38) ((24 * x17) + x30).toNatClampNeg x68), (rs_named rs38), (rs_rows rs38)) hf _ _ ls  hP hD hS (lv_sub hl [2, 3, 0] rfl)
              obtain ⟨k72, hk72, hf⟩ := z_jn_u hf
              have hj73 : ∀ (pl71 : Pl), k72 pl71 = some res → ∀ (H : Heap) (locs : List Loc) (ls : Array Slot), va_P D vwCl (moW ac q th row un kp mt ps u56 u52.2 su33 wy34 wa35 od36 py ju pl71 rs38) H → va_D A (moW ac q th row un kp mt ps u56 u52.2 su33 wy34 wa35 od36 py ju pl71 rs38) → va_S A s.heap H locs → lv_has ls 5 [(0, .ref (q 0)), (2, .int x17), (3, .int x30)] → W p l e ({ frames := 6, cells := 0, slots := 0, locals := 142 } : Room) s m (([.ref (q 0)] : List Value).toArray) below meth c H locs 0 0 (MQ below (va_Qv (fun _ : Unit => True) (fun _ => zB D A (moW ac q th row un kp mt ps res.1 res.2.1 res.2.2.1 res.2.2.2.1 res.2.2.2.2.1 res.2.2.2.2.2.1 py ju res.2.2.2.2.2.2.1 res.2.2.2.2.2.2.2)) A) ([.ref (q 0)] : List Value).toArray s 0 0 A) (F0 m 109 ls []) := by
                intro pl71 hf H locs ls hP hD hS hl
                have hf := hk72 _ hf
                refine lv_iconst (v := 0) hx hb dX8_layRows_109 rfl ?_
                exact hj60 0 pl71 hf _ _ ls  hP hD hS (lv_sub hl [0, 1, 2] rfl)
              refine lv_if_eq (tgt := 109) hx hb dX8_layRows_89 (by decide) (fun c74 => ?_) (fun c74 => ?_)
              · have hf := z_p c74 hf
                exact hj73 u54.2 hf _ _ ls  hP hD hS (lv_sub hl [1, 2, 3] rfl)
              · have hf := z_n c74 hf
                refine lv_aload_n hx hb dX8_layRows_92 rfl (lv_at hl 1 rfl) ?_
                refine lv_aload_n hx hb dX8_layRows_93 rfl (lv_at hl 1 rfl) ?_
                refine va_get (D := D) (ci := 8) (v := .ref (q 20)) (C := RX8) (T := TX8) (N := 41) hx hb htw WW_wsX80 hown hKX.1 hP 0 rfl rfl 39 (Nat.le_of_ble_eq_true rfl) (htw _ mF_RX8_72) (fun _ h9 => h9) rfl dX8_layRows_94 ?_
                refine lv_iload_n hx hb dX8_layRows_97 rfl (lv_at hl 3 rfl) ?_
                obtain ⟨g75, hf⟩ := z_gd_u hf
                refine va_iald hx hb hKX.1 hP 20 0 rfl rfl (z_in_u g75) dX8_layRows_98 ?_
                obtain ⟨u76, hu76, hf⟩ := z_bd_u hf
                refine zc_MVi (As := [.int ((rs_named rs38) x30.toNatClampNeg)]) (rest := []) (wr := []) (wsc := moW ac q th row un kp mt ps u56 u52.2 su33 wy34 wa35 od36 py ju u54.2 rs38) (wsc' := moW ac q th row un kp mt ps u56 u52.2 su33 wy34 wa35 od36 py ju u76.2 rs38) hx hb hml hown htw (ctX8_readRow l D ac cs q H.size th row un kp mt ps u56 u52.2 su33 wy34 wa35 od36 py ju u54.2 rs38 ((rs_named rs38) x30.toNatClampNeg)   F u76 hu76) (g_V mM_RX8_364 mI_yX8_readRow mS_RX8_yX8_readRow_yX8_readRow mN_RX8 mC_yX8_readRow) rfl (hd_yX8_readRow) ⟨rfl, rfl⟩ ⟨(Nat.le_of_ble_eq_true rfl), (Nat.le_of_ble_eq_true rfl)⟩ hKX hC hS hA hP hD [0, 1, 2, 3, 4, 5, 6, 7, 8, 9, 10, 11, 12, 13, 14, 15, 16, 17, 18, 19, 20] [] rfl (by decide) rfl (by decide) (by decide) 8 rfl rfl rfl hl.1 rfl (Nat.le_of_ble_eq_true rfl) ⟨Nat.zero_le _, Nat.zero_le _⟩ dX8_layRows_99 (fun H locs hP hD hS => ?_)
                have hP : va_P D vwCl (moW ac q th row un kp mt ps u56 u52.2 su33 wy34 wa35 od36 py ju u76.2 rs38) H := hP
                have hD : va_D A (moW ac q th row un kp mt ps u56 u52.2 su33 wy34 wa35 od36 py ju u76.2 rs38) := hD
                refine lv_if_eq (tgt := 109) hx hb dX8_layRows_102 (by decide) (fun c77 => ?_) (fun c77 => ?_)
                · have hf := z_p c77 hf
                  exact hj73 u76.2 hf _ _ ls  hP hD hS (lv_sub hl [1, 2, 3] rfl)
                · have hf := z_n c77 hf
                  refine lv_iconst (v := 1) hx hb dX8_layRows_105 rfl ?_
                  refine lv_goto (tgt := 110) hx hb dX8_layRows_106 (by decide) ?_
                  exact hj60 1 u76.2 hf _ _ ls  hP hD hS (lv_sub hl [1, 2, 3] rfl)
        refine hL39 _ ?_ F 0 bx18 mo19 su20 wy21 wa22 od23 pl24 rs25 hf _ _ ls  hP hD hS (lv_sub hl [1, 2, 0] rfl)
        intro bx43 mo44 su45 wy46 wa47 od48 pl49 rs50 hf H locs ls hP hD hS hl
        obtain ⟨x78, hx78⟩ : ∃ y : Int32, y = (x17 + 1) := ⟨_, rfl⟩
        have hf := z_let_u hx78 hf
        refine lv_iinc (v := x78) (lv' := [(2, .int x78), (0, .ref (q 0))]) hx hb dX8_layRows_184 hl (k := 1) rfl (by rw [hx78]; rfl) (Nat.le_of_ble_eq_true rfl) rfl (fun ls hl => ?_)
        refine lv_goto (tgt := 48) hx hb dX8_layRows_187 (by decide) ?_
        exact ih28 x78 bx43 mo44 su45 wy46 wa47 od48 pl49 rs50 hf _ _ ls  hP hD hS (lv_sub hl [1, 0] rfl)
  refine hL26  F 0 bx mo su wy wa od pl9 rs10 hf _ _ ls  hP hD hS (lv_sub hl [1, 0] rfl)

theorem hd_yX8_isRest : hdY yX8_isRest 2 := by decide +kernel
def M_isRest_L5 (F : Nat) (rs : Rs) (a1 : Int32) (a2 : Int32) : Nat → Int32 → Int32 → Option (Int32)
  | 0, _, _ => none
  | n4 + 1, x1, x2 => if (rs_rows rs) ≤ x2 then (z_gd (z_b x1) (some x1)) else (if x1 = 0 then (z_gd (z_b x1) (some x1)) else (z_gd (z_in ((48 * x2) + (2 * a2)) 1152) (z_gd (z_in ((24 * x2) + a2) 576) (z_gd (z_in ((48 * a1) + (2 * a2)) 1152) (z_gd (z_in ((24 * a1) + a2) 576) (z_bd (M_against F ((rs_ups rs) ((48 * x2) + (2 * a2)).toNatClampNeg) ((rs_lows rs) ((24 * x2) + a2).toNatClampNeg) ((rs_ups rs) ((48 * a1) + (2 * a2)).toNatClampNeg) ((rs_lows rs) ((24 * a1) + a2).toNatClampNeg)) (fun r14 : Int32 => z_let (if 0 < r14 then 0 else 1) (fun v15 : Int32 => if v15 = 0 then (z_let (x2 + 1) (fun x20 : Int32 => M_isRest_L5 F rs a1 a2 n4 0 x20)) else (z_gd (z_in (((48 * a1) + (2 * x2)) + 1) 1152) (z_gd (z_in ((24 * a1) + x2) 576) (z_gd (z_in (((48 * a1) + (2 * a2)) + 1) 1152) (z_gd (z_in ((24 * a1) + a2) 576) (z_bd (M_against F ((rs_ups rs) (((48 * a1) + (2 * x2)) + 1).toNatClampNeg) ((rs_lows rs) ((24 * a1) + x2).toNatClampNeg) ((rs_ups rs) (((48 * a1) + (2 * a2)) + 1).toNatClampNeg) ((rs_lows rs) ((24 * a1) + a2).toNatClampNeg)) (fun r25 : Int32 => if 0 < r25 then (z_let (x2 + 1) (fun x27 : Int32 => M_isRest_L5 F rs a1 a2 n4 0 x27)) else (z_let (x2 + 1) (fun x28 : Int32 => M_isRest_L5 F rs a1 a2 n4 1 x28))))))))))))))))
def M_isRest (F : Nat) (rs : Rs) (a1 : Int32) (a2 : Int32) : Option (Int32) := M_isRest_L5 F rs a1 a2 F 1 0
set_option maxHeartbeats 4000000 in
set_option maxRecDepth 100000 in
theorem ctX8_isRest (l : Launch) (D : va_G) (ac cs : Nat → Nat) (q : Nat → Nat) (th : Th) (row : MRow) (un : Un) (kp : Kp) (mt : Mt) (ps : Ps) (bx : Bx) (mo : Mo) (su : Su) (wy : Wy) (wa : Wa) (od : Od) (py : Py) (ju : Ju) (pl : Pl) (rs : Rs) (a1 : Int32) (a2 : Int32) (F : Nat) (res : Int32) (hf : M_isRest F rs a1 a2 = some res) : Met l yX8_isRest (cWW yX8_isRest cX8_isRest 5 (some .boolean)) { frames := 1, cells := 0, slots := 0, locals := 44 } (zR D ac cs [.ref (q 0), .int a1, .int a2] (moW ac q th row un kp mt ps bx mo su wy wa od py ju pl rs)) (vp_Si (fun r => r = res)) 0 0 (fun _ => False) := by
  refine Met.ofW (cc := cX8_isRest) (maxL := 5) (ret := (some .boolean)) (by decide) rfl ?_
  intro p e s m args below meth c s₁ B hml hv
  obtain ⟨rfl, hP, hKX, hC⟩ := hv
  have hx := B.exec
  have hb := B.bytes
  have hr := B.returns
  have hts := atoms_spec (ws := cWW yX8_isRest cX8_isRest 5 (some .boolean)) B.pre
  have htw : ∀ w ∈ WW, w.before _ s = true := fun w h => hts w (List.mem_cons_of_mem _ h)
  have hown : s.vm.findClass RX8 = some m.cls := findClass_of_methodNamed B.named
  have hlocks := B.notSynchronized
  clear hts B
  have hS : va_S (fun _ => False) s.heap s.heap [] := va_S.rf
  have hl := lv_entry ([.ref (q 0), .int a1, .int a2]) (n := 5) (Nat.le_of_ble_eq_true rfl)
  rw [lg_entry_eq]
  generalize (lg_sl ([.ref (q 0), .int a1, .int a2]) ++ List.replicate (5 - (lg_sl ([.ref (q 0), .int a1, .int a2])).length) Slot.unset).toArray = ls at hl ⊢
  have hl : lv_has ls 5 [(0, .ref (q 0)), (1, .int a1), (2, .int a2)] := hl
  unfold M_isRest at hf
  show W p l e ({ frames := 1, cells := 0, slots := 0, locals := 44 } : Room) s m _ below meth c s.heap [] 0 0 _ (F0 m 0 ls [])
  refine lv_iconst (v := 1) hx hb dX8_isRest_0 rfl ?_
  refine lv_istore_n (lv' := [(3, .int 1), (0, .ref (q 0)), (1, .int a1), (2, .int a2)]) hx hb dX8_isRest_1 rfl hl (Nat.le_of_ble_eq_true rfl) rfl (fun ls hl => ?_)
  refine lv_iconst (v := 0) hx hb dX8_isRest_2 rfl ?_
  refine lv_istore (lv' := [(4, .int 0), (3, .int 1), (0, .ref (q 0)), (1, .int a1), (2, .int a2)]) hx hb dX8_isRest_3 hl (Nat.le_of_ble_eq_true rfl) rfl (fun ls hl => ?_)
  have hL3 : ∀ (n4 : Nat) (x1 : Int32) (x2 : Int32), M_isRest_L5 F rs a1 a2 n4 x1 x2 = some res → ∀ (ls : Array Slot), lv_has ls 5 [(0, .ref (q 0)), (1, .int a1), (2, .int a2), (3, .int x1), (4, .int x2)] → W p l e ({ frames := 1, cells := 0, slots := 0, locals := 44 } : Room) s m (([.ref (q 0), .int a1, .int a2] : List Value).toArray) below meth c s.heap [] 0 0 (MQ below (vp_Si (fun r => r = res)) ([.ref (q 0), .int a1, .int a2] : List Value).toArray s 0 0 (fun _ => False)) (F0 m 5 ls []) := by
    intro n4
    induction n4 with
    | zero => intro x1 x2 hf; rw [M_isRest_L5] at hf; cases hf
    | succ n4 ih5 =>
      intro x1 x2 hf ls hl
      rw [M_isRest_L5] at hf
      refine lv_iload hx hb dX8_isRest_5 (lv_at hl 4 rfl) ?_
      refine lv_aload_n hx hb dX8_isRest_7 rfl (lv_at hl 0 rfl) ?_
      refine va_get (D := D) (ci := 8) (v := .int (rs_rows rs)) (C := RX8) (T := TX8) (N := 41) hx hb htw WW_wsX80 hown hKX.1 hP 0 rfl rfl 40 (Nat.le_of_ble_eq_true rfl) (htw _ mF_RX8_379) (fun _ h9 => h9) rfl dX8_isRest_8 ?_
      refine lv_icmp_ge (tgt := 156) hx hb dX8_isRest_11 (by decide) (fun c6 => ?_) (fun c6 => ?_)
      · have hf := z_p c6 hf
        refine lv_iload_n hx hb dX8_isRest_156 rfl (lv_at hl 3 rfl) ?_
        obtain ⟨g7, hf⟩ := z_gd_u hf
        exact zr_Rz hx hb hr hlocks (z_b_n g7) (Option.some.inj hf) dX8_isRest_157
      · have hf := z_n c6 hf
        refine lv_iload_n hx hb dX8_isRest_14 rfl (lv_at hl 3 rfl) ?_
        refine lv_if_eq (tgt := 156) hx hb dX8_isRest_15 (by decide) (fun c8 => ?_) (fun c8 => ?_)
        · have hf := z_p c8 hf
          refine lv_iload_n hx hb dX8_isRest_156 rfl (lv_at hl 3 rfl) ?_
          obtain ⟨g9, hf⟩ := z_gd_u hf
          exact zr_Rz hx hb hr hlocks (z_b_n g9) (Option.some.inj hf) dX8_isRest_157
        · have hf := z_n c8 hf
          refine lv_aload_n hx hb dX8_isRest_18 rfl (lv_at hl 0 rfl) ?_
          refine va_get (D := D) (ci := 8) (v := .ref (q 18)) (C := RX8) (T := TX8) (N := 41) hx hb htw WW_wsX80 hown hKX.1 hP 0 rfl rfl 37 (Nat.le_of_ble_eq_true rfl) (htw _ mF_RX8_66) (fun _ h9 => h9) rfl dX8_isRest_19 ?_
          refine lv_bipush (v := 48) hx hb dX8_isRest_22 rfl ?_
          refine lv_iload hx hb dX8_isRest_24 (lv_at hl 4 rfl) ?_
          refine lv_imul hx hb dX8_isRest_26 ?_
          refine lv_iconst (v := 2) hx hb dX8_isRest_27 rfl ?_
          refine lv_iload_n hx hb dX8_isRest_28 rfl (lv_at hl 2 rfl) ?_
          refine lv_imul hx hb dX8_isRest_29 ?_
          refine lv_iadd hx hb dX8_isRest_30 ?_
          obtain ⟨g10, hf⟩ := z_gd_u hf
          refine va_lald hx hb hKX.1 hP 18 1 rfl rfl (z_in_u g10) dX8_isRest_31 ?_
          refine lv_aload_n hx hb dX8_isRest_32 rfl (lv_at hl 0 rfl) ?_
          refine va_get (D := D) (ci := 8) (v := .ref (q 19)) (C := RX8) (T := TX8) (N := 41) hx hb htw WW_wsX80 hown hKX.1 hP 0 rfl rfl 38 (Nat.le_of_ble_eq_true rfl) (htw _ mF_RX8_69) (fun _ h9 => h9) rfl dX8_isRest_33 ?_
          refine lv_bipush (v := 24) hx hb dX8_isRest_36 rfl ?_
          refine lv_iload hx hb dX8_isRest_38 (lv_at hl 4 rfl) ?_
          refine lv_imul hx hb dX8_isRest_40 ?_
          refine lv_iload_n hx hb dX8_isRest_41 rfl (lv_at hl 2 rfl) ?_
          refine lv_iadd hx hb dX8_isRest_42 ?_
          obtain ⟨g11, hf⟩ := z_gd_u hf
          refine va_lald hx hb hKX.1 hP 19 1 rfl rfl (z_in_u g11) dX8_isRest_43 ?_
          refine lv_aload_n hx hb dX8_isRest_44 rfl (lv_at hl 0 rfl) ?_
          refine va_get (D := D) (ci := 8) (v := .ref (q 18)) (C := RX8) (T := TX8) (N := 41) hx hb htw WW_wsX80 hown hKX.1 hP 0 rfl rfl 37 (Nat.le_of_ble_eq_true rfl) (htw _ mF_RX8_66) (fun _ h9 => h9) rfl dX8_isRest_45 ?_
          refine lv_bipush (v := 48) hx hb dX8_isRest_48 rfl ?_
          refine lv_iload_n hx hb dX8_isRest_50 rfl (lv_at hl 1 rfl) ?_
          refine lv_imul hx hb dX8_isRest_51 ?_
          refine lv_iconst (v := 2) hx hb dX8_isRest_52 rfl ?_
          refine lv_iload_n hx hb dX8_isRest_53 rfl (lv_at hl 2 rfl) ?_
          refine lv_imul hx hb dX8_isRest_54 ?_
          refine lv_iadd hx hb dX8_isRest_55 ?_
          obtain ⟨g12, hf⟩ := z_gd_u hf
          refine va_lald hx hb hKX.1 hP 18 1 rfl rfl (z_in_u g12) dX8_isRest_56 ?_
          refine lv_aload_n hx hb dX8_isRest_57 rfl (lv_at hl 0 rfl) ?_
          refine va_get (D := D) (ci := 8) (v := .ref (q 19)) (C := RX8) (T := TX8) (N := 41) hx hb htw WW_wsX80 hown hKX.1 hP 0 rfl rfl 38 (Nat.le_of_ble_eq_true rfl) (htw _ mF_RX8_69) (fun _ h9 => h9) rfl dX8_isRest_58 ?_
          refine lv_bipush (v := 24) hx hb dX8_isRest_61 rfl ?_
          refine lv_iload_n hx hb dX8_isRest_63 rfl (lv_at hl 1 rfl) ?_
          refine lv_imul hx hb dX8_isRest_64 ?_
          refine lv_iload_n hx hb dX8_isRest_65 rfl (lv_at hl 2 rfl) ?_
          refine lv_iadd hx hb dX8_isRest_66 ?_
          obtain ⟨g13, hf⟩ := z_gd_u hf
          refine va_lald hx hb hKX.1 hP 19 1 rfl rfl (z_in_u g13) dX8_isRest_67 ?_
          obtain ⟨r14, hr14, hf⟩ := z_bd_u hf
          refine zc_RSi (As := [.long ((rs_ups rs) ((48 * x2) + (2 * a2)).toNatClampNeg), .long ((rs_lows rs) ((24 * x2) + a2).toNatClampNeg), .long ((rs_ups rs) ((48 * a1) + (2 * a2)).toNatClampNeg), .long ((rs_lows rs) ((24 * a1) + a2).toNatClampNeg)]) (rest := []) hx hb hml hown htw (ctX8_against l D ac cs   ((rs_ups rs) ((48 * x2) + (2 * a2)).toNatClampNeg) ((rs_lows rs) ((24 * x2) + a2).toNatClampNeg) ((rs_ups rs) ((48 * a1) + (2 * a2)).toNatClampNeg) ((rs_lows rs) ((24 * a1) + a2).toNatClampNeg)   F _ hr14) (g_S mM_RX8_349 mT_yX8_against mN_RX8 mC_yX8_against) (hd_yX8_against) ⟨rfl, rfl⟩ ⟨(Nat.le_of_ble_eq_true rfl), (Nat.le_of_ble_eq_true rfl)⟩ hKX hC hS zP0 rfl hl.1 rfl (Nat.le_of_ble_eq_true rfl) ⟨Nat.zero_le _, Nat.zero_le _⟩ dX8_isRest_68 ?_
          have hj17 : ∀ (v15 : Int32), v15 = (if 0 < r14 then 0 else 1) → z_b v15 = true → ∀ (ls : Array Slot), lv_has ls 5 [(0, .ref (q 0)), (1, .int a1), (2, .int a2), (4, .int x2)] → W p l e ({ frames := 1, cells := 0, slots := 0, locals := 44 } : Room) s m (([.ref (q 0), .int a1, .int a2] : List Value).toArray) below meth c s.heap [] 0 0 (MQ below (vp_Si (fun r => r = res)) ([.ref (q 0), .int a1, .int a2] : List Value).toArray s 0 0 (fun _ => False)) (F0 m 79 ls [.int v15]) := by
            intro v15 hv15 bv15 ls hl
            have hf := z_let_u hv15 hf
            refine lv_istore_n (lv' := [(3, .int v15), (0, .ref (q 0)), (1, .int a1), (2, .int a2), (4, .int x2)]) hx hb dX8_isRest_79 rfl hl (Nat.le_of_ble_eq_true rfl) rfl (fun ls hl => ?_)
            refine lv_iload_n hx hb dX8_isRest_80 rfl (lv_at hl 0 rfl) ?_
            refine lv_if_eq (tgt := 148) hx hb dX8_isRest_81 (by decide) (fun c19 => ?_) (fun c19 => ?_)
            · have hf := z_p c19 hf
              refine lv_iconst (v := 0) hx hb dX8_isRest_148 rfl ?_
              refine lv_istore_n (lv' := [(3, .int 0), (0, .ref (q 0)), (1, .int a1), (2, .int a2), (4, .int x2)]) hx hb dX8_isRest_149 rfl hl (Nat.le_of_ble_eq_true rfl) rfl (fun ls hl => ?_)
              obtain ⟨x20, hx20⟩ : ∃ y : Int32, y = (x2 + 1) := ⟨_, rfl⟩
              have hf := z_let_u hx20 hf
              refine lv_iinc (v := x20) (lv' := [(4, .int x20), (3, .int 0), (0, .ref (q 0)), (1, .int a1), (2, .int a2)]) hx hb dX8_isRest_150 hl (k := 4) rfl (by rw [hx20]; rfl) (Nat.le_of_ble_eq_true rfl) rfl (fun ls hl => ?_)
              refine lv_goto (tgt := 5) hx hb dX8_isRest_153 (by decide) ?_
              exact ih5 0 x20 hf ls (lv_sub hl [2, 3, 4, 1, 0] rfl)
            · have hf := z_n c19 hf
              refine lv_aload_n hx hb dX8_isRest_84 rfl (lv_at hl 1 rfl) ?_
              refine va_get (D := D) (ci := 8) (v := .ref (q 18)) (C := RX8) (T := TX8) (N := 41) hx hb htw WW_wsX80 hown hKX.1 hP 0 rfl rfl 37 (Nat.le_of_ble_eq_true rfl) (htw _ mF_RX8_66) (fun _ h9 => h9) rfl dX8_isRest_85 ?_
              refine lv_bipush (v := 48) hx hb dX8_isRest_88 rfl ?_
              refine lv_iload_n hx hb dX8_isRest_90 rfl (lv_at hl 2 rfl) ?_
              refine lv_imul hx hb dX8_isRest_91 ?_
              refine lv_iconst (v := 2) hx hb dX8_isRest_92 rfl ?_
              refine lv_iload hx hb dX8_isRest_93 (lv_at hl 4 rfl) ?_
              refine lv_imul hx hb dX8_isRest_95 ?_
              refine lv_iadd hx hb dX8_isRest_96 ?_
              refine lv_iconst (v := 1) hx hb dX8_isRest_97 rfl ?_
              refine lv_iadd hx hb dX8_isRest_98 ?_
              obtain ⟨g21, hf⟩ := z_gd_u hf
              refine va_lald hx hb hKX.1 hP 18 1 rfl rfl (z_in_u g21) dX8_isRest_99 ?_
              refine lv_aload_n hx hb dX8_isRest_100 rfl (lv_at hl 1 rfl) ?_
              refine va_get (D := D) (ci := 8) (v := .ref (q 19)) (C := RX8) (T := TX8) (N := 41) hx hb htw WW_wsX80 hown hKX.1 hP 0 rfl rfl 38 (Nat.le_of_ble_eq_true rfl) (htw _ mF_RX8_69) (fun _ h9 => h9) rfl dX8_isRest_101 ?_
              refine lv_bipush (v := 24) hx hb dX8_isRest_104 rfl ?_
              refine lv_iload_n hx hb dX8_isRest_106 rfl (lv_at hl 2 rfl) ?_
              refine lv_imul hx hb dX8_isRest_107 ?_
              refine lv_iload hx hb dX8_isRest_108 (lv_at hl 4 rfl) ?_
              refine lv_iadd hx hb dX8_isRest_110 ?_
              obtain ⟨g22, hf⟩ := z_gd_u hf
              refine va_lald hx hb hKX.1 hP 19 1 rfl rfl (z_in_u g22) dX8_isRest_111 ?_
              refine lv_aload_n hx hb dX8_isRest_112 rfl (lv_at hl 1 rfl) ?_
              refine va_get (D := D) (ci := 8) (v := .ref (q 18)) (C := RX8) (T := TX8) (N := 41) hx hb htw WW_wsX80 hown hKX.1 hP 0 rfl rfl 37 (Nat.le_of_ble_eq_true rfl) (htw _ mF_RX8_66) (fun _ h9 => h9) rfl dX8_isRest_113 ?_
              refine lv_bipush (v := 48) hx hb dX8_isRest_116 rfl ?_
              refine lv_iload_n hx hb dX8_isRest_118 rfl (lv_at hl 2 rfl) ?_
              refine lv_imul hx hb dX8_isRest_119 ?_
              refine lv_iconst (v := 2) hx hb dX8_isRest_120 rfl ?_
              refine lv_iload_n hx hb dX8_isRest_121 rfl (lv_at hl 3 rfl) ?_
              refine lv_imul hx hb dX8_isRest_122 ?_
              refine lv_iadd hx hb dX8_isRest_123 ?_
              refine lv_iconst (v := 1) hx hb dX8_isRest_124 rfl ?_
              refine lv_iadd hx hb dX8_isRest_125 ?_
              obtain ⟨g23, hf⟩ := z_gd_u hf
              refine va_lald hx hb hKX.1 hP 18 1 rfl rfl (z_in_u g23) dX8_isRest_126 ?_
              refine lv_aload_n hx hb dX8_isRest_127 rfl (lv_at hl 1 rfl) ?_
              refine va_get (D := D) (ci := 8) (v := .ref (q 19)) (C := RX8) (T := TX8) (N := 41) hx hb htw WW_wsX80 hown hKX.1 hP 0 rfl rfl 38 (Nat.le_of_ble_eq_true rfl) (htw _ mF_RX8_69) (fun _ h9 => h9) rfl dX8_isRest_128 ?_
              refine lv_bipush (v := 24) hx hb dX8_isRest_131 rfl ?_
              refine lv_iload_n hx hb dX8_isRest_133 rfl (lv_at hl 2 rfl) ?_
              refine lv_imul hx hb dX8_isRest_134 ?_
              refine lv_iload_n hx hb dX8_isRest_135 rfl (lv_at hl 3 rfl) ?_
              refine lv_iadd hx hb dX8_isRest_136 ?_
              obtain ⟨g24, hf⟩ := z_gd_u hf
              refine va_lald hx hb hKX.1 hP 19 1 rfl rfl (z_in_u g24) dX8_isRest_137 ?_
              obtain ⟨r25, hr25, hf⟩ := z_bd_u hf
              refine zc_RSi (As := [.long ((rs_ups rs) (((48 * a1) + (2 * x2)) + 1).toNatClampNeg), .long ((rs_lows rs) ((24 * a1) + x2).toNatClampNeg), .long ((rs_ups rs) (((48 * a1) + (2 * a2)) + 1).toNatClampNeg), .long ((rs_lows rs) ((24 * a1) + a2).toNatClampNeg)]) (rest := []) hx hb hml hown htw (ctX8_against l D ac cs   ((rs_ups rs) (((48 * a1) + (2 * x2)) + 1).toNatClampNeg) ((rs_lows rs) ((24 * a1) + x2).toNatClampNeg) ((rs_ups rs) (((48 * a1) + (2 * a2)) + 1).toNatClampNeg) ((rs_lows rs) ((24 * a1) + a2).toNatClampNeg)   F _ hr25) (g_S mM_RX8_349 mT_yX8_against mN_RX8 mC_yX8_against) (hd_yX8_against) ⟨rfl, rfl⟩ ⟨(Nat.le_of_ble_eq_true rfl), (Nat.le_of_ble_eq_true rfl)⟩ hKX hC hS zP0 rfl hl.1 rfl (Nat.le_of_ble_eq_true rfl) ⟨Nat.zero_le _, Nat.zero_le _⟩ dX8_isRest_138 ?_
              refine lv_if_gt (tgt := 148) hx hb dX8_isRest_141 (by decide) (fun c26 => ?_) (fun c26 => ?_)
              · have hf := z_p c26 hf
                refine lv_iconst (v := 0) hx hb dX8_isRest_148 rfl ?_
                refine lv_istore_n (lv' := [(3, .int 0), (0, .ref (q 0)), (1, .int a1), (2, .int a2), (4, .int x2)]) hx hb dX8_isRest_149 rfl hl (Nat.le_of_ble_eq_true rfl) rfl (fun ls hl => ?_)
                obtain ⟨x27, hx27⟩ : ∃ y : Int32, y = (x2 + 1) := ⟨_, rfl⟩
                have hf := z_let_u hx27 hf
                refine lv_iinc (v := x27) (lv' := [(4, .int x27), (3, .int 0), (0, .ref (q 0)), (1, .int a1), (2, .int a2)]) hx hb dX8_isRest_150 hl (k := 4) rfl (by rw [hx27]; rfl) (Nat.le_of_ble_eq_true rfl) rfl (fun ls hl => ?_)
                refine lv_goto (tgt := 5) hx hb dX8_isRest_153 (by decide) ?_
                exact ih5 0 x27 hf ls (lv_sub hl [2, 3, 4, 1, 0] rfl)
              · have hf := z_n c26 hf
                refine lv_iconst (v := 1) hx hb dX8_isRest_144 rfl ?_
                refine lv_goto (tgt := 149) hx hb dX8_isRest_145 (by decide) ?_
                refine lv_istore_n (lv' := [(3, .int 1), (0, .ref (q 0)), (1, .int a1), (2, .int a2), (4, .int x2)]) hx hb dX8_isRest_149 rfl hl (Nat.le_of_ble_eq_true rfl) rfl (fun ls hl => ?_)
                obtain ⟨x28, hx28⟩ : ∃ y : Int32, y = (x2 + 1) := ⟨_, rfl⟩
                have hf := z_let_u hx28 hf
                refine lv_iinc (v := x28) (lv' := [(4, .int x28), (3, .int 1), (0, .ref (q 0)), (1, .int a1), (2, .int a2)]) hx hb dX8_isRest_150 hl (k := 4) rfl (by rw [hx28]; rfl) (Nat.le_of_ble_eq_true rfl) rfl (fun ls hl => ?_)
                refine lv_goto (tgt := 5) hx hb dX8_isRest_153 (by decide) ?_
                exact ih5 1 x28 hf ls (lv_sub hl [2, 3, 4, 1, 0] rfl)
          refine lv_if_gt (tgt := 78) hx hb dX8_isRest_71 (by decide) (fun c18 => ?_) (fun c18 => ?_)
          · skip
            refine lv_iconst (v := 0) hx hb dX8_isRest_78 rfl ?_
            exact hj17 0 (if_pos c18).symm z_b0 ls (lv_sub hl [0, 1, 2, 4] rfl)
          · skip
            refine lv_iconst (v := 1) hx hb dX8_isRest_74 rfl ?_
            refine lv_goto (tgt := 79) hx hb dX8_isRest_75 (by decide) ?_
            exact hj17 1 (if_neg c18).symm z_b1 ls (lv_sub hl [0, 1, 2, 4] rfl)
  refine hL3  F 1 0 hf ls (lv_sub hl [2, 3, 4, 1, 0] rfl)

theorem hd_yX8_rests : hdY yX8_rests 1 := by decide +kernel
def M_rests_L60 (F : Nat) (u4 : Bx × Mo × Su × Wy × Wa × Od × Pl × Rs) (x7 : Int32) (kx21 : Int32 → Int32 → Option (Int32 × Th × Bx × Mo × Su × Wy × Wa × Od × Pl × Rs)) : Nat → Int32 → Int32 → Int32 → Option (Int32 × Th × Bx × Mo × Su × Wy × Wa × Od × Pl × Rs)
  | 0, _, _, _ => none
  | n19 + 1, x15, x16, x17 => if (rs_rows u4.2.2.2.2.2.2.2) ≤ x17 then (kx21 x15 x16) else (z_bd (M_isRest F u4.2.2.2.2.2.2.2 x7 x17) (fun r25 : Int32 => z_let (if r25 = 0 then x16 else (if x16 = (-1) then ((24 * x7) + x17) else x16)) (fun v26 : Int32 => if r25 = 0 then (z_let (x15 + 0) (fun x32 : Int32 => z_let (x17 + 1) (fun x33 : Int32 => M_rests_L60 F u4 x7 kx21 n19 x32 v26 x33))) else (z_let (x15 + 1) (fun x34 : Int32 => z_let (x17 + 1) (fun x35 : Int32 => M_rests_L60 F u4 x7 kx21 n19 x34 v26 x35))))))
def M_rests_L48 (F : Nat) (u4 : Bx × Mo × Su × Wy × Wa × Od × Pl × Rs) (kx11 : Int32 → Int32 → Option (Int32 × Th × Bx × Mo × Su × Wy × Wa × Od × Pl × Rs)) : Nat → Int32 → Int32 → Int32 → Option (Int32 × Th × Bx × Mo × Su × Wy × Wa × Od × Pl × Rs)
  | 0, _, _, _ => none
  | n9 + 1, x5, x6, x7 => if (rs_rows u4.2.2.2.2.2.2.2) ≤ x7 then (kx11 x5 x6) else (M_rests_L60 F u4 x7 (fun (x22 : Int32) (x23 : Int32) => z_let (x7 + 1) (fun x36 : Int32 => M_rests_L48 F u4 kx11 n9 x22 x23 x36)) F x5 x6 0)
def M_rests (F : Nat) (row : MRow) (bx : Bx) (mo : Mo) (su : Su) (wy : Wy) (wa : Wa) (od : Od) (pl : Pl) (rs : Rs) (a1 : Int32) : Option (Int32 × Th × Bx × Mo × Su × Wy × Wa × Od × Pl × Rs) := if M_isTold row = 0 then (some ((-1), 0, bx, mo, su, wy, wa, od, pl, rs)) else (if M_in a1.toInt64 0 2 = 0 then (some ((-1), 0, bx, mo, su, wy, wa, od, pl, rs)) else (if M_n row = 5 then (some ((-3), 0, bx, mo, su, wy, wa, od, pl, rs)) else (z_bd (M_layRows F row bx mo su wy wa od pl rs) (fun u4 : Bx × Mo × Su × Wy × Wa × Od × Pl × Rs => M_rests_L48 F u4 (fun (x12 : Int32) (x13 : Int32) => if a1 = 0 then (some (x12, 0, u4.1, u4.2.1, u4.2.2.1, u4.2.2.2.1, u4.2.2.2.2.1, u4.2.2.2.2.2.1, u4.2.2.2.2.2.2.1, u4.2.2.2.2.2.2.2)) else (if x13 = (-1) then (some ((-2), 0, u4.1, u4.2.1, u4.2.2.1, u4.2.2.2.1, u4.2.2.2.2.1, u4.2.2.2.2.2.1, u4.2.2.2.2.2.2.1, u4.2.2.2.2.2.2.2)) else (if a1 = 1 then (z_gd (z_in (x13 / 24) 24) (some (((rs_named u4.2.2.2.2.2.2.2) (x13 / 24).toNatClampNeg), 0, u4.1, u4.2.1, u4.2.2.1, u4.2.2.2.1, u4.2.2.2.2.1, u4.2.2.2.2.2.1, u4.2.2.2.2.2.2.1, u4.2.2.2.2.2.2.2))) else (z_gd (z_in (z_rem x13 24) 24) (some (((rs_named u4.2.2.2.2.2.2.2) (z_rem x13 24).toNatClampNeg), 0, u4.1, u4.2.1, u4.2.2.1, u4.2.2.2.1, u4.2.2.2.2.1, u4.2.2.2.2.2.1, u4.2.2.2.2.2.2.1, u4.2.2.2.2.2.2.2)))))) F 0 (-1) 0))))
set_option maxHeartbeats 4000000 in
set_option maxRecDepth 100000 in
theorem ctX8_rests (l : Launch) (D : va_G) (ac cs : Nat → Nat) (q : Nat → Nat) (sz : Nat) (th : Th) (row : MRow) (un : Un) (kp : Kp) (mt : Mt) (ps : Ps) (bx : Bx) (mo : Mo) (su : Su) (wy : Wy) (wa : Wa) (od : Od) (py : Py) (ju : Ju) (pl : Pl) (rs : Rs) (a1 : Int32) (F : Nat) (res : Int32 × Th × Bx × Mo × Su × Wy × Wa × Od × Pl × Rs) (hf : M_rests F row bx mo su wy wa od pl rs a1 = some res) : Met l yX8_rests (cWW yX8_rests cX8_rests 7 (some .int)) { frames := 7, cells := 0, slots := 0, locals := 166 } (zM D ac cs [.ref (q 0), .int a1] (moW ac q th row un kp mt ps bx mo su wy wa od py ju pl rs) sz) (va_Qi (fun r (_ : Unit) => r = res.1) (fun _ => zB D (va_A (moW ac q th row un kp mt ps bx mo su wy wa od py ju pl rs) sz) (moW ac q res.2.1 row un kp mt ps res.2.2.1 res.2.2.2.1 res.2.2.2.2.1 res.2.2.2.2.2.1 res.2.2.2.2.2.2.1 res.2.2.2.2.2.2.2.1 py ju res.2.2.2.2.2.2.2.2.1 res.2.2.2.2.2.2.2.2.2)) (va_A (moW ac q th row un kp mt ps bx mo su wy wa od py ju pl rs) sz)) 0 0 (va_A (moW ac q th row un kp mt ps bx mo su wy wa od py ju pl rs) sz) := by
  refine Met.ofW (cc := cX8_rests) (maxL := 7) (ret := (some .int)) (by decide) rfl ?_
  intro p e s m args below meth c s₁ B hml hv
  obtain ⟨rfl, hsz, hP, hKX, hD0, hC⟩ := hv
  have hx := B.exec
  have hb := B.bytes
  have hr := B.returns
  have hts := atoms_spec (ws := cWW yX8_rests cX8_rests 7 (some .int)) B.pre
  have htw : ∀ w ∈ WW, w.before _ s = true := fun w h => hts w (List.mem_cons_of_mem _ h)
  have hown : s.vm.findClass RX8 = some m.cls := findClass_of_methodNamed B.named
  have hlocks := B.notSynchronized
  clear hts B
  subst hsz
  have hD := hD0.self (sz := s.heap.size)
  generalize hAe : va_A (moW ac q th row un kp mt ps bx mo su wy wa od py ju pl rs) s.heap.size = A at hD hC ⊢
  have hA : ∀ q : Nat, s.heap.size ≤ q → A q := fun q h => by rw [← hAe]; exact Or.inr h
  have hS : va_S A s.heap s.heap [] := va_S.rf
  clear hD0 hAe
  have hP : va_P D vwCl (moW ac q th row un kp mt ps bx mo su wy wa od py ju pl rs) s.heap := hP
  have hl := lv_entry ([.ref (q 0), .int a1]) (n := 7) (Nat.le_of_ble_eq_true rfl)
  rw [lg_entry_eq]
  generalize (lg_sl ([.ref (q 0), .int a1]) ++ List.replicate (7 - (lg_sl ([.ref (q 0), .int a1])).length) Slot.unset).toArray = ls at hl ⊢
  have hl : lv_has ls 7 [(0, .ref (q 0)), (1, .int a1)] := hl
  unfold M_rests at hf
  show W p l e ({ frames := 7, cells := 0, slots := 0, locals := 166 } : Room) s m _ below meth c s.heap [] 0 0 _ (F0 m 0 ls [])
  refine lv_aload_n hx hb dX8_rests_0 rfl (lv_at hl 0 rfl) ?_
  refine lv_iconst (v := 0) hx hb dX8_rests_1 rfl ?_
  refine va_put (D := D) (ci := 8) (v := .int 0) (ty := tyX8 0) (C := RX8) (T := TX8) (N := 41) hx hb htw WW_wsX80 tyX8 tyX8_ok nmX8 hown hKX.1 hP hD hS 0 rfl rfl 0 (Nat.le_of_ble_eq_true rfl) (htw _ mF_RX8_75) (fun _ h9 => h9) rfl (tyX8_ok 0 (Nat.le_of_ble_eq_true rfl)) rfl rfl (Nat.le_of_ble_eq_true rfl) dX8_rests_2 (fun H locs hP hD hS => ?_)
  have hP : va_P D vwCl (moW ac q 0 row un kp mt ps bx mo su wy wa od py ju pl rs) H := hP
  have hD : va_D A (moW ac q 0 row un kp mt ps bx mo su wy wa od py ju pl rs) := hD
  refine lv_aload_n hx hb dX8_rests_5 rfl (lv_at hl 0 rfl) ?_
  refine zc_RVi (As := []) (rest := []) hx hb hml hown htw (ctX8_isTold l D ac cs q 0 row un kp mt ps bx mo su wy wa od py ju pl rs    _ rfl) (g_V mM_RX8_83 mI_yX8_isTold mS_RX8_yX8_isTold_yX8_isTold mN_RX8 mC_yX8_isTold) rfl (hd_yX8_isTold) ⟨rfl, rfl⟩ ⟨(Nat.le_of_ble_eq_true rfl), (Nat.le_of_ble_eq_true rfl)⟩ hKX hC hS hP 8 rfl rfl rfl hl.1 rfl (Nat.le_of_ble_eq_true rfl) ⟨Nat.zero_le _, Nat.zero_le _⟩ dX8_rests_6 ?_
  refine lv_if_eq (tgt := 24) hx hb dX8_rests_9 (by decide) (fun c1 => ?_) (fun c1 => ?_)
  · have hf := z_p c1 hf
    refine lv_iconst (v := (-1)) hx hb dX8_rests_24 rfl ?_
    obtain rfl := Option.some.inj hf
    exact zr_Mi hx hb hr hlocks hP hD hS dX8_rests_25
  · have hf := z_n c1 hf
    refine lv_iload_n hx hb dX8_rests_12 rfl (lv_at hl 1 rfl) ?_
    refine lv_i2l hx hb dX8_rests_13 rfl ?_
    refine lv_lconst (v := 0) hx hb dX8_rests_14 rfl ?_
    refine lv_ldc2 (v := 2) hx hb hown (htw _ mG_RX8_353) dX8_rests_15 ?_
    refine zc_RSi (As := [.long a1.toInt64, .long 0, .long 2]) (rest := []) hx hb hml hown htw (ctX8_in l D ac cs   a1.toInt64 0 2   _ rfl) (g_S mM_RX8_79 mT_yX8_in mN_RX8 mC_yX8_in) (hd_yX8_in) ⟨rfl, rfl⟩ ⟨(Nat.le_of_ble_eq_true rfl), (Nat.le_of_ble_eq_true rfl)⟩ hKX hC hS zP0 rfl hl.1 rfl (Nat.le_of_ble_eq_true rfl) ⟨Nat.zero_le _, Nat.zero_le _⟩ dX8_rests_18 ?_
    refine lv_if_ne (tgt := 26) hx hb dX8_rests_21 (by decide) (fun c2 => ?_) (fun c2 => ?_)
    · have hf := z_n c2 hf
      refine lv_aload_n hx hb dX8_rests_26 rfl (lv_at hl 0 rfl) ?_
      refine zc_RVi (As := []) (rest := []) hx hb hml hown htw (ctX8_n l D ac cs q 0 row un kp mt ps bx mo su wy wa od py ju pl rs    _ rfl) (g_V mM_RX8_190 mI_yX8_n mS_RX8_yX8_n_yX8_n mN_RX8 mC_yX8_n) rfl (hd_yX8_n) ⟨rfl, rfl⟩ ⟨(Nat.le_of_ble_eq_true rfl), (Nat.le_of_ble_eq_true rfl)⟩ hKX hC hS hP 8 rfl rfl rfl hl.1 rfl (Nat.le_of_ble_eq_true rfl) ⟨Nat.zero_le _, Nat.zero_le _⟩ dX8_rests_27 ?_
      refine lv_iconst (v := 5) hx hb dX8_rests_30 rfl ?_
      refine lv_icmp_ne (tgt := 37) hx hb dX8_rests_31 (by decide) (fun c3 => ?_) (fun c3 => ?_)
      · have hf := z_n c3 hf
        refine lv_aload_n hx hb dX8_rests_37 rfl (lv_at hl 0 rfl) ?_
        obtain ⟨u4, hu4, hf⟩ := z_bd_u hf
        refine zc_MVv (As := []) (rest := []) (wr := []) (wsc := moW ac q 0 row un kp mt ps bx mo su wy wa od py ju pl rs) (wsc' := moW ac q 0 row un kp mt ps u4.1 u4.2.1 u4.2.2.1 u4.2.2.2.1 u4.2.2.2.2.1 u4.2.2.2.2.2.1 py ju u4.2.2.2.2.2.2.1 u4.2.2.2.2.2.2.2) hx hb hml hown htw (ctX8_layRows l D ac cs q H.size 0 row un kp mt ps bx mo su wy wa od py ju pl rs    F u4 hu4) (g_V mM_RX8_382 mI_yX8_layRows mS_RX8_yX8_layRows_yX8_layRows mN_RX8 mC_yX8_layRows) rfl (hd_yX8_layRows) ⟨rfl, rfl⟩ ⟨(Nat.le_of_ble_eq_true rfl), (Nat.le_of_ble_eq_true rfl)⟩ hKX hC hS hA hP hD [0, 1, 2, 3, 4, 5, 6, 7, 8, 9, 10, 11, 12, 13, 14, 15, 16, 17, 18, 19, 20] [] rfl (by decide) rfl (by decide) (by decide) 8 rfl rfl rfl hl.1 rfl (Nat.le_of_ble_eq_true rfl) ⟨Nat.zero_le _, Nat.zero_le _⟩ dX8_rests_38 (fun H locs hP hD hS => ?_)
        have hP : va_P D vwCl (moW ac q 0 row un kp mt ps u4.1 u4.2.1 u4.2.2.1 u4.2.2.2.1 u4.2.2.2.2.1 u4.2.2.2.2.2.1 py ju u4.2.2.2.2.2.2.1 u4.2.2.2.2.2.2.2) H := hP
        have hD : va_D A (moW ac q 0 row un kp mt ps u4.1 u4.2.1 u4.2.2.1 u4.2.2.2.1 u4.2.2.2.2.1 u4.2.2.2.2.2.1 py ju u4.2.2.2.2.2.2.1 u4.2.2.2.2.2.2.2) := hD
        refine lv_iconst (v := 0) hx hb dX8_rests_41 rfl ?_
        refine lv_istore_n (lv' := [(2, .int 0), (0, .ref (q 0)), (1, .int a1)]) hx hb dX8_rests_42 rfl hl (Nat.le_of_ble_eq_true rfl) rfl (fun ls hl => ?_)
        refine lv_iconst (v := (-1)) hx hb dX8_rests_43 rfl ?_
        refine lv_istore_n (lv' := [(3, .int (-1)), (2, .int 0), (0, .ref (q 0)), (1, .int a1)]) hx hb dX8_rests_44 rfl hl (Nat.le_of_ble_eq_true rfl) rfl (fun ls hl => ?_)
        refine lv_iconst (v := 0) hx hb dX8_rests_45 rfl ?_
        refine lv_istore (lv' := [(4, .int 0), (3, .int (-1)), (2, .int 0), (0, .ref (q 0)), (1, .int a1)]) hx hb dX8_rests_46 hl (Nat.le_of_ble_eq_true rfl) rfl (fun ls hl => ?_)
        have hL8 : ∀ (kx11 : Int32 → Int32 → Option (Int32 × Th × Bx × Mo × Su × Wy × Wa × Od × Pl × Rs)) (hkx11 : ∀ (x12 : Int32) (x13 : Int32), kx11 x12 x13 = some res → ∀ (H : Heap) (locs : List Loc) (ls : Array Slot), va_P D vwCl (moW ac q 0 row un kp mt ps u4.1 u4.2.1 u4.2.2.1 u4.2.2.2.1 u4.2.2.2.2.1 u4.2.2.2.2.2.1 py ju u4.2.2.2.2.2.2.1 u4.2.2.2.2.2.2.2) H → va_D A (moW ac q 0 row un kp mt ps u4.1 u4.2.1 u4.2.2.1 u4.2.2.2.1 u4.2.2.2.2.1 u4.2.2.2.2.2.1 py ju u4.2.2.2.2.2.2.1 u4.2.2.2.2.2.2.2) → va_S A s.heap H locs → lv_has ls 7 [(0, .ref (q 0)), (1, .int a1), (2, .int x12), (3, .int x13)] → W p l e ({ frames := 7, cells := 0, slots := 0, locals := 166 } : Room) s m (([.ref (q 0), .int a1] : List Value).toArray) below meth c H locs 0 0 (MQ below (va_Qi (fun r (_ : Unit) => r = res.1) (fun _ => zB D A (moW ac q res.2.1 row un kp mt ps res.2.2.1 res.2.2.2.1 res.2.2.2.2.1 res.2.2.2.2.2.1 res.2.2.2.2.2.2.1 res.2.2.2.2.2.2.2.1 py ju res.2.2.2.2.2.2.2.2.1 res.2.2.2.2.2.2.2.2.2)) A) ([.ref (q 0), .int a1] : List Value).toArray s 0 0 A) (F0 m 127 ls [])) (n9 : Nat) (x5 : Int32) (x6 : Int32) (x7 : Int32), M_rests_L48 F u4 kx11 n9 x5 x6 x7 = some res → ∀ (H : Heap) (locs : List Loc) (ls : Array Slot), va_P D vwCl (moW ac q 0 row un kp mt ps u4.1 u4.2.1 u4.2.2.1 u4.2.2.2.1 u4.2.2.2.2.1 u4.2.2.2.2.2.1 py ju u4.2.2.2.2.2.2.1 u4.2.2.2.2.2.2.2) H → va_D A (moW ac q 0 row un kp mt ps u4.1 u4.2.1 u4.2.2.1 u4.2.2.2.1 u4.2.2.2.2.1 u4.2.2.2.2.2.1 py ju u4.2.2.2.2.2.2.1 u4.2.2.2.2.2.2.2) → va_S A s.heap H locs → lv_has ls 7 [(0, .ref (q 0)), (1, .int a1), (2, .int x5), (3, .int x6), (4, .int x7)] → W p l e ({ frames := 7, cells := 0, slots := 0, locals := 166 } : Room) s m (([.ref (q 0), .int a1] : List Value).toArray) below meth c H locs 0 0 (MQ below (va_Qi (fun r (_ : Unit) => r = res.1) (fun _ => zB D A (moW ac q res.2.1 row un kp mt ps res.2.2.1 res.2.2.2.1 res.2.2.2.2.1 res.2.2.2.2.2.1 res.2.2.2.2.2.2.1 res.2.2.2.2.2.2.2.1 py ju res.2.2.2.2.2.2.2.2.1 res.2.2.2.2.2.2.2.2.2)) A) ([.ref (q 0), .int a1] : List Value).toArray s 0 0 A) (F0 m 48 ls []) := by
          intro kx11 hkx11 n9
          induction n9 with
          | zero => intro x5 x6 x7 hf; rw [M_rests_L48] at hf; cases hf
          | succ n9 ih10 =>
            intro x5 x6 x7 hf H locs ls hP hD hS hl
            rw [M_rests_L48] at hf
            refine lv_iload hx hb dX8_rests_48 (lv_at hl 4 rfl) ?_
            refine lv_aload_n hx hb dX8_rests_50 rfl (lv_at hl 0 rfl) ?_
            refine va_get (D := D) (ci := 8) (v := .int (rs_rows u4.2.2.2.2.2.2.2)) (C := RX8) (T := TX8) (N := 41) hx hb htw WW_wsX80 hown hKX.1 hP 0 rfl rfl 40 (Nat.le_of_ble_eq_true rfl) (htw _ mF_RX8_379) (fun _ h9 => h9) rfl dX8_rests_51 ?_
            refine lv_icmp_ge (tgt := 127) hx hb dX8_rests_54 (by decide) (fun c14 => ?_) (fun c14 => ?_)
            · have hf := z_p c14 hf
              exact hkx11 x5 x6 hf _ _ ls  hP hD hS (lv_sub hl [0, 1, 2, 3] rfl)
            · have hf := z_n c14 hf
              refine lv_iconst (v := 0) hx hb dX8_rests_57 rfl ?_
              refine lv_istore (lv' := [(5, .int 0), (0, .ref (q 0)), (1, .int a1), (2, .int x5), (3, .int x6), (4, .int x7)]) hx hb dX8_rests_58 hl (Nat.le_of_ble_eq_true rfl) rfl (fun ls hl => ?_)
              have hL18 : ∀ (kx21 : Int32 → Int32 → Option (Int32 × Th × Bx × Mo × Su × Wy × Wa × Od × Pl × Rs)) (hkx21 : ∀ (x22 : Int32) (x23 : Int32), kx21 x22 x23 = some res → ∀ (H : Heap) (locs : List Loc) (ls : Array Slot), va_P D vwCl (moW ac q 0 row un kp mt ps u4.1 u4.2.1 u4.2.2.1 u4.2.2.2.1 u4.2.2.2.2.1 u4.2.2.2.2.2.1 py ju u4.2.2.2.2.2.2.1 u4.2.2.2.2.2.2.2) H → va_D A (moW ac q 0 row un kp mt ps u4.1 u4.2.1 u4.2.2.1 u4.2.2.2.1 u4.2.2.2.2.1 u4.2.2.2.2.2.1 py ju u4.2.2.2.2.2.2.1 u4.2.2.2.2.2.2.2) → va_S A s.heap H locs → lv_has ls 7 [(0, .ref (q 0)), (1, .int a1), (2, .int x22), (3, .int x23), (4, .int x7)] → W p l e ({ frames := 7, cells := 0, slots := 0, locals := 166 } : Room) s m (([.ref (q 0), .int a1] : List Value).toArray) below meth c H locs 0 0 (MQ below (va_Qi (fun r (_ : Unit) => r = res.1) (fun _ => zB D A (moW ac q res.2.1 row un kp mt ps res.2.2.1 res.2.2.2.1 res.2.2.2.2.1 res.2.2.2.2.2.1 res.2.2.2.2.2.2.1 res.2.2.2.2.2.2.2.1 py ju res.2.2.2.2.2.2.2.2.1 res.2.2.2.2.2.2.2.2.2)) A) ([.ref (q 0), .int a1] : List Value).toArray s 0 0 A) (F0 m 121 ls [])) (n19 : Nat) (x15 : Int32) (x16 : Int32) (x17 : Int32), M_rests_L60 F u4 x7 kx21 n19 x15 x16 x17 = some res → ∀ (H : Heap) (locs : List Loc) (ls : Array Slot), va_P D vwCl (moW ac q 0 row un kp mt ps u4.1 u4.2.1 u4.2.2.1 u4.2.2.2.1 u4.2.2.2.2.1 u4.2.2.2.2.2.1 py ju u4.2.2.2.2.2.2.1 u4.2.2.2.2.2.2.2) H → va_D A (moW ac q 0 row un kp mt ps u4.1 u4.2.1 u4.2.2.1 u4.2.2.2.1 u4.2.2.2.2.1 u4.2.2.2.2.2.1 py ju u4.2.2.2.2.2.2.1 u4.2.2.2.2.2.2.2) → va_S A s.heap H locs → lv_has ls 7 [(0, .ref (q 0)), (1, .int a1), (2, .int x15), (3, .int x16), (4, .int x7), (5, .int x17)] → W p l e ({ frames := 7, cells := 0, slots := 0, locals := 166 } : Room) s m (([.ref (q 0), .int a1] : List Value).toArray) below meth c H locs 0 0 (MQ below (va_Qi (fun r (_ : Unit) => r = res.1) (fun _ => zB D A (moW ac q res.2.1 row un kp mt ps res.2.2.1 res.2.2.2.1 res.2.2.2.2.1 res.2.2.2.2.2.1 res.2.2.2.2.2.2.1 res.2.2.2.2.2.2.2.1 py ju res.2.2.2.2.2.2.2.2.1 res.2.2.2.2.2.2.2.2.2)) A) ([.ref (q 0), .int a1] : List Value).toArray s 0 0 A) (F0 m 60 ls []) := by
                intro kx21 hkx21 n19
                induction n19 with
                | zero => intro x15 x16 x17 hf; rw [M_rests_L60] at hf; cases hf
                | succ n19 ih20 =>
                  intro x15 x16 x17 hf H locs ls hP hD hS hl
                  rw [M_rests_L60] at hf
                  refine lv_iload hx hb dX8_rests_60 (lv_at hl 5 rfl) ?_
                  refine lv_aload_n hx hb dX8_rests_62 rfl (lv_at hl 0 rfl) ?_
                  refine va_get (D := D) (ci := 8) (v := .int (rs_rows u4.2.2.2.2.2.2.2)) (C := RX8) (T := TX8) (N := 41) hx hb htw WW_wsX80 hown hKX.1 hP 0 rfl rfl 40 (Nat.le_of_ble_eq_true rfl) (htw _ mF_RX8_379) (fun _ h9 => h9) rfl dX8_rests_63 ?_
                  refine lv_icmp_ge (tgt := 121) hx hb dX8_rests_66 (by decide) (fun c24 => ?_) (fun c24 => ?_)
                  · have hf := z_p c24 hf
                    exact hkx21 x15 x16 hf _ _ ls  hP hD hS (lv_sub hl [0, 1, 2, 3, 4] rfl)
                  · have hf := z_n c24 hf
                    refine lv_aload_n hx hb dX8_rests_69 rfl (lv_at hl 0 rfl) ?_
                    refine lv_iload hx hb dX8_rests_70 (lv_at hl 4 rfl) ?_
                    refine lv_iload hx hb dX8_rests_72 (lv_at hl 5 rfl) ?_
                    obtain ⟨r25, hr25, hf⟩ := z_bd_u hf
                    refine zc_RVi (As := [.int x7, .int x17]) (rest := []) hx hb hml hown htw (ctX8_isRest l D ac cs q 0 row un kp mt ps u4.1 u4.2.1 u4.2.2.1 u4.2.2.2.1 u4.2.2.2.2.1 u4.2.2.2.2.2.1 py ju u4.2.2.2.2.2.2.1 u4.2.2.2.2.2.2.2 x7 x17   F _ hr25) (g_V mM_RX8_385 mI_yX8_isRest mS_RX8_yX8_isRest_yX8_isRest mN_RX8 mC_yX8_isRest) rfl (hd_yX8_isRest) ⟨rfl, rfl⟩ ⟨(Nat.le_of_ble_eq_true rfl), (Nat.le_of_ble_eq_true rfl)⟩ hKX hC hS hP 8 rfl rfl rfl hl.1 rfl (Nat.le_of_ble_eq_true rfl) ⟨Nat.zero_le _, Nat.zero_le _⟩ dX8_rests_74 ?_
                    refine lv_istore (lv' := [(6, .int r25), (0, .ref (q 0)), (1, .int a1), (2, .int x15), (3, .int x16), (4, .int x7), (5, .int x17)]) hx hb dX8_rests_77 hl (Nat.le_of_ble_eq_true rfl) rfl (fun ls hl => ?_)
                    refine lv_iload hx hb dX8_rests_79 (lv_at hl 0 rfl) ?_
                    have hj28 : ∀ (v26 : Int32), v26 = (if r25 = 0 then x16 else (if x16 = (-1) then ((24 * x7) + x17) else x16)) → ∀ (H : Heap) (locs : List Loc) (ls : Array Slot), va_P D vwCl (moW ac q 0 row un kp mt ps u4.1 u4.2.1 u4.2.2.1 u4.2.2.2.1 u4.2.2.2.2.1 u4.2.2.2.2.2.1 py ju u4.2.2.2.2.2.2.1 u4.2.2.2.2.2.2.2) H → va_D A (moW ac q 0 row un kp mt ps u4.1 u4.2.1 u4.2.2.1 u4.2.2.2.1 u4.2.2.2.2.1 u4.2.2.2.2.2.1 py ju u4.2.2.2.2.2.2.1 u4.2.2.2.2.2.2.2) → va_S A s.heap H locs → lv_has ls 7 [(0, .ref (q 0)), (1, .int a1), (2, .int x15), (4, .int x7), (5, .int x17), (6, .int r25)] → W p l e ({ frames := 7, cells := 0, slots := 0, locals := 166 } : Room) s m (([.ref (q 0), .int a1] : List Value).toArray) below meth c H locs 0 0 (MQ below (va_Qi (fun r (_ : Unit) => r = res.1) (fun _ => zB D A (moW ac q res.2.1 row un kp mt ps res.2.2.1 res.2.2.2.1 res.2.2.2.2.1 res.2.2.2.2.2.1 res.2.2.2.2.2.2.1 res.2.2.2.2.2.2.2.1 py ju res.2.2.2.2.2.2.2.2.1 res.2.2.2.2.2.2.2.2.2)) A) ([.ref (q 0), .int a1] : List Value).toArray s 0 0 A) (F0 m 101 ls [.int v26]) := by
                      intro v26 hv26 H locs ls hP hD hS hl
                      have hf := z_let_u hv26 hf
                      refine lv_istore_n (lv' := [(3, .int v26), (0, .ref (q 0)), (1, .int a1), (2, .int x15), (4, .int x7), (5, .int x17), (6, .int r25)]) hx hb dX8_rests_101 rfl hl (Nat.le_of_ble_eq_true rfl) rfl (fun ls hl => ?_)
                      refine lv_iload_n hx hb dX8_rests_102 rfl (lv_at hl 3 rfl) ?_
                      refine lv_iload hx hb dX8_rests_103 (lv_at hl 6 rfl) ?_
                      refine lv_if_eq (tgt := 112) hx hb dX8_rests_105 (by decide) (fun c31 => ?_) (fun c31 => ?_)
                      · have hf := z_p c31 hf
                        refine lv_iconst (v := 0) hx hb dX8_rests_112 rfl ?_
                        refine lv_iadd hx hb dX8_rests_113 ?_
                        refine lv_topi (fun x32 hx32 => ?_)
                        have hf := z_let_u hx32 hf
                        refine lv_istore_n (lv' := [(2, .int x32), (3, .int v26), (0, .ref (q 0)), (1, .int a1), (4, .int x7), (5, .int x17), (6, .int r25)]) hx hb dX8_rests_114 rfl hl (Nat.le_of_ble_eq_true rfl) rfl (fun ls hl => ?_)
                        obtain ⟨x33, hx33⟩ : ∃ y : Int32, y = (x17 + 1) := ⟨_, rfl⟩
                        have hf := z_let_u hx33 hf
                        refine lv_iinc (v := x33) (lv' := [(5, .int x33), (2, .int x32), (3, .int v26), (0, .ref (q 0)), (1, .int a1), (4, .int x7), (6, .int r25)]) hx hb dX8_rests_115 hl (k := 5) rfl (by rw [hx33]; rfl) (Nat.le_of_ble_eq_true rfl) rfl (fun ls hl => ?_)
                        refine lv_goto (tgt := 60) hx hb dX8_rests_118 (by decide) ?_
                        exact ih20 x32 v26 x33 hf _ _ ls  hP hD hS (lv_sub hl [3, 4, 1, 2, 5, 0] rfl)
                      · have hf := z_n c31 hf
                        refine lv_iconst (v := 1) hx hb dX8_rests_108 rfl ?_
                        refine lv_goto (tgt := 113) hx hb dX8_rests_109 (by decide) ?_
                        refine lv_iadd hx hb dX8_rests_113 ?_
                        refine lv_topi (fun x34 hx34 => ?_)
                        have hf := z_let_u hx34 hf
                        refine lv_istore_n (lv' := [(2, .int x34), (3, .int v26), (0, .ref (q 0)), (1, .int a1), (4, .int x7), (5, .int x17), (6, .int r25)]) hx hb dX8_rests_114 rfl hl (Nat.le_of_ble_eq_true rfl) rfl (fun ls hl => ?_)
                        obtain ⟨x35, hx35⟩ : ∃ y : Int32, y = (x17 + 1) := ⟨_, rfl⟩
                        have hf := z_let_u hx35 hf
                        refine lv_iinc (v := x35) (lv' := [(5, .int x35), (2, .int x34), (3, .int v26), (0, .ref (q 0)), (1, .int a1), (4, .int x7), (6, .int r25)]) hx hb dX8_rests_115 hl (k := 5) rfl (by rw [hx35]; rfl) (Nat.le_of_ble_eq_true rfl) rfl (fun ls hl => ?_)
                        refine lv_goto (tgt := 60) hx hb dX8_rests_118 (by decide) ?_
                        exact ih20 x34 v26 x35 hf _ _ ls  hP hD hS (lv_sub hl [3, 4, 1, 2, 5, 0] rfl)
                    refine lv_if_eq (tgt := 100) hx hb dX8_rests_81 (by decide) (fun c29 => ?_) (fun c29 => ?_)
                    · skip
                      refine lv_iload_n hx hb dX8_rests_100 rfl (lv_at hl 4 rfl) ?_
                      exact hj28 x16 (if_pos c29).symm _ _ ls hP hD hS (lv_sub hl [1, 2, 3, 5, 6, 0] rfl)
                    · skip
                      refine lv_iload_n hx hb dX8_rests_84 rfl (lv_at hl 4 rfl) ?_
                      refine lv_iconst (v := (-1)) hx hb dX8_rests_85 rfl ?_
                      refine lv_icmp_ne (tgt := 100) hx hb dX8_rests_86 (by decide) (fun c30 => ?_) (fun c30 => ?_)
                      · skip
                        refine lv_iload_n hx hb dX8_rests_100 rfl (lv_at hl 4 rfl) ?_
                        exact hj28 x16 ((if_neg c29).trans (if_neg c30)).symm _ _ ls hP hD hS (lv_sub hl [1, 2, 3, 5, 6, 0] rfl)
                      · skip
                        refine lv_bipush (v := 24) hx hb dX8_rests_89 rfl ?_
                        refine lv_iload hx hb dX8_rests_91 (lv_at hl 5 rfl) ?_
                        refine lv_imul hx hb dX8_rests_93 ?_
                        refine lv_iload hx hb dX8_rests_94 (lv_at hl 6 rfl) ?_
                        refine lv_iadd hx hb dX8_rests_96 ?_
                        refine lv_goto (tgt := 101) hx hb dX8_rests_97 (by decide) ?_
                        exact hj28 ((24 * x7) + x17) ((if_neg c29).trans (if_pos c30)).symm _ _ ls hP hD hS (lv_sub hl [1, 2, 3, 5, 6, 0] rfl)
              refine hL18 _ ?_ F x5 x6 0 hf _ _ ls  hP hD hS (lv_sub hl [1, 2, 3, 4, 5, 0] rfl)
              intro x22 x23 hf H locs ls hP hD hS hl
              obtain ⟨x36, hx36⟩ : ∃ y : Int32, y = (x7 + 1) := ⟨_, rfl⟩
              have hf := z_let_u hx36 hf
              refine lv_iinc (v := x36) (lv' := [(4, .int x36), (0, .ref (q 0)), (1, .int a1), (2, .int x22), (3, .int x23)]) hx hb dX8_rests_121 hl (k := 4) rfl (by rw [hx36]; rfl) (Nat.le_of_ble_eq_true rfl) rfl (fun ls hl => ?_)
              refine lv_goto (tgt := 48) hx hb dX8_rests_124 (by decide) ?_
              exact ih10 x22 x23 x36 hf _ _ ls  hP hD hS (lv_sub hl [1, 2, 3, 4, 0] rfl)
        refine hL8 _ ?_ F 0 (-1) 0 hf _ _ ls  hP hD hS (lv_sub hl [3, 4, 2, 1, 0] rfl)
        intro x12 x13 hf H locs ls hP hD hS hl
        refine lv_iload_n hx hb dX8_rests_127 rfl (lv_at hl 1 rfl) ?_
        refine lv_if_ne (tgt := 135) hx hb dX8_rests_128 (by decide) (fun c37 => ?_) (fun c37 => ?_)
        · have hf := z_n c37 hf
          refine lv_iload_n hx hb dX8_rests_135 rfl (lv_at hl 3 rfl) ?_
          refine lv_iconst (v := (-1)) hx hb dX8_rests_136 rfl ?_
          refine lv_icmp_ne (tgt := 145) hx hb dX8_rests_137 (by decide) (fun c38 => ?_) (fun c38 => ?_)
          · have hf := z_n c38 hf
            refine lv_iload_n hx hb dX8_rests_145 rfl (lv_at hl 1 rfl) ?_
            refine lv_iconst (v := 1) hx hb dX8_rests_146 rfl ?_
            refine lv_icmp_ne (tgt := 162) hx hb dX8_rests_147 (by decide) (fun c39 => ?_) (fun c39 => ?_)
            · have hf := z_n c39 hf
              refine lv_aload_n hx hb dX8_rests_162 rfl (lv_at hl 0 rfl) ?_
              refine va_get (D := D) (ci := 8) (v := .ref (q 20)) (C := RX8) (T := TX8) (N := 41) hx hb htw WW_wsX80 hown hKX.1 hP 0 rfl rfl 39 (Nat.le_of_ble_eq_true rfl) (htw _ mF_RX8_72) (fun _ h9 => h9) rfl dX8_rests_163 ?_
              refine lv_iload_n hx hb dX8_rests_166 rfl (lv_at hl 3 rfl) ?_
              refine lv_bipush (v := 24) hx hb dX8_rests_167 rfl ?_
              refine zv_irem hx hb dX8_rests_169 (by decide) ?_
              obtain ⟨g40, hf⟩ := z_gd_u hf
              refine va_iald hx hb hKX.1 hP 20 0 rfl rfl (z_in_u g40) dX8_rests_170 ?_
              obtain rfl := Option.some.inj hf
              exact zr_Mi hx hb hr hlocks hP hD hS dX8_rests_171
            · have hf := z_p c39 hf
              refine lv_aload_n hx hb dX8_rests_150 rfl (lv_at hl 0 rfl) ?_
              refine va_get (D := D) (ci := 8) (v := .ref (q 20)) (C := RX8) (T := TX8) (N := 41) hx hb htw WW_wsX80 hown hKX.1 hP 0 rfl rfl 39 (Nat.le_of_ble_eq_true rfl) (htw _ mF_RX8_72) (fun _ h9 => h9) rfl dX8_rests_151 ?_
              refine lv_iload_n hx hb dX8_rests_154 rfl (lv_at hl 3 rfl) ?_
              refine lv_bipush (v := 24) hx hb dX8_rests_155 rfl ?_
              refine lv_idiv hx hb dX8_rests_157 (by decide) ?_
              obtain ⟨g41, hf⟩ := z_gd_u hf
              refine va_iald hx hb hKX.1 hP 20 0 rfl rfl (z_in_u g41) dX8_rests_158 ?_
              refine lv_goto (tgt := 171) hx hb dX8_rests_159 (by decide) ?_
              obtain rfl := Option.some.inj hf
              exact zr_Mi hx hb hr hlocks hP hD hS dX8_rests_171
          · have hf := z_p c38 hf
            refine lv_bipush (v := (-2)) hx hb dX8_rests_140 rfl ?_
            refine lv_goto (tgt := 171) hx hb dX8_rests_142 (by decide) ?_
            obtain rfl := Option.some.inj hf
            exact zr_Mi hx hb hr hlocks hP hD hS dX8_rests_171
        · have hf := z_p c37 hf
          refine lv_iload_n hx hb dX8_rests_131 rfl (lv_at hl 2 rfl) ?_
          refine lv_goto (tgt := 171) hx hb dX8_rests_132 (by decide) ?_
          obtain rfl := Option.some.inj hf
          exact zr_Mi hx hb hr hlocks hP hD hS dX8_rests_171
      · have hf := z_p c3 hf
        refine lv_bipush (v := (-3)) hx hb dX8_rests_34 rfl ?_
        obtain rfl := Option.some.inj hf
        exact zr_Mi hx hb hr hlocks hP hD hS dX8_rests_36
    · have hf := z_p c2 hf
      refine lv_iconst (v := (-1)) hx hb dX8_rests_24 rfl ?_
      obtain rfl := Option.some.inj hf
      exact zr_Mi hx hb hr hlocks hP hD hS dX8_rests_25

theorem hd_yX8_guess : hdY yX8_guess 4 := by decide +kernel
def M_guess (F : Nat) (a1 : Int32) (a2 : Int32) (a3 : Int32) (a4 : Int32) : Option (Int32 × Th) := if M_in a1.toInt64 0 6 = 0 then (some ((-1), 0)) else (if M_in a2.toInt64 0 6 = 0 then (some ((-1), 0)) else (if M_in a3.toInt64 0 6 = 0 then (some ((-1), 0)) else (if M_in a4.toInt64 0 3 = 0 then (some ((-1), 0)) else (z_let (if a3 ≤ a1 then a3 else a1) (fun v5 : Int32 => z_let (if a3 ≤ a2 then a3 else a2) (fun v9 : Int32 => z_let (v5 + v9) (fun x13 : Int32 => z_let ((a2 - v9).toInt64) (fun x14 : Int64 => z_let ((((a1 - v5) * v9) + (a2 * v5)).toInt64) (fun x15 : Int64 => z_jn (fun u_k20 : Int64 × Int64 × Int32 × Int32 => z_jn (fun u_k26 : Int64 × Int64 × Int32 × Int32 => if 2 ≤ a4 then (z_bd (M_told F u_k26.2.2.1.toInt64 u_k26.2.2.2.toInt64 (a4 - 2)) (fun r29 : Int64 => some (r29.toInt32, 0))) else (z_bd (M_told F u_k26.1 (u_k26.2.1 * 6) a4) (fun r30 : Int64 => some (r30.toInt32, 0)))) (fun k26 => if (lg_cmp (((a1 - v5).toInt64) * u_k20.2.1) u_k20.1) < 0 then (k26 (u_k20.1, u_k20.2.1, u_k20.2.2.1, u_k20.2.2.2)) else (z_let ((a1 - v5).toInt64) (fun x32 : Int64 => k26 (x32, 1, 1, 1))))) (fun k20 => if x13 ≤ 0 then (k20 (x14, 1, 0, 1)) else (if (lg_cmp x15 (x14 * x13.toInt64)) < 0 then (k20 (x14, 1, 0, 1)) else (z_let x13.toInt64 (fun x35 : Int64 => k20 (x15, x35, v9, x13))))))))))))))
set_option maxHeartbeats 4000000 in
set_option maxRecDepth 100000 in
theorem ctX8_guess (l : Launch) (D : va_G) (ac cs : Nat → Nat) (q : Nat → Nat) (sz : Nat) (th : Th) (row : MRow) (un : Un) (kp : Kp) (mt : Mt) (ps : Ps) (bx : Bx) (mo : Mo) (su : Su) (wy : Wy) (wa : Wa) (od : Od) (py : Py) (ju : Ju) (pl : Pl) (rs : Rs) (a1 : Int32) (a2 : Int32) (a3 : Int32) (a4 : Int32) (F : Nat) (res : Int32 × Th) (hf : M_guess F a1 a2 a3 a4 = some res) : Met l yX8_guess (cWW yX8_guess cX8_guess 16 (some .int)) { frames := 2, cells := 0, slots := 0, locals := 55 } (zM D ac cs [.ref (q 0), .int a1, .int a2, .int a3, .int a4] (moW ac q th row un kp mt ps bx mo su wy wa od py ju pl rs) sz) (va_Qi (fun r (_ : Unit) => r = res.1) (fun _ => zB D (va_A (moW ac q th row un kp mt ps bx mo su wy wa od py ju pl rs) sz) (moW ac q res.2 row un kp mt ps bx mo su wy wa od py ju pl rs)) (va_A (moW ac q th row un kp mt ps bx mo su wy wa od py ju pl rs) sz)) 0 0 (va_A (moW ac q th row un kp mt ps bx mo su wy wa od py ju pl rs) sz) := by
  refine Met.ofW (cc := cX8_guess) (maxL := 16) (ret := (some .int)) (by decide) rfl ?_
  intro p e s m args below meth c s₁ B hml hv
  obtain ⟨rfl, hsz, hP, hKX, hD0, hC⟩ := hv
  have hx := B.exec
  have hb := B.bytes
  have hr := B.returns
  have hts := atoms_spec (ws := cWW yX8_guess cX8_guess 16 (some .int)) B.pre
  have htw : ∀ w ∈ WW, w.before _ s = true := fun w h => hts w (List.mem_cons_of_mem _ h)
  have hown : s.vm.findClass RX8 = some m.cls := findClass_of_methodNamed B.named
  have hlocks := B.notSynchronized
  clear hts B
  subst hsz
  have hD := hD0.self (sz := s.heap.size)
  generalize hAe : va_A (moW ac q th row un kp mt ps bx mo su wy wa od py ju pl rs) s.heap.size = A at hD hC ⊢
  have hA : ∀ q : Nat, s.heap.size ≤ q → A q := fun q h => by rw [← hAe]; exact Or.inr h
  have hS : va_S A s.heap s.heap [] := va_S.rf
  clear hD0 hAe
  have hP : va_P D vwCl (moW ac q th row un kp mt ps bx mo su wy wa od py ju pl rs) s.heap := hP
  have hl := lv_entry ([.ref (q 0), .int a1, .int a2, .int a3, .int a4]) (n := 16) (Nat.le_of_ble_eq_true rfl)
  rw [lg_entry_eq]
  generalize (lg_sl ([.ref (q 0), .int a1, .int a2, .int a3, .int a4]) ++ List.replicate (16 - (lg_sl ([.ref (q 0), .int a1, .int a2, .int a3, .int a4])).length) Slot.unset).toArray = ls at hl ⊢
  have hl : lv_has ls 16 [(0, .ref (q 0)), (1, .int a1), (2, .int a2), (3, .int a3), (4, .int a4)] := hl
  unfold M_guess at hf
  show W p l e ({ frames := 2, cells := 0, slots := 0, locals := 55 } : Room) s m _ below meth c s.heap [] 0 0 _ (F0 m 0 ls [])
  refine lv_aload_n hx hb dX8_guess_0 rfl (lv_at hl 0 rfl) ?_
  refine lv_iconst (v := 0) hx hb dX8_guess_1 rfl ?_
  refine va_put (D := D) (ci := 8) (v := .int 0) (ty := tyX8 0) (C := RX8) (T := TX8) (N := 41) hx hb htw WW_wsX80 tyX8 tyX8_ok nmX8 hown hKX.1 hP hD hS 0 rfl rfl 0 (Nat.le_of_ble_eq_true rfl) (htw _ mF_RX8_75) (fun _ h9 => h9) rfl (tyX8_ok 0 (Nat.le_of_ble_eq_true rfl)) rfl rfl (Nat.le_of_ble_eq_true rfl) dX8_guess_2 (fun H locs hP hD hS => ?_)
  have hP : va_P D vwCl (moW ac q 0 row un kp mt ps bx mo su wy wa od py ju pl rs) H := hP
  have hD : va_D A (moW ac q 0 row un kp mt ps bx mo su wy wa od py ju pl rs) := hD
  refine lv_iload_n hx hb dX8_guess_5 rfl (lv_at hl 1 rfl) ?_
  refine lv_i2l hx hb dX8_guess_6 rfl ?_
  refine lv_lconst (v := 0) hx hb dX8_guess_7 rfl ?_
  refine lv_ldc2 (v := 6) hx hb hown (htw _ mG_RX8_252) dX8_guess_8 ?_
  refine zc_RSi (As := [.long a1.toInt64, .long 0, .long 6]) (rest := []) hx hb hml hown htw (ctX8_in l D ac cs   a1.toInt64 0 6   _ rfl) (g_S mM_RX8_79 mT_yX8_in mN_RX8 mC_yX8_in) (hd_yX8_in) ⟨rfl, rfl⟩ ⟨(Nat.le_of_ble_eq_true rfl), (Nat.le_of_ble_eq_true rfl)⟩ hKX hC hS zP0 rfl hl.1 rfl (Nat.le_of_ble_eq_true rfl) ⟨Nat.zero_le _, Nat.zero_le _⟩ dX8_guess_11 ?_
  refine lv_if_eq (tgt := 54) hx hb dX8_guess_14 (by decide) (fun c1 => ?_) (fun c1 => ?_)
  · have hf := z_p c1 hf
    refine lv_iconst (v := (-1)) hx hb dX8_guess_54 rfl ?_
    obtain rfl := Option.some.inj hf
    exact zr_Mi hx hb hr hlocks hP hD hS dX8_guess_55
  · have hf := z_n c1 hf
    refine lv_iload_n hx hb dX8_guess_17 rfl (lv_at hl 2 rfl) ?_
    refine lv_i2l hx hb dX8_guess_18 rfl ?_
    refine lv_lconst (v := 0) hx hb dX8_guess_19 rfl ?_
    refine lv_ldc2 (v := 6) hx hb hown (htw _ mG_RX8_252) dX8_guess_20 ?_
    refine zc_RSi (As := [.long a2.toInt64, .long 0, .long 6]) (rest := []) hx hb hml hown htw (ctX8_in l D ac cs   a2.toInt64 0 6   _ rfl) (g_S mM_RX8_79 mT_yX8_in mN_RX8 mC_yX8_in) (hd_yX8_in) ⟨rfl, rfl⟩ ⟨(Nat.le_of_ble_eq_true rfl), (Nat.le_of_ble_eq_true rfl)⟩ hKX hC hS zP0 rfl hl.1 rfl (Nat.le_of_ble_eq_true rfl) ⟨Nat.zero_le _, Nat.zero_le _⟩ dX8_guess_23 ?_
    refine lv_if_eq (tgt := 54) hx hb dX8_guess_26 (by decide) (fun c2 => ?_) (fun c2 => ?_)
    · have hf := z_p c2 hf
      refine lv_iconst (v := (-1)) hx hb dX8_guess_54 rfl ?_
      obtain rfl := Option.some.inj hf
      exact zr_Mi hx hb hr hlocks hP hD hS dX8_guess_55
    · have hf := z_n c2 hf
      refine lv_iload_n hx hb dX8_guess_29 rfl (lv_at hl 3 rfl) ?_
      refine lv_i2l hx hb dX8_guess_30 rfl ?_
      refine lv_lconst (v := 0) hx hb dX8_guess_31 rfl ?_
      refine lv_ldc2 (v := 6) hx hb hown (htw _ mG_RX8_252) dX8_guess_32 ?_
      refine zc_RSi (As := [.long a3.toInt64, .long 0, .long 6]) (rest := []) hx hb hml hown htw (ctX8_in l D ac cs   a3.toInt64 0 6   _ rfl) (g_S mM_RX8_79 mT_yX8_in mN_RX8 mC_yX8_in) (hd_yX8_in) ⟨rfl, rfl⟩ ⟨(Nat.le_of_ble_eq_true rfl), (Nat.le_of_ble_eq_true rfl)⟩ hKX hC hS zP0 rfl hl.1 rfl (Nat.le_of_ble_eq_true rfl) ⟨Nat.zero_le _, Nat.zero_le _⟩ dX8_guess_35 ?_
      refine lv_if_eq (tgt := 54) hx hb dX8_guess_38 (by decide) (fun c3 => ?_) (fun c3 => ?_)
      · have hf := z_p c3 hf
        refine lv_iconst (v := (-1)) hx hb dX8_guess_54 rfl ?_
        obtain rfl := Option.some.inj hf
        exact zr_Mi hx hb hr hlocks hP hD hS dX8_guess_55
      · have hf := z_n c3 hf
        refine lv_iload hx hb dX8_guess_41 (lv_at hl 4 rfl) ?_
        refine lv_i2l hx hb dX8_guess_43 rfl ?_
        refine lv_lconst (v := 0) hx hb dX8_guess_44 rfl ?_
        refine lv_ldc2 (v := 3) hx hb hown (htw _ mG_RX8_324) dX8_guess_45 ?_
        refine zc_RSi (As := [.long a4.toInt64, .long 0, .long 3]) (rest := []) hx hb hml hown htw (ctX8_in l D ac cs   a4.toInt64 0 3   _ rfl) (g_S mM_RX8_79 mT_yX8_in mN_RX8 mC_yX8_in) (hd_yX8_in) ⟨rfl, rfl⟩ ⟨(Nat.le_of_ble_eq_true rfl), (Nat.le_of_ble_eq_true rfl)⟩ hKX hC hS zP0 rfl hl.1 rfl (Nat.le_of_ble_eq_true rfl) ⟨Nat.zero_le _, Nat.zero_le _⟩ dX8_guess_48 ?_
        refine lv_if_ne (tgt := 56) hx hb dX8_guess_51 (by decide) (fun c4 => ?_) (fun c4 => ?_)
        · have hf := z_n c4 hf
          refine lv_iload_n hx hb dX8_guess_56 rfl (lv_at hl 1 rfl) ?_
          refine lv_iload_n hx hb dX8_guess_57 rfl (lv_at hl 3 rfl) ?_
          have hj7 : ∀ (v5 : Int32), v5 = (if a3 ≤ a1 then a3 else a1) → ∀ (H : Heap) (locs : List Loc) (ls : Array Slot), va_P D vwCl (moW ac q 0 row un kp mt ps bx mo su wy wa od py ju pl rs) H → va_D A (moW ac q 0 row un kp mt ps bx mo su wy wa od py ju pl rs) → va_S A s.heap H locs → lv_has ls 16 [(1, .int a1), (2, .int a2), (3, .int a3), (4, .int a4)] → W p l e ({ frames := 2, cells := 0, slots := 0, locals := 55 } : Room) s m (([.ref (q 0), .int a1, .int a2, .int a3, .int a4] : List Value).toArray) below meth c H locs 0 0 (MQ below (va_Qi (fun r (_ : Unit) => r = res.1) (fun _ => zB D A (moW ac q res.2 row un kp mt ps bx mo su wy wa od py ju pl rs)) A) ([.ref (q 0), .int a1, .int a2, .int a3, .int a4] : List Value).toArray s 0 0 A) (F0 m 66 ls [.int v5]) := by
            intro v5 hv5 H locs ls hP hD hS hl
            have hf := z_let_u hv5 hf
            refine lv_istore (lv' := [(5, .int v5), (1, .int a1), (2, .int a2), (3, .int a3), (4, .int a4)]) hx hb dX8_guess_66 hl (Nat.le_of_ble_eq_true rfl) rfl (fun ls hl => ?_)
            refine lv_iload_n hx hb dX8_guess_68 rfl (lv_at hl 2 rfl) ?_
            refine lv_iload_n hx hb dX8_guess_69 rfl (lv_at hl 3 rfl) ?_
            have hj11 : ∀ (v9 : Int32), v9 = (if a3 ≤ a2 then a3 else a2) → ∀ (H : Heap) (locs : List Loc) (ls : Array Slot), va_P D vwCl (moW ac q 0 row un kp mt ps bx mo su wy wa od py ju pl rs) H → va_D A (moW ac q 0 row un kp mt ps bx mo su wy wa od py ju pl rs) → va_S A s.heap H locs → lv_has ls 16 [(1, .int a1), (2, .int a2), (4, .int a4), (5, .int v5)] → W p l e ({ frames := 2, cells := 0, slots := 0, locals := 55 } : Room) s m (([.ref (q 0), .int a1, .int a2, .int a3, .int a4] : List Value).toArray) below meth c H locs 0 0 (MQ below (va_Qi (fun r (_ : Unit) => r = res.1) (fun _ => zB D A (moW ac q res.2 row un kp mt ps bx mo su wy wa od py ju pl rs)) A) ([.ref (q 0), .int a1, .int a2, .int a3, .int a4] : List Value).toArray s 0 0 A) (F0 m 78 ls [.int v9]) := by
              intro v9 hv9 H locs ls hP hD hS hl
              have hf := z_let_u hv9 hf
              refine lv_istore (lv' := [(6, .int v9), (1, .int a1), (2, .int a2), (4, .int a4), (5, .int v5)]) hx hb dX8_guess_78 hl (Nat.le_of_ble_eq_true rfl) rfl (fun ls hl => ?_)
              refine lv_iload hx hb dX8_guess_80 (lv_at hl 4 rfl) ?_
              refine lv_iload hx hb dX8_guess_82 (lv_at hl 0 rfl) ?_
              refine lv_iadd hx hb dX8_guess_84 ?_
              refine lv_topi (fun x13 hx13 => ?_)
              have hf := z_let_u hx13 hf
              refine lv_istore (lv' := [(7, .int x13), (6, .int v9), (1, .int a1), (2, .int a2), (4, .int a4), (5, .int v5)]) hx hb dX8_guess_85 hl (Nat.le_of_ble_eq_true rfl) rfl (fun ls hl => ?_)
              refine lv_iload_n hx hb dX8_guess_87 rfl (lv_at hl 3 rfl) ?_
              refine lv_iload hx hb dX8_guess_88 (lv_at hl 1 rfl) ?_
              refine lv_isub hx hb dX8_guess_90 ?_
              refine lv_i2l hx hb dX8_guess_91 rfl ?_
              refine lv_topl (fun x14 hx14 => ?_)
              have hf := z_let_u hx14 hf
              refine lv_lstore (lv' := [(8, .long x14), (7, .int x13), (6, .int v9), (1, .int a1), (2, .int a2), (4, .int a4), (5, .int v5)]) hx hb dX8_guess_92 hl (Nat.le_of_ble_eq_true rfl) rfl (fun ls hl => ?_)
              refine lv_lconst (v := 1) hx hb dX8_guess_94 rfl ?_
              refine lv_lstore (lv' := [(10, .long 1), (8, .long x14), (7, .int x13), (6, .int v9), (1, .int a1), (2, .int a2), (4, .int a4), (5, .int v5)]) hx hb dX8_guess_95 hl (Nat.le_of_ble_eq_true rfl) rfl (fun ls hl => ?_)
              refine lv_iconst (v := 0) hx hb dX8_guess_97 rfl ?_
              refine lv_istore (lv' := [(12, .int 0), (10, .long 1), (8, .long x14), (7, .int x13), (6, .int v9), (1, .int a1), (2, .int a2), (4, .int a4), (5, .int v5)]) hx hb dX8_guess_98 hl (Nat.le_of_ble_eq_true rfl) rfl (fun ls hl => ?_)
              refine lv_iconst (v := 1) hx hb dX8_guess_100 rfl ?_
              refine lv_istore (lv' := [(13, .int 1), (12, .int 0), (10, .long 1), (8, .long x14), (7, .int x13), (6, .int v9), (1, .int a1), (2, .int a2), (4, .int a4), (5, .int v5)]) hx hb dX8_guess_101 hl (Nat.le_of_ble_eq_true rfl) rfl (fun ls hl => ?_)
              refine lv_iload_n hx hb dX8_guess_103 rfl (lv_at hl 6 rfl) ?_
              refine lv_iload hx hb dX8_guess_104 (lv_at hl 9 rfl) ?_
              refine lv_isub hx hb dX8_guess_106 ?_
              refine lv_iload hx hb dX8_guess_107 (lv_at hl 5 rfl) ?_
              refine lv_imul hx hb dX8_guess_109 ?_
              refine lv_iload_n hx hb dX8_guess_110 rfl (lv_at hl 7 rfl) ?_
              refine lv_iload hx hb dX8_guess_111 (lv_at hl 9 rfl) ?_
              refine lv_imul hx hb dX8_guess_113 ?_
              refine lv_iadd hx hb dX8_guess_114 ?_
              refine lv_i2l hx hb dX8_guess_115 rfl ?_
              refine lv_topl (fun x15 hx15 => ?_)
              have hf := z_let_u hx15 hf
              refine lv_lstore (lv' := [(14, .long x15), (13, .int 1), (12, .int 0), (10, .long 1), (8, .long x14), (7, .int x13), (6, .int v9), (1, .int a1), (2, .int a2), (4, .int a4), (5, .int v5)]) hx hb dX8_guess_116 hl (Nat.le_of_ble_eq_true rfl) rfl (fun ls hl => ?_)
              refine lv_iload hx hb dX8_guess_118 (lv_at hl 5 rfl) ?_
              obtain ⟨k20, hk20, hf⟩ := z_jn_u hf
              have hj21 : ∀ (v16 : Int64) (v17 : Int64) (v18 : Int32) (v19 : Int32), k20 (v16, v17, v18, v19) = some res → ∀ (H : Heap) (locs : List Loc) (ls : Array Slot), va_P D vwCl (moW ac q 0 row un kp mt ps bx mo su wy wa od py ju pl rs) H → va_D A (moW ac q 0 row un kp mt ps bx mo su wy wa od py ju pl rs) → va_S A s.heap H locs → lv_has ls 16 [(1, .int a1), (4, .int a4), (5, .int v5), (8, .long v16), (10, .long v17), (12, .int v18), (13, .int v19)] → W p l e ({ frames := 2, cells := 0, slots := 0, locals := 55 } : Room) s m (([.ref (q 0), .int a1, .int a2, .int a3, .int a4] : List Value).toArray) below meth c H locs 0 0 (MQ below (va_Qi (fun r (_ : Unit) => r = res.1) (fun _ => zB D A (moW ac q res.2 row un kp mt ps bx mo su wy wa od py ju pl rs)) A) ([.ref (q 0), .int a1, .int a2, .int a3, .int a4] : List Value).toArray s 0 0 A) (F0 m 152 ls []) := by
                intro v16 v17 v18 v19 hf H locs ls hP hD hS hl
                have hf := hk20 _ hf
                refine lv_iload_n hx hb dX8_guess_152 rfl (lv_at hl 0 rfl) ?_
                refine lv_iload hx hb dX8_guess_153 (lv_at hl 2 rfl) ?_
                refine lv_isub hx hb dX8_guess_155 ?_
                refine lv_i2l hx hb dX8_guess_156 rfl ?_
                refine lv_lload hx hb dX8_guess_157 (lv_at hl 4 rfl) ?_
                refine lv_lmul hx hb dX8_guess_159 ?_
                refine lv_lload hx hb dX8_guess_160 (lv_at hl 3 rfl) ?_
                refine W.lcmp hx hb dX8_guess_162 ?_
                obtain ⟨k26, hk26, hf⟩ := z_jn_u hf
                have hj27 : ∀ (v22 : Int64) (v23 : Int64) (v24 : Int32) (v25 : Int32), k26 (v22, v23, v24, v25) = some res → ∀ (H : Heap) (locs : List Loc) (ls : Array Slot), va_P D vwCl (moW ac q 0 row un kp mt ps bx mo su wy wa od py ju pl rs) H → va_D A (moW ac q 0 row un kp mt ps bx mo su wy wa od py ju pl rs) → va_S A s.heap H locs → lv_has ls 16 [(4, .int a4), (8, .long v22), (10, .long v23), (12, .int v24), (13, .int v25)] → W p l e ({ frames := 2, cells := 0, slots := 0, locals := 55 } : Room) s m (([.ref (q 0), .int a1, .int a2, .int a3, .int a4] : List Value).toArray) below meth c H locs 0 0 (MQ below (va_Qi (fun r (_ : Unit) => r = res.1) (fun _ => zB D A (moW ac q res.2 row un kp mt ps bx mo su wy wa od py ju pl rs)) A) ([.ref (q 0), .int a1, .int a2, .int a3, .int a4] : List Value).toArray s 0 0 A) (F0 m 182 ls []) := by
                  intro v22 v23 v24 v25 hf H locs ls hP hD hS hl
                  have hf := hk26 _ hf
                  refine lv_iload hx hb dX8_guess_182 (lv_at hl 0 rfl) ?_
                  refine lv_iconst (v := 2) hx hb dX8_guess_184 rfl ?_
                  refine lv_icmp_ge (tgt := 204) hx hb dX8_guess_185 (by decide) (fun c28 => ?_) (fun c28 => ?_)
                  · have hf := z_p c28 hf
                    refine lv_iload hx hb dX8_guess_204 (lv_at hl 3 rfl) ?_
                    refine lv_i2l hx hb dX8_guess_206 rfl ?_
                    refine lv_iload hx hb dX8_guess_207 (lv_at hl 4 rfl) ?_
                    refine lv_i2l hx hb dX8_guess_209 rfl ?_
                    refine lv_iload hx hb dX8_guess_210 (lv_at hl 0 rfl) ?_
                    refine lv_iconst (v := 2) hx hb dX8_guess_212 rfl ?_
                    refine lv_isub hx hb dX8_guess_213 ?_
                    obtain ⟨r29, hr29, hf⟩ := z_bd_u hf
                    refine zc_RSl (As := [.long v24.toInt64, .long v25.toInt64, .int (a4 - 2)]) (rest := []) hx hb hml hown htw (ctX8_told l D ac cs   v24.toInt64 v25.toInt64 (a4 - 2)   F _ hr29) (g_S mM_RX8_337 mT_yX8_told mN_RX8 mC_yX8_told) (hd_yX8_told) ⟨rfl, rfl⟩ ⟨(Nat.le_of_ble_eq_true rfl), (Nat.le_of_ble_eq_true rfl)⟩ hKX hC hS zP0 rfl hl.1 rfl (Nat.le_of_ble_eq_true rfl) ⟨Nat.zero_le _, Nat.zero_le _⟩ dX8_guess_214 ?_
                    refine lv_l2i hx hb dX8_guess_217 rfl ?_
                    obtain rfl := Option.some.inj hf
                    exact zr_Mi hx hb hr hlocks hP hD hS dX8_guess_218
                  · have hf := z_n c28 hf
                    refine lv_lload hx hb dX8_guess_188 (lv_at hl 1 rfl) ?_
                    refine lv_lload hx hb dX8_guess_190 (lv_at hl 2 rfl) ?_
                    refine lv_ldc2 (v := 6) hx hb hown (htw _ mG_RX8_252) dX8_guess_192 ?_
                    refine lv_lmul hx hb dX8_guess_195 ?_
                    refine lv_iload hx hb dX8_guess_196 (lv_at hl 0 rfl) ?_
                    obtain ⟨r30, hr30, hf⟩ := z_bd_u hf
                    refine zc_RSl (As := [.long v22, .long (v23 * 6), .int a4]) (rest := []) hx hb hml hown htw (ctX8_told l D ac cs   v22 (v23 * 6) a4   F _ hr30) (g_S mM_RX8_337 mT_yX8_told mN_RX8 mC_yX8_told) (hd_yX8_told) ⟨rfl, rfl⟩ ⟨(Nat.le_of_ble_eq_true rfl), (Nat.le_of_ble_eq_true rfl)⟩ hKX hC hS zP0 rfl hl.1 rfl (Nat.le_of_ble_eq_true rfl) ⟨Nat.zero_le _, Nat.zero_le _⟩ dX8_guess_198 ?_
                    refine lv_goto (tgt := 217) hx hb dX8_guess_201 (by decide) ?_
                    refine lv_l2i hx hb dX8_guess_217 rfl ?_
                    obtain rfl := Option.some.inj hf
                    exact zr_Mi hx hb hr hlocks hP hD hS dX8_guess_218
                refine lv_if_lt (tgt := 182) hx hb dX8_guess_163 (by decide) (fun c31 => ?_) (fun c31 => ?_)
                · have hf := z_p c31 hf
                  exact hj27 v16 v17 v18 v19 hf _ _ ls  hP hD hS (lv_sub hl [1, 3, 4, 5, 6] rfl)
                · have hf := z_n c31 hf
                  refine lv_iload_n hx hb dX8_guess_166 rfl (lv_at hl 0 rfl) ?_
                  refine lv_iload hx hb dX8_guess_167 (lv_at hl 2 rfl) ?_
                  refine lv_isub hx hb dX8_guess_169 ?_
                  refine lv_i2l hx hb dX8_guess_170 rfl ?_
                  refine lv_topl (fun x32 hx32 => ?_)
                  have hf := z_let_u hx32 hf
                  refine lv_lstore (lv' := [(8, .long x32), (1, .int a1), (4, .int a4), (5, .int v5), (10, .long v17), (12, .int v18), (13, .int v19)]) hx hb dX8_guess_171 hl (Nat.le_of_ble_eq_true rfl) rfl (fun ls hl => ?_)
                  refine lv_lconst (v := 1) hx hb dX8_guess_173 rfl ?_
                  refine lv_lstore (lv' := [(10, .long 1), (8, .long x32), (1, .int a1), (4, .int a4), (5, .int v5), (12, .int v18), (13, .int v19)]) hx hb dX8_guess_174 hl (Nat.le_of_ble_eq_true rfl) rfl (fun ls hl => ?_)
                  refine lv_iconst (v := 1) hx hb dX8_guess_176 rfl ?_
                  refine lv_istore (lv' := [(12, .int 1), (10, .long 1), (8, .long x32), (1, .int a1), (4, .int a4), (5, .int v5), (13, .int v19)]) hx hb dX8_guess_177 hl (Nat.le_of_ble_eq_true rfl) rfl (fun ls hl => ?_)
                  refine lv_iconst (v := 1) hx hb dX8_guess_179 rfl ?_
                  refine lv_istore (lv' := [(13, .int 1), (12, .int 1), (10, .long 1), (8, .long x32), (1, .int a1), (4, .int a4), (5, .int v5)]) hx hb dX8_guess_180 hl (Nat.le_of_ble_eq_true rfl) rfl (fun ls hl => ?_)
                  exact hj27 x32 1 1 1 hf _ _ ls  hP hD hS (lv_sub hl [5, 3, 2, 1, 0] rfl)
              refine lv_if_le (tgt := 152) hx hb dX8_guess_120 (by decide) (fun c33 => ?_) (fun c33 => ?_)
              · have hf := z_p c33 hf
                exact hj21 x14 1 0 1 hf _ _ ls  hP hD hS (lv_sub hl [7, 9, 10, 4, 3, 2, 1] rfl)
              · have hf := z_n c33 hf
                refine lv_lload hx hb dX8_guess_123 (lv_at hl 0 rfl) ?_
                refine lv_lload hx hb dX8_guess_125 (lv_at hl 4 rfl) ?_
                refine lv_iload hx hb dX8_guess_127 (lv_at hl 5 rfl) ?_
                refine lv_i2l hx hb dX8_guess_129 rfl ?_
                refine lv_lmul hx hb dX8_guess_130 ?_
                refine W.lcmp hx hb dX8_guess_131 ?_
                refine lv_if_lt (tgt := 152) hx hb dX8_guess_132 (by decide) (fun c34 => ?_) (fun c34 => ?_)
                · have hf := z_p c34 hf
                  exact hj21 x14 1 0 1 hf _ _ ls  hP hD hS (lv_sub hl [7, 9, 10, 4, 3, 2, 1] rfl)
                · have hf := z_n c34 hf
                  refine lv_lload hx hb dX8_guess_135 (lv_at hl 0 rfl) ?_
                  refine lv_lstore (lv' := [(8, .long x15), (14, .long x15), (13, .int 1), (12, .int 0), (10, .long 1), (7, .int x13), (6, .int v9), (1, .int a1), (2, .int a2), (4, .int a4), (5, .int v5)]) hx hb dX8_guess_137 hl (Nat.le_of_ble_eq_true rfl) rfl (fun ls hl => ?_)
                  refine lv_iload hx hb dX8_guess_139 (lv_at hl 5 rfl) ?_
                  refine lv_i2l hx hb dX8_guess_141 rfl ?_
                  refine lv_topl (fun x35 hx35 => ?_)
                  have hf := z_let_u hx35 hf
                  refine lv_lstore (lv' := [(10, .long x35), (8, .long x15), (14, .long x15), (13, .int 1), (12, .int 0), (7, .int x13), (6, .int v9), (1, .int a1), (2, .int a2), (4, .int a4), (5, .int v5)]) hx hb dX8_guess_142 hl (Nat.le_of_ble_eq_true rfl) rfl (fun ls hl => ?_)
                  refine lv_iload hx hb dX8_guess_144 (lv_at hl 6 rfl) ?_
                  refine lv_istore (lv' := [(12, .int v9), (10, .long x35), (8, .long x15), (14, .long x15), (13, .int 1), (7, .int x13), (6, .int v9), (1, .int a1), (2, .int a2), (4, .int a4), (5, .int v5)]) hx hb dX8_guess_146 hl (Nat.le_of_ble_eq_true rfl) rfl (fun ls hl => ?_)
                  refine lv_iload hx hb dX8_guess_148 (lv_at hl 5 rfl) ?_
                  refine lv_istore (lv' := [(13, .int x13), (12, .int v9), (10, .long x35), (8, .long x15), (14, .long x15), (7, .int x13), (6, .int v9), (1, .int a1), (2, .int a2), (4, .int a4), (5, .int v5)]) hx hb dX8_guess_150 hl (Nat.le_of_ble_eq_true rfl) rfl (fun ls hl => ?_)
                  exact hj21 x15 x35 v9 x13 hf _ _ ls  hP hD hS (lv_sub hl [7, 9, 10, 3, 2, 1, 0] rfl)
            refine lv_icmp_ge (tgt := 77) hx hb dX8_guess_70 (by decide) (fun c12 => ?_) (fun c12 => ?_)
            · skip
              refine lv_iload_n hx hb dX8_guess_77 rfl (lv_at hl 3 rfl) ?_
              exact hj11 a3 (if_pos c12).symm _ _ ls hP hD hS (lv_sub hl [1, 2, 4, 0] rfl)
            · skip
              refine lv_iload_n hx hb dX8_guess_73 rfl (lv_at hl 2 rfl) ?_
              refine lv_goto (tgt := 78) hx hb dX8_guess_74 (by decide) ?_
              exact hj11 a2 (if_neg c12).symm _ _ ls hP hD hS (lv_sub hl [1, 2, 4, 0] rfl)
          refine lv_icmp_ge (tgt := 65) hx hb dX8_guess_58 (by decide) (fun c8 => ?_) (fun c8 => ?_)
          · skip
            refine lv_iload_n hx hb dX8_guess_65 rfl (lv_at hl 3 rfl) ?_
            exact hj7 a3 (if_pos c8).symm _ _ ls hP hD hS (lv_sub hl [1, 2, 3, 4] rfl)
          · skip
            refine lv_iload_n hx hb dX8_guess_61 rfl (lv_at hl 1 rfl) ?_
            refine lv_goto (tgt := 66) hx hb dX8_guess_62 (by decide) ?_
            exact hj7 a1 (if_neg c8).symm _ _ ls hP hD hS (lv_sub hl [1, 2, 3, 4] rfl)
        · have hf := z_p c4 hf
          refine lv_iconst (v := (-1)) hx hb dX8_guess_54 rfl ?_
          obtain rfl := Option.some.inj hf
          exact zr_Mi hx hb hr hlocks hP hD hS dX8_guess_55

theorem hd_yX8_drawn : hdY yX8_drawn 3 := by decide +kernel
def M_drawn_L75 (F : Nat) (row : MRow) (u20 : Bx × Mo) (kx26 : Int32 → Mo → Option (Int32 × Th × Bx × Mo)) : Nat → Int32 → Mo → Option (Int32 × Th × Bx × Mo)
  | 0, _, _ => none
  | n24 + 1, x21, mo22 => if (mo_isOver mo22) = 0 then (if 60 ≤ (mo_kicks mo22) then (kx26 x21 mo22) else (z_let (z_rem ((1103 * x21) + 12345) 1000003) (fun x31 : Int32 => z_bd (M_chanceNow row u20.1 mo22) (fun r32 : Int32 => z_let (if r32 ≤ (z_rem x31 6) then 0 else 1) (fun v33 : Int32 => z_bd (M_go F row u20.1 mo22 v33) (fun u37 : Mo => M_drawn_L75 F row u20 kx26 n24 x31 u37)))))) else (kx26 x21 mo22)
def M_drawn_L65 (F : Nat) (row : MRow) (a2 : Int32) (a3 : Int32) (kx14 : Int32 → Int32 → Bx → Mo → Option (Int32 × Th × Bx × Mo)) : Nat → Int32 → Int32 → Int32 → Int32 → Bx → Mo → Option (Int32 × Th × Bx × Mo)
  | 0, _, _, _, _, _, _ => none
  | n12 + 1, x5, x6, x7, x8, bx9, mo10 => if a2 ≤ x8 then (kx14 x6 x7 bx9 mo10) else (z_bd (M_goNow F row bx9 mo10) (fun u20 : Bx × Mo => M_drawn_L75 F row u20 (fun (x27 : Int32) (mo28 : Mo) => z_let (if (mo_isOver mo28) = 0 then 2 else (M_ahead mo28)) (fun v38 : Int32 => z_let (if v38 = a3 then 1 else 0) (fun v42 : Int32 => z_let (x7 + v42) (fun x46 : Int32 => if (mo_kicks mo28) ≤ x6 then (z_let (x8 + 1) (fun x48 : Int32 => M_drawn_L65 F row a2 a3 kx14 n12 x27 x6 x46 x48 u20.1 mo28)) else (z_let (mo_kicks mo28) (fun x49 : Int32 => z_let (x8 + 1) (fun x50 : Int32 => M_drawn_L65 F row a2 a3 kx14 n12 x27 x49 x46 x50 u20.1 mo28))))))) F x5 u20.2))
def M_drawn (F : Nat) (row : MRow) (bx : Bx) (mo : Mo) (a1 : Int32) (a2 : Int32) (a3 : Int32) : Option (Int32 × Th × Bx × Mo) := if M_in a1.toInt64 0 999999 = 0 then (some ((-1), 0, bx, mo)) else (if M_in a2.toInt64 1 100 = 0 then (some ((-1), 0, bx, mo)) else (if M_in a3.toInt64 0 3 = 0 then (some ((-1), 0, bx, mo)) else (if M_isTold row = 0 then (some ((-2), 0, bx, mo)) else (M_drawn_L65 F row a2 a3 (fun (x15 : Int32) (x16 : Int32) (bx17 : Bx) (mo18 : Mo) => if a3 = 3 then (some (x15, 0, bx17, mo18)) else (some (x16, 0, bx17, mo18))) F a1 0 0 0 bx mo))))
set_option maxHeartbeats 4000000 in
set_option maxRecDepth 100000 in
theorem ctX8_drawn (l : Launch) (D : va_G) (ac cs : Nat → Nat) (q : Nat → Nat) (sz : Nat) (th : Th) (row : MRow) (un : Un) (kp : Kp) (mt : Mt) (ps : Ps) (bx : Bx) (mo : Mo) (su : Su) (wy : Wy) (wa : Wa) (od : Od) (py : Py) (ju : Ju) (pl : Pl) (rs : Rs) (a1 : Int32) (a2 : Int32) (a3 : Int32) (F : Nat) (res : Int32 × Th × Bx × Mo) (hf : M_drawn F row bx mo a1 a2 a3 = some res) : Met l yX8_drawn (cWW yX8_drawn cX8_drawn 9 (some .int)) { frames := 4, cells := 0, slots := 0, locals := 86 } (zM D ac cs [.ref (q 0), .int a1, .int a2, .int a3] (moW ac q th row un kp mt ps bx mo su wy wa od py ju pl rs) sz) (va_Qi (fun r (_ : Unit) => r = res.1) (fun _ => zB D (va_A (moW ac q th row un kp mt ps bx mo su wy wa od py ju pl rs) sz) (moW ac q res.2.1 row un kp mt ps res.2.2.1 res.2.2.2 su wy wa od py ju pl rs)) (va_A (moW ac q th row un kp mt ps bx mo su wy wa od py ju pl rs) sz)) 0 0 (va_A (moW ac q th row un kp mt ps bx mo su wy wa od py ju pl rs) sz) := by
  refine Met.ofW (cc := cX8_drawn) (maxL := 9) (ret := (some .int)) (by decide) rfl ?_
  intro p e s m args below meth c s₁ B hml hv
  obtain ⟨rfl, hsz, hP, hKX, hD0, hC⟩ := hv
  have hx := B.exec
  have hb := B.bytes
  have hr := B.returns
  have hts := atoms_spec (ws := cWW yX8_drawn cX8_drawn 9 (some .int)) B.pre
  have htw : ∀ w ∈ WW, w.before _ s = true := fun w h => hts w (List.mem_cons_of_mem _ h)
  have hown : s.vm.findClass RX8 = some m.cls := findClass_of_methodNamed B.named
  have hlocks := B.notSynchronized
  clear hts B
  subst hsz
  have hD := hD0.self (sz := s.heap.size)
  generalize hAe : va_A (moW ac q th row un kp mt ps bx mo su wy wa od py ju pl rs) s.heap.size = A at hD hC ⊢
  have hA : ∀ q : Nat, s.heap.size ≤ q → A q := fun q h => by rw [← hAe]; exact Or.inr h
  have hS : va_S A s.heap s.heap [] := va_S.rf
  clear hD0 hAe
  have hP : va_P D vwCl (moW ac q th row un kp mt ps bx mo su wy wa od py ju pl rs) s.heap := hP
  have hl := lv_entry ([.ref (q 0), .int a1, .int a2, .int a3]) (n := 9) (Nat.le_of_ble_eq_true rfl)
  rw [lg_entry_eq]
  generalize (lg_sl ([.ref (q 0), .int a1, .int a2, .int a3]) ++ List.replicate (9 - (lg_sl ([.ref (q 0), .int a1, .int a2, .int a3])).length) Slot.unset).toArray = ls at hl ⊢
  have hl : lv_has ls 9 [(0, .ref (q 0)), (1, .int a1), (2, .int a2), (3, .int a3)] := hl
  unfold M_drawn at hf
  show W p l e ({ frames := 4, cells := 0, slots := 0, locals := 86 } : Room) s m _ below meth c s.heap [] 0 0 _ (F0 m 0 ls [])
  refine lv_aload_n hx hb dX8_drawn_0 rfl (lv_at hl 0 rfl) ?_
  refine lv_iconst (v := 0) hx hb dX8_drawn_1 rfl ?_
  refine va_put (D := D) (ci := 8) (v := .int 0) (ty := tyX8 0) (C := RX8) (T := TX8) (N := 41) hx hb htw WW_wsX80 tyX8 tyX8_ok nmX8 hown hKX.1 hP hD hS 0 rfl rfl 0 (Nat.le_of_ble_eq_true rfl) (htw _ mF_RX8_75) (fun _ h9 => h9) rfl (tyX8_ok 0 (Nat.le_of_ble_eq_true rfl)) rfl rfl (Nat.le_of_ble_eq_true rfl) dX8_drawn_2 (fun H locs hP hD hS => ?_)
  have hP : va_P D vwCl (moW ac q 0 row un kp mt ps bx mo su wy wa od py ju pl rs) H := hP
  have hD : va_D A (moW ac q 0 row un kp mt ps bx mo su wy wa od py ju pl rs) := hD
  refine lv_iload_n hx hb dX8_drawn_5 rfl (lv_at hl 1 rfl) ?_
  refine lv_i2l hx hb dX8_drawn_6 rfl ?_
  refine lv_lconst (v := 0) hx hb dX8_drawn_7 rfl ?_
  refine lv_ldc2 (v := 999999) hx hb hown (htw _ mG_RX8_389) dX8_drawn_8 ?_
  refine zc_RSi (As := [.long a1.toInt64, .long 0, .long 999999]) (rest := []) hx hb hml hown htw (ctX8_in l D ac cs   a1.toInt64 0 999999   _ rfl) (g_S mM_RX8_79 mT_yX8_in mN_RX8 mC_yX8_in) (hd_yX8_in) ⟨rfl, rfl⟩ ⟨(Nat.le_of_ble_eq_true rfl), (Nat.le_of_ble_eq_true rfl)⟩ hKX hC hS zP0 rfl hl.1 rfl (Nat.le_of_ble_eq_true rfl) ⟨Nat.zero_le _, Nat.zero_le _⟩ dX8_drawn_11 ?_
  refine lv_if_eq (tgt := 41) hx hb dX8_drawn_14 (by decide) (fun c1 => ?_) (fun c1 => ?_)
  · have hf := z_p c1 hf
    refine lv_iconst (v := (-1)) hx hb dX8_drawn_41 rfl ?_
    obtain rfl := Option.some.inj hf
    exact zr_Mi hx hb hr hlocks hP hD hS dX8_drawn_42
  · have hf := z_n c1 hf
    refine lv_iload_n hx hb dX8_drawn_17 rfl (lv_at hl 2 rfl) ?_
    refine lv_i2l hx hb dX8_drawn_18 rfl ?_
    refine lv_lconst (v := 1) hx hb dX8_drawn_19 rfl ?_
    refine lv_ldc2 (v := 100) hx hb hown (htw _ mG_RX8_391) dX8_drawn_20 ?_
    refine zc_RSi (As := [.long a2.toInt64, .long 1, .long 100]) (rest := []) hx hb hml hown htw (ctX8_in l D ac cs   a2.toInt64 1 100   _ rfl) (g_S mM_RX8_79 mT_yX8_in mN_RX8 mC_yX8_in) (hd_yX8_in) ⟨rfl, rfl⟩ ⟨(Nat.le_of_ble_eq_true rfl), (Nat.le_of_ble_eq_true rfl)⟩ hKX hC hS zP0 rfl hl.1 rfl (Nat.le_of_ble_eq_true rfl) ⟨Nat.zero_le _, Nat.zero_le _⟩ dX8_drawn_23 ?_
    refine lv_if_eq (tgt := 41) hx hb dX8_drawn_26 (by decide) (fun c2 => ?_) (fun c2 => ?_)
    · have hf := z_p c2 hf
      refine lv_iconst (v := (-1)) hx hb dX8_drawn_41 rfl ?_
      obtain rfl := Option.some.inj hf
      exact zr_Mi hx hb hr hlocks hP hD hS dX8_drawn_42
    · have hf := z_n c2 hf
      refine lv_iload_n hx hb dX8_drawn_29 rfl (lv_at hl 3 rfl) ?_
      refine lv_i2l hx hb dX8_drawn_30 rfl ?_
      refine lv_lconst (v := 0) hx hb dX8_drawn_31 rfl ?_
      refine lv_ldc2 (v := 3) hx hb hown (htw _ mG_RX8_324) dX8_drawn_32 ?_
      refine zc_RSi (As := [.long a3.toInt64, .long 0, .long 3]) (rest := []) hx hb hml hown htw (ctX8_in l D ac cs   a3.toInt64 0 3   _ rfl) (g_S mM_RX8_79 mT_yX8_in mN_RX8 mC_yX8_in) (hd_yX8_in) ⟨rfl, rfl⟩ ⟨(Nat.le_of_ble_eq_true rfl), (Nat.le_of_ble_eq_true rfl)⟩ hKX hC hS zP0 rfl hl.1 rfl (Nat.le_of_ble_eq_true rfl) ⟨Nat.zero_le _, Nat.zero_le _⟩ dX8_drawn_35 ?_
      refine lv_if_ne (tgt := 43) hx hb dX8_drawn_38 (by decide) (fun c3 => ?_) (fun c3 => ?_)
      · have hf := z_n c3 hf
        refine lv_aload_n hx hb dX8_drawn_43 rfl (lv_at hl 0 rfl) ?_
        refine zc_RVi (As := []) (rest := []) hx hb hml hown htw (ctX8_isTold l D ac cs q 0 row un kp mt ps bx mo su wy wa od py ju pl rs    _ rfl) (g_V mM_RX8_83 mI_yX8_isTold mS_RX8_yX8_isTold_yX8_isTold mN_RX8 mC_yX8_isTold) rfl (hd_yX8_isTold) ⟨rfl, rfl⟩ ⟨(Nat.le_of_ble_eq_true rfl), (Nat.le_of_ble_eq_true rfl)⟩ hKX hC hS hP 8 rfl rfl rfl hl.1 rfl (Nat.le_of_ble_eq_true rfl) ⟨Nat.zero_le _, Nat.zero_le _⟩ dX8_drawn_44 ?_
        refine lv_if_ne (tgt := 53) hx hb dX8_drawn_47 (by decide) (fun c4 => ?_) (fun c4 => ?_)
        · have hf := z_n c4 hf
          refine lv_iload_n hx hb dX8_drawn_53 rfl (lv_at hl 1 rfl) ?_
          refine lv_istore (lv' := [(4, .int a1), (0, .ref (q 0)), (1, .int a1), (2, .int a2), (3, .int a3)]) hx hb dX8_drawn_54 hl (Nat.le_of_ble_eq_true rfl) rfl (fun ls hl => ?_)
          refine lv_iconst (v := 0) hx hb dX8_drawn_56 rfl ?_
          refine lv_istore (lv' := [(5, .int 0), (4, .int a1), (0, .ref (q 0)), (1, .int a1), (2, .int a2), (3, .int a3)]) hx hb dX8_drawn_57 hl (Nat.le_of_ble_eq_true rfl) rfl (fun ls hl => ?_)
          refine lv_iconst (v := 0) hx hb dX8_drawn_59 rfl ?_
          refine lv_istore (lv' := [(6, .int 0), (5, .int 0), (4, .int a1), (0, .ref (q 0)), (1, .int a1), (2, .int a2), (3, .int a3)]) hx hb dX8_drawn_60 hl (Nat.le_of_ble_eq_true rfl) rfl (fun ls hl => ?_)
          refine lv_iconst (v := 0) hx hb dX8_drawn_62 rfl ?_
          refine lv_istore (lv' := [(7, .int 0), (6, .int 0), (5, .int 0), (4, .int a1), (0, .ref (q 0)), (1, .int a1), (2, .int a2), (3, .int a3)]) hx hb dX8_drawn_63 hl (Nat.le_of_ble_eq_true rfl) rfl (fun ls hl => ?_)
          have hL11 : ∀ (kx14 : Int32 → Int32 → Bx → Mo → Option (Int32 × Th × Bx × Mo)) (hkx14 : ∀ (x15 : Int32) (x16 : Int32) (bx17 : Bx) (mo18 : Mo), kx14 x15 x16 bx17 mo18 = some res → ∀ (H : Heap) (locs : List Loc) (ls : Array Slot), va_P D vwCl (moW ac q 0 row un kp mt ps bx17 mo18 su wy wa od py ju pl rs) H → va_D A (moW ac q 0 row un kp mt ps bx17 mo18 su wy wa od py ju pl rs) → va_S A s.heap H locs → lv_has ls 9 [(3, .int a3), (5, .int x15), (6, .int x16)] → W p l e ({ frames := 4, cells := 0, slots := 0, locals := 86 } : Room) s m (([.ref (q 0), .int a1, .int a2, .int a3] : List Value).toArray) below meth c H locs 0 0 (MQ below (va_Qi (fun r (_ : Unit) => r = res.1) (fun _ => zB D A (moW ac q res.2.1 row un kp mt ps res.2.2.1 res.2.2.2 su wy wa od py ju pl rs)) A) ([.ref (q 0), .int a1, .int a2, .int a3] : List Value).toArray s 0 0 A) (F0 m 190 ls [])) (n12 : Nat) (x5 : Int32) (x6 : Int32) (x7 : Int32) (x8 : Int32) (bx9 : Bx) (mo10 : Mo), M_drawn_L65 F row a2 a3 kx14 n12 x5 x6 x7 x8 bx9 mo10 = some res → ∀ (H : Heap) (locs : List Loc) (ls : Array Slot), va_P D vwCl (moW ac q 0 row un kp mt ps bx9 mo10 su wy wa od py ju pl rs) H → va_D A (moW ac q 0 row un kp mt ps bx9 mo10 su wy wa od py ju pl rs) → va_S A s.heap H locs → lv_has ls 9 [(0, .ref (q 0)), (2, .int a2), (3, .int a3), (4, .int x5), (5, .int x6), (6, .int x7), (7, .int x8)] → W p l e ({ frames := 4, cells := 0, slots := 0, locals := 86 } : Room) s m (([.ref (q 0), .int a1, .int a2, .int a3] : List Value).toArray) below meth c H locs 0 0 (MQ below (va_Qi (fun r (_ : Unit) => r = res.1) (fun _ => zB D A (moW ac q res.2.1 row un kp mt ps res.2.2.1 res.2.2.2 su wy wa od py ju pl rs)) A) ([.ref (q 0), .int a1, .int a2, .int a3] : List Value).toArray s 0 0 A) (F0 m 65 ls []) := by
            intro kx14 hkx14 n12
            induction n12 with
            | zero => intro x5 x6 x7 x8 bx9 mo10 hf; rw [M_drawn_L65] at hf; cases hf
            | succ n12 ih13 =>
              intro x5 x6 x7 x8 bx9 mo10 hf H locs ls hP hD hS hl
              rw [M_drawn_L65] at hf
              refine lv_iload hx hb dX8_drawn_65 (lv_at hl 6 rfl) ?_
              refine lv_iload_n hx hb dX8_drawn_67 rfl (lv_at hl 1 rfl) ?_
              refine lv_icmp_ge (tgt := 190) hx hb dX8_drawn_68 (by decide) (fun c19 => ?_) (fun c19 => ?_)
              · have hf := z_p c19 hf
                exact hkx14 x6 x7 bx9 mo10 hf _ _ ls  hP hD hS (lv_sub hl [2, 4, 5] rfl)
              · have hf := z_n c19 hf
                refine lv_aload_n hx hb dX8_drawn_71 rfl (lv_at hl 0 rfl) ?_
                obtain ⟨u20, hu20, hf⟩ := z_bd_u hf
                refine zc_MVv (As := []) (rest := []) (wr := []) (wsc := moW ac q 0 row un kp mt ps bx9 mo10 su wy wa od py ju pl rs) (wsc' := moW ac q 0 row un kp mt ps u20.1 u20.2 su wy wa od py ju pl rs) hx hb hml hown htw (ctX8_goNow l D ac cs q H.size 0 row un kp mt ps bx9 mo10 su wy wa od py ju pl rs    F u20 hu20) (g_V mM_RX8_302 mI_yX8_goNow mS_RX8_yX8_goNow_yX8_goNow mN_RX8 mC_yX8_goNow) rfl (hd_yX8_goNow) ⟨rfl, rfl⟩ ⟨(Nat.le_of_ble_eq_true rfl), (Nat.le_of_ble_eq_true rfl)⟩ hKX hC hS hA hP hD [0, 1, 2, 3, 4, 5, 6, 7, 8, 9, 10, 11, 12, 13, 14, 15, 16, 17, 18, 19, 20] [] rfl (by decide) rfl (by decide) (by decide) 8 rfl rfl rfl hl.1 rfl (Nat.le_of_ble_eq_true rfl) ⟨Nat.zero_le _, Nat.zero_le _⟩ dX8_drawn_72 (fun H locs hP hD hS => ?_)
                have hP : va_P D vwCl (moW ac q 0 row un kp mt ps u20.1 u20.2 su wy wa od py ju pl rs) H := hP
                have hD : va_D A (moW ac q 0 row un kp mt ps u20.1 u20.2 su wy wa od py ju pl rs) := hD
                have hL23 : ∀ (kx26 : Int32 → Mo → Option (Int32 × Th × Bx × Mo)) (hkx26 : ∀ (x27 : Int32) (mo28 : Mo), kx26 x27 mo28 = some res → ∀ (H : Heap) (locs : List Loc) (ls : Array Slot), va_P D vwCl (moW ac q 0 row un kp mt ps u20.1 mo28 su wy wa od py ju pl rs) H → va_D A (moW ac q 0 row un kp mt ps u20.1 mo28 su wy wa od py ju pl rs) → va_S A s.heap H locs → lv_has ls 9 [(0, .ref (q 0)), (2, .int a2), (3, .int a3), (4, .int x27), (5, .int x6), (6, .int x7), (7, .int x8)] → W p l e ({ frames := 4, cells := 0, slots := 0, locals := 86 } : Room) s m (([.ref (q 0), .int a1, .int a2, .int a3] : List Value).toArray) below meth c H locs 0 0 (MQ below (va_Qi (fun r (_ : Unit) => r = res.1) (fun _ => zB D A (moW ac q res.2.1 row un kp mt ps res.2.2.1 res.2.2.2 su wy wa od py ju pl rs)) A) ([.ref (q 0), .int a1, .int a2, .int a3] : List Value).toArray s 0 0 A) (F0 m 131 ls [])) (n24 : Nat) (x21 : Int32) (mo22 : Mo), M_drawn_L75 F row u20 kx26 n24 x21 mo22 = some res → ∀ (H : Heap) (locs : List Loc) (ls : Array Slot), va_P D vwCl (moW ac q 0 row un kp mt ps u20.1 mo22 su wy wa od py ju pl rs) H → va_D A (moW ac q 0 row un kp mt ps u20.1 mo22 su wy wa od py ju pl rs) → va_S A s.heap H locs → lv_has ls 9 [(0, .ref (q 0)), (2, .int a2), (3, .int a3), (4, .int x21), (5, .int x6), (6, .int x7), (7, .int x8)] → W p l e ({ frames := 4, cells := 0, slots := 0, locals := 86 } : Room) s m (([.ref (q 0), .int a1, .int a2, .int a3] : List Value).toArray) below meth c H locs 0 0 (MQ below (va_Qi (fun r (_ : Unit) => r = res.1) (fun _ => zB D A (moW ac q res.2.1 row un kp mt ps res.2.2.1 res.2.2.2 su wy wa od py ju pl rs)) A) ([.ref (q 0), .int a1, .int a2, .int a3] : List Value).toArray s 0 0 A) (F0 m 75 ls []) := by
                  intro kx26 hkx26 n24
                  induction n24 with
                  | zero => intro x21 mo22 hf; rw [M_drawn_L75] at hf; cases hf
                  | succ n24 ih25 =>
                    intro x21 mo22 hf H locs ls hP hD hS hl
                    rw [M_drawn_L75] at hf
                    refine lv_aload_n hx hb dX8_drawn_75 rfl (lv_at hl 0 rfl) ?_
                    refine va_get (D := D) (ci := 8) (v := .int (mo_isOver mo22)) (C := RX8) (T := TX8) (N := 41) hx hb htw WW_wsX80 hown hKX.1 hP 0 rfl rfl 21 (Nat.le_of_ble_eq_true rfl) (htw _ mF_RX8_208) (fun _ h9 => h9) rfl dX8_drawn_76 ?_
                    refine lv_if_ne (tgt := 131) hx hb dX8_drawn_79 (by decide) (fun c29 => ?_) (fun c29 => ?_)
                    · have hf := z_n c29 hf
                      exact hkx26 x21 mo22 hf _ _ ls  hP hD hS (lv_sub hl [0, 1, 2, 3, 4, 5, 6] rfl)
                    · have hf := z_p c29 hf
                      refine lv_aload_n hx hb dX8_drawn_82 rfl (lv_at hl 0 rfl) ?_
                      refine va_get (D := D) (ci := 8) (v := .int (mo_kicks mo22)) (C := RX8) (T := TX8) (N := 41) hx hb htw WW_wsX80 hown hKX.1 hP 0 rfl rfl 19 (Nat.le_of_ble_eq_true rfl) (htw _ mF_RX8_202) (fun _ h9 => h9) rfl dX8_drawn_83 ?_
                      refine lv_bipush (v := 60) hx hb dX8_drawn_86 rfl ?_
                      refine lv_icmp_ge (tgt := 131) hx hb dX8_drawn_88 (by decide) (fun c30 => ?_) (fun c30 => ?_)
                      · have hf := z_p c30 hf
                        exact hkx26 x21 mo22 hf _ _ ls  hP hD hS (lv_sub hl [0, 1, 2, 3, 4, 5, 6] rfl)
                      · have hf := z_n c30 hf
                        refine lv_sipush (v := 1103) hx hb dX8_drawn_91 rfl ?_
                        refine lv_iload hx hb dX8_drawn_94 (lv_at hl 3 rfl) ?_
                        refine lv_imul hx hb dX8_drawn_96 ?_
                        refine lv_sipush (v := 12345) hx hb dX8_drawn_97 rfl ?_
                        refine lv_iadd hx hb dX8_drawn_100 ?_
                        refine lv_ldcw (v := 1000003) hx hb hown (htw _ mG_RX8_393) dX8_drawn_101 ?_
                        refine zv_irem hx hb dX8_drawn_104 (by decide) ?_
                        refine lv_topi (fun x31 hx31 => ?_)
                        have hf := z_let_u hx31 hf
                        refine lv_istore (lv' := [(4, .int x31), (0, .ref (q 0)), (2, .int a2), (3, .int a3), (5, .int x6), (6, .int x7), (7, .int x8)]) hx hb dX8_drawn_105 hl (Nat.le_of_ble_eq_true rfl) rfl (fun ls hl => ?_)
                        refine lv_aload_n hx hb dX8_drawn_107 rfl (lv_at hl 1 rfl) ?_
                        refine lv_iload hx hb dX8_drawn_108 (lv_at hl 0 rfl) ?_
                        refine lv_bipush (v := 6) hx hb dX8_drawn_110 rfl ?_
                        refine zv_irem hx hb dX8_drawn_112 (by decide) ?_
                        refine lv_aload_n hx hb dX8_drawn_113 rfl (lv_at hl 1 rfl) ?_
                        obtain ⟨r32, hr32, hf⟩ := z_bd_u hf
                        refine zc_RVi (As := []) (rest := [.int (z_rem x31 6), .ref (q 0)]) hx hb hml hown htw (ctX8_chanceNow l D ac cs q 0 row un kp mt ps u20.1 mo22 su wy wa od py ju pl rs    _ hr32) (g_V mM_RX8_257 mI_yX8_chanceNow mS_RX8_yX8_chanceNow_yX8_chanceNow mN_RX8 mC_yX8_chanceNow) rfl (hd_yX8_chanceNow) ⟨rfl, rfl⟩ ⟨(Nat.le_of_ble_eq_true rfl), (Nat.le_of_ble_eq_true rfl)⟩ hKX hC hS hP 8 rfl rfl rfl hl.1 rfl (Nat.le_of_ble_eq_true rfl) ⟨Nat.zero_le _, Nat.zero_le _⟩ dX8_drawn_114 ?_
                        have hj35 : ∀ (v33 : Int32), v33 = (if r32 ≤ (z_rem x31 6) then 0 else 1) → z_b v33 = true → ∀ (H : Heap) (locs : List Loc) (ls : Array Slot), va_P D vwCl (moW ac q 0 row un kp mt ps u20.1 mo22 su wy wa od py ju pl rs) H → va_D A (moW ac q 0 row un kp mt ps u20.1 mo22 su wy wa od py ju pl rs) → va_S A s.heap H locs → lv_has ls 9 [(0, .ref (q 0)), (2, .int a2), (3, .int a3), (4, .int x31), (5, .int x6), (6, .int x7), (7, .int x8)] → W p l e ({ frames := 4, cells := 0, slots := 0, locals := 86 } : Room) s m (([.ref (q 0), .int a1, .int a2, .int a3] : List Value).toArray) below meth c H locs 0 0 (MQ below (va_Qi (fun r (_ : Unit) => r = res.1) (fun _ => zB D A (moW ac q res.2.1 row un kp mt ps res.2.2.1 res.2.2.2 su wy wa od py ju pl rs)) A) ([.ref (q 0), .int a1, .int a2, .int a3] : List Value).toArray s 0 0 A) (F0 m 125 ls [.int v33, .ref (q 0)]) := by
                          intro v33 hv33 bv33 H locs ls hP hD hS hl
                          have hf := z_let_u hv33 hf
                          obtain ⟨u37, hu37, hf⟩ := z_bd_u hf
                          refine zc_MVv (As := [.int v33]) (rest := []) (wr := []) (wsc := moW ac q 0 row un kp mt ps u20.1 mo22 su wy wa od py ju pl rs) (wsc' := moW ac q 0 row un kp mt ps u20.1 u37 su wy wa od py ju pl rs) hx hb hml hown htw (ctX8_go l D ac cs q H.size 0 row un kp mt ps u20.1 mo22 su wy wa od py ju pl rs v33   F u37 hu37) (g_V mM_RX8_214 mI_yX8_go mS_RX8_yX8_go_yX8_go mN_RX8 mC_yX8_go) rfl (hd_yX8_go) ⟨rfl, rfl⟩ ⟨(Nat.le_of_ble_eq_true rfl), (Nat.le_of_ble_eq_true rfl)⟩ hKX hC hS hA hP hD [0, 1, 2, 3, 4, 5, 6, 7, 8, 9, 10, 11, 12, 13, 14, 15, 16, 17, 18, 19, 20] [] rfl (by decide) rfl (by decide) (by decide) 8 rfl rfl rfl hl.1 rfl (Nat.le_of_ble_eq_true rfl) ⟨Nat.zero_le _, Nat.zero_le _⟩ dX8_drawn_125 (fun H locs hP hD hS => ?_)
                          have hP : va_P D vwCl (moW ac q 0 row un kp mt ps u20.1 u37 su wy wa od py ju pl rs) H := hP
                          have hD : va_D A (moW ac q 0 row un kp mt ps u20.1 u37 su wy wa od py ju pl rs) := hD
                          refine lv_goto (tgt := 75) hx hb dX8_drawn_128 (by decide) ?_
                          exact ih25 x31 u37 hf _ _ ls  hP hD hS (lv_sub hl [0, 1, 2, 3, 4, 5, 6] rfl)
                        refine lv_icmp_ge (tgt := 124) hx hb dX8_drawn_117 (by decide) (fun c36 => ?_) (fun c36 => ?_)
                        · skip
                          refine lv_iconst (v := 0) hx hb dX8_drawn_124 rfl ?_
                          exact hj35 0 (if_pos c36).symm z_b0 _ _ ls hP hD hS (lv_sub hl [1, 2, 3, 0, 4, 5, 6] rfl)
                        · skip
                          refine lv_iconst (v := 1) hx hb dX8_drawn_120 rfl ?_
                          refine lv_goto (tgt := 125) hx hb dX8_drawn_121 (by decide) ?_
                          exact hj35 1 (if_neg c36).symm z_b1 _ _ ls hP hD hS (lv_sub hl [1, 2, 3, 0, 4, 5, 6] rfl)
                refine hL23 _ ?_ F x5 u20.2 hf _ _ ls  hP hD hS (lv_sub hl [0, 1, 2, 3, 4, 5, 6] rfl)
                intro x27 mo28 hf H locs ls hP hD hS hl
                refine lv_aload_n hx hb dX8_drawn_131 rfl (lv_at hl 0 rfl) ?_
                refine va_get (D := D) (ci := 8) (v := .int (mo_isOver mo28)) (C := RX8) (T := TX8) (N := 41) hx hb htw WW_wsX80 hown hKX.1 hP 0 rfl rfl 21 (Nat.le_of_ble_eq_true rfl) (htw _ mF_RX8_208) (fun _ h9 => h9) rfl dX8_drawn_132 ?_
                have hj40 : ∀ (v38 : Int32), v38 = (if (mo_isOver mo28) = 0 then 2 else (M_ahead mo28)) → ∀ (H : Heap) (locs : List Loc) (ls : Array Slot), va_P D vwCl (moW ac q 0 row un kp mt ps u20.1 mo28 su wy wa od py ju pl rs) H → va_D A (moW ac q 0 row un kp mt ps u20.1 mo28 su wy wa od py ju pl rs) → va_S A s.heap H locs → lv_has ls 9 [(0, .ref (q 0)), (2, .int a2), (3, .int a3), (4, .int x27), (5, .int x6), (6, .int x7), (7, .int x8)] → W p l e ({ frames := 4, cells := 0, slots := 0, locals := 86 } : Room) s m (([.ref (q 0), .int a1, .int a2, .int a3] : List Value).toArray) below meth c H locs 0 0 (MQ below (va_Qi (fun r (_ : Unit) => r = res.1) (fun _ => zB D A (moW ac q res.2.1 row un kp mt ps res.2.2.1 res.2.2.2 su wy wa od py ju pl rs)) A) ([.ref (q 0), .int a1, .int a2, .int a3] : List Value).toArray s 0 0 A) (F0 m 146 ls [.int v38]) := by
                  intro v38 hv38 H locs ls hP hD hS hl
                  have hf := z_let_u hv38 hf
                  refine lv_istore (lv' := [(8, .int v38), (0, .ref (q 0)), (2, .int a2), (3, .int a3), (4, .int x27), (5, .int x6), (6, .int x7), (7, .int x8)]) hx hb dX8_drawn_146 hl (Nat.le_of_ble_eq_true rfl) rfl (fun ls hl => ?_)
                  refine lv_iload hx hb dX8_drawn_148 (lv_at hl 6 rfl) ?_
                  refine lv_iload hx hb dX8_drawn_150 (lv_at hl 0 rfl) ?_
                  refine lv_iload_n hx hb dX8_drawn_152 rfl (lv_at hl 3 rfl) ?_
                  have hj44 : ∀ (v42 : Int32), v42 = (if v38 = a3 then 1 else 0) → z_b v42 = true → ∀ (H : Heap) (locs : List Loc) (ls : Array Slot), va_P D vwCl (moW ac q 0 row un kp mt ps u20.1 mo28 su wy wa od py ju pl rs) H → va_D A (moW ac q 0 row un kp mt ps u20.1 mo28 su wy wa od py ju pl rs) → va_S A s.heap H locs → lv_has ls 9 [(0, .ref (q 0)), (2, .int a2), (3, .int a3), (4, .int x27), (5, .int x6), (7, .int x8)] → W p l e ({ frames := 4, cells := 0, slots := 0, locals := 86 } : Room) s m (([.ref (q 0), .int a1, .int a2, .int a3] : List Value).toArray) below meth c H locs 0 0 (MQ below (va_Qi (fun r (_ : Unit) => r = res.1) (fun _ => zB D A (moW ac q res.2.1 row un kp mt ps res.2.2.1 res.2.2.2 su wy wa od py ju pl rs)) A) ([.ref (q 0), .int a1, .int a2, .int a3] : List Value).toArray s 0 0 A) (F0 m 161 ls [.int v42, .int x7]) := by
                    intro v42 hv42 bv42 H locs ls hP hD hS hl
                    have hf := z_let_u hv42 hf
                    refine lv_iadd hx hb dX8_drawn_161 ?_
                    refine lv_topi (fun x46 hx46 => ?_)
                    have hf := z_let_u hx46 hf
                    refine lv_istore (lv' := [(6, .int x46), (0, .ref (q 0)), (2, .int a2), (3, .int a3), (4, .int x27), (5, .int x6), (7, .int x8)]) hx hb dX8_drawn_162 hl (Nat.le_of_ble_eq_true rfl) rfl (fun ls hl => ?_)
                    refine lv_aload_n hx hb dX8_drawn_164 rfl (lv_at hl 1 rfl) ?_
                    refine va_get (D := D) (ci := 8) (v := .int (mo_kicks mo28)) (C := RX8) (T := TX8) (N := 41) hx hb htw WW_wsX80 hown hKX.1 hP 0 rfl rfl 19 (Nat.le_of_ble_eq_true rfl) (htw _ mF_RX8_202) (fun _ h9 => h9) rfl dX8_drawn_165 ?_
                    refine lv_iload hx hb dX8_drawn_168 (lv_at hl 5 rfl) ?_
                    refine lv_icmp_le (tgt := 180) hx hb dX8_drawn_170 (by decide) (fun c47 => ?_) (fun c47 => ?_)
                    · have hf := z_p c47 hf
                      refine lv_iload hx hb dX8_drawn_180 (lv_at hl 5 rfl) ?_
                      refine lv_istore (lv' := [(5, .int x6), (6, .int x46), (0, .ref (q 0)), (2, .int a2), (3, .int a3), (4, .int x27), (7, .int x8)]) hx hb dX8_drawn_182 hl (Nat.le_of_ble_eq_true rfl) rfl (fun ls hl => ?_)
                      obtain ⟨x48, hx48⟩ : ∃ y : Int32, y = (x8 + 1) := ⟨_, rfl⟩
                      have hf := z_let_u hx48 hf
                      refine lv_iinc (v := x48) (lv' := [(7, .int x48), (5, .int x6), (6, .int x46), (0, .ref (q 0)), (2, .int a2), (3, .int a3), (4, .int x27)]) hx hb dX8_drawn_184 hl (k := 6) rfl (by rw [hx48]; rfl) (Nat.le_of_ble_eq_true rfl) rfl (fun ls hl => ?_)
                      refine lv_goto (tgt := 65) hx hb dX8_drawn_187 (by decide) ?_
                      exact ih13 x27 x6 x46 x48 u20.1 mo28 hf _ _ ls  hP hD hS (lv_sub hl [3, 4, 5, 6, 1, 2, 0] rfl)
                    · have hf := z_n c47 hf
                      refine lv_aload_n hx hb dX8_drawn_173 rfl (lv_at hl 1 rfl) ?_
                      refine va_get (D := D) (ci := 8) (v := .int (mo_kicks mo28)) (C := RX8) (T := TX8) (N := 41) hx hb htw WW_wsX80 hown hKX.1 hP 0 rfl rfl 19 (Nat.le_of_ble_eq_true rfl) (htw _ mF_RX8_202) (fun _ h9 => h9) rfl dX8_drawn_174 ?_
                      refine lv_goto (tgt := 182) hx hb dX8_drawn_177 (by decide) ?_
                      refine lv_topi (fun x49 hx49 => ?_)
                      have hf := z_let_u hx49 hf
                      refine lv_istore (lv' := [(5, .int x49), (6, .int x46), (0, .ref (q 0)), (2, .int a2), (3, .int a3), (4, .int x27), (7, .int x8)]) hx hb dX8_drawn_182 hl (Nat.le_of_ble_eq_true rfl) rfl (fun ls hl => ?_)
                      obtain ⟨x50, hx50⟩ : ∃ y : Int32, y = (x8 + 1) := ⟨_, rfl⟩
                      have hf := z_let_u hx50 hf
                      refine lv_iinc (v := x50) (lv' := [(7, .int x50), (5, .int x49), (6, .int x46), (0, .ref (q 0)), (2, .int a2), (3, .int a3), (4, .int x27)]) hx hb dX8_drawn_184 hl (k := 6) rfl (by rw [hx50]; rfl) (Nat.le_of_ble_eq_true rfl) rfl (fun ls hl => ?_)
                      refine lv_goto (tgt := 65) hx hb dX8_drawn_187 (by decide) ?_
                      exact ih13 x27 x49 x46 x50 u20.1 mo28 hf _ _ ls  hP hD hS (lv_sub hl [3, 4, 5, 6, 1, 2, 0] rfl)
                  refine lv_icmp_ne (tgt := 160) hx hb dX8_drawn_153 (by decide) (fun c45 => ?_) (fun c45 => ?_)
                  · skip
                    refine lv_iconst (v := 0) hx hb dX8_drawn_160 rfl ?_
                    exact hj44 0 (if_neg c45).symm z_b0 _ _ ls hP hD hS (lv_sub hl [1, 2, 3, 4, 5, 7] rfl)
                  · skip
                    refine lv_iconst (v := 1) hx hb dX8_drawn_156 rfl ?_
                    refine lv_goto (tgt := 161) hx hb dX8_drawn_157 (by decide) ?_
                    exact hj44 1 (if_pos c45).symm z_b1 _ _ ls hP hD hS (lv_sub hl [1, 2, 3, 4, 5, 7] rfl)
                refine lv_if_eq (tgt := 145) hx hb dX8_drawn_135 (by decide) (fun c41 => ?_) (fun c41 => ?_)
                · skip
                  refine lv_iconst (v := 2) hx hb dX8_drawn_145 rfl ?_
                  exact hj40 2 (if_pos c41).symm _ _ ls hP hD hS (lv_sub hl [0, 1, 2, 3, 4, 5, 6] rfl)
                · skip
                  refine lv_aload_n hx hb dX8_drawn_138 rfl (lv_at hl 0 rfl) ?_
                  refine zc_RVi (As := []) (rest := []) hx hb hml hown htw (ctX8_ahead l D ac cs q 0 row un kp mt ps u20.1 mo28 su wy wa od py ju pl rs    _ rfl) (g_V mM_RX8_264 mI_yX8_ahead mS_RX8_yX8_ahead_yX8_ahead mN_RX8 mC_yX8_ahead) rfl (hd_yX8_ahead) ⟨rfl, rfl⟩ ⟨(Nat.le_of_ble_eq_true rfl), (Nat.le_of_ble_eq_true rfl)⟩ hKX hC hS hP 8 rfl rfl rfl hl.1 rfl (Nat.le_of_ble_eq_true rfl) ⟨Nat.zero_le _, Nat.zero_le _⟩ dX8_drawn_139 ?_
                  refine lv_goto (tgt := 146) hx hb dX8_drawn_142 (by decide) ?_
                  exact hj40 (M_ahead mo28) (if_neg c41).symm _ _ ls hP hD hS (lv_sub hl [0, 1, 2, 3, 4, 5, 6] rfl)
          refine hL11 _ ?_ F a1 0 0 0 bx mo hf _ _ ls  hP hD hS (lv_sub hl [4, 6, 7, 3, 2, 1, 0] rfl)
          intro x15 x16 bx17 mo18 hf H locs ls hP hD hS hl
          refine lv_iload_n hx hb dX8_drawn_190 rfl (lv_at hl 0 rfl) ?_
          refine lv_iconst (v := 3) hx hb dX8_drawn_191 rfl ?_
          refine lv_icmp_ne (tgt := 200) hx hb dX8_drawn_192 (by decide) (fun c51 => ?_) (fun c51 => ?_)
          · have hf := z_n c51 hf
            refine lv_iload hx hb dX8_drawn_200 (lv_at hl 2 rfl) ?_
            obtain rfl := Option.some.inj hf
            exact zr_Mi hx hb hr hlocks hP hD hS dX8_drawn_202
          · have hf := z_p c51 hf
            refine lv_iload hx hb dX8_drawn_195 (lv_at hl 1 rfl) ?_
            refine lv_goto (tgt := 202) hx hb dX8_drawn_197 (by decide) ?_
            obtain rfl := Option.some.inj hf
            exact zr_Mi hx hb hr hlocks hP hD hS dX8_drawn_202
        · have hf := z_p c4 hf
          refine lv_bipush (v := (-2)) hx hb dX8_drawn_50 rfl ?_
          obtain rfl := Option.some.inj hf
          exact zr_Mi hx hb hr hlocks hP hD hS dX8_drawn_52
      · have hf := z_p c3 hf
        refine lv_iconst (v := (-1)) hx hb dX8_drawn_41 rfl ?_
        obtain rfl := Option.some.inj hf
        exact zr_Mi hx hb hr hlocks hP hD hS dX8_drawn_42

theorem hd_yX8_undo : hdY yX8_undo 0 := by decide +kernel
def M_undo_L37 (un : Un) (x3 : Int32) : Nat → Int32 → MRow → Option (Int32 × Th × MRow × Un)
  | 0, _, _ => none
  | n7 + 1, x4, row5 => if 78 ≤ x4 then (some (x3, 0, row5, ((un_undos un), x3))) else (z_gd (z_in ((78 * x3) + x4) 1560) (z_let ((un_undos un) ((78 * x3) + x4).toNatClampNeg) (fun x11 : Int32 => z_gd (z_in x4 78) (z_let (x4 + 1) (fun x13 : Int32 => M_undo_L37 un x3 n7 x13 (upd row5 x4.toNatClampNeg x11))))))
def M_undo (F : Nat) (row : MRow) (un : Un) : Option (Int32 × Th × MRow × Un) := if M_isTold row = 0 then (some ((-2), 0, row, un)) else (if (un_nUndo un) = 0 then (some ((-3), 0, row, un)) else (z_let ((un_nUndo un) - 1) (fun x3 : Int32 => M_undo_L37 un x3 F 0 row)))
set_option maxHeartbeats 4000000 in
set_option maxRecDepth 100000 in
theorem ctX8_undo (l : Launch) (D : va_G) (ac cs : Nat → Nat) (q : Nat → Nat) (sz : Nat) (th : Th) (row : MRow) (un : Un) (kp : Kp) (mt : Mt) (ps : Ps) (bx : Bx) (mo : Mo) (su : Su) (wy : Wy) (wa : Wa) (od : Od) (py : Py) (ju : Ju) (pl : Pl) (rs : Rs) (F : Nat) (res : Int32 × Th × MRow × Un) (hf : M_undo F row un = some res) : Met l yX8_undo (cWW yX8_undo cX8_undo 2 (some .int)) { frames := 1, cells := 0, slots := 0, locals := 20 } (zM D ac cs [.ref (q 0)] (moW ac q th row un kp mt ps bx mo su wy wa od py ju pl rs) sz) (va_Qi (fun r (_ : Unit) => r = res.1) (fun _ => zB D (va_A (moW ac q th row un kp mt ps bx mo su wy wa od py ju pl rs) sz) (moW ac q res.2.1 res.2.2.1 res.2.2.2 kp mt ps bx mo su wy wa od py ju pl rs)) (va_A (moW ac q th row un kp mt ps bx mo su wy wa od py ju pl rs) sz)) 0 0 (va_A (moW ac q th row un kp mt ps bx mo su wy wa od py ju pl rs) sz) := by
  refine Met.ofW (cc := cX8_undo) (maxL := 2) (ret := (some .int)) (by decide) rfl ?_
  intro p e s m args below meth c s₁ B hml hv
  obtain ⟨rfl, hsz, hP, hKX, hD0, hC⟩ := hv
  have hx := B.exec
  have hb := B.bytes
  have hr := B.returns
  have hts := atoms_spec (ws := cWW yX8_undo cX8_undo 2 (some .int)) B.pre
  have htw : ∀ w ∈ WW, w.before _ s = true := fun w h => hts w (List.mem_cons_of_mem _ h)
  have hown : s.vm.findClass RX8 = some m.cls := findClass_of_methodNamed B.named
  have hlocks := B.notSynchronized
  clear hts B
  subst hsz
  have hD := hD0.self (sz := s.heap.size)
  generalize hAe : va_A (moW ac q th row un kp mt ps bx mo su wy wa od py ju pl rs) s.heap.size = A at hD hC ⊢
  have hA : ∀ q : Nat, s.heap.size ≤ q → A q := fun q h => by rw [← hAe]; exact Or.inr h
  have hS : va_S A s.heap s.heap [] := va_S.rf
  clear hD0 hAe
  have hP : va_P D vwCl (moW ac q th row un kp mt ps bx mo su wy wa od py ju pl rs) s.heap := hP
  have hl := lv_entry ([.ref (q 0)]) (n := 2) (Nat.le_of_ble_eq_true rfl)
  rw [lg_entry_eq]
  generalize (lg_sl ([.ref (q 0)]) ++ List.replicate (2 - (lg_sl ([.ref (q 0)])).length) Slot.unset).toArray = ls at hl ⊢
  have hl : lv_has ls 2 [(0, .ref (q 0))] := hl
  unfold M_undo at hf
  show W p l e ({ frames := 1, cells := 0, slots := 0, locals := 20 } : Room) s m _ below meth c s.heap [] 0 0 _ (F0 m 0 ls [])
  refine lv_aload_n hx hb dX8_undo_0 rfl (lv_at hl 0 rfl) ?_
  refine lv_iconst (v := 0) hx hb dX8_undo_1 rfl ?_
  refine va_put (D := D) (ci := 8) (v := .int 0) (ty := tyX8 0) (C := RX8) (T := TX8) (N := 41) hx hb htw WW_wsX80 tyX8 tyX8_ok nmX8 hown hKX.1 hP hD hS 0 rfl rfl 0 (Nat.le_of_ble_eq_true rfl) (htw _ mF_RX8_75) (fun _ h9 => h9) rfl (tyX8_ok 0 (Nat.le_of_ble_eq_true rfl)) rfl rfl (Nat.le_of_ble_eq_true rfl) dX8_undo_2 (fun H locs hP hD hS => ?_)
  have hP : va_P D vwCl (moW ac q 0 row un kp mt ps bx mo su wy wa od py ju pl rs) H := hP
  have hD : va_D A (moW ac q 0 row un kp mt ps bx mo su wy wa od py ju pl rs) := hD
  refine lv_aload_n hx hb dX8_undo_5 rfl (lv_at hl 0 rfl) ?_
  refine zc_RVi (As := []) (rest := []) hx hb hml hown htw (ctX8_isTold l D ac cs q 0 row un kp mt ps bx mo su wy wa od py ju pl rs    _ rfl) (g_V mM_RX8_83 mI_yX8_isTold mS_RX8_yX8_isTold_yX8_isTold mN_RX8 mC_yX8_isTold) rfl (hd_yX8_isTold) ⟨rfl, rfl⟩ ⟨(Nat.le_of_ble_eq_true rfl), (Nat.le_of_ble_eq_true rfl)⟩ hKX hC hS hP 8 rfl rfl rfl hl.1 rfl (Nat.le_of_ble_eq_true rfl) ⟨Nat.zero_le _, Nat.zero_le _⟩ dX8_undo_6 ?_
  refine lv_if_ne (tgt := 15) hx hb dX8_undo_9 (by decide) (fun c1 => ?_) (fun c1 => ?_)
  · have hf := z_n c1 hf
    refine lv_aload_n hx hb dX8_undo_15 rfl (lv_at hl 0 rfl) ?_
    refine va_get (D := D) (ci := 8) (v := .int (un_nUndo un)) (C := RX8) (T := TX8) (N := 41) hx hb htw WW_wsX80 hown hKX.1 hP 0 rfl rfl 3 (Nat.le_of_ble_eq_true rfl) (htw _ mF_RX8_91) (fun _ h9 => h9) rfl dX8_undo_16 ?_
    refine lv_if_ne (tgt := 25) hx hb dX8_undo_19 (by decide) (fun c2 => ?_) (fun c2 => ?_)
    · have hf := z_n c2 hf
      refine lv_aload_n hx hb dX8_undo_25 rfl (lv_at hl 0 rfl) ?_
      refine lv_dup hx hb dX8_undo_26 rfl ?_
      refine va_get (D := D) (ci := 8) (v := .int (un_nUndo un)) (C := RX8) (T := TX8) (N := 41) hx hb htw WW_wsX80 hown hKX.1 hP 0 rfl rfl 3 (Nat.le_of_ble_eq_true rfl) (htw _ mF_RX8_91) (fun _ h9 => h9) rfl dX8_undo_27 ?_
      refine lv_iconst (v := 1) hx hb dX8_undo_30 rfl ?_
      refine lv_isub hx hb dX8_undo_31 ?_
      refine lv_topi (fun x3 hx3 => ?_)
      have hf := z_let_u hx3 hf
      refine va_put (D := D) (ci := 8) (v := .int x3) (ty := tyX8 3) (C := RX8) (T := TX8) (N := 41) hx hb htw WW_wsX80 tyX8 tyX8_ok nmX8 hown hKX.1 hP hD hS 0 rfl rfl 3 (Nat.le_of_ble_eq_true rfl) (htw _ mF_RX8_91) (fun _ h9 => h9) rfl (tyX8_ok 3 (Nat.le_of_ble_eq_true rfl)) rfl rfl (Nat.le_of_ble_eq_true rfl) dX8_undo_32 (fun H locs hP hD hS => ?_)
      have hP : va_P D vwCl (moW ac q 0 row ((un_undos un), x3) kp mt ps bx mo su wy wa od py ju pl rs) H := hP
      have hD : va_D A (moW ac q 0 row ((un_undos un), x3) kp mt ps bx mo su wy wa od py ju pl rs) := hD
      refine lv_iconst (v := 0) hx hb dX8_undo_35 rfl ?_
      refine lv_istore_n (lv' := [(1, .int 0), (0, .ref (q 0))]) hx hb dX8_undo_36 rfl hl (Nat.le_of_ble_eq_true rfl) rfl (fun ls hl => ?_)
      have hL6 : ∀ (n7 : Nat) (x4 : Int32) (row5 : MRow), M_undo_L37 un x3 n7 x4 row5 = some res → ∀ (H : Heap) (locs : List Loc) (ls : Array Slot), va_P D vwCl (moW ac q 0 row5 ((un_undos un), x3) kp mt ps bx mo su wy wa od py ju pl rs) H → va_D A (moW ac q 0 row5 ((un_undos un), x3) kp mt ps bx mo su wy wa od py ju pl rs) → va_S A s.heap H locs → lv_has ls 2 [(0, .ref (q 0)), (1, .int x4)] → W p l e ({ frames := 1, cells := 0, slots := 0, locals := 20 } : Room) s m (([.ref (q 0)] : List Value).toArray) below meth c H locs 0 0 (MQ below (va_Qi (fun r (_ : Unit) => r = res.1) (fun _ => zB D A (moW ac q res.2.1 res.2.2.1 res.2.2.2 kp mt ps bx mo su wy wa od py ju pl rs)) A) ([.ref (q 0)] : List Value).toArray s 0 0 A) (F0 m 37 ls []) := by
        intro n7
        induction n7 with
        | zero => intro x4 row5 hf; rw [M_undo_L37] at hf; cases hf
        | succ n7 ih8 =>
          intro x4 row5 hf H locs ls hP hD hS hl
          rw [M_undo_L37] at hf
          refine lv_iload_n hx hb dX8_undo_37 rfl (lv_at hl 1 rfl) ?_
          refine lv_bipush (v := 78) hx hb dX8_undo_38 rfl ?_
          refine lv_icmp_ge (tgt := 69) hx hb dX8_undo_40 (by decide) (fun c9 => ?_) (fun c9 => ?_)
          · have hf := z_p c9 hf
            refine lv_aload_n hx hb dX8_undo_69 rfl (lv_at hl 0 rfl) ?_
            refine va_get (D := D) (ci := 8) (v := .int x3) (C := RX8) (T := TX8) (N := 41) hx hb htw WW_wsX80 hown hKX.1 hP 0 rfl rfl 3 (Nat.le_of_ble_eq_true rfl) (htw _ mF_RX8_91) (fun _ h9 => h9) rfl dX8_undo_70 ?_
            obtain rfl := Option.some.inj hf
            exact zr_Mi hx hb hr hlocks hP hD hS dX8_undo_73
          · have hf := z_n c9 hf
            refine lv_aload_n hx hb dX8_undo_43 rfl (lv_at hl 0 rfl) ?_
            refine va_get (D := D) (ci := 8) (v := .ref (q 1)) (C := RX8) (T := TX8) (N := 41) hx hb htw WW_wsX80 hown hKX.1 hP 0 rfl rfl 1 (Nat.le_of_ble_eq_true rfl) (htw _ mF_RX8_9) (fun _ h9 => h9) rfl dX8_undo_44 ?_
            refine lv_iload_n hx hb dX8_undo_47 rfl (lv_at hl 1 rfl) ?_
            refine lv_aload_n hx hb dX8_undo_48 rfl (lv_at hl 0 rfl) ?_
            refine va_get (D := D) (ci := 8) (v := .ref (q 2)) (C := RX8) (T := TX8) (N := 41) hx hb htw WW_wsX80 hown hKX.1 hP 0 rfl rfl 2 (Nat.le_of_ble_eq_true rfl) (htw _ mF_RX8_15) (fun _ h9 => h9) rfl dX8_undo_49 ?_
            refine lv_bipush (v := 78) hx hb dX8_undo_52 rfl ?_
            refine lv_aload_n hx hb dX8_undo_54 rfl (lv_at hl 0 rfl) ?_
            refine va_get (D := D) (ci := 8) (v := .int x3) (C := RX8) (T := TX8) (N := 41) hx hb htw WW_wsX80 hown hKX.1 hP 0 rfl rfl 3 (Nat.le_of_ble_eq_true rfl) (htw _ mF_RX8_91) (fun _ h9 => h9) rfl dX8_undo_55 ?_
            refine lv_imul hx hb dX8_undo_58 ?_
            refine lv_iload_n hx hb dX8_undo_59 rfl (lv_at hl 1 rfl) ?_
            refine lv_iadd hx hb dX8_undo_60 ?_
            obtain ⟨g10, hf⟩ := z_gd_u hf
            refine va_iald hx hb hKX.1 hP 2 0 rfl rfl (z_in_u g10) dX8_undo_61 ?_
            refine lv_topi (fun x11 hx11 => ?_)
            have hf := z_let_u hx11 hf
            obtain ⟨g12, hf⟩ := z_gd_u hf
            refine va_iast hx hb hKX.1 hP hD hS 1 0 rfl rfl (z_in_u g12) dX8_undo_62 (fun H locs hP hD hS => ?_)
            have hP : va_P D vwCl (moW ac q 0 (upd row5 x4.toNatClampNeg x11) ((un_undos un), x3) kp mt ps bx mo su wy wa od py ju pl rs) H := hP
            have hD : va_D A (moW ac q 0 (upd row5 x4.toNatClampNeg x11) ((un_undos un), x3) kp mt ps bx mo su wy wa od py ju pl rs) := hD
            obtain ⟨x13, hx13⟩ : ∃ y : Int32, y = (x4 + 1) := ⟨_, rfl⟩
            have hf := z_let_u hx13 hf
            refine lv_iinc (v := x13) (lv' := [(1, .int x13), (0, .ref (q 0))]) hx hb dX8_undo_63 hl (k := 1) rfl (by rw [hx13]; rfl) (Nat.le_of_ble_eq_true rfl) rfl (fun ls hl => ?_)
            refine lv_goto (tgt := 37) hx hb dX8_undo_66 (by decide) ?_
            exact ih8 x13 (upd row5 x4.toNatClampNeg x11) hf _ _ ls  hP hD hS (lv_sub hl [1, 0] rfl)
      refine hL6  F 0 row hf _ _ ls  hP hD hS (lv_sub hl [1, 0] rfl)
    · have hf := z_p c2 hf
      refine lv_bipush (v := (-3)) hx hb dX8_undo_22 rfl ?_
      obtain rfl := Option.some.inj hf
      exact zr_Mi hx hb hr hlocks hP hD hS dX8_undo_24
  · have hf := z_p c1 hf
    refine lv_bipush (v := (-2)) hx hb dX8_undo_12 rfl ?_
    obtain rfl := Option.some.inj hf
    exact zr_Mi hx hb hr hlocks hP hD hS dX8_undo_14

theorem hd_yX8_keep : hdY yX8_keep 1 := by decide +kernel
def M_keep_L26 (row : MRow) (a1 : Int32) (kx8 : Kp → Option (Int32 × Th × Kp)) : Nat → Int32 → Kp → Option (Int32 × Th × Kp)
  | 0, _, _ => none
  | n6 + 1, x3, kp4 => if 78 ≤ x3 then (kx8 kp4) else (z_gd (z_in x3 78) (z_let (row x3.toNatClampNeg) (fun x12 : Int32 => z_gd (z_in ((78 * a1) + x3) 156) (z_let (x3 + 1) (fun x14 : Int32 => M_keep_L26 row a1 kx8 n6 x14 ((upd (kp_kept kp4) ((78 * a1) + x3).toNatClampNeg x12), (kp_isKept kp4)))))))
def M_keep (F : Nat) (row : MRow) (kp : Kp) (a1 : Int32) : Option (Int32 × Th × Kp) := if M_in a1.toInt64 0 1 = 0 then (some (0, 0, kp)) else (if M_isTold row = 0 then (some (0, 0, kp)) else (M_keep_L26 row a1 (fun (kp9 : Kp) => z_gd (z_in a1 2) (some (1, 0, ((kp_kept kp9), (upd (kp_isKept kp9) a1.toNatClampNeg (vp_nar .boolean 1)))))) F 0 kp))
set_option maxHeartbeats 4000000 in
set_option maxRecDepth 100000 in
theorem ctX8_keep (l : Launch) (D : va_G) (ac cs : Nat → Nat) (q : Nat → Nat) (sz : Nat) (th : Th) (row : MRow) (un : Un) (kp : Kp) (mt : Mt) (ps : Ps) (bx : Bx) (mo : Mo) (su : Su) (wy : Wy) (wa : Wa) (od : Od) (py : Py) (ju : Ju) (pl : Pl) (rs : Rs) (a1 : Int32) (F : Nat) (res : Int32 × Th × Kp) (hf : M_keep F row kp a1 = some res) : Met l yX8_keep (cWW yX8_keep cX8_keep 3 (some .boolean)) { frames := 1, cells := 0, slots := 0, locals := 25 } (zM D ac cs [.ref (q 0), .int a1] (moW ac q th row un kp mt ps bx mo su wy wa od py ju pl rs) sz) (va_Qi (fun r (_ : Unit) => r = res.1) (fun _ => zB D (va_A (moW ac q th row un kp mt ps bx mo su wy wa od py ju pl rs) sz) (moW ac q res.2.1 row un res.2.2 mt ps bx mo su wy wa od py ju pl rs)) (va_A (moW ac q th row un kp mt ps bx mo su wy wa od py ju pl rs) sz)) 0 0 (va_A (moW ac q th row un kp mt ps bx mo su wy wa od py ju pl rs) sz) := by
  refine Met.ofW (cc := cX8_keep) (maxL := 3) (ret := (some .boolean)) (by decide) rfl ?_
  intro p e s m args below meth c s₁ B hml hv
  obtain ⟨rfl, hsz, hP, hKX, hD0, hC⟩ := hv
  have hx := B.exec
  have hb := B.bytes
  have hr := B.returns
  have hts := atoms_spec (ws := cWW yX8_keep cX8_keep 3 (some .boolean)) B.pre
  have htw : ∀ w ∈ WW, w.before _ s = true := fun w h => hts w (List.mem_cons_of_mem _ h)
  have hown : s.vm.findClass RX8 = some m.cls := findClass_of_methodNamed B.named
  have hlocks := B.notSynchronized
  clear hts B
  subst hsz
  have hD := hD0.self (sz := s.heap.size)
  generalize hAe : va_A (moW ac q th row un kp mt ps bx mo su wy wa od py ju pl rs) s.heap.size = A at hD hC ⊢
  have hA : ∀ q : Nat, s.heap.size ≤ q → A q := fun q h => by rw [← hAe]; exact Or.inr h
  have hS : va_S A s.heap s.heap [] := va_S.rf
  clear hD0 hAe
  have hP : va_P D vwCl (moW ac q th row un kp mt ps bx mo su wy wa od py ju pl rs) s.heap := hP
  have hl := lv_entry ([.ref (q 0), .int a1]) (n := 3) (Nat.le_of_ble_eq_true rfl)
  rw [lg_entry_eq]
  generalize (lg_sl ([.ref (q 0), .int a1]) ++ List.replicate (3 - (lg_sl ([.ref (q 0), .int a1])).length) Slot.unset).toArray = ls at hl ⊢
  have hl : lv_has ls 3 [(0, .ref (q 0)), (1, .int a1)] := hl
  unfold M_keep at hf
  show W p l e ({ frames := 1, cells := 0, slots := 0, locals := 25 } : Room) s m _ below meth c s.heap [] 0 0 _ (F0 m 0 ls [])
  refine lv_aload_n hx hb dX8_keep_0 rfl (lv_at hl 0 rfl) ?_
  refine lv_iconst (v := 0) hx hb dX8_keep_1 rfl ?_
  refine va_put (D := D) (ci := 8) (v := .int 0) (ty := tyX8 0) (C := RX8) (T := TX8) (N := 41) hx hb htw WW_wsX80 tyX8 tyX8_ok nmX8 hown hKX.1 hP hD hS 0 rfl rfl 0 (Nat.le_of_ble_eq_true rfl) (htw _ mF_RX8_75) (fun _ h9 => h9) rfl (tyX8_ok 0 (Nat.le_of_ble_eq_true rfl)) rfl rfl (Nat.le_of_ble_eq_true rfl) dX8_keep_2 (fun H locs hP hD hS => ?_)
  have hP : va_P D vwCl (moW ac q 0 row un kp mt ps bx mo su wy wa od py ju pl rs) H := hP
  have hD : va_D A (moW ac q 0 row un kp mt ps bx mo su wy wa od py ju pl rs) := hD
  refine lv_iload_n hx hb dX8_keep_5 rfl (lv_at hl 1 rfl) ?_
  refine lv_i2l hx hb dX8_keep_6 rfl ?_
  refine lv_lconst (v := 0) hx hb dX8_keep_7 rfl ?_
  refine lv_lconst (v := 1) hx hb dX8_keep_8 rfl ?_
  refine zc_RSi (As := [.long a1.toInt64, .long 0, .long 1]) (rest := []) hx hb hml hown htw (ctX8_in l D ac cs   a1.toInt64 0 1   _ rfl) (g_S mM_RX8_79 mT_yX8_in mN_RX8 mC_yX8_in) (hd_yX8_in) ⟨rfl, rfl⟩ ⟨(Nat.le_of_ble_eq_true rfl), (Nat.le_of_ble_eq_true rfl)⟩ hKX hC hS zP0 rfl hl.1 rfl (Nat.le_of_ble_eq_true rfl) ⟨Nat.zero_le _, Nat.zero_le _⟩ dX8_keep_9 ?_
  refine lv_if_eq (tgt := 22) hx hb dX8_keep_12 (by decide) (fun c1 => ?_) (fun c1 => ?_)
  · have hf := z_p c1 hf
    refine lv_iconst (v := 0) hx hb dX8_keep_22 rfl ?_
    obtain rfl := Option.some.inj hf
    exact zr_Mz hx hb hr hlocks (z_b_n z_b0) hP hD hS dX8_keep_23
  · have hf := z_n c1 hf
    refine lv_aload_n hx hb dX8_keep_15 rfl (lv_at hl 0 rfl) ?_
    refine zc_RVi (As := []) (rest := []) hx hb hml hown htw (ctX8_isTold l D ac cs q 0 row un kp mt ps bx mo su wy wa od py ju pl rs    _ rfl) (g_V mM_RX8_83 mI_yX8_isTold mS_RX8_yX8_isTold_yX8_isTold mN_RX8 mC_yX8_isTold) rfl (hd_yX8_isTold) ⟨rfl, rfl⟩ ⟨(Nat.le_of_ble_eq_true rfl), (Nat.le_of_ble_eq_true rfl)⟩ hKX hC hS hP 8 rfl rfl rfl hl.1 rfl (Nat.le_of_ble_eq_true rfl) ⟨Nat.zero_le _, Nat.zero_le _⟩ dX8_keep_16 ?_
    refine lv_if_ne (tgt := 24) hx hb dX8_keep_19 (by decide) (fun c2 => ?_) (fun c2 => ?_)
    · have hf := z_n c2 hf
      refine lv_iconst (v := 0) hx hb dX8_keep_24 rfl ?_
      refine lv_istore_n (lv' := [(2, .int 0), (0, .ref (q 0)), (1, .int a1)]) hx hb dX8_keep_25 rfl hl (Nat.le_of_ble_eq_true rfl) rfl (fun ls hl => ?_)
      have hL5 : ∀ (kx8 : Kp → Option (Int32 × Th × Kp)) (hkx8 : ∀ (kp9 : Kp), kx8 kp9 = some res → ∀ (H : Heap) (locs : List Loc) (ls : Array Slot), va_P D vwCl (moW ac q 0 row un kp9 mt ps bx mo su wy wa od py ju pl rs) H → va_D A (moW ac q 0 row un kp9 mt ps bx mo su wy wa od py ju pl rs) → va_S A s.heap H locs → lv_has ls 3 [(0, .ref (q 0)), (1, .int a1)] → W p l e ({ frames := 1, cells := 0, slots := 0, locals := 25 } : Room) s m (([.ref (q 0), .int a1] : List Value).toArray) below meth c H locs 0 0 (MQ below (va_Qi (fun r (_ : Unit) => r = res.1) (fun _ => zB D A (moW ac q res.2.1 row un res.2.2 mt ps bx mo su wy wa od py ju pl rs)) A) ([.ref (q 0), .int a1] : List Value).toArray s 0 0 A) (F0 m 55 ls [])) (n6 : Nat) (x3 : Int32) (kp4 : Kp), M_keep_L26 row a1 kx8 n6 x3 kp4 = some res → ∀ (H : Heap) (locs : List Loc) (ls : Array Slot), va_P D vwCl (moW ac q 0 row un kp4 mt ps bx mo su wy wa od py ju pl rs) H → va_D A (moW ac q 0 row un kp4 mt ps bx mo su wy wa od py ju pl rs) → va_S A s.heap H locs → lv_has ls 3 [(0, .ref (q 0)), (1, .int a1), (2, .int x3)] → W p l e ({ frames := 1, cells := 0, slots := 0, locals := 25 } : Room) s m (([.ref (q 0), .int a1] : List Value).toArray) below meth c H locs 0 0 (MQ below (va_Qi (fun r (_ : Unit) => r = res.1) (fun _ => zB D A (moW ac q res.2.1 row un res.2.2 mt ps bx mo su wy wa od py ju pl rs)) A) ([.ref (q 0), .int a1] : List Value).toArray s 0 0 A) (F0 m 26 ls []) := by
        intro kx8 hkx8 n6
        induction n6 with
        | zero => intro x3 kp4 hf; rw [M_keep_L26] at hf; cases hf
        | succ n6 ih7 =>
          intro x3 kp4 hf H locs ls hP hD hS hl
          rw [M_keep_L26] at hf
          refine lv_iload_n hx hb dX8_keep_26 rfl (lv_at hl 2 rfl) ?_
          refine lv_bipush (v := 78) hx hb dX8_keep_27 rfl ?_
          refine lv_icmp_ge (tgt := 55) hx hb dX8_keep_29 (by decide) (fun c10 => ?_) (fun c10 => ?_)
          · have hf := z_p c10 hf
            exact hkx8 kp4 hf _ _ ls  hP hD hS (lv_sub hl [0, 1] rfl)
          · have hf := z_n c10 hf
            refine lv_aload_n hx hb dX8_keep_32 rfl (lv_at hl 0 rfl) ?_
            refine va_get (D := D) (ci := 8) (v := .ref (q 3)) (C := RX8) (T := TX8) (N := 41) hx hb htw WW_wsX80 hown hKX.1 hP 0 rfl rfl 4 (Nat.le_of_ble_eq_true rfl) (htw _ mF_RX8_18) (fun _ h9 => h9) rfl dX8_keep_33 ?_
            refine lv_bipush (v := 78) hx hb dX8_keep_36 rfl ?_
            refine lv_iload_n hx hb dX8_keep_38 rfl (lv_at hl 1 rfl) ?_
            refine lv_imul hx hb dX8_keep_39 ?_
            refine lv_iload_n hx hb dX8_keep_40 rfl (lv_at hl 2 rfl) ?_
            refine lv_iadd hx hb dX8_keep_41 ?_
            refine lv_aload_n hx hb dX8_keep_42 rfl (lv_at hl 0 rfl) ?_
            refine va_get (D := D) (ci := 8) (v := .ref (q 1)) (C := RX8) (T := TX8) (N := 41) hx hb htw WW_wsX80 hown hKX.1 hP 0 rfl rfl 1 (Nat.le_of_ble_eq_true rfl) (htw _ mF_RX8_9) (fun _ h9 => h9) rfl dX8_keep_43 ?_
            refine lv_iload_n hx hb dX8_keep_46 rfl (lv_at hl 2 rfl) ?_
            obtain ⟨g11, hf⟩ := z_gd_u hf
            refine va_iald hx hb hKX.1 hP 1 0 rfl rfl (z_in_u g11) dX8_keep_47 ?_
            refine lv_topi (fun x12 hx12 => ?_)
            have hf := z_let_u hx12 hf
            obtain ⟨g13, hf⟩ := z_gd_u hf
            refine va_iast hx hb hKX.1 hP hD hS 3 0 rfl rfl (z_in_u g13) dX8_keep_48 (fun H locs hP hD hS => ?_)
            have hP : va_P D vwCl (moW ac q 0 row un ((upd (kp_kept kp4) ((78 * a1) + x3).toNatClampNeg x12), (kp_isKept kp4)) mt ps bx mo su wy wa od py ju pl rs) H := hP
            have hD : va_D A (moW ac q 0 row un ((upd (kp_kept kp4) ((78 * a1) + x3).toNatClampNeg x12), (kp_isKept kp4)) mt ps bx mo su wy wa od py ju pl rs) := hD
            obtain ⟨x14, hx14⟩ : ∃ y : Int32, y = (x3 + 1) := ⟨_, rfl⟩
            have hf := z_let_u hx14 hf
            refine lv_iinc (v := x14) (lv' := [(2, .int x14), (0, .ref (q 0)), (1, .int a1)]) hx hb dX8_keep_49 hl (k := 2) rfl (by rw [hx14]; rfl) (Nat.le_of_ble_eq_true rfl) rfl (fun ls hl => ?_)
            refine lv_goto (tgt := 26) hx hb dX8_keep_52 (by decide) ?_
            exact ih7 x14 ((upd (kp_kept kp4) ((78 * a1) + x3).toNatClampNeg x12), (kp_isKept kp4)) hf _ _ ls  hP hD hS (lv_sub hl [1, 2, 0] rfl)
      refine hL5 _ ?_ F 0 kp hf _ _ ls  hP hD hS (lv_sub hl [1, 2, 0] rfl)
      intro kp9 hf H locs ls hP hD hS hl
      refine lv_aload_n hx hb dX8_keep_55 rfl (lv_at hl 0 rfl) ?_
      refine va_get (D := D) (ci := 8) (v := .ref (q 4)) (C := RX8) (T := TX8) (N := 41) hx hb htw WW_wsX80 hown hKX.1 hP 0 rfl rfl 5 (Nat.le_of_ble_eq_true rfl) (htw _ mF_RX8_21) (fun _ h9 => h9) rfl dX8_keep_56 ?_
      refine lv_iload_n hx hb dX8_keep_59 rfl (lv_at hl 1 rfl) ?_
      refine lv_iconst (v := 1) hx hb dX8_keep_60 rfl ?_
      obtain ⟨g15, hf⟩ := z_gd_u hf
      refine va_zast hx hb hKX.1 hP hD hS 4 4 rfl rfl (z_in_u g15) dX8_keep_61 (fun H locs hP hD hS => ?_)
      have hP : va_P D vwCl (moW ac q 0 row un ((kp_kept kp9), (upd (kp_isKept kp9) a1.toNatClampNeg (vp_nar .boolean 1))) mt ps bx mo su wy wa od py ju pl rs) H := hP
      have hD : va_D A (moW ac q 0 row un ((kp_kept kp9), (upd (kp_isKept kp9) a1.toNatClampNeg (vp_nar .boolean 1))) mt ps bx mo su wy wa od py ju pl rs) := hD
      refine lv_iconst (v := 1) hx hb dX8_keep_62 rfl ?_
      obtain rfl := Option.some.inj hf
      exact zr_Mz hx hb hr hlocks (z_b_n z_b1) hP hD hS dX8_keep_63
    · have hf := z_p c2 hf
      refine lv_iconst (v := 0) hx hb dX8_keep_22 rfl ?_
      obtain rfl := Option.some.inj hf
      exact zr_Mz hx hb hr hlocks (z_b_n z_b0) hP hD hS dX8_keep_23

theorem hd_yX8_again : hdY yX8_again 1 := by decide +kernel
def M_again_L32 (kp : Kp) (a1 : Int32) (u4 : Un) : Nat → Int32 → MRow → Option (Int32 × Th × MRow × Un)
  | 0, _, _ => none
  | n8 + 1, x5, row6 => if 78 ≤ x5 then (some (1, 0, row6, u4)) else (z_gd (z_in ((78 * a1) + x5) 156) (z_let ((kp_kept kp) ((78 * a1) + x5).toNatClampNeg) (fun x12 : Int32 => z_gd (z_in x5 78) (z_let (x5 + 1) (fun x14 : Int32 => M_again_L32 kp a1 u4 n8 x14 (upd row6 x5.toNatClampNeg x12))))))
def M_again (F : Nat) (row : MRow) (un : Un) (kp : Kp) (a1 : Int32) : Option (Int32 × Th × MRow × Un) := if M_in a1.toInt64 0 1 = 0 then (some (0, 0, row, un)) else (z_gd (z_in a1 2) (if ((kp_isKept kp) a1.toNatClampNeg) = 0 then (some (0, 0, row, un)) else (z_bd (M_remember F row un) (fun u4 : Un => M_again_L32 kp a1 u4 F 0 row))))
set_option maxHeartbeats 4000000 in
set_option maxRecDepth 100000 in
theorem ctX8_again (l : Launch) (D : va_G) (ac cs : Nat → Nat) (q : Nat → Nat) (sz : Nat) (th : Th) (row : MRow) (un : Un) (kp : Kp) (mt : Mt) (ps : Ps) (bx : Bx) (mo : Mo) (su : Su) (wy : Wy) (wa : Wa) (od : Od) (py : Py) (ju : Ju) (pl : Pl) (rs : Rs) (a1 : Int32) (F : Nat) (res : Int32 × Th × MRow × Un) (hf : M_again F row un kp a1 = some res) : Met l yX8_again (cWW yX8_again cX8_again 3 (some .boolean)) { frames := 1, cells := 0, slots := 0, locals := 25 } (zM D ac cs [.ref (q 0), .int a1] (moW ac q th row un kp mt ps bx mo su wy wa od py ju pl rs) sz) (va_Qi (fun r (_ : Unit) => r = res.1) (fun _ => zB D (va_A (moW ac q th row un kp mt ps bx mo su wy wa od py ju pl rs) sz) (moW ac q res.2.1 res.2.2.1 res.2.2.2 kp mt ps bx mo su wy wa od py ju pl rs)) (va_A (moW ac q th row un kp mt ps bx mo su wy wa od py ju pl rs) sz)) 0 0 (va_A (moW ac q th row un kp mt ps bx mo su wy wa od py ju pl rs) sz) := by
  refine Met.ofW (cc := cX8_again) (maxL := 3) (ret := (some .boolean)) (by decide) rfl ?_
  intro p e s m args below meth c s₁ B hml hv
  obtain ⟨rfl, hsz, hP, hKX, hD0, hC⟩ := hv
  have hx := B.exec
  have hb := B.bytes
  have hr := B.returns
  have hts := atoms_spec (ws := cWW yX8_again cX8_again 3 (some .boolean)) B.pre
  have htw : ∀ w ∈ WW, w.before _ s = true := fun w h => hts w (List.mem_cons_of_mem _ h)
  have hown : s.vm.findClass RX8 = some m.cls := findClass_of_methodNamed B.named
  have hlocks := B.notSynchronized
  clear hts B
  subst hsz
  have hD := hD0.self (sz := s.heap.size)
  generalize hAe : va_A (moW ac q th row un kp mt ps bx mo su wy wa od py ju pl rs) s.heap.size = A at hD hC ⊢
  have hA : ∀ q : Nat, s.heap.size ≤ q → A q := fun q h => by rw [← hAe]; exact Or.inr h
  have hS : va_S A s.heap s.heap [] := va_S.rf
  clear hD0 hAe
  have hP : va_P D vwCl (moW ac q th row un kp mt ps bx mo su wy wa od py ju pl rs) s.heap := hP
  have hl := lv_entry ([.ref (q 0), .int a1]) (n := 3) (Nat.le_of_ble_eq_true rfl)
  rw [lg_entry_eq]
  generalize (lg_sl ([.ref (q 0), .int a1]) ++ List.replicate (3 - (lg_sl ([.ref (q 0), .int a1])).length) Slot.unset).toArray = ls at hl ⊢
  have hl : lv_has ls 3 [(0, .ref (q 0)), (1, .int a1)] := hl
  unfold M_again at hf
  show W p l e ({ frames := 1, cells := 0, slots := 0, locals := 25 } : Room) s m _ below meth c s.heap [] 0 0 _ (F0 m 0 ls [])
  refine lv_aload_n hx hb dX8_again_0 rfl (lv_at hl 0 rfl) ?_
  refine lv_iconst (v := 0) hx hb dX8_again_1 rfl ?_
  refine va_put (D := D) (ci := 8) (v := .int 0) (ty := tyX8 0) (C := RX8) (T := TX8) (N := 41) hx hb htw WW_wsX80 tyX8 tyX8_ok nmX8 hown hKX.1 hP hD hS 0 rfl rfl 0 (Nat.le_of_ble_eq_true rfl) (htw _ mF_RX8_75) (fun _ h9 => h9) rfl (tyX8_ok 0 (Nat.le_of_ble_eq_true rfl)) rfl rfl (Nat.le_of_ble_eq_true rfl) dX8_again_2 (fun H locs hP hD hS => ?_)
  have hP : va_P D vwCl (moW ac q 0 row un kp mt ps bx mo su wy wa od py ju pl rs) H := hP
  have hD : va_D A (moW ac q 0 row un kp mt ps bx mo su wy wa od py ju pl rs) := hD
  refine lv_iload_n hx hb dX8_again_5 rfl (lv_at hl 1 rfl) ?_
  refine lv_i2l hx hb dX8_again_6 rfl ?_
  refine lv_lconst (v := 0) hx hb dX8_again_7 rfl ?_
  refine lv_lconst (v := 1) hx hb dX8_again_8 rfl ?_
  refine zc_RSi (As := [.long a1.toInt64, .long 0, .long 1]) (rest := []) hx hb hml hown htw (ctX8_in l D ac cs   a1.toInt64 0 1   _ rfl) (g_S mM_RX8_79 mT_yX8_in mN_RX8 mC_yX8_in) (hd_yX8_in) ⟨rfl, rfl⟩ ⟨(Nat.le_of_ble_eq_true rfl), (Nat.le_of_ble_eq_true rfl)⟩ hKX hC hS zP0 rfl hl.1 rfl (Nat.le_of_ble_eq_true rfl) ⟨Nat.zero_le _, Nat.zero_le _⟩ dX8_again_9 ?_
  refine lv_if_eq (tgt := 24) hx hb dX8_again_12 (by decide) (fun c1 => ?_) (fun c1 => ?_)
  · have hf := z_p c1 hf
    refine lv_iconst (v := 0) hx hb dX8_again_24 rfl ?_
    obtain rfl := Option.some.inj hf
    exact zr_Mz hx hb hr hlocks (z_b_n z_b0) hP hD hS dX8_again_25
  · have hf := z_n c1 hf
    refine lv_aload_n hx hb dX8_again_15 rfl (lv_at hl 0 rfl) ?_
    refine va_get (D := D) (ci := 8) (v := .ref (q 4)) (C := RX8) (T := TX8) (N := 41) hx hb htw WW_wsX80 hown hKX.1 hP 0 rfl rfl 5 (Nat.le_of_ble_eq_true rfl) (htw _ mF_RX8_21) (fun _ h9 => h9) rfl dX8_again_16 ?_
    refine lv_iload_n hx hb dX8_again_19 rfl (lv_at hl 1 rfl) ?_
    obtain ⟨g2, hf⟩ := z_gd_u hf
    refine va_zald hx hb hKX.1 hP 4 4 rfl rfl (z_in_u g2) dX8_again_20 ?_
    refine lv_if_ne (tgt := 26) hx hb dX8_again_21 (by decide) (fun c3 => ?_) (fun c3 => ?_)
    · have hf := z_n c3 hf
      refine lv_aload_n hx hb dX8_again_26 rfl (lv_at hl 0 rfl) ?_
      obtain ⟨u4, hu4, hf⟩ := z_bd_u hf
      refine zc_MVv (As := []) (rest := []) (wr := []) (wsc := moW ac q 0 row un kp mt ps bx mo su wy wa od py ju pl rs) (wsc' := moW ac q 0 row u4 kp mt ps bx mo su wy wa od py ju pl rs) hx hb hml hown htw (ctX8_remember l D ac cs q H.size 0 row un kp mt ps bx mo su wy wa od py ju pl rs    F u4 hu4) (g_V mM_RX8_305 mI_yX8_remember mS_RX8_yX8_remember_yX8_remember mN_RX8 mC_yX8_remember) rfl (hd_yX8_remember) ⟨rfl, rfl⟩ ⟨(Nat.le_of_ble_eq_true rfl), (Nat.le_of_ble_eq_true rfl)⟩ hKX hC hS hA hP hD [0, 1, 2, 3, 4, 5, 6, 7, 8, 9, 10, 11, 12, 13, 14, 15, 16, 17, 18, 19, 20] [] rfl (by decide) rfl (by decide) (by decide) 8 rfl rfl rfl hl.1 rfl (Nat.le_of_ble_eq_true rfl) ⟨Nat.zero_le _, Nat.zero_le _⟩ dX8_again_27 (fun H locs hP hD hS => ?_)
      have hP : va_P D vwCl (moW ac q 0 row u4 kp mt ps bx mo su wy wa od py ju pl rs) H := hP
      have hD : va_D A (moW ac q 0 row u4 kp mt ps bx mo su wy wa od py ju pl rs) := hD
      refine lv_iconst (v := 0) hx hb dX8_again_30 rfl ?_
      refine lv_istore_n (lv' := [(2, .int 0), (0, .ref (q 0)), (1, .int a1)]) hx hb dX8_again_31 rfl hl (Nat.le_of_ble_eq_true rfl) rfl (fun ls hl => ?_)
      have hL7 : ∀ (n8 : Nat) (x5 : Int32) (row6 : MRow), M_again_L32 kp a1 u4 n8 x5 row6 = some res → ∀ (H : Heap) (locs : List Loc) (ls : Array Slot), va_P D vwCl (moW ac q 0 row6 u4 kp mt ps bx mo su wy wa od py ju pl rs) H → va_D A (moW ac q 0 row6 u4 kp mt ps bx mo su wy wa od py ju pl rs) → va_S A s.heap H locs → lv_has ls 3 [(0, .ref (q 0)), (1, .int a1), (2, .int x5)] → W p l e ({ frames := 1, cells := 0, slots := 0, locals := 25 } : Room) s m (([.ref (q 0), .int a1] : List Value).toArray) below meth c H locs 0 0 (MQ below (va_Qi (fun r (_ : Unit) => r = res.1) (fun _ => zB D A (moW ac q res.2.1 res.2.2.1 res.2.2.2 kp mt ps bx mo su wy wa od py ju pl rs)) A) ([.ref (q 0), .int a1] : List Value).toArray s 0 0 A) (F0 m 32 ls []) := by
        intro n8
        induction n8 with
        | zero => intro x5 row6 hf; rw [M_again_L32] at hf; cases hf
        | succ n8 ih9 =>
          intro x5 row6 hf H locs ls hP hD hS hl
          rw [M_again_L32] at hf
          refine lv_iload_n hx hb dX8_again_32 rfl (lv_at hl 2 rfl) ?_
          refine lv_bipush (v := 78) hx hb dX8_again_33 rfl ?_
          refine lv_icmp_ge (tgt := 61) hx hb dX8_again_35 (by decide) (fun c10 => ?_) (fun c10 => ?_)
          · have hf := z_p c10 hf
            refine lv_iconst (v := 1) hx hb dX8_again_61 rfl ?_
            obtain rfl := Option.some.inj hf
            exact zr_Mz hx hb hr hlocks (z_b_n z_b1) hP hD hS dX8_again_62
          · have hf := z_n c10 hf
            refine lv_aload_n hx hb dX8_again_38 rfl (lv_at hl 0 rfl) ?_
            refine va_get (D := D) (ci := 8) (v := .ref (q 1)) (C := RX8) (T := TX8) (N := 41) hx hb htw WW_wsX80 hown hKX.1 hP 0 rfl rfl 1 (Nat.le_of_ble_eq_true rfl) (htw _ mF_RX8_9) (fun _ h9 => h9) rfl dX8_again_39 ?_
            refine lv_iload_n hx hb dX8_again_42 rfl (lv_at hl 2 rfl) ?_
            refine lv_aload_n hx hb dX8_again_43 rfl (lv_at hl 0 rfl) ?_
            refine va_get (D := D) (ci := 8) (v := .ref (q 3)) (C := RX8) (T := TX8) (N := 41) hx hb htw WW_wsX80 hown hKX.1 hP 0 rfl rfl 4 (Nat.le_of_ble_eq_true rfl) (htw _ mF_RX8_18) (fun _ h9 => h9) rfl dX8_again_44 ?_
            refine lv_bipush (v := 78) hx hb dX8_again_47 rfl ?_
            refine lv_iload_n hx hb dX8_again_49 rfl (lv_at hl 1 rfl) ?_
            refine lv_imul hx hb dX8_again_50 ?_
            refine lv_iload_n hx hb dX8_again_51 rfl (lv_at hl 2 rfl) ?_
            refine lv_iadd hx hb dX8_again_52 ?_
            obtain ⟨g11, hf⟩ := z_gd_u hf
            refine va_iald hx hb hKX.1 hP 3 0 rfl rfl (z_in_u g11) dX8_again_53 ?_
            refine lv_topi (fun x12 hx12 => ?_)
            have hf := z_let_u hx12 hf
            obtain ⟨g13, hf⟩ := z_gd_u hf
            refine va_iast hx hb hKX.1 hP hD hS 1 0 rfl rfl (z_in_u g13) dX8_again_54 (fun H locs hP hD hS => ?_)
            have hP : va_P D vwCl (moW ac q 0 (upd row6 x5.toNatClampNeg x12) u4 kp mt ps bx mo su wy wa od py ju pl rs) H := hP
            have hD : va_D A (moW ac q 0 (upd row6 x5.toNatClampNeg x12) u4 kp mt ps bx mo su wy wa od py ju pl rs) := hD
            obtain ⟨x14, hx14⟩ : ∃ y : Int32, y = (x5 + 1) := ⟨_, rfl⟩
            have hf := z_let_u hx14 hf
            refine lv_iinc (v := x14) (lv' := [(2, .int x14), (0, .ref (q 0)), (1, .int a1)]) hx hb dX8_again_55 hl (k := 2) rfl (by rw [hx14]; rfl) (Nat.le_of_ble_eq_true rfl) rfl (fun ls hl => ?_)
            refine lv_goto (tgt := 32) hx hb dX8_again_58 (by decide) ?_
            exact ih9 x14 (upd row6 x5.toNatClampNeg x12) hf _ _ ls  hP hD hS (lv_sub hl [1, 2, 0] rfl)
      refine hL7  F 0 row hf _ _ ls  hP hD hS (lv_sub hl [1, 2, 0] rfl)
    · have hf := z_p c3 hf
      refine lv_iconst (v := 0) hx hb dX8_again_24 rfl ?_
      obtain rfl := Option.some.inj hf
      exact zr_Mz hx hb hr hlocks (z_b_n z_b0) hP hD hS dX8_again_25

theorem hd_yX8_made : hdY yX8_made 1 := by decide +kernel
def M_made_L43 (F : Nat) (row : MRow) (a1 : Int32) (u6 : Bx × Mo) (kx12 : Mo → Option (Int32 × Th × Bx × Mo)) : Nat → Int32 → Mo → Option (Int32 × Th × Bx × Mo)
  | 0, _, _ => none
  | n10 + 1, x7, mo8 => if a1 ≤ x7 then (kx12 mo8) else (z_gd (z_in (18 + x7) 78) (z_bd (M_go F row u6.1 mo8 (row (18 + x7).toNatClampNeg)) (fun u16 : Mo => z_let (x7 + 1) (fun x17 : Int32 => M_made_L43 F row a1 u6 kx12 n10 x17 u16))))
def M_made (F : Nat) (row : MRow) (bx : Bx) (mo : Mo) (a1 : Int32) : Option (Int32 × Th × Bx × Mo) := z_let (if M_in a1.toInt64 0 (((row 3).toInt64) - 1) = 0 then 1 else 0) (fun v1 : Int32 => if v1 = 1 then (some (0, v1, bx, mo)) else (z_bd (M_begin F row bx mo) (fun u6 : Bx × Mo => M_made_L43 F row a1 u6 (fun (mo13 : Mo) => z_gd (z_in (18 + a1) 78) (some (((10 * (M_turnNow mo13)) + (row (18 + a1).toNatClampNeg)), v1, u6.1, mo13))) F 0 u6.2)))
set_option maxHeartbeats 4000000 in
set_option maxRecDepth 100000 in
theorem ctX8_made (l : Launch) (D : va_G) (ac cs : Nat → Nat) (q : Nat → Nat) (sz : Nat) (th : Th) (row : MRow) (un : Un) (kp : Kp) (mt : Mt) (ps : Ps) (bx : Bx) (mo : Mo) (su : Su) (wy : Wy) (wa : Wa) (od : Od) (py : Py) (ju : Ju) (pl : Pl) (rs : Rs) (a1 : Int32) (F : Nat) (res : Int32 × Th × Bx × Mo) (hf : M_made F row bx mo a1 = some res) : Met l yX8_made (cWW yX8_made cX8_made 3 (some .int)) { frames := 3, cells := 0, slots := 0, locals := 65 } (zM D ac cs [.ref (q 0), .int a1] (moW ac q th row un kp mt ps bx mo su wy wa od py ju pl rs) sz) (va_Qi (fun r (_ : Unit) => r = res.1) (fun _ => zB D (va_A (moW ac q th row un kp mt ps bx mo su wy wa od py ju pl rs) sz) (moW ac q res.2.1 row un kp mt ps res.2.2.1 res.2.2.2 su wy wa od py ju pl rs)) (va_A (moW ac q th row un kp mt ps bx mo su wy wa od py ju pl rs) sz)) 0 0 (va_A (moW ac q th row un kp mt ps bx mo su wy wa od py ju pl rs) sz) := by
  refine Met.ofW (cc := cX8_made) (maxL := 3) (ret := (some .int)) (by decide) rfl ?_
  intro p e s m args below meth c s₁ B hml hv
  obtain ⟨rfl, hsz, hP, hKX, hD0, hC⟩ := hv
  have hx := B.exec
  have hb := B.bytes
  have hr := B.returns
  have hts := atoms_spec (ws := cWW yX8_made cX8_made 3 (some .int)) B.pre
  have htw : ∀ w ∈ WW, w.before _ s = true := fun w h => hts w (List.mem_cons_of_mem _ h)
  have hown : s.vm.findClass RX8 = some m.cls := findClass_of_methodNamed B.named
  have hlocks := B.notSynchronized
  clear hts B
  subst hsz
  have hD := hD0.self (sz := s.heap.size)
  generalize hAe : va_A (moW ac q th row un kp mt ps bx mo su wy wa od py ju pl rs) s.heap.size = A at hD hC ⊢
  have hA : ∀ q : Nat, s.heap.size ≤ q → A q := fun q h => by rw [← hAe]; exact Or.inr h
  have hS : va_S A s.heap s.heap [] := va_S.rf
  clear hD0 hAe
  have hP : va_P D vwCl (moW ac q th row un kp mt ps bx mo su wy wa od py ju pl rs) s.heap := hP
  have hl := lv_entry ([.ref (q 0), .int a1]) (n := 3) (Nat.le_of_ble_eq_true rfl)
  rw [lg_entry_eq]
  generalize (lg_sl ([.ref (q 0), .int a1]) ++ List.replicate (3 - (lg_sl ([.ref (q 0), .int a1])).length) Slot.unset).toArray = ls at hl ⊢
  have hl : lv_has ls 3 [(0, .ref (q 0)), (1, .int a1)] := hl
  unfold M_made at hf
  show W p l e ({ frames := 3, cells := 0, slots := 0, locals := 65 } : Room) s m _ below meth c s.heap [] 0 0 _ (F0 m 0 ls [])
  refine lv_aload_n hx hb dX8_made_0 rfl (lv_at hl 0 rfl) ?_
  refine lv_iload_n hx hb dX8_made_1 rfl (lv_at hl 1 rfl) ?_
  refine lv_i2l hx hb dX8_made_2 rfl ?_
  refine lv_lconst (v := 0) hx hb dX8_made_3 rfl ?_
  refine lv_aload_n hx hb dX8_made_4 rfl (lv_at hl 0 rfl) ?_
  refine va_get (D := D) (ci := 8) (v := .ref (q 1)) (C := RX8) (T := TX8) (N := 41) hx hb htw WW_wsX80 hown hKX.1 hP 0 rfl rfl 1 (Nat.le_of_ble_eq_true rfl) (htw _ mF_RX8_9) (fun _ h9 => h9) rfl dX8_made_5 ?_
  refine lv_iconst (v := 3) hx hb dX8_made_8 rfl ?_
  refine zv_iald_k hx hb hKX.1 hP 1 0 rfl rfl 3 rfl (z_in_u (by decide +kernel)) dX8_made_9 ?_
  refine lv_i2l hx hb dX8_made_10 rfl ?_
  refine lv_lconst (v := 1) hx hb dX8_made_11 rfl ?_
  refine lv_lsub hx hb dX8_made_12 ?_
  refine zc_RSi (As := [.long a1.toInt64, .long 0, .long (((row 3).toInt64) - 1)]) (rest := [.ref (q 0)]) hx hb hml hown htw (ctX8_in l D ac cs   a1.toInt64 0 (((row 3).toInt64) - 1)   _ rfl) (g_S mM_RX8_79 mT_yX8_in mN_RX8 mC_yX8_in) (hd_yX8_in) ⟨rfl, rfl⟩ ⟨(Nat.le_of_ble_eq_true rfl), (Nat.le_of_ble_eq_true rfl)⟩ hKX hC hS zP0 rfl hl.1 rfl (Nat.le_of_ble_eq_true rfl) ⟨Nat.zero_le _, Nat.zero_le _⟩ dX8_made_13 ?_
  have hj3 : ∀ (v1 : Int32), v1 = (if M_in a1.toInt64 0 (((row 3).toInt64) - 1) = 0 then 1 else 0) → z_b v1 = true → ∀ (H : Heap) (locs : List Loc) (ls : Array Slot), va_P D vwCl (moW ac q th row un kp mt ps bx mo su wy wa od py ju pl rs) H → va_D A (moW ac q th row un kp mt ps bx mo su wy wa od py ju pl rs) → va_S A s.heap H locs → lv_has ls 3 [(0, .ref (q 0)), (1, .int a1)] → W p l e ({ frames := 3, cells := 0, slots := 0, locals := 65 } : Room) s m (([.ref (q 0), .int a1] : List Value).toArray) below meth c H locs 0 0 (MQ below (va_Qi (fun r (_ : Unit) => r = res.1) (fun _ => zB D A (moW ac q res.2.1 row un kp mt ps res.2.2.1 res.2.2.2 su wy wa od py ju pl rs)) A) ([.ref (q 0), .int a1] : List Value).toArray s 0 0 A) (F0 m 24 ls [.int v1, .ref (q 0)]) := by
    intro v1 hv1 bv1 H locs ls hP hD hS hl
    have hf := z_let_u hv1 hf
    refine va_put (D := D) (ci := 8) (v := .int v1) (ty := tyX8 0) (C := RX8) (T := TX8) (N := 41) hx hb htw WW_wsX80 tyX8 tyX8_ok nmX8 hown hKX.1 hP hD hS 0 rfl rfl 0 (Nat.le_of_ble_eq_true rfl) (htw _ mF_RX8_75) (fun _ h9 => h9) rfl (tyX8_ok 0 (Nat.le_of_ble_eq_true rfl)) rfl rfl (Nat.le_of_ble_eq_true rfl) dX8_made_24 (fun H locs hP hD hS => ?_)
    have hP : va_P D vwCl (moW ac q v1 row un kp mt ps bx mo su wy wa od py ju pl rs) H := hP
    have hD : va_D A (moW ac q v1 row un kp mt ps bx mo su wy wa od py ju pl rs) := hD
    refine lv_aload_n hx hb dX8_made_27 rfl (lv_at hl 0 rfl) ?_
    refine va_get (D := D) (ci := 8) (v := .int v1) (C := RX8) (T := TX8) (N := 41) hx hb htw WW_wsX80 hown hKX.1 hP 0 rfl rfl 0 (Nat.le_of_ble_eq_true rfl) (htw _ mF_RX8_75) (fun _ h9 => h9) rfl dX8_made_28 ?_
    refine lv_iconst (v := 1) hx hb dX8_made_31 rfl ?_
    refine lv_icmp_ne (tgt := 37) hx hb dX8_made_32 (by decide) (fun c5 => ?_) (fun c5 => ?_)
    · have hf := z_n c5 hf
      refine lv_aload_n hx hb dX8_made_37 rfl (lv_at hl 0 rfl) ?_
      obtain ⟨u6, hu6, hf⟩ := z_bd_u hf
      refine zc_MVv (As := []) (rest := []) (wr := []) (wsc := moW ac q v1 row un kp mt ps bx mo su wy wa od py ju pl rs) (wsc' := moW ac q v1 row un kp mt ps u6.1 u6.2 su wy wa od py ju pl rs) hx hb hml hown htw (ctX8_begin l D ac cs q H.size v1 row un kp mt ps bx mo su wy wa od py ju pl rs    F u6 hu6) (g_V mM_RX8_211 mI_yX8_begin mS_RX8_yX8_begin_yX8_begin mN_RX8 mC_yX8_begin) rfl (hd_yX8_begin) ⟨rfl, rfl⟩ ⟨(Nat.le_of_ble_eq_true rfl), (Nat.le_of_ble_eq_true rfl)⟩ hKX hC hS hA hP hD [0, 1, 2, 3, 4, 5, 6, 7, 8, 9, 10, 11, 12, 13, 14, 15, 16, 17, 18, 19, 20] [] rfl (by decide) rfl (by decide) (by decide) 8 rfl rfl rfl hl.1 rfl (Nat.le_of_ble_eq_true rfl) ⟨Nat.zero_le _, Nat.zero_le _⟩ dX8_made_38 (fun H locs hP hD hS => ?_)
      have hP : va_P D vwCl (moW ac q v1 row un kp mt ps u6.1 u6.2 su wy wa od py ju pl rs) H := hP
      have hD : va_D A (moW ac q v1 row un kp mt ps u6.1 u6.2 su wy wa od py ju pl rs) := hD
      refine lv_iconst (v := 0) hx hb dX8_made_41 rfl ?_
      refine lv_istore_n (lv' := [(2, .int 0), (0, .ref (q 0)), (1, .int a1)]) hx hb dX8_made_42 rfl hl (Nat.le_of_ble_eq_true rfl) rfl (fun ls hl => ?_)
      have hL9 : ∀ (kx12 : Mo → Option (Int32 × Th × Bx × Mo)) (hkx12 : ∀ (mo13 : Mo), kx12 mo13 = some res → ∀ (H : Heap) (locs : List Loc) (ls : Array Slot), va_P D vwCl (moW ac q v1 row un kp mt ps u6.1 mo13 su wy wa od py ju pl rs) H → va_D A (moW ac q v1 row un kp mt ps u6.1 mo13 su wy wa od py ju pl rs) → va_S A s.heap H locs → lv_has ls 3 [(0, .ref (q 0)), (1, .int a1)] → W p l e ({ frames := 3, cells := 0, slots := 0, locals := 65 } : Room) s m (([.ref (q 0), .int a1] : List Value).toArray) below meth c H locs 0 0 (MQ below (va_Qi (fun r (_ : Unit) => r = res.1) (fun _ => zB D A (moW ac q res.2.1 row un kp mt ps res.2.2.1 res.2.2.2 su wy wa od py ju pl rs)) A) ([.ref (q 0), .int a1] : List Value).toArray s 0 0 A) (F0 m 67 ls [])) (n10 : Nat) (x7 : Int32) (mo8 : Mo), M_made_L43 F row a1 u6 kx12 n10 x7 mo8 = some res → ∀ (H : Heap) (locs : List Loc) (ls : Array Slot), va_P D vwCl (moW ac q v1 row un kp mt ps u6.1 mo8 su wy wa od py ju pl rs) H → va_D A (moW ac q v1 row un kp mt ps u6.1 mo8 su wy wa od py ju pl rs) → va_S A s.heap H locs → lv_has ls 3 [(0, .ref (q 0)), (1, .int a1), (2, .int x7)] → W p l e ({ frames := 3, cells := 0, slots := 0, locals := 65 } : Room) s m (([.ref (q 0), .int a1] : List Value).toArray) below meth c H locs 0 0 (MQ below (va_Qi (fun r (_ : Unit) => r = res.1) (fun _ => zB D A (moW ac q res.2.1 row un kp mt ps res.2.2.1 res.2.2.2 su wy wa od py ju pl rs)) A) ([.ref (q 0), .int a1] : List Value).toArray s 0 0 A) (F0 m 43 ls []) := by
        intro kx12 hkx12 n10
        induction n10 with
        | zero => intro x7 mo8 hf; rw [M_made_L43] at hf; cases hf
        | succ n10 ih11 =>
          intro x7 mo8 hf H locs ls hP hD hS hl
          rw [M_made_L43] at hf
          refine lv_iload_n hx hb dX8_made_43 rfl (lv_at hl 2 rfl) ?_
          refine lv_iload_n hx hb dX8_made_44 rfl (lv_at hl 1 rfl) ?_
          refine lv_icmp_ge (tgt := 67) hx hb dX8_made_45 (by decide) (fun c14 => ?_) (fun c14 => ?_)
          · have hf := z_p c14 hf
            exact hkx12 mo8 hf _ _ ls  hP hD hS (lv_sub hl [0, 1] rfl)
          · have hf := z_n c14 hf
            refine lv_aload_n hx hb dX8_made_48 rfl (lv_at hl 0 rfl) ?_
            refine lv_aload_n hx hb dX8_made_49 rfl (lv_at hl 0 rfl) ?_
            refine va_get (D := D) (ci := 8) (v := .ref (q 1)) (C := RX8) (T := TX8) (N := 41) hx hb htw WW_wsX80 hown hKX.1 hP 0 rfl rfl 1 (Nat.le_of_ble_eq_true rfl) (htw _ mF_RX8_9) (fun _ h9 => h9) rfl dX8_made_50 ?_
            refine lv_bipush (v := 18) hx hb dX8_made_53 rfl ?_
            refine lv_iload_n hx hb dX8_made_55 rfl (lv_at hl 2 rfl) ?_
            refine lv_iadd hx hb dX8_made_56 ?_
            obtain ⟨g15, hf⟩ := z_gd_u hf
            refine va_iald hx hb hKX.1 hP 1 0 rfl rfl (z_in_u g15) dX8_made_57 ?_
            obtain ⟨u16, hu16, hf⟩ := z_bd_u hf
            refine zc_MVv (As := [.int (row (18 + x7).toNatClampNeg)]) (rest := []) (wr := []) (wsc := moW ac q v1 row un kp mt ps u6.1 mo8 su wy wa od py ju pl rs) (wsc' := moW ac q v1 row un kp mt ps u6.1 u16 su wy wa od py ju pl rs) hx hb hml hown htw (ctX8_go l D ac cs q H.size v1 row un kp mt ps u6.1 mo8 su wy wa od py ju pl rs (row (18 + x7).toNatClampNeg)   F u16 hu16) (g_V mM_RX8_214 mI_yX8_go mS_RX8_yX8_go_yX8_go mN_RX8 mC_yX8_go) rfl (hd_yX8_go) ⟨rfl, rfl⟩ ⟨(Nat.le_of_ble_eq_true rfl), (Nat.le_of_ble_eq_true rfl)⟩ hKX hC hS hA hP hD [0, 1, 2, 3, 4, 5, 6, 7, 8, 9, 10, 11, 12, 13, 14, 15, 16, 17, 18, 19, 20] [] rfl (by decide) rfl (by decide) (by decide) 8 rfl rfl rfl hl.1 rfl (Nat.le_of_ble_eq_true rfl) ⟨Nat.zero_le _, Nat.zero_le _⟩ dX8_made_58 (fun H locs hP hD hS => ?_)
            have hP : va_P D vwCl (moW ac q v1 row un kp mt ps u6.1 u16 su wy wa od py ju pl rs) H := hP
            have hD : va_D A (moW ac q v1 row un kp mt ps u6.1 u16 su wy wa od py ju pl rs) := hD
            obtain ⟨x17, hx17⟩ : ∃ y : Int32, y = (x7 + 1) := ⟨_, rfl⟩
            have hf := z_let_u hx17 hf
            refine lv_iinc (v := x17) (lv' := [(2, .int x17), (0, .ref (q 0)), (1, .int a1)]) hx hb dX8_made_61 hl (k := 2) rfl (by rw [hx17]; rfl) (Nat.le_of_ble_eq_true rfl) rfl (fun ls hl => ?_)
            refine lv_goto (tgt := 43) hx hb dX8_made_64 (by decide) ?_
            exact ih11 x17 u16 hf _ _ ls  hP hD hS (lv_sub hl [1, 2, 0] rfl)
      refine hL9 _ ?_ F 0 u6.2 hf _ _ ls  hP hD hS (lv_sub hl [1, 2, 0] rfl)
      intro mo13 hf H locs ls hP hD hS hl
      refine lv_bipush (v := 10) hx hb dX8_made_67 rfl ?_
      refine lv_aload_n hx hb dX8_made_69 rfl (lv_at hl 0 rfl) ?_
      refine zc_RVi (As := []) (rest := [.int 10]) hx hb hml hown htw (ctX8_turnNow l D ac cs q v1 row un kp mt ps u6.1 mo13 su wy wa od py ju pl rs    _ rfl) (g_V mM_RX8_223 mI_yX8_turnNow mS_RX8_yX8_turnNow_yX8_turnNow mN_RX8 mC_yX8_turnNow) rfl (hd_yX8_turnNow) ⟨rfl, rfl⟩ ⟨(Nat.le_of_ble_eq_true rfl), (Nat.le_of_ble_eq_true rfl)⟩ hKX hC hS hP 8 rfl rfl rfl hl.1 rfl (Nat.le_of_ble_eq_true rfl) ⟨Nat.zero_le _, Nat.zero_le _⟩ dX8_made_70 ?_
      refine lv_imul hx hb dX8_made_73 ?_
      refine lv_aload_n hx hb dX8_made_74 rfl (lv_at hl 0 rfl) ?_
      refine va_get (D := D) (ci := 8) (v := .ref (q 1)) (C := RX8) (T := TX8) (N := 41) hx hb htw WW_wsX80 hown hKX.1 hP 0 rfl rfl 1 (Nat.le_of_ble_eq_true rfl) (htw _ mF_RX8_9) (fun _ h9 => h9) rfl dX8_made_75 ?_
      refine lv_bipush (v := 18) hx hb dX8_made_78 rfl ?_
      refine lv_iload_n hx hb dX8_made_80 rfl (lv_at hl 1 rfl) ?_
      refine lv_iadd hx hb dX8_made_81 ?_
      obtain ⟨g18, hf⟩ := z_gd_u hf
      refine va_iald hx hb hKX.1 hP 1 0 rfl rfl (z_in_u g18) dX8_made_82 ?_
      refine lv_iadd hx hb dX8_made_83 ?_
      obtain rfl := Option.some.inj hf
      exact zr_Mi hx hb hr hlocks hP hD hS dX8_made_84
    · have hf := z_p c5 hf
      refine lv_iconst (v := 0) hx hb dX8_made_35 rfl ?_
      obtain rfl := Option.some.inj hf
      exact zr_Mi hx hb hr hlocks hP hD hS dX8_made_36
  refine lv_if_eq (tgt := 23) hx hb dX8_made_16 (by decide) (fun c4 => ?_) (fun c4 => ?_)
  · skip
    refine lv_iconst (v := 1) hx hb dX8_made_23 rfl ?_
    exact hj3 1 (if_pos c4).symm z_b1 _ _ ls hP hD hS (lv_sub hl [0, 1] rfl)
  · skip
    refine lv_iconst (v := 0) hx hb dX8_made_19 rfl ?_
    refine lv_goto (tgt := 24) hx hb dX8_made_20 (by decide) ?_
    exact hj3 0 (if_neg c4).symm z_b0 _ _ ls hP hD hS (lv_sub hl [0, 1] rfl)

theorem hd_yX8_count : hdY yX8_count 1 := by decide +kernel
def M_count (F : Nat) (row : MRow) (un : Un) (mt : Mt) (bx : Bx) (mo : Mo) (a1 : Int32) : Option (Int32 × Th × Bx × Mo) := if a1 = 0 then (some (M_n row, 0, bx, mo)) else (if a1 = 1 then (some ((row 3), 0, bx, mo)) else (if a1 = 2 then (some ((row 1), 0, bx, mo)) else (if a1 = 3 then (some ((row 2), 0, bx, mo)) else (if a1 = 4 then (if M_isTold row = 0 then (some (0, 0, bx, mo)) else (z_bd (M_goNow F row bx mo) (fun u7 : Bx × Mo => if (mo_isOver u7.2) = 0 then (some (0, 0, u7.1, u7.2)) else (some (1, 0, u7.1, u7.2))))) else (if a1 = 5 then (some ((mt_texted mt), 0, bx, mo)) else (if a1 = 6 then (some ((un_nUndo un), 0, bx, mo)) else (some ((-1), 0, bx, mo))))))))
set_option maxHeartbeats 4000000 in
set_option maxRecDepth 100000 in
theorem ctX8_count (l : Launch) (D : va_G) (ac cs : Nat → Nat) (q : Nat → Nat) (sz : Nat) (th : Th) (row : MRow) (un : Un) (kp : Kp) (mt : Mt) (ps : Ps) (bx : Bx) (mo : Mo) (su : Su) (wy : Wy) (wa : Wa) (od : Od) (py : Py) (ju : Ju) (pl : Pl) (rs : Rs) (a1 : Int32) (F : Nat) (res : Int32 × Th × Bx × Mo) (hf : M_count F row un mt bx mo a1 = some res) : Met l yX8_count (cWW yX8_count cX8_count 2 (some .int)) { frames := 4, cells := 0, slots := 0, locals := 86 } (zM D ac cs [.ref (q 0), .int a1] (moW ac q th row un kp mt ps bx mo su wy wa od py ju pl rs) sz) (va_Qi (fun r (_ : Unit) => r = res.1) (fun _ => zB D (va_A (moW ac q th row un kp mt ps bx mo su wy wa od py ju pl rs) sz) (moW ac q res.2.1 row un kp mt ps res.2.2.1 res.2.2.2 su wy wa od py ju pl rs)) (va_A (moW ac q th row un kp mt ps bx mo su wy wa od py ju pl rs) sz)) 0 0 (va_A (moW ac q th row un kp mt ps bx mo su wy wa od py ju pl rs) sz) := by
  refine Met.ofW (cc := cX8_count) (maxL := 2) (ret := (some .int)) (by decide) rfl ?_
  intro p e s m args below meth c s₁ B hml hv
  obtain ⟨rfl, hsz, hP, hKX, hD0, hC⟩ := hv
  have hx := B.exec
  have hb := B.bytes
  have hr := B.returns
  have hts := atoms_spec (ws := cWW yX8_count cX8_count 2 (some .int)) B.pre
  have htw : ∀ w ∈ WW, w.before _ s = true := fun w h => hts w (List.mem_cons_of_mem _ h)
  have hown : s.vm.findClass RX8 = some m.cls := findClass_of_methodNamed B.named
  have hlocks := B.notSynchronized
  clear hts B
  subst hsz
  have hD := hD0.self (sz := s.heap.size)
  generalize hAe : va_A (moW ac q th row un kp mt ps bx mo su wy wa od py ju pl rs) s.heap.size = A at hD hC ⊢
  have hA : ∀ q : Nat, s.heap.size ≤ q → A q := fun q h => by rw [← hAe]; exact Or.inr h
  have hS : va_S A s.heap s.heap [] := va_S.rf
  clear hD0 hAe
  have hP : va_P D vwCl (moW ac q th row un kp mt ps bx mo su wy wa od py ju pl rs) s.heap := hP
  have hl := lv_entry ([.ref (q 0), .int a1]) (n := 2) (Nat.le_of_ble_eq_true rfl)
  rw [lg_entry_eq]
  generalize (lg_sl ([.ref (q 0), .int a1]) ++ List.replicate (2 - (lg_sl ([.ref (q 0), .int a1])).length) Slot.unset).toArray = ls at hl ⊢
  have hl : lv_has ls 2 [(0, .ref (q 0)), (1, .int a1)] := hl
  unfold M_count at hf
  show W p l e ({ frames := 4, cells := 0, slots := 0, locals := 86 } : Room) s m _ below meth c s.heap [] 0 0 _ (F0 m 0 ls [])
  refine lv_aload_n hx hb dX8_count_0 rfl (lv_at hl 0 rfl) ?_
  refine lv_iconst (v := 0) hx hb dX8_count_1 rfl ?_
  refine va_put (D := D) (ci := 8) (v := .int 0) (ty := tyX8 0) (C := RX8) (T := TX8) (N := 41) hx hb htw WW_wsX80 tyX8 tyX8_ok nmX8 hown hKX.1 hP hD hS 0 rfl rfl 0 (Nat.le_of_ble_eq_true rfl) (htw _ mF_RX8_75) (fun _ h9 => h9) rfl (tyX8_ok 0 (Nat.le_of_ble_eq_true rfl)) rfl rfl (Nat.le_of_ble_eq_true rfl) dX8_count_2 (fun H locs hP hD hS => ?_)
  have hP : va_P D vwCl (moW ac q 0 row un kp mt ps bx mo su wy wa od py ju pl rs) H := hP
  have hD : va_D A (moW ac q 0 row un kp mt ps bx mo su wy wa od py ju pl rs) := hD
  refine lv_iload_n hx hb dX8_count_5 rfl (lv_at hl 1 rfl) ?_
  by_cases c1 : a1 = 0
  · have hf := z_p c1 hf
    refine lv_tableIn (tgt := 48) hx hb dX8_count_6 (by rw [c1]; decide +kernel) (by rw [c1]; decide +kernel) (by rw [c1]; rfl) (by decide +kernel) ?_
    refine lv_aload_n hx hb dX8_count_48 rfl (lv_at hl 0 rfl) ?_
    refine zc_RVi (As := []) (rest := []) hx hb hml hown htw (ctX8_n l D ac cs q 0 row un kp mt ps bx mo su wy wa od py ju pl rs    _ rfl) (g_V mM_RX8_190 mI_yX8_n mS_RX8_yX8_n_yX8_n mN_RX8 mC_yX8_n) rfl (hd_yX8_n) ⟨rfl, rfl⟩ ⟨(Nat.le_of_ble_eq_true rfl), (Nat.le_of_ble_eq_true rfl)⟩ hKX hC hS hP 8 rfl rfl rfl hl.1 rfl (Nat.le_of_ble_eq_true rfl) ⟨Nat.zero_le _, Nat.zero_le _⟩ dX8_count_49 ?_
    obtain rfl := Option.some.inj hf
    exact zr_Mi hx hb hr hlocks hP hD hS dX8_count_52
  have hf := z_n c1 hf
  by_cases c2 : a1 = 1
  · have hf := z_p c2 hf
    refine lv_tableIn (tgt := 53) hx hb dX8_count_6 (by rw [c2]; decide +kernel) (by rw [c2]; decide +kernel) (by rw [c2]; rfl) (by decide +kernel) ?_
    refine lv_aload_n hx hb dX8_count_53 rfl (lv_at hl 0 rfl) ?_
    refine va_get (D := D) (ci := 8) (v := .ref (q 1)) (C := RX8) (T := TX8) (N := 41) hx hb htw WW_wsX80 hown hKX.1 hP 0 rfl rfl 1 (Nat.le_of_ble_eq_true rfl) (htw _ mF_RX8_9) (fun _ h9 => h9) rfl dX8_count_54 ?_
    refine lv_iconst (v := 3) hx hb dX8_count_57 rfl ?_
    refine zv_iald_k hx hb hKX.1 hP 1 0 rfl rfl 3 rfl (z_in_u (by decide +kernel)) dX8_count_58 ?_
    obtain rfl := Option.some.inj hf
    exact zr_Mi hx hb hr hlocks hP hD hS dX8_count_59
  have hf := z_n c2 hf
  by_cases c3 : a1 = 2
  · have hf := z_p c3 hf
    refine lv_tableIn (tgt := 60) hx hb dX8_count_6 (by rw [c3]; decide +kernel) (by rw [c3]; decide +kernel) (by rw [c3]; rfl) (by decide +kernel) ?_
    refine lv_aload_n hx hb dX8_count_60 rfl (lv_at hl 0 rfl) ?_
    refine va_get (D := D) (ci := 8) (v := .ref (q 1)) (C := RX8) (T := TX8) (N := 41) hx hb htw WW_wsX80 hown hKX.1 hP 0 rfl rfl 1 (Nat.le_of_ble_eq_true rfl) (htw _ mF_RX8_9) (fun _ h9 => h9) rfl dX8_count_61 ?_
    refine lv_iconst (v := 1) hx hb dX8_count_64 rfl ?_
    refine zv_iald_k hx hb hKX.1 hP 1 0 rfl rfl 1 rfl (z_in_u (by decide +kernel)) dX8_count_65 ?_
    obtain rfl := Option.some.inj hf
    exact zr_Mi hx hb hr hlocks hP hD hS dX8_count_66
  have hf := z_n c3 hf
  by_cases c4 : a1 = 3
  · have hf := z_p c4 hf
    refine lv_tableIn (tgt := 67) hx hb dX8_count_6 (by rw [c4]; decide +kernel) (by rw [c4]; decide +kernel) (by rw [c4]; rfl) (by decide +kernel) ?_
    refine lv_aload_n hx hb dX8_count_67 rfl (lv_at hl 0 rfl) ?_
    refine va_get (D := D) (ci := 8) (v := .ref (q 1)) (C := RX8) (T := TX8) (N := 41) hx hb htw WW_wsX80 hown hKX.1 hP 0 rfl rfl 1 (Nat.le_of_ble_eq_true rfl) (htw _ mF_RX8_9) (fun _ h9 => h9) rfl dX8_count_68 ?_
    refine lv_iconst (v := 2) hx hb dX8_count_71 rfl ?_
    refine zv_iald_k hx hb hKX.1 hP 1 0 rfl rfl 2 rfl (z_in_u (by decide +kernel)) dX8_count_72 ?_
    obtain rfl := Option.some.inj hf
    exact zr_Mi hx hb hr hlocks hP hD hS dX8_count_73
  have hf := z_n c4 hf
  by_cases c5 : a1 = 4
  · have hf := z_p c5 hf
    refine lv_tableIn (tgt := 74) hx hb dX8_count_6 (by rw [c5]; decide +kernel) (by rw [c5]; decide +kernel) (by rw [c5]; rfl) (by decide +kernel) ?_
    refine lv_aload_n hx hb dX8_count_74 rfl (lv_at hl 0 rfl) ?_
    refine zc_RVi (As := []) (rest := []) hx hb hml hown htw (ctX8_isTold l D ac cs q 0 row un kp mt ps bx mo su wy wa od py ju pl rs    _ rfl) (g_V mM_RX8_83 mI_yX8_isTold mS_RX8_yX8_isTold_yX8_isTold mN_RX8 mC_yX8_isTold) rfl (hd_yX8_isTold) ⟨rfl, rfl⟩ ⟨(Nat.le_of_ble_eq_true rfl), (Nat.le_of_ble_eq_true rfl)⟩ hKX hC hS hP 8 rfl rfl rfl hl.1 rfl (Nat.le_of_ble_eq_true rfl) ⟨Nat.zero_le _, Nat.zero_le _⟩ dX8_count_75 ?_
    refine lv_if_ne (tgt := 83) hx hb dX8_count_78 (by decide) (fun c6 => ?_) (fun c6 => ?_)
    · have hf := z_n c6 hf
      refine lv_aload_n hx hb dX8_count_83 rfl (lv_at hl 0 rfl) ?_
      obtain ⟨u7, hu7, hf⟩ := z_bd_u hf
      refine zc_MVv (As := []) (rest := []) (wr := []) (wsc := moW ac q 0 row un kp mt ps bx mo su wy wa od py ju pl rs) (wsc' := moW ac q 0 row un kp mt ps u7.1 u7.2 su wy wa od py ju pl rs) hx hb hml hown htw (ctX8_goNow l D ac cs q H.size 0 row un kp mt ps bx mo su wy wa od py ju pl rs    F u7 hu7) (g_V mM_RX8_302 mI_yX8_goNow mS_RX8_yX8_goNow_yX8_goNow mN_RX8 mC_yX8_goNow) rfl (hd_yX8_goNow) ⟨rfl, rfl⟩ ⟨(Nat.le_of_ble_eq_true rfl), (Nat.le_of_ble_eq_true rfl)⟩ hKX hC hS hA hP hD [0, 1, 2, 3, 4, 5, 6, 7, 8, 9, 10, 11, 12, 13, 14, 15, 16, 17, 18, 19, 20] [] rfl (by decide) rfl (by decide) (by decide) 8 rfl rfl rfl hl.1 rfl (Nat.le_of_ble_eq_true rfl) ⟨Nat.zero_le _, Nat.zero_le _⟩ dX8_count_84 (fun H locs hP hD hS => ?_)
      have hP : va_P D vwCl (moW ac q 0 row un kp mt ps u7.1 u7.2 su wy wa od py ju pl rs) H := hP
      have hD : va_D A (moW ac q 0 row un kp mt ps u7.1 u7.2 su wy wa od py ju pl rs) := hD
      refine lv_aload_n hx hb dX8_count_87 rfl (lv_at hl 0 rfl) ?_
      refine va_get (D := D) (ci := 8) (v := .int (mo_isOver u7.2)) (C := RX8) (T := TX8) (N := 41) hx hb htw WW_wsX80 hown hKX.1 hP 0 rfl rfl 21 (Nat.le_of_ble_eq_true rfl) (htw _ mF_RX8_208) (fun _ h9 => h9) rfl dX8_count_88 ?_
      refine lv_if_eq (tgt := 98) hx hb dX8_count_91 (by decide) (fun c8 => ?_) (fun c8 => ?_)
      · have hf := z_p c8 hf
        refine lv_iconst (v := 0) hx hb dX8_count_98 rfl ?_
        obtain rfl := Option.some.inj hf
        exact zr_Mi hx hb hr hlocks hP hD hS dX8_count_99
      · have hf := z_n c8 hf
        refine lv_iconst (v := 1) hx hb dX8_count_94 rfl ?_
        refine lv_goto (tgt := 99) hx hb dX8_count_95 (by decide) ?_
        obtain rfl := Option.some.inj hf
        exact zr_Mi hx hb hr hlocks hP hD hS dX8_count_99
    · have hf := z_p c6 hf
      refine lv_iconst (v := 0) hx hb dX8_count_81 rfl ?_
      obtain rfl := Option.some.inj hf
      exact zr_Mi hx hb hr hlocks hP hD hS dX8_count_82
  have hf := z_n c5 hf
  by_cases c9 : a1 = 5
  · have hf := z_p c9 hf
    refine lv_tableIn (tgt := 100) hx hb dX8_count_6 (by rw [c9]; decide +kernel) (by rw [c9]; decide +kernel) (by rw [c9]; rfl) (by decide +kernel) ?_
    refine lv_aload_n hx hb dX8_count_100 rfl (lv_at hl 0 rfl) ?_
    refine va_get (D := D) (ci := 8) (v := .int (mt_texted mt)) (C := RX8) (T := TX8) (N := 41) hx hb htw WW_wsX80 hown hKX.1 hP 0 rfl rfl 7 (Nat.le_of_ble_eq_true rfl) (htw _ mF_RX8_94) (fun _ h9 => h9) rfl dX8_count_101 ?_
    obtain rfl := Option.some.inj hf
    exact zr_Mi hx hb hr hlocks hP hD hS dX8_count_104
  have hf := z_n c9 hf
  by_cases c10 : a1 = 6
  · have hf := z_p c10 hf
    refine lv_tableIn (tgt := 105) hx hb dX8_count_6 (by rw [c10]; decide +kernel) (by rw [c10]; decide +kernel) (by rw [c10]; rfl) (by decide +kernel) ?_
    refine lv_aload_n hx hb dX8_count_105 rfl (lv_at hl 0 rfl) ?_
    refine va_get (D := D) (ci := 8) (v := .int (un_nUndo un)) (C := RX8) (T := TX8) (N := 41) hx hb htw WW_wsX80 hown hKX.1 hP 0 rfl rfl 3 (Nat.le_of_ble_eq_true rfl) (htw _ mF_RX8_91) (fun _ h9 => h9) rfl dX8_count_106 ?_
    obtain rfl := Option.some.inj hf
    exact zr_Mi hx hb hr hlocks hP hD hS dX8_count_109
  have hf := z_n c10 hf
  refine lv_tableOut (tgt := 110) hx hb dX8_count_6 (z_tout0_6 c1 c2 c3 c4 c5 c9 c10) (by decide +kernel) ?_
  refine lv_iconst (v := (-1)) hx hb dX8_count_110 rfl ?_
  obtain rfl := Option.some.inj hf
  exact zr_Mi hx hb hr hlocks hP hD hS dX8_count_111

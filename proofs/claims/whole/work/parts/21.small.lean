theorem hd_yX1_put : hdY yX1_put 2 := by decide +kernel
def Fr_put (a1 : Int64) (a2 : Int64) : Fr := z_let (if (lg_cmp a2 0) ≤ 0 then 1 else a2) (fun v1 : Int64 => (a1, v1))
set_option maxHeartbeats 4000000 in
set_option maxRecDepth 100000 in
theorem ctX1_put (l : Launch) (D : va_G) (ac cs : Nat → Nat) (q : Nat → Nat) (sz : Nat) (fr : Fr) (a1 : Int64) (a2 : Int64) (res : Fr) (hf : Fr_put a1 a2 = res) : Met l yX1_put (cWW yX1_put cX1_put 5 none) { frames := 0, cells := 0, slots := 0, locals := 0 } (zM D ac cs [.ref (q 0), .long a1, .long a2] (frW ac q fr) sz) (va_Qv (fun _ : Unit => True) (fun _ => zB D (va_A (frW ac q fr) sz) (frW ac q res)) (va_A (frW ac q fr) sz)) 0 0 (va_A (frW ac q fr) sz) := by
  refine Met.ofW (cc := cX1_put) (maxL := 5) (ret := none) (by decide) rfl ?_
  intro p e s m args below meth c s₁ B hml hv
  obtain ⟨rfl, hsz, hP, hKX, hD0, hC⟩ := hv
  have hx := B.exec
  have hb := B.bytes
  have hr := B.returns
  have hts := atoms_spec (ws := cWW yX1_put cX1_put 5 none) B.pre
  have htw : ∀ w ∈ WW, w.before _ s = true := fun w h => hts w (List.mem_cons_of_mem _ h)
  have hown : s.vm.findClass RX1 = some m.cls := findClass_of_methodNamed B.named
  have hlocks := B.notSynchronized
  clear hts B
  subst hsz
  have hD := hD0.self (sz := s.heap.size)
  generalize hAe : va_A (frW ac q fr) s.heap.size = A at hD hC ⊢
  have hA : ∀ q : Nat, s.heap.size ≤ q → A q := fun q h => by rw [← hAe]; exact Or.inr h
  have hS : va_S A s.heap s.heap [] := va_S.rf
  clear hD0 hAe
  have hP : va_P D vwCl (frW ac q fr) s.heap := hP
  have hl := lv_entry ([.ref (q 0), .long a1, .long a2]) (n := 5) (Nat.le_of_ble_eq_true rfl)
  rw [lg_entry_eq]
  generalize (lg_sl ([.ref (q 0), .long a1, .long a2]) ++ List.replicate (5 - (lg_sl ([.ref (q 0), .long a1, .long a2])).length) Slot.unset).toArray = ls at hl ⊢
  have hl : lv_has ls 5 [(0, .ref (q 0)), (1, .long a1), (3, .long a2)] := hl
  unfold Fr_put at hf
  show W p l e ({ frames := 0, cells := 0, slots := 0, locals := 0 } : Room) s m _ below meth c s.heap [] 0 0 _ (F0 m 0 ls [])
  refine lv_aload_n hx hb dX1_put_0 rfl (lv_at hl 0 rfl) ?_
  refine lv_lload_n hx hb dX1_put_1 rfl (lv_at hl 1 rfl) ?_
  refine va_put (D := D) (ci := 1) (v := .long a1) (ty := tyX1 0) (C := RX1) (T := TX1) (N := 2) hx hb htw WW_wsX10 tyX1 tyX1_ok nmX1 hown hKX.1 hP hD hS 0 rfl rfl 0 (Nat.le_of_ble_eq_true rfl) (htw _ mF_RX1_13) (fun _ h9 => h9) rfl (tyX1_ok 0 (Nat.le_of_ble_eq_true rfl)) rfl rfl (Nat.le_of_ble_eq_true rfl) dX1_put_2 (fun H locs hP hD hS => ?_)
  have hP : va_P D vwCl (frW ac q (a1, (fr_low fr))) H := hP
  have hD : va_D A (frW ac q (a1, (fr_low fr))) := hD
  refine lv_aload_n hx hb dX1_put_5 rfl (lv_at hl 0 rfl) ?_
  refine lv_lload_n hx hb dX1_put_6 rfl (lv_at hl 2 rfl) ?_
  refine lv_lconst (v := 0) hx hb dX1_put_7 rfl ?_
  refine W.lcmp hx hb dX1_put_8 ?_
  have hj3 : ∀ (v1 : Int64), v1 = (if (lg_cmp a2 0) ≤ 0 then 1 else a2) → ∀ (H : Heap) (locs : List Loc) (ls : Array Slot), va_P D vwCl (frW ac q (a1, (fr_low fr))) H → va_D A (frW ac q (a1, (fr_low fr))) → va_S A s.heap H locs → lv_has ls 5 [] → W p l e ({ frames := 0, cells := 0, slots := 0, locals := 0 } : Room) s m (([.ref (q 0), .long a1, .long a2] : List Value).toArray) below meth c H locs 0 0 (MQ below (va_Qv (fun _ : Unit => True) (fun _ => zB D A (frW ac q res)) A) ([.ref (q 0), .long a1, .long a2] : List Value).toArray s 0 0 A) (F0 m 17 ls [.long v1, .ref (q 0)]) := by
    intro v1 hv1 H locs ls hP hD hS hl
    have hf := z_let_u hv1 hf
    refine va_put (D := D) (ci := 1) (v := .long v1) (ty := tyX1 1) (C := RX1) (T := TX1) (N := 2) hx hb htw WW_wsX10 tyX1 tyX1_ok nmX1 hown hKX.1 hP hD hS 0 rfl rfl 1 (Nat.le_of_ble_eq_true rfl) (htw _ mF_RX1_7) (fun _ h9 => h9) rfl (tyX1_ok 1 (Nat.le_of_ble_eq_true rfl)) rfl rfl (Nat.le_of_ble_eq_true rfl) dX1_put_17 (fun H locs hP hD hS => ?_)
    have hP : va_P D vwCl (frW ac q (a1, v1)) H := hP
    have hD : va_D A (frW ac q (a1, v1)) := hD
    subst hf
    exact zr_Mv hx hb hr hlocks hP hD hS dX1_put_20
  refine lv_if_le (tgt := 16) hx hb dX1_put_9 (by decide) (fun c4 => ?_) (fun c4 => ?_)
  · skip
    refine lv_lconst (v := 1) hx hb dX1_put_16 rfl ?_
    exact hj3 1 (if_pos c4).symm _ _ ls hP hD hS (lv_sub hl [] rfl)
  · skip
    refine lv_lload_n hx hb dX1_put_12 rfl (lv_at hl 2 rfl) ?_
    refine lv_goto (tgt := 17) hx hb dX1_put_13 (by decide) ?_
    exact hj3 a2 (if_neg c4).symm _ _ ls hP hD hS (lv_sub hl [] rfl)

theorem hd_yX1_take : hdY yX1_take 2 := by decide +kernel
def Fr_take (fr : Fr) (a1 : Int64) (a2 : Int64) : Fr := if (lg_cmp (fr_low fr) a2) = 0 then (z_let ((fr_up fr) - a1) (fun x4 : Int64 => (x4, (fr_low fr)))) else (z_let (((fr_up fr) * a2) - (a1 * (fr_low fr))) (fun x2 : Int64 => z_let ((fr_low fr) * a2) (fun x3 : Int64 => (x2, x3))))
set_option maxHeartbeats 4000000 in
set_option maxRecDepth 100000 in
theorem ctX1_take (l : Launch) (D : va_G) (ac cs : Nat → Nat) (q : Nat → Nat) (sz : Nat) (fr : Fr) (a1 : Int64) (a2 : Int64) (res : Fr) (hf : Fr_take fr a1 a2 = res) : Met l yX1_take (cWW yX1_take cX1_take 5 none) { frames := 0, cells := 0, slots := 0, locals := 0 } (zM D ac cs [.ref (q 0), .long a1, .long a2] (frW ac q fr) sz) (va_Qv (fun _ : Unit => True) (fun _ => zB D (va_A (frW ac q fr) sz) (frW ac q res)) (va_A (frW ac q fr) sz)) 0 0 (va_A (frW ac q fr) sz) := by
  refine Met.ofW (cc := cX1_take) (maxL := 5) (ret := none) (by decide) rfl ?_
  intro p e s m args below meth c s₁ B hml hv
  obtain ⟨rfl, hsz, hP, hKX, hD0, hC⟩ := hv
  have hx := B.exec
  have hb := B.bytes
  have hr := B.returns
  have hts := atoms_spec (ws := cWW yX1_take cX1_take 5 none) B.pre
  have htw : ∀ w ∈ WW, w.before _ s = true := fun w h => hts w (List.mem_cons_of_mem _ h)
  have hown : s.vm.findClass RX1 = some m.cls := findClass_of_methodNamed B.named
  have hlocks := B.notSynchronized
  clear hts B
  subst hsz
  have hD := hD0.self (sz := s.heap.size)
  generalize hAe : va_A (frW ac q fr) s.heap.size = A at hD hC ⊢
  have hA : ∀ q : Nat, s.heap.size ≤ q → A q := fun q h => by rw [← hAe]; exact Or.inr h
  have hS : va_S A s.heap s.heap [] := va_S.rf
  clear hD0 hAe
  have hP : va_P D vwCl (frW ac q fr) s.heap := hP
  have hl := lv_entry ([.ref (q 0), .long a1, .long a2]) (n := 5) (Nat.le_of_ble_eq_true rfl)
  rw [lg_entry_eq]
  generalize (lg_sl ([.ref (q 0), .long a1, .long a2]) ++ List.replicate (5 - (lg_sl ([.ref (q 0), .long a1, .long a2])).length) Slot.unset).toArray = ls at hl ⊢
  have hl : lv_has ls 5 [(0, .ref (q 0)), (1, .long a1), (3, .long a2)] := hl
  unfold Fr_take at hf
  show W p l e ({ frames := 0, cells := 0, slots := 0, locals := 0 } : Room) s m _ below meth c s.heap [] 0 0 _ (F0 m 0 ls [])
  refine lv_aload_n hx hb dX1_take_0 rfl (lv_at hl 0 rfl) ?_
  refine va_get (D := D) (ci := 1) (v := .long (fr_low fr)) (C := RX1) (T := TX1) (N := 2) hx hb htw WW_wsX10 hown hKX.1 hP 0 rfl rfl 1 (Nat.le_of_ble_eq_true rfl) (htw _ mF_RX1_7) (fun _ h9 => h9) rfl dX1_take_1 ?_
  refine lv_lload_n hx hb dX1_take_4 rfl (lv_at hl 2 rfl) ?_
  refine W.lcmp hx hb dX1_take_5 ?_
  refine lv_if_ne (tgt := 22) hx hb dX1_take_6 (by decide) (fun c1 => ?_) (fun c1 => ?_)
  · have hf := z_n c1 hf
    refine lv_aload_n hx hb dX1_take_22 rfl (lv_at hl 0 rfl) ?_
    refine lv_aload_n hx hb dX1_take_23 rfl (lv_at hl 0 rfl) ?_
    refine va_get (D := D) (ci := 1) (v := .long (fr_up fr)) (C := RX1) (T := TX1) (N := 2) hx hb htw WW_wsX10 hown hKX.1 hP 0 rfl rfl 0 (Nat.le_of_ble_eq_true rfl) (htw _ mF_RX1_13) (fun _ h9 => h9) rfl dX1_take_24 ?_
    refine lv_lload_n hx hb dX1_take_27 rfl (lv_at hl 2 rfl) ?_
    refine lv_lmul hx hb dX1_take_28 ?_
    refine lv_lload_n hx hb dX1_take_29 rfl (lv_at hl 1 rfl) ?_
    refine lv_aload_n hx hb dX1_take_30 rfl (lv_at hl 0 rfl) ?_
    refine va_get (D := D) (ci := 1) (v := .long (fr_low fr)) (C := RX1) (T := TX1) (N := 2) hx hb htw WW_wsX10 hown hKX.1 hP 0 rfl rfl 1 (Nat.le_of_ble_eq_true rfl) (htw _ mF_RX1_7) (fun _ h9 => h9) rfl dX1_take_31 ?_
    refine lv_lmul hx hb dX1_take_34 ?_
    refine lv_lsub hx hb dX1_take_35 ?_
    refine lv_topl (fun x2 hx2 => ?_)
    have hf := z_let_u hx2 hf
    refine va_put (D := D) (ci := 1) (v := .long x2) (ty := tyX1 0) (C := RX1) (T := TX1) (N := 2) hx hb htw WW_wsX10 tyX1 tyX1_ok nmX1 hown hKX.1 hP hD hS 0 rfl rfl 0 (Nat.le_of_ble_eq_true rfl) (htw _ mF_RX1_13) (fun _ h9 => h9) rfl (tyX1_ok 0 (Nat.le_of_ble_eq_true rfl)) rfl rfl (Nat.le_of_ble_eq_true rfl) dX1_take_36 (fun H locs hP hD hS => ?_)
    have hP : va_P D vwCl (frW ac q (x2, (fr_low fr))) H := hP
    have hD : va_D A (frW ac q (x2, (fr_low fr))) := hD
    refine lv_aload_n hx hb dX1_take_39 rfl (lv_at hl 0 rfl) ?_
    refine lv_dup hx hb dX1_take_40 rfl ?_
    refine va_get (D := D) (ci := 1) (v := .long (fr_low fr)) (C := RX1) (T := TX1) (N := 2) hx hb htw WW_wsX10 hown hKX.1 hP 0 rfl rfl 1 (Nat.le_of_ble_eq_true rfl) (htw _ mF_RX1_7) (fun _ h9 => h9) rfl dX1_take_41 ?_
    refine lv_lload_n hx hb dX1_take_44 rfl (lv_at hl 2 rfl) ?_
    refine lv_lmul hx hb dX1_take_45 ?_
    refine lv_topl (fun x3 hx3 => ?_)
    have hf := z_let_u hx3 hf
    refine va_put (D := D) (ci := 1) (v := .long x3) (ty := tyX1 1) (C := RX1) (T := TX1) (N := 2) hx hb htw WW_wsX10 tyX1 tyX1_ok nmX1 hown hKX.1 hP hD hS 0 rfl rfl 1 (Nat.le_of_ble_eq_true rfl) (htw _ mF_RX1_7) (fun _ h9 => h9) rfl (tyX1_ok 1 (Nat.le_of_ble_eq_true rfl)) rfl rfl (Nat.le_of_ble_eq_true rfl) dX1_take_46 (fun H locs hP hD hS => ?_)
    have hP : va_P D vwCl (frW ac q (x2, x3)) H := hP
    have hD : va_D A (frW ac q (x2, x3)) := hD
    subst hf
    exact zr_Mv hx hb hr hlocks hP hD hS dX1_take_49
  · have hf := z_p c1 hf
    refine lv_aload_n hx hb dX1_take_9 rfl (lv_at hl 0 rfl) ?_
    refine lv_dup hx hb dX1_take_10 rfl ?_
    refine va_get (D := D) (ci := 1) (v := .long (fr_up fr)) (C := RX1) (T := TX1) (N := 2) hx hb htw WW_wsX10 hown hKX.1 hP 0 rfl rfl 0 (Nat.le_of_ble_eq_true rfl) (htw _ mF_RX1_13) (fun _ h9 => h9) rfl dX1_take_11 ?_
    refine lv_lload_n hx hb dX1_take_14 rfl (lv_at hl 1 rfl) ?_
    refine lv_lsub hx hb dX1_take_15 ?_
    refine lv_topl (fun x4 hx4 => ?_)
    have hf := z_let_u hx4 hf
    refine va_put (D := D) (ci := 1) (v := .long x4) (ty := tyX1 0) (C := RX1) (T := TX1) (N := 2) hx hb htw WW_wsX10 tyX1 tyX1_ok nmX1 hown hKX.1 hP hD hS 0 rfl rfl 0 (Nat.le_of_ble_eq_true rfl) (htw _ mF_RX1_13) (fun _ h9 => h9) rfl (tyX1_ok 0 (Nat.le_of_ble_eq_true rfl)) rfl rfl (Nat.le_of_ble_eq_true rfl) dX1_take_16 (fun H locs hP hD hS => ?_)
    have hP : va_P D vwCl (frW ac q (x4, (fr_low fr))) H := hP
    have hD : va_D A (frW ac q (x4, (fr_low fr))) := hD
    refine lv_goto (tgt := 49) hx hb dX1_take_19 (by decide) ?_
    subst hf
    exact zr_Mv hx hb hr hlocks hP hD hS dX1_take_49

theorem hd_yX1_part : hdY yX1_part 1 := by decide +kernel
def Fr_part (fr : Fr) (a1 : Int32) : Int64 := if a1 = 0 then (fr_up fr) else (fr_low fr)
set_option maxHeartbeats 4000000 in
set_option maxRecDepth 100000 in
theorem ctX1_part (l : Launch) (D : va_G) (ac cs : Nat → Nat) (q : Nat → Nat) (fr : Fr) (a1 : Int32) (res : Int64) (hf : Fr_part fr a1 = res) : Met l yX1_part (cWW yX1_part cX1_part 2 (some .long)) { frames := 0, cells := 0, slots := 0, locals := 0 } (zR D ac cs [.ref (q 0), .int a1] (frW ac q fr)) (vp_Sl (fun r => r = res)) 0 0 (fun _ => False) := by
  refine Met.ofW (cc := cX1_part) (maxL := 2) (ret := (some .long)) (by decide) rfl ?_
  intro p e s m args below meth c s₁ B hml hv
  obtain ⟨rfl, hP, hKX, hC⟩ := hv
  have hx := B.exec
  have hb := B.bytes
  have hr := B.returns
  have hts := atoms_spec (ws := cWW yX1_part cX1_part 2 (some .long)) B.pre
  have htw : ∀ w ∈ WW, w.before _ s = true := fun w h => hts w (List.mem_cons_of_mem _ h)
  have hown : s.vm.findClass RX1 = some m.cls := findClass_of_methodNamed B.named
  have hlocks := B.notSynchronized
  clear hts B
  have hS : va_S (fun _ => False) s.heap s.heap [] := va_S.rf
  have hl := lv_entry ([.ref (q 0), .int a1]) (n := 2) (Nat.le_of_ble_eq_true rfl)
  rw [lg_entry_eq]
  generalize (lg_sl ([.ref (q 0), .int a1]) ++ List.replicate (2 - (lg_sl ([.ref (q 0), .int a1])).length) Slot.unset).toArray = ls at hl ⊢
  have hl : lv_has ls 2 [(0, .ref (q 0)), (1, .int a1)] := hl
  unfold Fr_part at hf
  show W p l e ({ frames := 0, cells := 0, slots := 0, locals := 0 } : Room) s m _ below meth c s.heap [] 0 0 _ (F0 m 0 ls [])
  refine lv_iload_n hx hb dX1_part_0 rfl (lv_at hl 1 rfl) ?_
  refine lv_if_ne (tgt := 11) hx hb dX1_part_1 (by decide) (fun c1 => ?_) (fun c1 => ?_)
  · have hf := z_n c1 hf
    refine lv_aload_n hx hb dX1_part_11 rfl (lv_at hl 0 rfl) ?_
    refine va_get (D := D) (ci := 1) (v := .long (fr_low fr)) (C := RX1) (T := TX1) (N := 2) hx hb htw WW_wsX10 hown hKX.1 hP 0 rfl rfl 1 (Nat.le_of_ble_eq_true rfl) (htw _ mF_RX1_7) (fun _ h9 => h9) rfl dX1_part_12 ?_
    exact zr_Rl hx hb hr hlocks hf dX1_part_15
  · have hf := z_p c1 hf
    refine lv_aload_n hx hb dX1_part_4 rfl (lv_at hl 0 rfl) ?_
    refine va_get (D := D) (ci := 1) (v := .long (fr_up fr)) (C := RX1) (T := TX1) (N := 2) hx hb htw WW_wsX10 hown hKX.1 hP 0 rfl rfl 0 (Nat.le_of_ble_eq_true rfl) (htw _ mF_RX1_13) (fun _ h9 => h9) rfl dX1_part_5 ?_
    refine lv_goto (tgt := 15) hx hb dX1_part_8 (by decide) ?_
    exact zr_Rl hx hb hr hlocks hf dX1_part_15

theorem hd_yX1_reduce : hdY yX1_reduce 0 := by decide +kernel
def Fr_reduce_L30 (kx12 : Int64 → Option (Fr)) : Nat → Int64 → Int64 → Int32 → Option (Fr)
  | 0, _, _, _ => none
  | n10 + 1, x6, x7, x8 => if 200 ≤ x8 then (kx12 x6) else (if (lg_cmp x7 0) ≤ 0 then (kx12 x6) else (z_gd (z_nzl x7) (z_let (z_reml x6 x7) (fun x17 : Int64 => z_let (x8 + 1) (fun x18 : Int32 => Fr_reduce_L30 kx12 n10 x7 x17 x18)))))
def Fr_reduce (F : Nat) (fr : Fr) : Option (Fr) := z_let (fr_low fr) (fun x1 : Int64 => z_let (if 0 ≤ (lg_cmp (fr_up fr) 0) then (fr_up fr) else (-(fr_up fr))) (fun v2 : Int64 => Fr_reduce_L30 (fun (x13 : Int64) => if (lg_cmp x13 0) ≤ 0 then (some fr) else (z_gd (z_nzl x13) (z_let ((fr_up fr) / x13) (fun x21 : Int64 => z_gd (z_nzl x13) (z_let ((fr_low fr) / x13) (fun x23 : Int64 => some (x21, x23))))))) F x1 v2 0))
set_option maxHeartbeats 4000000 in
set_option maxRecDepth 100000 in
theorem ctX1_reduce (l : Launch) (D : va_G) (ac cs : Nat → Nat) (q : Nat → Nat) (sz : Nat) (fr : Fr) (F : Nat) (res : Fr) (hf : Fr_reduce F fr = some res) : Met l yX1_reduce (cWW yX1_reduce cX1_reduce 8 none) { frames := 0, cells := 0, slots := 0, locals := 0 } (zM D ac cs [.ref (q 0)] (frW ac q fr) sz) (va_Qv (fun _ : Unit => True) (fun _ => zB D (va_A (frW ac q fr) sz) (frW ac q res)) (va_A (frW ac q fr) sz)) 0 0 (va_A (frW ac q fr) sz) := by
  refine Met.ofW (cc := cX1_reduce) (maxL := 8) (ret := none) (by decide) rfl ?_
  intro p e s m args below meth c s₁ B hml hv
  obtain ⟨rfl, hsz, hP, hKX, hD0, hC⟩ := hv
  have hx := B.exec
  have hb := B.bytes
  have hr := B.returns
  have hts := atoms_spec (ws := cWW yX1_reduce cX1_reduce 8 none) B.pre
  have htw : ∀ w ∈ WW, w.before _ s = true := fun w h => hts w (List.mem_cons_of_mem _ h)
  have hown : s.vm.findClass RX1 = some m.cls := findClass_of_methodNamed B.named
  have hlocks := B.notSynchronized
  clear hts B
  subst hsz
  have hD := hD0.self (sz := s.heap.size)
  generalize hAe : va_A (frW ac q fr) s.heap.size = A at hD hC ⊢
  have hA : ∀ q : Nat, s.heap.size ≤ q → A q := fun q h => by rw [← hAe]; exact Or.inr h
  have hS : va_S A s.heap s.heap [] := va_S.rf
  clear hD0 hAe
  have hP : va_P D vwCl (frW ac q fr) s.heap := hP
  have hl := lv_entry ([.ref (q 0)]) (n := 8) (Nat.le_of_ble_eq_true rfl)
  rw [lg_entry_eq]
  generalize (lg_sl ([.ref (q 0)]) ++ List.replicate (8 - (lg_sl ([.ref (q 0)])).length) Slot.unset).toArray = ls at hl ⊢
  have hl : lv_has ls 8 [(0, .ref (q 0))] := hl
  unfold Fr_reduce at hf
  show W p l e ({ frames := 0, cells := 0, slots := 0, locals := 0 } : Room) s m _ below meth c s.heap [] 0 0 _ (F0 m 0 ls [])
  refine lv_aload_n hx hb dX1_reduce_0 rfl (lv_at hl 0 rfl) ?_
  refine va_get (D := D) (ci := 1) (v := .long (fr_low fr)) (C := RX1) (T := TX1) (N := 2) hx hb htw WW_wsX10 hown hKX.1 hP 0 rfl rfl 1 (Nat.le_of_ble_eq_true rfl) (htw _ mF_RX1_7) (fun _ h9 => h9) rfl dX1_reduce_1 ?_
  refine lv_topl (fun x1 hx1 => ?_)
  have hf := z_let_u hx1 hf
  refine lv_lstore_n (lv' := [(1, .long x1), (0, .ref (q 0))]) hx hb dX1_reduce_4 rfl hl (Nat.le_of_ble_eq_true rfl) rfl (fun ls hl => ?_)
  refine lv_aload_n hx hb dX1_reduce_5 rfl (lv_at hl 1 rfl) ?_
  refine va_get (D := D) (ci := 1) (v := .long (fr_up fr)) (C := RX1) (T := TX1) (N := 2) hx hb htw WW_wsX10 hown hKX.1 hP 0 rfl rfl 0 (Nat.le_of_ble_eq_true rfl) (htw _ mF_RX1_13) (fun _ h9 => h9) rfl dX1_reduce_6 ?_
  refine lv_lconst (v := 0) hx hb dX1_reduce_9 rfl ?_
  refine W.lcmp hx hb dX1_reduce_10 ?_
  have hj4 : ∀ (v2 : Int64), v2 = (if 0 ≤ (lg_cmp (fr_up fr) 0) then (fr_up fr) else (-(fr_up fr))) → ∀ (H : Heap) (locs : List Loc) (ls : Array Slot), va_P D vwCl (frW ac q fr) H → va_D A (frW ac q fr) → va_S A s.heap H locs → lv_has ls 8 [(0, .ref (q 0)), (1, .long x1)] → W p l e ({ frames := 0, cells := 0, slots := 0, locals := 0 } : Room) s m (([.ref (q 0)] : List Value).toArray) below meth c H locs 0 0 (MQ below (va_Qv (fun _ : Unit => True) (fun _ => zB D A (frW ac q res)) A) ([.ref (q 0)] : List Value).toArray s 0 0 A) (F0 m 26 ls [.long v2]) := by
    intro v2 hv2 H locs ls hP hD hS hl
    have hf := z_let_u hv2 hf
    refine lv_lstore_n (lv' := [(3, .long v2), (0, .ref (q 0)), (1, .long x1)]) hx hb dX1_reduce_26 rfl hl (Nat.le_of_ble_eq_true rfl) rfl (fun ls hl => ?_)
    refine lv_iconst (v := 0) hx hb dX1_reduce_27 rfl ?_
    refine lv_istore (lv' := [(5, .int 0), (3, .long v2), (0, .ref (q 0)), (1, .long x1)]) hx hb dX1_reduce_28 hl (Nat.le_of_ble_eq_true rfl) rfl (fun ls hl => ?_)
    have hL9 : ∀ (kx12 : Int64 → Option (Fr)) (hkx12 : ∀ (x13 : Int64), kx12 x13 = some res → ∀ (H : Heap) (locs : List Loc) (ls : Array Slot), va_P D vwCl (frW ac q fr) H → va_D A (frW ac q fr) → va_S A s.heap H locs → lv_has ls 8 [(0, .ref (q 0)), (1, .long x13)] → W p l e ({ frames := 0, cells := 0, slots := 0, locals := 0 } : Room) s m (([.ref (q 0)] : List Value).toArray) below meth c H locs 0 0 (MQ below (va_Qv (fun _ : Unit => True) (fun _ => zB D A (frW ac q res)) A) ([.ref (q 0)] : List Value).toArray s 0 0 A) (F0 m 60 ls [])) (n10 : Nat) (x6 : Int64) (x7 : Int64) (x8 : Int32), Fr_reduce_L30 kx12 n10 x6 x7 x8 = some res → ∀ (H : Heap) (locs : List Loc) (ls : Array Slot), va_P D vwCl (frW ac q fr) H → va_D A (frW ac q fr) → va_S A s.heap H locs → lv_has ls 8 [(0, .ref (q 0)), (1, .long x6), (3, .long x7), (5, .int x8)] → W p l e ({ frames := 0, cells := 0, slots := 0, locals := 0 } : Room) s m (([.ref (q 0)] : List Value).toArray) below meth c H locs 0 0 (MQ below (va_Qv (fun _ : Unit => True) (fun _ => zB D A (frW ac q res)) A) ([.ref (q 0)] : List Value).toArray s 0 0 A) (F0 m 30 ls []) := by
      intro kx12 hkx12 n10
      induction n10 with
      | zero => intro x6 x7 x8 hf; rw [Fr_reduce_L30] at hf; cases hf
      | succ n10 ih11 =>
        intro x6 x7 x8 hf H locs ls hP hD hS hl
        rw [Fr_reduce_L30] at hf
        refine lv_iload hx hb dX1_reduce_30 (lv_at hl 3 rfl) ?_
        refine lv_sipush (v := 200) hx hb dX1_reduce_32 rfl ?_
        refine lv_icmp_ge (tgt := 60) hx hb dX1_reduce_35 (by decide) (fun c14 => ?_) (fun c14 => ?_)
        · have hf := z_p c14 hf
          exact hkx12 x6 hf _ _ ls  hP hD hS (lv_sub hl [0, 1] rfl)
        · have hf := z_n c14 hf
          refine lv_lload_n hx hb dX1_reduce_38 rfl (lv_at hl 2 rfl) ?_
          refine lv_lconst (v := 0) hx hb dX1_reduce_39 rfl ?_
          refine W.lcmp hx hb dX1_reduce_40 ?_
          refine lv_if_le (tgt := 60) hx hb dX1_reduce_41 (by decide) (fun c15 => ?_) (fun c15 => ?_)
          · have hf := z_p c15 hf
            exact hkx12 x6 hf _ _ ls  hP hD hS (lv_sub hl [0, 1] rfl)
          · have hf := z_n c15 hf
            refine lv_lload_n hx hb dX1_reduce_44 rfl (lv_at hl 1 rfl) ?_
            refine lv_lload_n hx hb dX1_reduce_45 rfl (lv_at hl 2 rfl) ?_
            obtain ⟨g16, hf⟩ := z_gd_u hf
            refine zv_lrem hx hb dX1_reduce_46 (z_nzl_u g16) ?_
            refine lv_topl (fun x17 hx17 => ?_)
            have hf := z_let_u hx17 hf
            refine lv_lstore (lv' := [(6, .long x17), (0, .ref (q 0)), (1, .long x6), (3, .long x7), (5, .int x8)]) hx hb dX1_reduce_47 hl (Nat.le_of_ble_eq_true rfl) rfl (fun ls hl => ?_)
            refine lv_lload_n hx hb dX1_reduce_49 rfl (lv_at hl 3 rfl) ?_
            refine lv_lstore_n (lv' := [(1, .long x7), (6, .long x17), (0, .ref (q 0)), (3, .long x7), (5, .int x8)]) hx hb dX1_reduce_50 rfl hl (Nat.le_of_ble_eq_true rfl) rfl (fun ls hl => ?_)
            refine lv_lload hx hb dX1_reduce_51 (lv_at hl 1 rfl) ?_
            refine lv_lstore_n (lv' := [(3, .long x17), (1, .long x7), (6, .long x17), (0, .ref (q 0)), (5, .int x8)]) hx hb dX1_reduce_53 rfl hl (Nat.le_of_ble_eq_true rfl) rfl (fun ls hl => ?_)
            obtain ⟨x18, hx18⟩ : ∃ y : Int32, y = (x8 + 1) := ⟨_, rfl⟩
            have hf := z_let_u hx18 hf
            refine lv_iinc (v := x18) (lv' := [(5, .int x18), (3, .long x17), (1, .long x7), (6, .long x17), (0, .ref (q 0))]) hx hb dX1_reduce_54 hl (k := 4) rfl (by rw [hx18]; rfl) (Nat.le_of_ble_eq_true rfl) rfl (fun ls hl => ?_)
            refine lv_goto (tgt := 30) hx hb dX1_reduce_57 (by decide) ?_
            exact ih11 x7 x17 x18 hf _ _ ls  hP hD hS (lv_sub hl [4, 2, 1, 0] rfl)
    refine hL9 _ ?_ F x1 v2 0 hf _ _ ls  hP hD hS (lv_sub hl [2, 3, 1, 0] rfl)
    intro x13 hf H locs ls hP hD hS hl
    refine lv_lload_n hx hb dX1_reduce_60 rfl (lv_at hl 1 rfl) ?_
    refine lv_lconst (v := 0) hx hb dX1_reduce_61 rfl ?_
    refine W.lcmp hx hb dX1_reduce_62 ?_
    refine lv_if_le (tgt := 86) hx hb dX1_reduce_63 (by decide) (fun c19 => ?_) (fun c19 => ?_)
    · have hf := z_p c19 hf
      obtain rfl := Option.some.inj hf
      exact zr_Mv hx hb hr hlocks hP hD hS dX1_reduce_86
    · have hf := z_n c19 hf
      refine lv_aload_n hx hb dX1_reduce_66 rfl (lv_at hl 0 rfl) ?_
      refine lv_dup hx hb dX1_reduce_67 rfl ?_
      refine va_get (D := D) (ci := 1) (v := .long (fr_up fr)) (C := RX1) (T := TX1) (N := 2) hx hb htw WW_wsX10 hown hKX.1 hP 0 rfl rfl 0 (Nat.le_of_ble_eq_true rfl) (htw _ mF_RX1_13) (fun _ h9 => h9) rfl dX1_reduce_68 ?_
      refine lv_lload_n hx hb dX1_reduce_71 rfl (lv_at hl 1 rfl) ?_
      obtain ⟨g20, hf⟩ := z_gd_u hf
      refine lv_ldiv hx hb dX1_reduce_72 (z_nzl_u g20) ?_
      refine lv_topl (fun x21 hx21 => ?_)
      have hf := z_let_u hx21 hf
      refine va_put (D := D) (ci := 1) (v := .long x21) (ty := tyX1 0) (C := RX1) (T := TX1) (N := 2) hx hb htw WW_wsX10 tyX1 tyX1_ok nmX1 hown hKX.1 hP hD hS 0 rfl rfl 0 (Nat.le_of_ble_eq_true rfl) (htw _ mF_RX1_13) (fun _ h9 => h9) rfl (tyX1_ok 0 (Nat.le_of_ble_eq_true rfl)) rfl rfl (Nat.le_of_ble_eq_true rfl) dX1_reduce_73 (fun H locs hP hD hS => ?_)
      have hP : va_P D vwCl (frW ac q (x21, (fr_low fr))) H := hP
      have hD : va_D A (frW ac q (x21, (fr_low fr))) := hD
      refine lv_aload_n hx hb dX1_reduce_76 rfl (lv_at hl 0 rfl) ?_
      refine lv_dup hx hb dX1_reduce_77 rfl ?_
      refine va_get (D := D) (ci := 1) (v := .long (fr_low fr)) (C := RX1) (T := TX1) (N := 2) hx hb htw WW_wsX10 hown hKX.1 hP 0 rfl rfl 1 (Nat.le_of_ble_eq_true rfl) (htw _ mF_RX1_7) (fun _ h9 => h9) rfl dX1_reduce_78 ?_
      refine lv_lload_n hx hb dX1_reduce_81 rfl (lv_at hl 1 rfl) ?_
      obtain ⟨g22, hf⟩ := z_gd_u hf
      refine lv_ldiv hx hb dX1_reduce_82 (z_nzl_u g22) ?_
      refine lv_topl (fun x23 hx23 => ?_)
      have hf := z_let_u hx23 hf
      refine va_put (D := D) (ci := 1) (v := .long x23) (ty := tyX1 1) (C := RX1) (T := TX1) (N := 2) hx hb htw WW_wsX10 tyX1 tyX1_ok nmX1 hown hKX.1 hP hD hS 0 rfl rfl 1 (Nat.le_of_ble_eq_true rfl) (htw _ mF_RX1_7) (fun _ h9 => h9) rfl (tyX1_ok 1 (Nat.le_of_ble_eq_true rfl)) rfl rfl (Nat.le_of_ble_eq_true rfl) dX1_reduce_83 (fun H locs hP hD hS => ?_)
      have hP : va_P D vwCl (frW ac q (x21, x23)) H := hP
      have hD : va_D A (frW ac q (x21, x23)) := hD
      obtain rfl := Option.some.inj hf
      exact zr_Mv hx hb hr hlocks hP hD hS dX1_reduce_86
  refine lv_if_ge (tgt := 22) hx hb dX1_reduce_11 (by decide) (fun c5 => ?_) (fun c5 => ?_)
  · skip
    refine lv_aload_n hx hb dX1_reduce_22 rfl (lv_at hl 1 rfl) ?_
    refine va_get (D := D) (ci := 1) (v := .long (fr_up fr)) (C := RX1) (T := TX1) (N := 2) hx hb htw WW_wsX10 hown hKX.1 hP 0 rfl rfl 0 (Nat.le_of_ble_eq_true rfl) (htw _ mF_RX1_13) (fun _ h9 => h9) rfl dX1_reduce_23 ?_
    exact hj4 (fr_up fr) (if_pos c5).symm _ _ ls hP hD hS (lv_sub hl [1, 0] rfl)
  · skip
    refine lv_aload_n hx hb dX1_reduce_14 rfl (lv_at hl 1 rfl) ?_
    refine va_get (D := D) (ci := 1) (v := .long (fr_up fr)) (C := RX1) (T := TX1) (N := 2) hx hb htw WW_wsX10 hown hKX.1 hP 0 rfl rfl 0 (Nat.le_of_ble_eq_true rfl) (htw _ mF_RX1_13) (fun _ h9 => h9) rfl dX1_reduce_15 ?_
    refine lv_lneg hx hb dX1_reduce_18 ?_
    refine lv_goto (tgt := 26) hx hb dX1_reduce_19 (by decide) ?_
    exact hj4 (-(fr_up fr)) (if_neg c5).symm _ _ ls hP hD hS (lv_sub hl [1, 0] rfl)

theorem hd_yX1_compareFractions : hdY yX1_compareFractions 4 := by decide +kernel
def Fr_compareFractions_L20 (kx10 : Int32 → Int64 → Int64 → Option (Int32)) (kx11 : Int32 → Int64 → Int64 → Option (Int32)) : Nat → Int64 → Int64 → Int64 → Int64 → Int32 → Int32 → Option (Int32)
  | 0, _, _, _, _, _, _ => none
  | n8 + 1, x1, x2, x3, x4, x5, x6 => if 200 ≤ x6 then (some 0) else (if (lg_cmp x2 0) ≤ 0 then (some 0) else (if (lg_cmp x4 0) ≤ 0 then (some 0) else (z_gd (z_nzl x2) (z_let (x1 / x2) (fun x22 : Int64 => z_gd (z_nzl x4) (z_let (x3 / x4) (fun x24 : Int64 => if (lg_cmp x22 x24) = 0 then (z_let (x1 - (x22 * x2)) (fun x26 : Int64 => z_let (x3 - (x24 * x4)) (fun x27 : Int64 => if (lg_cmp x26 0) = 0 then (kx11 x5 x26 x27) else (if (lg_cmp x27 0) = 0 then (kx11 x5 x26 x27) else (z_let (-x5) (fun x30 : Int32 => z_let (x6 + 1) (fun x31 : Int32 => Fr_compareFractions_L20 kx10 kx11 n8 x2 x26 x4 x27 x30 x31))))))) else (kx10 x5 x22 x24))))))))
def Fr_compareFractions (F : Nat) (a1 : Int64) (a2 : Int64) (a3 : Int64) (a4 : Int64) : Option (Int32) := Fr_compareFractions_L20 (fun (x12 : Int32) (x13 : Int64) (x14 : Int64) => if (lg_cmp x13 x14) ≤ 0 then (some (-x12)) else (some x12)) (fun (x15 : Int32) (x16 : Int64) (x17 : Int64) => if (lg_cmp x16 x17) = 0 then (some 0) else (if (lg_cmp x16 0) ≤ 0 then (some (-x15)) else (some x15))) F a1 a2 a3 a4 1 0
set_option maxHeartbeats 4000000 in
set_option maxRecDepth 100000 in
theorem ctX1_compareFractions (l : Launch) (D : va_G) (ac cs : Nat → Nat) (a1 : Int64) (a2 : Int64) (a3 : Int64) (a4 : Int64) (F : Nat) (res : Int32) (hf : Fr_compareFractions F a1 a2 a3 a4 = some res) : Met l yX1_compareFractions (cWW yX1_compareFractions cX1_compareFractions 26 (some .int)) { frames := 0, cells := 0, slots := 0, locals := 0 } (zR D ac cs [.long a1, .long a2, .long a3, .long a4] ([])) (vp_Si (fun r => r = res)) 0 0 (fun _ => False) := by
  refine Met.ofW (cc := cX1_compareFractions) (maxL := 26) (ret := (some .int)) (by decide) rfl ?_
  intro p e s m args below meth c s₁ B hml hv
  obtain ⟨rfl, hP, hKX, hC⟩ := hv
  have hx := B.exec
  have hb := B.bytes
  have hr := B.returns
  have hts := atoms_spec (ws := cWW yX1_compareFractions cX1_compareFractions 26 (some .int)) B.pre
  have htw : ∀ w ∈ WW, w.before _ s = true := fun w h => hts w (List.mem_cons_of_mem _ h)
  have hown : s.vm.findClass RX1 = some m.cls := findClass_of_methodNamed B.named
  have hlocks := B.notSynchronized
  clear hts B
  have hS : va_S (fun _ => False) s.heap s.heap [] := va_S.rf
  have hl := lv_entry ([.long a1, .long a2, .long a3, .long a4]) (n := 26) (Nat.le_of_ble_eq_true rfl)
  rw [lg_entry_eq]
  generalize (lg_sl ([.long a1, .long a2, .long a3, .long a4]) ++ List.replicate (26 - (lg_sl ([.long a1, .long a2, .long a3, .long a4])).length) Slot.unset).toArray = ls at hl ⊢
  have hl : lv_has ls 26 [(0, .long a1), (2, .long a2), (4, .long a3), (6, .long a4)] := hl
  unfold Fr_compareFractions at hf
  show W p l e ({ frames := 0, cells := 0, slots := 0, locals := 0 } : Room) s m _ below meth c s.heap [] 0 0 _ (F0 m 0 ls [])
  refine lv_lload_n hx hb dX1_compareFractions_0 rfl (lv_at hl 0 rfl) ?_
  refine lv_lstore (lv' := [(8, .long a1), (0, .long a1), (2, .long a2), (4, .long a3), (6, .long a4)]) hx hb dX1_compareFractions_1 hl (Nat.le_of_ble_eq_true rfl) rfl (fun ls hl => ?_)
  refine lv_lload_n hx hb dX1_compareFractions_3 rfl (lv_at hl 2 rfl) ?_
  refine lv_lstore (lv' := [(10, .long a2), (8, .long a1), (0, .long a1), (2, .long a2), (4, .long a3), (6, .long a4)]) hx hb dX1_compareFractions_4 hl (Nat.le_of_ble_eq_true rfl) rfl (fun ls hl => ?_)
  refine lv_lload hx hb dX1_compareFractions_6 (lv_at hl 4 rfl) ?_
  refine lv_lstore (lv' := [(12, .long a3), (10, .long a2), (8, .long a1), (0, .long a1), (2, .long a2), (4, .long a3), (6, .long a4)]) hx hb dX1_compareFractions_8 hl (Nat.le_of_ble_eq_true rfl) rfl (fun ls hl => ?_)
  refine lv_lload hx hb dX1_compareFractions_10 (lv_at hl 6 rfl) ?_
  refine lv_lstore (lv' := [(14, .long a4), (12, .long a3), (10, .long a2), (8, .long a1), (0, .long a1), (2, .long a2), (4, .long a3), (6, .long a4)]) hx hb dX1_compareFractions_12 hl (Nat.le_of_ble_eq_true rfl) rfl (fun ls hl => ?_)
  refine lv_iconst (v := 1) hx hb dX1_compareFractions_14 rfl ?_
  refine lv_istore (lv' := [(16, .int 1), (14, .long a4), (12, .long a3), (10, .long a2), (8, .long a1), (0, .long a1), (2, .long a2), (4, .long a3), (6, .long a4)]) hx hb dX1_compareFractions_15 hl (Nat.le_of_ble_eq_true rfl) rfl (fun ls hl => ?_)
  refine lv_iconst (v := 0) hx hb dX1_compareFractions_17 rfl ?_
  refine lv_istore (lv' := [(17, .int 0), (16, .int 1), (14, .long a4), (12, .long a3), (10, .long a2), (8, .long a1), (0, .long a1), (2, .long a2), (4, .long a3), (6, .long a4)]) hx hb dX1_compareFractions_18 hl (Nat.le_of_ble_eq_true rfl) rfl (fun ls hl => ?_)
  have hL7 : ∀ (kx10 : Int32 → Int64 → Int64 → Option (Int32)) (kx11 : Int32 → Int64 → Int64 → Option (Int32)) (hkx10 : ∀ (x12 : Int32) (x13 : Int64) (x14 : Int64), kx10 x12 x13 x14 = some res → ∀ (ls : Array Slot), lv_has ls 26 [(16, .int x12), (18, .long x13), (20, .long x14)] → W p l e ({ frames := 0, cells := 0, slots := 0, locals := 0 } : Room) s m (([.long a1, .long a2, .long a3, .long a4] : List Value).toArray) below meth c s.heap [] 0 0 (MQ below (vp_Si (fun r => r = res)) ([.long a1, .long a2, .long a3, .long a4] : List Value).toArray s 0 0 (fun _ => False)) (F0 m 64 ls [])) (hkx11 : ∀ (x15 : Int32) (x16 : Int64) (x17 : Int64), kx11 x15 x16 x17 = some res → ∀ (ls : Array Slot), lv_has ls 26 [(16, .int x15), (22, .long x16), (24, .long x17)] → W p l e ({ frames := 0, cells := 0, slots := 0, locals := 0 } : Room) s m (([.long a1, .long a2, .long a3, .long a4] : List Value).toArray) below meth c s.heap [] 0 0 (MQ below (vp_Si (fun r => r = res)) ([.long a1, .long a2, .long a3, .long a4] : List Value).toArray s 0 0 (fun _ => False)) (F0 m 115 ls [])) (n8 : Nat) (x1 : Int64) (x2 : Int64) (x3 : Int64) (x4 : Int64) (x5 : Int32) (x6 : Int32), Fr_compareFractions_L20 kx10 kx11 n8 x1 x2 x3 x4 x5 x6 = some res → ∀ (ls : Array Slot), lv_has ls 26 [(8, .long x1), (10, .long x2), (12, .long x3), (14, .long x4), (16, .int x5), (17, .int x6)] → W p l e ({ frames := 0, cells := 0, slots := 0, locals := 0 } : Room) s m (([.long a1, .long a2, .long a3, .long a4] : List Value).toArray) below meth c s.heap [] 0 0 (MQ below (vp_Si (fun r => r = res)) ([.long a1, .long a2, .long a3, .long a4] : List Value).toArray s 0 0 (fun _ => False)) (F0 m 20 ls []) := by
    intro kx10 kx11 hkx10 hkx11 n8
    induction n8 with
    | zero => intro x1 x2 x3 x4 x5 x6 hf; rw [Fr_compareFractions_L20] at hf; cases hf
    | succ n8 ih9 =>
      intro x1 x2 x3 x4 x5 x6 hf ls hl
      rw [Fr_compareFractions_L20] at hf
      refine lv_iload hx hb dX1_compareFractions_20 (lv_at hl 5 rfl) ?_
      refine lv_sipush (v := 200) hx hb dX1_compareFractions_22 rfl ?_
      refine lv_icmp_ge (tgt := 170) hx hb dX1_compareFractions_25 (by decide) (fun c18 => ?_) (fun c18 => ?_)
      · have hf := z_p c18 hf
        refine lv_iconst (v := 0) hx hb dX1_compareFractions_170 rfl ?_
        exact zr_Ri hx hb hr hlocks (Option.some.inj hf) dX1_compareFractions_171
      · have hf := z_n c18 hf
        refine lv_lload hx hb dX1_compareFractions_28 (lv_at hl 1 rfl) ?_
        refine lv_lconst (v := 0) hx hb dX1_compareFractions_30 rfl ?_
        refine W.lcmp hx hb dX1_compareFractions_31 ?_
        refine lv_if_le (tgt := 170) hx hb dX1_compareFractions_32 (by decide) (fun c19 => ?_) (fun c19 => ?_)
        · have hf := z_p c19 hf
          refine lv_iconst (v := 0) hx hb dX1_compareFractions_170 rfl ?_
          exact zr_Ri hx hb hr hlocks (Option.some.inj hf) dX1_compareFractions_171
        · have hf := z_n c19 hf
          refine lv_lload hx hb dX1_compareFractions_35 (lv_at hl 3 rfl) ?_
          refine lv_lconst (v := 0) hx hb dX1_compareFractions_37 rfl ?_
          refine W.lcmp hx hb dX1_compareFractions_38 ?_
          refine lv_if_le (tgt := 170) hx hb dX1_compareFractions_39 (by decide) (fun c20 => ?_) (fun c20 => ?_)
          · have hf := z_p c20 hf
            refine lv_iconst (v := 0) hx hb dX1_compareFractions_170 rfl ?_
            exact zr_Ri hx hb hr hlocks (Option.some.inj hf) dX1_compareFractions_171
          · have hf := z_n c20 hf
            refine lv_lload hx hb dX1_compareFractions_42 (lv_at hl 0 rfl) ?_
            refine lv_lload hx hb dX1_compareFractions_44 (lv_at hl 1 rfl) ?_
            obtain ⟨g21, hf⟩ := z_gd_u hf
            refine lv_ldiv hx hb dX1_compareFractions_46 (z_nzl_u g21) ?_
            refine lv_topl (fun x22 hx22 => ?_)
            have hf := z_let_u hx22 hf
            refine lv_lstore (lv' := [(18, .long x22), (8, .long x1), (10, .long x2), (12, .long x3), (14, .long x4), (16, .int x5), (17, .int x6)]) hx hb dX1_compareFractions_47 hl (Nat.le_of_ble_eq_true rfl) rfl (fun ls hl => ?_)
            refine lv_lload hx hb dX1_compareFractions_49 (lv_at hl 3 rfl) ?_
            refine lv_lload hx hb dX1_compareFractions_51 (lv_at hl 4 rfl) ?_
            obtain ⟨g23, hf⟩ := z_gd_u hf
            refine lv_ldiv hx hb dX1_compareFractions_53 (z_nzl_u g23) ?_
            refine lv_topl (fun x24 hx24 => ?_)
            have hf := z_let_u hx24 hf
            refine lv_lstore (lv' := [(20, .long x24), (18, .long x22), (8, .long x1), (10, .long x2), (12, .long x3), (14, .long x4), (16, .int x5), (17, .int x6)]) hx hb dX1_compareFractions_54 hl (Nat.le_of_ble_eq_true rfl) rfl (fun ls hl => ?_)
            refine lv_lload hx hb dX1_compareFractions_56 (lv_at hl 1 rfl) ?_
            refine lv_lload hx hb dX1_compareFractions_58 (lv_at hl 0 rfl) ?_
            refine W.lcmp hx hb dX1_compareFractions_60 ?_
            refine lv_if_eq (tgt := 81) hx hb dX1_compareFractions_61 (by decide) (fun c25 => ?_) (fun c25 => ?_)
            · have hf := z_p c25 hf
              refine lv_lload hx hb dX1_compareFractions_81 (lv_at hl 2 rfl) ?_
              refine lv_lload hx hb dX1_compareFractions_83 (lv_at hl 1 rfl) ?_
              refine lv_lload hx hb dX1_compareFractions_85 (lv_at hl 3 rfl) ?_
              refine lv_lmul hx hb dX1_compareFractions_87 ?_
              refine lv_lsub hx hb dX1_compareFractions_88 ?_
              refine lv_topl (fun x26 hx26 => ?_)
              have hf := z_let_u hx26 hf
              refine lv_lstore (lv' := [(22, .long x26), (20, .long x24), (18, .long x22), (8, .long x1), (10, .long x2), (12, .long x3), (14, .long x4), (16, .int x5), (17, .int x6)]) hx hb dX1_compareFractions_89 hl (Nat.le_of_ble_eq_true rfl) rfl (fun ls hl => ?_)
              refine lv_lload hx hb dX1_compareFractions_91 (lv_at hl 5 rfl) ?_
              refine lv_lload hx hb dX1_compareFractions_93 (lv_at hl 1 rfl) ?_
              refine lv_lload hx hb dX1_compareFractions_95 (lv_at hl 6 rfl) ?_
              refine lv_lmul hx hb dX1_compareFractions_97 ?_
              refine lv_lsub hx hb dX1_compareFractions_98 ?_
              refine lv_topl (fun x27 hx27 => ?_)
              have hf := z_let_u hx27 hf
              refine lv_lstore (lv' := [(24, .long x27), (22, .long x26), (20, .long x24), (18, .long x22), (8, .long x1), (10, .long x2), (12, .long x3), (14, .long x4), (16, .int x5), (17, .int x6)]) hx hb dX1_compareFractions_99 hl (Nat.le_of_ble_eq_true rfl) rfl (fun ls hl => ?_)
              refine lv_lload hx hb dX1_compareFractions_101 (lv_at hl 1 rfl) ?_
              refine lv_lconst (v := 0) hx hb dX1_compareFractions_103 rfl ?_
              refine W.lcmp hx hb dX1_compareFractions_104 ?_
              refine lv_if_eq (tgt := 115) hx hb dX1_compareFractions_105 (by decide) (fun c28 => ?_) (fun c28 => ?_)
              · have hf := z_p c28 hf
                exact hkx11 x5 x26 x27 hf ls (lv_sub hl [8, 1, 0] rfl)
              · have hf := z_n c28 hf
                refine lv_lload hx hb dX1_compareFractions_108 (lv_at hl 0 rfl) ?_
                refine lv_lconst (v := 0) hx hb dX1_compareFractions_110 rfl ?_
                refine W.lcmp hx hb dX1_compareFractions_111 ?_
                refine lv_if_ne (tgt := 143) hx hb dX1_compareFractions_112 (by decide) (fun c29 => ?_) (fun c29 => ?_)
                · have hf := z_n c29 hf
                  refine lv_lload hx hb dX1_compareFractions_143 (lv_at hl 5 rfl) ?_
                  refine lv_lstore (lv' := [(8, .long x2), (24, .long x27), (22, .long x26), (20, .long x24), (18, .long x22), (10, .long x2), (12, .long x3), (14, .long x4), (16, .int x5), (17, .int x6)]) hx hb dX1_compareFractions_145 hl (Nat.le_of_ble_eq_true rfl) rfl (fun ls hl => ?_)
                  refine lv_lload hx hb dX1_compareFractions_147 (lv_at hl 2 rfl) ?_
                  refine lv_lstore (lv' := [(10, .long x26), (8, .long x2), (24, .long x27), (22, .long x26), (20, .long x24), (18, .long x22), (12, .long x3), (14, .long x4), (16, .int x5), (17, .int x6)]) hx hb dX1_compareFractions_149 hl (Nat.le_of_ble_eq_true rfl) rfl (fun ls hl => ?_)
                  refine lv_lload hx hb dX1_compareFractions_151 (lv_at hl 7 rfl) ?_
                  refine lv_lstore (lv' := [(12, .long x4), (10, .long x26), (8, .long x2), (24, .long x27), (22, .long x26), (20, .long x24), (18, .long x22), (14, .long x4), (16, .int x5), (17, .int x6)]) hx hb dX1_compareFractions_153 hl (Nat.le_of_ble_eq_true rfl) rfl (fun ls hl => ?_)
                  refine lv_lload hx hb dX1_compareFractions_155 (lv_at hl 3 rfl) ?_
                  refine lv_lstore (lv' := [(14, .long x27), (12, .long x4), (10, .long x26), (8, .long x2), (24, .long x27), (22, .long x26), (20, .long x24), (18, .long x22), (16, .int x5), (17, .int x6)]) hx hb dX1_compareFractions_157 hl (Nat.le_of_ble_eq_true rfl) rfl (fun ls hl => ?_)
                  refine lv_iload hx hb dX1_compareFractions_159 (lv_at hl 8 rfl) ?_
                  refine lv_ineg hx hb dX1_compareFractions_161 ?_
                  refine lv_topi (fun x30 hx30 => ?_)
                  have hf := z_let_u hx30 hf
                  refine lv_istore (lv' := [(16, .int x30), (14, .long x27), (12, .long x4), (10, .long x26), (8, .long x2), (24, .long x27), (22, .long x26), (20, .long x24), (18, .long x22), (17, .int x6)]) hx hb dX1_compareFractions_162 hl (Nat.le_of_ble_eq_true rfl) rfl (fun ls hl => ?_)
                  obtain ⟨x31, hx31⟩ : ∃ y : Int32, y = (x6 + 1) := ⟨_, rfl⟩
                  have hf := z_let_u hx31 hf
                  refine lv_iinc (v := x31) (lv' := [(17, .int x31), (16, .int x30), (14, .long x27), (12, .long x4), (10, .long x26), (8, .long x2), (24, .long x27), (22, .long x26), (20, .long x24), (18, .long x22)]) hx hb dX1_compareFractions_164 hl (k := 9) rfl (by rw [hx31]; rfl) (Nat.le_of_ble_eq_true rfl) rfl (fun ls hl => ?_)
                  refine lv_goto (tgt := 20) hx hb dX1_compareFractions_167 (by decide) ?_
                  exact ih9 x2 x26 x4 x27 x30 x31 hf ls (lv_sub hl [5, 4, 3, 2, 1, 0] rfl)
                · have hf := z_p c29 hf
                  exact hkx11 x5 x26 x27 hf ls (lv_sub hl [8, 1, 0] rfl)
            · have hf := z_n c25 hf
              exact hkx10 x5 x22 x24 hf ls (lv_sub hl [6, 1, 0] rfl)
  refine hL7 _ _ ?_ ?_ F a1 a2 a3 a4 1 0 hf ls (lv_sub hl [5, 4, 3, 2, 1, 0] rfl)
  · intro x12 x13 x14 hf ls hl
    refine lv_lload hx hb dX1_compareFractions_64 (lv_at hl 1 rfl) ?_
    refine lv_lload hx hb dX1_compareFractions_66 (lv_at hl 2 rfl) ?_
    refine W.lcmp hx hb dX1_compareFractions_68 ?_
    refine lv_if_le (tgt := 77) hx hb dX1_compareFractions_69 (by decide) (fun c32 => ?_) (fun c32 => ?_)
    · have hf := z_p c32 hf
      refine lv_iload hx hb dX1_compareFractions_77 (lv_at hl 0 rfl) ?_
      refine lv_ineg hx hb dX1_compareFractions_79 ?_
      exact zr_Ri hx hb hr hlocks (Option.some.inj hf) dX1_compareFractions_80
    · have hf := z_n c32 hf
      refine lv_iload hx hb dX1_compareFractions_72 (lv_at hl 0 rfl) ?_
      refine lv_goto (tgt := 80) hx hb dX1_compareFractions_74 (by decide) ?_
      exact zr_Ri hx hb hr hlocks (Option.some.inj hf) dX1_compareFractions_80
  · intro x15 x16 x17 hf ls hl
    refine lv_lload hx hb dX1_compareFractions_115 (lv_at hl 1 rfl) ?_
    refine lv_lload hx hb dX1_compareFractions_117 (lv_at hl 2 rfl) ?_
    refine W.lcmp hx hb dX1_compareFractions_119 ?_
    refine lv_if_ne (tgt := 127) hx hb dX1_compareFractions_120 (by decide) (fun c33 => ?_) (fun c33 => ?_)
    · have hf := z_n c33 hf
      refine lv_lload hx hb dX1_compareFractions_127 (lv_at hl 1 rfl) ?_
      refine lv_lconst (v := 0) hx hb dX1_compareFractions_129 rfl ?_
      refine W.lcmp hx hb dX1_compareFractions_130 ?_
      refine lv_if_le (tgt := 139) hx hb dX1_compareFractions_131 (by decide) (fun c34 => ?_) (fun c34 => ?_)
      · have hf := z_p c34 hf
        refine lv_iload hx hb dX1_compareFractions_139 (lv_at hl 0 rfl) ?_
        refine lv_ineg hx hb dX1_compareFractions_141 ?_
        exact zr_Ri hx hb hr hlocks (Option.some.inj hf) dX1_compareFractions_142
      · have hf := z_n c34 hf
        refine lv_iload hx hb dX1_compareFractions_134 (lv_at hl 0 rfl) ?_
        refine lv_goto (tgt := 142) hx hb dX1_compareFractions_136 (by decide) ?_
        exact zr_Ri hx hb hr hlocks (Option.some.inj hf) dX1_compareFractions_142
    · have hf := z_p c33 hf
      refine lv_iconst (v := 0) hx hb dX1_compareFractions_123 rfl ?_
      refine lv_goto (tgt := 142) hx hb dX1_compareFractions_124 (by decide) ?_
      exact zr_Ri hx hb hr hlocks (Option.some.inj hf) dX1_compareFractions_142

theorem hd_yX1_against : hdY yX1_against 1 := by decide +kernel
def Fr_against (F : Nat) (fr : Fr) (fo : Fr) : Option (Int32) := z_bd (Fr_compareFractions F (fr_up fr) (fr_low fr) (fr_up fo) (fr_low fo)) (fun r1 : Int32 => some r1)
set_option maxHeartbeats 4000000 in
set_option maxRecDepth 100000 in
theorem ctX1_against (l : Launch) (D : va_G) (ac cs : Nat → Nat) (q : Nat → Nat) (qo : Nat → Nat) (fr : Fr) (fo : Fr) (F : Nat) (res : Int32) (hf : Fr_against F fr fo = some res) : Met l yX1_against (cWW yX1_against cX1_against 2 (some .int)) { frames := 1, cells := 0, slots := 0, locals := 45 } (zR D ac cs [.ref (q 0), .ref (qo 0)] (frW ac q fr ++ (frW ac qo fo))) (vp_Si (fun r => r = res)) 0 0 (fun _ => False) := by
  refine Met.ofW (cc := cX1_against) (maxL := 2) (ret := (some .int)) (by decide) rfl ?_
  intro p e s m args below meth c s₁ B hml hv
  obtain ⟨rfl, hP, hKX, hC⟩ := hv
  have hx := B.exec
  have hb := B.bytes
  have hr := B.returns
  have hts := atoms_spec (ws := cWW yX1_against cX1_against 2 (some .int)) B.pre
  have htw : ∀ w ∈ WW, w.before _ s = true := fun w h => hts w (List.mem_cons_of_mem _ h)
  have hown : s.vm.findClass RX1 = some m.cls := findClass_of_methodNamed B.named
  have hlocks := B.notSynchronized
  clear hts B
  have hS : va_S (fun _ => False) s.heap s.heap [] := va_S.rf
  have hl := lv_entry ([.ref (q 0), .ref (qo 0)]) (n := 2) (Nat.le_of_ble_eq_true rfl)
  rw [lg_entry_eq]
  generalize (lg_sl ([.ref (q 0), .ref (qo 0)]) ++ List.replicate (2 - (lg_sl ([.ref (q 0), .ref (qo 0)])).length) Slot.unset).toArray = ls at hl ⊢
  have hl : lv_has ls 2 [(0, .ref (q 0)), (1, .ref (qo 0))] := hl
  unfold Fr_against at hf
  show W p l e ({ frames := 1, cells := 0, slots := 0, locals := 45 } : Room) s m _ below meth c s.heap [] 0 0 _ (F0 m 0 ls [])
  refine lv_aload_n hx hb dX1_against_0 rfl (lv_at hl 0 rfl) ?_
  refine va_get (D := D) (ci := 1) (v := .long (fr_up fr)) (C := RX1) (T := TX1) (N := 2) hx hb htw WW_wsX10 hown hKX.1 hP 0 rfl rfl 0 (Nat.le_of_ble_eq_true rfl) (htw _ mF_RX1_13) (fun _ h9 => h9) rfl dX1_against_1 ?_
  refine lv_aload_n hx hb dX1_against_4 rfl (lv_at hl 0 rfl) ?_
  refine va_get (D := D) (ci := 1) (v := .long (fr_low fr)) (C := RX1) (T := TX1) (N := 2) hx hb htw WW_wsX10 hown hKX.1 hP 0 rfl rfl 1 (Nat.le_of_ble_eq_true rfl) (htw _ mF_RX1_7) (fun _ h9 => h9) rfl dX1_against_5 ?_
  refine lv_aload_n hx hb dX1_against_8 rfl (lv_at hl 1 rfl) ?_
  refine va_get (D := D) (ci := 1) (v := .long (fr_up fo)) (C := RX1) (T := TX1) (N := 2) hx hb htw WW_wsX10 hown hKX.1 hP 1 rfl rfl 0 (Nat.le_of_ble_eq_true rfl) (htw _ mF_RX1_13) (fun _ h9 => h9) rfl dX1_against_9 ?_
  refine lv_aload_n hx hb dX1_against_12 rfl (lv_at hl 1 rfl) ?_
  refine va_get (D := D) (ci := 1) (v := .long (fr_low fo)) (C := RX1) (T := TX1) (N := 2) hx hb htw WW_wsX10 hown hKX.1 hP 1 rfl rfl 1 (Nat.le_of_ble_eq_true rfl) (htw _ mF_RX1_7) (fun _ h9 => h9) rfl dX1_against_13 ?_
  obtain ⟨r1, hr1, hf⟩ := z_bd_u hf
  refine zc_RSi (As := [.long (fr_up fr), .long (fr_low fr), .long (fr_up fo), .long (fr_low fo)]) (rest := []) hx hb hml hown htw (ctX1_compareFractions l D ac cs   (fr_up fr) (fr_low fr) (fr_up fo) (fr_low fo)   F _ hr1) (g_S mM_RX1_16 mT_yX1_compareFractions mN_RX1 mC_yX1_compareFractions) (hd_yX1_compareFractions) ⟨rfl, rfl⟩ ⟨(Nat.le_of_ble_eq_true rfl), (Nat.le_of_ble_eq_true rfl)⟩ hKX hC hS zP0 rfl hl.1 rfl (Nat.le_of_ble_eq_true rfl) ⟨Nat.zero_le _, Nat.zero_le _⟩ dX1_against_16 ?_
  exact zr_Ri hx hb hr hlocks (Option.some.inj hf) dX1_against_19

theorem hd_yX6_addFour : hdY yX6_addFour 1 := by decide +kernel
def Tx_addFour_L25 (a1 : Int32) (kx8 : Tx → Option (Int32 × Tx)) : Nat → Int32 → Tx → Option (Int32 × Tx)
  | 0, _, _ => none
  | n6 + 1, x3, tx4 => if 4 ≤ x3 then (kx8 tx4) else (z_let (((((a1.toUInt32 >>> ((24 - (8 * x3)).toUInt32 &&& Int32.toUInt32 31)).toInt32) &&& 255).toUInt32 % 65536).toInt32) (fun x11 : Int32 => z_gd (z_in ((tx_length tx4) + x3) 200) (z_let (x3 + 1) (fun x13 : Int32 => Tx_addFour_L25 a1 kx8 n6 x13 ((upd (tx_signs tx4) ((tx_length tx4) + x3).toNatClampNeg (vp_nar .char x11)), (tx_length tx4))))))
def Tx_addFour (F : Nat) (tx : Tx) (a1 : Int32) : Option (Int32 × Tx) := if (tx_length tx) < 0 then (some (0, tx)) else (if ((tx_length tx) + 4) ≤ 200 then (Tx_addFour_L25 a1 (fun (tx9 : Tx) => z_let ((tx_length tx9) + 4) (fun x14 : Int32 => some (1, ((tx_signs tx9), x14)))) F 0 tx) else (some (0, tx)))
set_option maxHeartbeats 4000000 in
set_option maxRecDepth 100000 in
theorem ctX6_addFour (l : Launch) (D : va_G) (ac cs : Nat → Nat) (q : Nat → Nat) (sz : Nat) (tx : Tx) (a1 : Int32) (F : Nat) (res : Int32 × Tx) (hf : Tx_addFour F tx a1 = some res) : Met l yX6_addFour (cWW yX6_addFour cX6_addFour 3 (some .boolean)) { frames := 0, cells := 0, slots := 0, locals := 0 } (zM D ac cs [.ref (q 0), .int a1] (txW ac q tx) sz) (va_Qi (fun r (_ : Unit) => r = res.1) (fun _ => zB D (va_A (txW ac q tx) sz) (txW ac q res.2)) (va_A (txW ac q tx) sz)) 0 0 (va_A (txW ac q tx) sz) := by
  refine Met.ofW (cc := cX6_addFour) (maxL := 3) (ret := (some .boolean)) (by decide) rfl ?_
  intro p e s m args below meth c s₁ B hml hv
  obtain ⟨rfl, hsz, hP, hKX, hD0, hC⟩ := hv
  have hx := B.exec
  have hb := B.bytes
  have hr := B.returns
  have hts := atoms_spec (ws := cWW yX6_addFour cX6_addFour 3 (some .boolean)) B.pre
  have htw : ∀ w ∈ WW, w.before _ s = true := fun w h => hts w (List.mem_cons_of_mem _ h)
  have hown : s.vm.findClass RX6 = some m.cls := findClass_of_methodNamed B.named
  have hlocks := B.notSynchronized
  clear hts B
  subst hsz
  have hD := hD0.self (sz := s.heap.size)
  generalize hAe : va_A (txW ac q tx) s.heap.size = A at hD hC ⊢
  have hA : ∀ q : Nat, s.heap.size ≤ q → A q := fun q h => by rw [← hAe]; exact Or.inr h
  have hS : va_S A s.heap s.heap [] := va_S.rf
  clear hD0 hAe
  have hP : va_P D vwCl (txW ac q tx) s.heap := hP
  have hl := lv_entry ([.ref (q 0), .int a1]) (n := 3) (Nat.le_of_ble_eq_true rfl)
  rw [lg_entry_eq]
  generalize (lg_sl ([.ref (q 0), .int a1]) ++ List.replicate (3 - (lg_sl ([.ref (q 0), .int a1])).length) Slot.unset).toArray = ls at hl ⊢
  have hl : lv_has ls 3 [(0, .ref (q 0)), (1, .int a1)] := hl
  unfold Tx_addFour at hf
  show W p l e ({ frames := 0, cells := 0, slots := 0, locals := 0 } : Room) s m _ below meth c s.heap [] 0 0 _ (F0 m 0 ls [])
  refine lv_aload_n hx hb dX6_addFour_0 rfl (lv_at hl 0 rfl) ?_
  refine va_get (D := D) (ci := 6) (v := .int (tx_length tx)) (C := RX6) (T := TX6) (N := 2) hx hb htw WW_wsX60 hown hKX.1 hP 0 rfl rfl 1 (Nat.le_of_ble_eq_true rfl) (htw _ mF_RX6_15) (fun _ h9 => h9) rfl dX6_addFour_1 ?_
  refine lv_if_lt (tgt := 21) hx hb dX6_addFour_4 (by decide) (fun c1 => ?_) (fun c1 => ?_)
  · have hf := z_p c1 hf
    refine lv_iconst (v := 0) hx hb dX6_addFour_21 rfl ?_
    obtain rfl := Option.some.inj hf
    exact zr_Mz hx hb hr hlocks (z_b_n z_b0) hP hD hS dX6_addFour_22
  · have hf := z_n c1 hf
    refine lv_aload_n hx hb dX6_addFour_7 rfl (lv_at hl 0 rfl) ?_
    refine va_get (D := D) (ci := 6) (v := .int (tx_length tx)) (C := RX6) (T := TX6) (N := 2) hx hb htw WW_wsX60 hown hKX.1 hP 0 rfl rfl 1 (Nat.le_of_ble_eq_true rfl) (htw _ mF_RX6_15) (fun _ h9 => h9) rfl dX6_addFour_8 ?_
    refine lv_iconst (v := 4) hx hb dX6_addFour_11 rfl ?_
    refine lv_iadd hx hb dX6_addFour_12 ?_
    refine lv_aload_n hx hb dX6_addFour_13 rfl (lv_at hl 0 rfl) ?_
    refine va_get (D := D) (ci := 6) (v := .ref (q 1)) (C := RX6) (T := TX6) (N := 2) hx hb htw WW_wsX60 hown hKX.1 hP 0 rfl rfl 0 (Nat.le_of_ble_eq_true rfl) (htw _ mF_RX6_9) (fun _ h9 => h9) rfl dX6_addFour_14 ?_
    refine va_alen hx hb hKX.1 hP 1 2 rfl rfl (v := 200) rfl dX6_addFour_17 ?_
    refine lv_icmp_le (tgt := 23) hx hb dX6_addFour_18 (by decide) (fun c2 => ?_) (fun c2 => ?_)
    · have hf := z_p c2 hf
      refine lv_iconst (v := 0) hx hb dX6_addFour_23 rfl ?_
      refine lv_istore_n (lv' := [(2, .int 0), (0, .ref (q 0)), (1, .int a1)]) hx hb dX6_addFour_24 rfl hl (Nat.le_of_ble_eq_true rfl) rfl (fun ls hl => ?_)
      have hL5 : ∀ (kx8 : Tx → Option (Int32 × Tx)) (hkx8 : ∀ (tx9 : Tx), kx8 tx9 = some res → ∀ (H : Heap) (locs : List Loc) (ls : Array Slot), va_P D vwCl (txW ac q tx9) H → va_D A (txW ac q tx9) → va_S A s.heap H locs → lv_has ls 3 [(0, .ref (q 0))] → W p l e ({ frames := 0, cells := 0, slots := 0, locals := 0 } : Room) s m (([.ref (q 0), .int a1] : List Value).toArray) below meth c H locs 0 0 (MQ below (va_Qi (fun r (_ : Unit) => r = res.1) (fun _ => zB D A (txW ac q res.2)) A) ([.ref (q 0), .int a1] : List Value).toArray s 0 0 A) (F0 m 61 ls [])) (n6 : Nat) (x3 : Int32) (tx4 : Tx), Tx_addFour_L25 a1 kx8 n6 x3 tx4 = some res → ∀ (H : Heap) (locs : List Loc) (ls : Array Slot), va_P D vwCl (txW ac q tx4) H → va_D A (txW ac q tx4) → va_S A s.heap H locs → lv_has ls 3 [(0, .ref (q 0)), (1, .int a1), (2, .int x3)] → W p l e ({ frames := 0, cells := 0, slots := 0, locals := 0 } : Room) s m (([.ref (q 0), .int a1] : List Value).toArray) below meth c H locs 0 0 (MQ below (va_Qi (fun r (_ : Unit) => r = res.1) (fun _ => zB D A (txW ac q res.2)) A) ([.ref (q 0), .int a1] : List Value).toArray s 0 0 A) (F0 m 25 ls []) := by
        intro kx8 hkx8 n6
        induction n6 with
        | zero => intro x3 tx4 hf; rw [Tx_addFour_L25] at hf; cases hf
        | succ n6 ih7 =>
          intro x3 tx4 hf H locs ls hP hD hS hl
          rw [Tx_addFour_L25] at hf
          refine lv_iload_n hx hb dX6_addFour_25 rfl (lv_at hl 2 rfl) ?_
          refine lv_iconst (v := 4) hx hb dX6_addFour_26 rfl ?_
          refine lv_icmp_ge (tgt := 61) hx hb dX6_addFour_27 (by decide) (fun c10 => ?_) (fun c10 => ?_)
          · have hf := z_p c10 hf
            exact hkx8 tx4 hf _ _ ls  hP hD hS (lv_sub hl [0] rfl)
          · have hf := z_n c10 hf
            refine lv_aload_n hx hb dX6_addFour_30 rfl (lv_at hl 0 rfl) ?_
            refine va_get (D := D) (ci := 6) (v := .ref (q 1)) (C := RX6) (T := TX6) (N := 2) hx hb htw WW_wsX60 hown hKX.1 hP 0 rfl rfl 0 (Nat.le_of_ble_eq_true rfl) (htw _ mF_RX6_9) (fun _ h9 => h9) rfl dX6_addFour_31 ?_
            refine lv_aload_n hx hb dX6_addFour_34 rfl (lv_at hl 0 rfl) ?_
            refine va_get (D := D) (ci := 6) (v := .int (tx_length tx4)) (C := RX6) (T := TX6) (N := 2) hx hb htw WW_wsX60 hown hKX.1 hP 0 rfl rfl 1 (Nat.le_of_ble_eq_true rfl) (htw _ mF_RX6_15) (fun _ h9 => h9) rfl dX6_addFour_35 ?_
            refine lv_iload_n hx hb dX6_addFour_38 rfl (lv_at hl 2 rfl) ?_
            refine lv_iadd hx hb dX6_addFour_39 ?_
            refine lv_iload_n hx hb dX6_addFour_40 rfl (lv_at hl 1 rfl) ?_
            refine lv_bipush (v := 24) hx hb dX6_addFour_41 rfl ?_
            refine lv_bipush (v := 8) hx hb dX6_addFour_43 rfl ?_
            refine lv_iload_n hx hb dX6_addFour_45 rfl (lv_at hl 2 rfl) ?_
            refine lv_imul hx hb dX6_addFour_46 ?_
            refine lv_isub hx hb dX6_addFour_47 ?_
            refine lv_iushr hx hb dX6_addFour_48 rfl ?_
            refine lv_sipush (v := 255) hx hb dX6_addFour_49 rfl ?_
            refine lv_iand hx hb dX6_addFour_52 ?_
            refine lv_i2c hx hb dX6_addFour_53 rfl ?_
            refine lv_topi (fun x11 hx11 => ?_)
            have hf := z_let_u hx11 hf
            obtain ⟨g12, hf⟩ := z_gd_u hf
            refine va_cast hx hb hKX.1 hP hD hS 1 2 rfl rfl (z_in_u g12) dX6_addFour_54 (fun H locs hP hD hS => ?_)
            have hP : va_P D vwCl (txW ac q ((upd (tx_signs tx4) ((tx_length tx4) + x3).toNatClampNeg (vp_nar .char x11)), (tx_length tx4))) H := hP
            have hD : va_D A (txW ac q ((upd (tx_signs tx4) ((tx_length tx4) + x3).toNatClampNeg (vp_nar .char x11)), (tx_length tx4))) := hD
            obtain ⟨x13, hx13⟩ : ∃ y : Int32, y = (x3 + 1) := ⟨_, rfl⟩
            have hf := z_let_u hx13 hf
            refine lv_iinc (v := x13) (lv' := [(2, .int x13), (0, .ref (q 0)), (1, .int a1)]) hx hb dX6_addFour_55 hl (k := 2) rfl (by rw [hx13]; rfl) (Nat.le_of_ble_eq_true rfl) rfl (fun ls hl => ?_)
            refine lv_goto (tgt := 25) hx hb dX6_addFour_58 (by decide) ?_
            exact ih7 x13 ((upd (tx_signs tx4) ((tx_length tx4) + x3).toNatClampNeg (vp_nar .char x11)), (tx_length tx4)) hf _ _ ls  hP hD hS (lv_sub hl [1, 2, 0] rfl)
      refine hL5 _ ?_ F 0 tx hf _ _ ls  hP hD hS (lv_sub hl [1, 2, 0] rfl)
      intro tx9 hf H locs ls hP hD hS hl
      refine lv_aload_n hx hb dX6_addFour_61 rfl (lv_at hl 0 rfl) ?_
      refine lv_dup hx hb dX6_addFour_62 rfl ?_
      refine va_get (D := D) (ci := 6) (v := .int (tx_length tx9)) (C := RX6) (T := TX6) (N := 2) hx hb htw WW_wsX60 hown hKX.1 hP 0 rfl rfl 1 (Nat.le_of_ble_eq_true rfl) (htw _ mF_RX6_15) (fun _ h9 => h9) rfl dX6_addFour_63 ?_
      refine lv_iconst (v := 4) hx hb dX6_addFour_66 rfl ?_
      refine lv_iadd hx hb dX6_addFour_67 ?_
      refine lv_topi (fun x14 hx14 => ?_)
      have hf := z_let_u hx14 hf
      refine va_put (D := D) (ci := 6) (v := .int x14) (ty := tyX6 1) (C := RX6) (T := TX6) (N := 2) hx hb htw WW_wsX60 tyX6 tyX6_ok nmX6 hown hKX.1 hP hD hS 0 rfl rfl 1 (Nat.le_of_ble_eq_true rfl) (htw _ mF_RX6_15) (fun _ h9 => h9) rfl (tyX6_ok 1 (Nat.le_of_ble_eq_true rfl)) rfl rfl (Nat.le_of_ble_eq_true rfl) dX6_addFour_68 (fun H locs hP hD hS => ?_)
      have hP : va_P D vwCl (txW ac q ((tx_signs tx9), x14)) H := hP
      have hD : va_D A (txW ac q ((tx_signs tx9), x14)) := hD
      refine lv_iconst (v := 1) hx hb dX6_addFour_71 rfl ?_
      obtain rfl := Option.some.inj hf
      exact zr_Mz hx hb hr hlocks (z_b_n z_b1) hP hD hS dX6_addFour_72
    · have hf := z_n c2 hf
      refine lv_iconst (v := 0) hx hb dX6_addFour_21 rfl ?_
      obtain rfl := Option.some.inj hf
      exact zr_Mz hx hb hr hlocks (z_b_n z_b0) hP hD hS dX6_addFour_22

theorem hd_yX6_at : hdY yX6_at 1 := by decide +kernel
def Tx_at (tx : Tx) (a1 : Int32) : Int32 := if a1 < 0 then (vp_nar .char 0) else (if (tx_length tx) ≤ a1 then (vp_nar .char 0) else (if 200 ≤ a1 then (vp_nar .char 0) else (vp_nar .char ((tx_signs tx) a1.toNatClampNeg))))
set_option maxHeartbeats 4000000 in
set_option maxRecDepth 100000 in
theorem ctX6_at (l : Launch) (D : va_G) (ac cs : Nat → Nat) (q : Nat → Nat) (tx : Tx) (a1 : Int32) (res : Int32) (hf : Tx_at tx a1 = res) : Met l yX6_at (cWW yX6_at cX6_at 2 (some .char)) { frames := 0, cells := 0, slots := 0, locals := 0 } (zR D ac cs [.ref (q 0), .int a1] (txW ac q tx)) (vp_Si (fun r => r = res)) 0 0 (fun _ => False) := by
  refine Met.ofW (cc := cX6_at) (maxL := 2) (ret := (some .char)) (by decide) rfl ?_
  intro p e s m args below meth c s₁ B hml hv
  obtain ⟨rfl, hP, hKX, hC⟩ := hv
  have hx := B.exec
  have hb := B.bytes
  have hr := B.returns
  have hts := atoms_spec (ws := cWW yX6_at cX6_at 2 (some .char)) B.pre
  have htw : ∀ w ∈ WW, w.before _ s = true := fun w h => hts w (List.mem_cons_of_mem _ h)
  have hown : s.vm.findClass RX6 = some m.cls := findClass_of_methodNamed B.named
  have hlocks := B.notSynchronized
  clear hts B
  have hS : va_S (fun _ => False) s.heap s.heap [] := va_S.rf
  have hl := lv_entry ([.ref (q 0), .int a1]) (n := 2) (Nat.le_of_ble_eq_true rfl)
  rw [lg_entry_eq]
  generalize (lg_sl ([.ref (q 0), .int a1]) ++ List.replicate (2 - (lg_sl ([.ref (q 0), .int a1])).length) Slot.unset).toArray = ls at hl ⊢
  have hl : lv_has ls 2 [(0, .ref (q 0)), (1, .int a1)] := hl
  unfold Tx_at at hf
  show W p l e ({ frames := 0, cells := 0, slots := 0, locals := 0 } : Room) s m _ below meth c s.heap [] 0 0 _ (F0 m 0 ls [])
  refine lv_iload_n hx hb dX6_at_0 rfl (lv_at hl 1 rfl) ?_
  refine lv_if_lt (tgt := 30) hx hb dX6_at_1 (by decide) (fun c1 => ?_) (fun c1 => ?_)
  · have hf := z_p c1 hf
    refine lv_iconst (v := 0) hx hb dX6_at_30 rfl ?_
    exact zr_Rn hx hb hr hlocks rfl hf dX6_at_31
  · have hf := z_n c1 hf
    refine lv_iload_n hx hb dX6_at_4 rfl (lv_at hl 1 rfl) ?_
    refine lv_aload_n hx hb dX6_at_5 rfl (lv_at hl 0 rfl) ?_
    refine va_get (D := D) (ci := 6) (v := .int (tx_length tx)) (C := RX6) (T := TX6) (N := 2) hx hb htw WW_wsX60 hown hKX.1 hP 0 rfl rfl 1 (Nat.le_of_ble_eq_true rfl) (htw _ mF_RX6_15) (fun _ h9 => h9) rfl dX6_at_6 ?_
    refine lv_icmp_ge (tgt := 30) hx hb dX6_at_9 (by decide) (fun c2 => ?_) (fun c2 => ?_)
    · have hf := z_p c2 hf
      refine lv_iconst (v := 0) hx hb dX6_at_30 rfl ?_
      exact zr_Rn hx hb hr hlocks rfl hf dX6_at_31
    · have hf := z_n c2 hf
      refine lv_iload_n hx hb dX6_at_12 rfl (lv_at hl 1 rfl) ?_
      refine lv_aload_n hx hb dX6_at_13 rfl (lv_at hl 0 rfl) ?_
      refine va_get (D := D) (ci := 6) (v := .ref (q 1)) (C := RX6) (T := TX6) (N := 2) hx hb htw WW_wsX60 hown hKX.1 hP 0 rfl rfl 0 (Nat.le_of_ble_eq_true rfl) (htw _ mF_RX6_9) (fun _ h9 => h9) rfl dX6_at_14 ?_
      refine va_alen hx hb hKX.1 hP 1 2 rfl rfl (v := 200) rfl dX6_at_17 ?_
      refine lv_icmp_ge (tgt := 30) hx hb dX6_at_18 (by decide) (fun c3 => ?_) (fun c3 => ?_)
      · have hf := z_p c3 hf
        refine lv_iconst (v := 0) hx hb dX6_at_30 rfl ?_
        exact zr_Rn hx hb hr hlocks rfl hf dX6_at_31
      · have hf := z_n c3 hf
        refine lv_aload_n hx hb dX6_at_21 rfl (lv_at hl 0 rfl) ?_
        refine va_get (D := D) (ci := 6) (v := .ref (q 1)) (C := RX6) (T := TX6) (N := 2) hx hb htw WW_wsX60 hown hKX.1 hP 0 rfl rfl 0 (Nat.le_of_ble_eq_true rfl) (htw _ mF_RX6_9) (fun _ h9 => h9) rfl dX6_at_22 ?_
        refine lv_iload_n hx hb dX6_at_25 rfl (lv_at hl 1 rfl) ?_
        refine va_cald hx hb hKX.1 hP 1 2 rfl rfl (z_in_c rfl (Nat.le_of_ble_eq_true rfl) c1 c3) dX6_at_26 ?_
        refine lv_goto (tgt := 31) hx hb dX6_at_27 (by decide) ?_
        exact zr_Rn hx hb hr hlocks rfl hf dX6_at_31

theorem hd_yX7_isSide : hdY yX7_isSide 1 := by decide +kernel
def K_isSide (a1 : Int32) : Int32 := if a1 = 0 then 1 else (if a1 = 1 then 1 else 0)
set_option maxHeartbeats 4000000 in
set_option maxRecDepth 100000 in
theorem ctX7_isSide (l : Launch) (D : va_G) (ac cs : Nat → Nat) (a1 : Int32) (res : Int32) (hf : K_isSide a1 = res) : Met l yX7_isSide (cWW yX7_isSide cX7_isSide 1 (some .boolean)) { frames := 0, cells := 0, slots := 0, locals := 0 } (zR D ac cs [.int a1] ([])) (vp_Si (fun r => r = res)) 0 0 (fun _ => False) := by
  refine Met.ofW (cc := cX7_isSide) (maxL := 1) (ret := (some .boolean)) (by decide) rfl ?_
  intro p e s m args below meth c s₁ B hml hv
  obtain ⟨rfl, hP, hKX, hC⟩ := hv
  have hx := B.exec
  have hb := B.bytes
  have hr := B.returns
  have hts := atoms_spec (ws := cWW yX7_isSide cX7_isSide 1 (some .boolean)) B.pre
  have htw : ∀ w ∈ WW, w.before _ s = true := fun w h => hts w (List.mem_cons_of_mem _ h)
  have hown : s.vm.findClass RX7 = some m.cls := findClass_of_methodNamed B.named
  have hlocks := B.notSynchronized
  clear hts B
  have hS : va_S (fun _ => False) s.heap s.heap [] := va_S.rf
  have hl := lv_entry ([.int a1]) (n := 1) (Nat.le_of_ble_eq_true rfl)
  rw [lg_entry_eq]
  generalize (lg_sl ([.int a1]) ++ List.replicate (1 - (lg_sl ([.int a1])).length) Slot.unset).toArray = ls at hl ⊢
  have hl : lv_has ls 1 [(0, .int a1)] := hl
  unfold K_isSide at hf
  show W p l e ({ frames := 0, cells := 0, slots := 0, locals := 0 } : Room) s m _ below meth c s.heap [] 0 0 _ (F0 m 0 ls [])
  refine lv_iload_n hx hb dX7_isSide_0 rfl (lv_at hl 0 rfl) ?_
  refine lv_if_eq (tgt := 9) hx hb dX7_isSide_1 (by decide) (fun c1 => ?_) (fun c1 => ?_)
  · have hf := z_p c1 hf
    refine lv_iconst (v := 1) hx hb dX7_isSide_9 rfl ?_
    refine lv_goto (tgt := 14) hx hb dX7_isSide_10 (by decide) ?_
    exact zr_Rz hx hb hr hlocks (z_b_n z_b1) hf dX7_isSide_14
  · have hf := z_n c1 hf
    refine lv_iload_n hx hb dX7_isSide_4 rfl (lv_at hl 0 rfl) ?_
    refine lv_iconst (v := 1) hx hb dX7_isSide_5 rfl ?_
    refine lv_icmp_ne (tgt := 13) hx hb dX7_isSide_6 (by decide) (fun c2 => ?_) (fun c2 => ?_)
    · have hf := z_n c2 hf
      refine lv_iconst (v := 0) hx hb dX7_isSide_13 rfl ?_
      exact zr_Rz hx hb hr hlocks (z_b_n z_b0) hf dX7_isSide_14
    · have hf := z_p c2 hf
      refine lv_iconst (v := 1) hx hb dX7_isSide_9 rfl ?_
      refine lv_goto (tgt := 14) hx hb dX7_isSide_10 (by decide) ?_
      exact zr_Rz hx hb hr hlocks (z_b_n z_b1) hf dX7_isSide_14
theorem b_K_isSide (a1 : Int32) : z_b (K_isSide a1) = true := by
  unfold K_isSide
  (repeat' (first | split | (unfold z_let; dsimp only) | (unfold z_jn; dsimp only))) <;> first | decide +kernel

theorem hd_yX7_isPart : hdY yX7_isPart 1 := by decide +kernel
def K_isPart (a1 : Int32) : Int32 := if a1 = 0 then 1 else (if a1 = 1 then 1 else 0)
set_option maxHeartbeats 4000000 in
set_option maxRecDepth 100000 in
theorem ctX7_isPart (l : Launch) (D : va_G) (ac cs : Nat → Nat) (a1 : Int32) (res : Int32) (hf : K_isPart a1 = res) : Met l yX7_isPart (cWW yX7_isPart cX7_isPart 1 (some .boolean)) { frames := 0, cells := 0, slots := 0, locals := 0 } (zR D ac cs [.int a1] ([])) (vp_Si (fun r => r = res)) 0 0 (fun _ => False) := by
  refine Met.ofW (cc := cX7_isPart) (maxL := 1) (ret := (some .boolean)) (by decide) rfl ?_
  intro p e s m args below meth c s₁ B hml hv
  obtain ⟨rfl, hP, hKX, hC⟩ := hv
  have hx := B.exec
  have hb := B.bytes
  have hr := B.returns
  have hts := atoms_spec (ws := cWW yX7_isPart cX7_isPart 1 (some .boolean)) B.pre
  have htw : ∀ w ∈ WW, w.before _ s = true := fun w h => hts w (List.mem_cons_of_mem _ h)
  have hown : s.vm.findClass RX7 = some m.cls := findClass_of_methodNamed B.named
  have hlocks := B.notSynchronized
  clear hts B
  have hS : va_S (fun _ => False) s.heap s.heap [] := va_S.rf
  have hl := lv_entry ([.int a1]) (n := 1) (Nat.le_of_ble_eq_true rfl)
  rw [lg_entry_eq]
  generalize (lg_sl ([.int a1]) ++ List.replicate (1 - (lg_sl ([.int a1])).length) Slot.unset).toArray = ls at hl ⊢
  have hl : lv_has ls 1 [(0, .int a1)] := hl
  unfold K_isPart at hf
  show W p l e ({ frames := 0, cells := 0, slots := 0, locals := 0 } : Room) s m _ below meth c s.heap [] 0 0 _ (F0 m 0 ls [])
  refine lv_iload_n hx hb dX7_isPart_0 rfl (lv_at hl 0 rfl) ?_
  refine lv_if_eq (tgt := 9) hx hb dX7_isPart_1 (by decide) (fun c1 => ?_) (fun c1 => ?_)
  · have hf := z_p c1 hf
    refine lv_iconst (v := 1) hx hb dX7_isPart_9 rfl ?_
    refine lv_goto (tgt := 14) hx hb dX7_isPart_10 (by decide) ?_
    exact zr_Rz hx hb hr hlocks (z_b_n z_b1) hf dX7_isPart_14
  · have hf := z_n c1 hf
    refine lv_iload_n hx hb dX7_isPart_4 rfl (lv_at hl 0 rfl) ?_
    refine lv_iconst (v := 1) hx hb dX7_isPart_5 rfl ?_
    refine lv_icmp_ne (tgt := 13) hx hb dX7_isPart_6 (by decide) (fun c2 => ?_) (fun c2 => ?_)
    · have hf := z_n c2 hf
      refine lv_iconst (v := 0) hx hb dX7_isPart_13 rfl ?_
      exact zr_Rz hx hb hr hlocks (z_b_n z_b0) hf dX7_isPart_14
    · have hf := z_p c2 hf
      refine lv_iconst (v := 1) hx hb dX7_isPart_9 rfl ?_
      refine lv_goto (tgt := 14) hx hb dX7_isPart_10 (by decide) ?_
      exact zr_Rz hx hb hr hlocks (z_b_n z_b1) hf dX7_isPart_14
theorem b_K_isPart (a1 : Int32) : z_b (K_isPart a1) = true := by
  unfold K_isPart
  (repeat' (first | split | (unfold z_let; dsimp only) | (unfold z_jn; dsimp only))) <;> first | decide +kernel

theorem hd_yX7_isOrder : hdY yX7_isOrder 1 := by decide +kernel
def K_isOrder (a1 : Int32) : Int32 := if a1 < 0 then 0 else (if 3 < a1 then 0 else 1)
set_option maxHeartbeats 4000000 in
set_option maxRecDepth 100000 in
theorem ctX7_isOrder (l : Launch) (D : va_G) (ac cs : Nat → Nat) (a1 : Int32) (res : Int32) (hf : K_isOrder a1 = res) : Met l yX7_isOrder (cWW yX7_isOrder cX7_isOrder 1 (some .boolean)) { frames := 0, cells := 0, slots := 0, locals := 0 } (zR D ac cs [.int a1] ([])) (vp_Si (fun r => r = res)) 0 0 (fun _ => False) := by
  refine Met.ofW (cc := cX7_isOrder) (maxL := 1) (ret := (some .boolean)) (by decide) rfl ?_
  intro p e s m args below meth c s₁ B hml hv
  obtain ⟨rfl, hP, hKX, hC⟩ := hv
  have hx := B.exec
  have hb := B.bytes
  have hr := B.returns
  have hts := atoms_spec (ws := cWW yX7_isOrder cX7_isOrder 1 (some .boolean)) B.pre
  have htw : ∀ w ∈ WW, w.before _ s = true := fun w h => hts w (List.mem_cons_of_mem _ h)
  have hown : s.vm.findClass RX7 = some m.cls := findClass_of_methodNamed B.named
  have hlocks := B.notSynchronized
  clear hts B
  have hS : va_S (fun _ => False) s.heap s.heap [] := va_S.rf
  have hl := lv_entry ([.int a1]) (n := 1) (Nat.le_of_ble_eq_true rfl)
  rw [lg_entry_eq]
  generalize (lg_sl ([.int a1]) ++ List.replicate (1 - (lg_sl ([.int a1])).length) Slot.unset).toArray = ls at hl ⊢
  have hl : lv_has ls 1 [(0, .int a1)] := hl
  unfold K_isOrder at hf
  show W p l e ({ frames := 0, cells := 0, slots := 0, locals := 0 } : Room) s m _ below meth c s.heap [] 0 0 _ (F0 m 0 ls [])
  refine lv_iload_n hx hb dX7_isOrder_0 rfl (lv_at hl 0 rfl) ?_
  refine lv_if_lt (tgt := 13) hx hb dX7_isOrder_1 (by decide) (fun c1 => ?_) (fun c1 => ?_)
  · have hf := z_p c1 hf
    refine lv_iconst (v := 0) hx hb dX7_isOrder_13 rfl ?_
    exact zr_Rz hx hb hr hlocks (z_b_n z_b0) hf dX7_isOrder_14
  · have hf := z_n c1 hf
    refine lv_iload_n hx hb dX7_isOrder_4 rfl (lv_at hl 0 rfl) ?_
    refine lv_iconst (v := 3) hx hb dX7_isOrder_5 rfl ?_
    refine lv_icmp_gt (tgt := 13) hx hb dX7_isOrder_6 (by decide) (fun c2 => ?_) (fun c2 => ?_)
    · have hf := z_p c2 hf
      refine lv_iconst (v := 0) hx hb dX7_isOrder_13 rfl ?_
      exact zr_Rz hx hb hr hlocks (z_b_n z_b0) hf dX7_isOrder_14
    · have hf := z_n c2 hf
      refine lv_iconst (v := 1) hx hb dX7_isOrder_9 rfl ?_
      refine lv_goto (tgt := 14) hx hb dX7_isOrder_10 (by decide) ?_
      exact zr_Rz hx hb hr hlocks (z_b_n z_b1) hf dX7_isOrder_14
theorem b_K_isOrder (a1 : Int32) : z_b (K_isOrder a1) = true := by
  unfold K_isOrder
  (repeat' (first | split | (unfold z_let; dsimp only) | (unfold z_jn; dsimp only))) <;> first | decide +kernel

theorem hd_yX7_isSkill : hdY yX7_isSkill 1 := by decide +kernel
def K_isSkill (a1 : Int32) : Int32 := if a1 < 0 then 0 else (if 6 < a1 then 0 else 1)
set_option maxHeartbeats 4000000 in
set_option maxRecDepth 100000 in
theorem ctX7_isSkill (l : Launch) (D : va_G) (ac cs : Nat → Nat) (a1 : Int32) (res : Int32) (hf : K_isSkill a1 = res) : Met l yX7_isSkill (cWW yX7_isSkill cX7_isSkill 1 (some .boolean)) { frames := 0, cells := 0, slots := 0, locals := 0 } (zR D ac cs [.int a1] ([])) (vp_Si (fun r => r = res)) 0 0 (fun _ => False) := by
  refine Met.ofW (cc := cX7_isSkill) (maxL := 1) (ret := (some .boolean)) (by decide) rfl ?_
  intro p e s m args below meth c s₁ B hml hv
  obtain ⟨rfl, hP, hKX, hC⟩ := hv
  have hx := B.exec
  have hb := B.bytes
  have hr := B.returns
  have hts := atoms_spec (ws := cWW yX7_isSkill cX7_isSkill 1 (some .boolean)) B.pre
  have htw : ∀ w ∈ WW, w.before _ s = true := fun w h => hts w (List.mem_cons_of_mem _ h)
  have hown : s.vm.findClass RX7 = some m.cls := findClass_of_methodNamed B.named
  have hlocks := B.notSynchronized
  clear hts B
  have hS : va_S (fun _ => False) s.heap s.heap [] := va_S.rf
  have hl := lv_entry ([.int a1]) (n := 1) (Nat.le_of_ble_eq_true rfl)
  rw [lg_entry_eq]
  generalize (lg_sl ([.int a1]) ++ List.replicate (1 - (lg_sl ([.int a1])).length) Slot.unset).toArray = ls at hl ⊢
  have hl : lv_has ls 1 [(0, .int a1)] := hl
  unfold K_isSkill at hf
  show W p l e ({ frames := 0, cells := 0, slots := 0, locals := 0 } : Room) s m _ below meth c s.heap [] 0 0 _ (F0 m 0 ls [])
  refine lv_iload_n hx hb dX7_isSkill_0 rfl (lv_at hl 0 rfl) ?_
  refine lv_if_lt (tgt := 14) hx hb dX7_isSkill_1 (by decide) (fun c1 => ?_) (fun c1 => ?_)
  · have hf := z_p c1 hf
    refine lv_iconst (v := 0) hx hb dX7_isSkill_14 rfl ?_
    exact zr_Rz hx hb hr hlocks (z_b_n z_b0) hf dX7_isSkill_15
  · have hf := z_n c1 hf
    refine lv_iload_n hx hb dX7_isSkill_4 rfl (lv_at hl 0 rfl) ?_
    refine lv_bipush (v := 6) hx hb dX7_isSkill_5 rfl ?_
    refine lv_icmp_gt (tgt := 14) hx hb dX7_isSkill_7 (by decide) (fun c2 => ?_) (fun c2 => ?_)
    · have hf := z_p c2 hf
      refine lv_iconst (v := 0) hx hb dX7_isSkill_14 rfl ?_
      exact zr_Rz hx hb hr hlocks (z_b_n z_b0) hf dX7_isSkill_15
    · have hf := z_n c2 hf
      refine lv_iconst (v := 1) hx hb dX7_isSkill_10 rfl ?_
      refine lv_goto (tgt := 15) hx hb dX7_isSkill_11 (by decide) ?_
      exact zr_Rz hx hb hr hlocks (z_b_n z_b1) hf dX7_isSkill_15
theorem b_K_isSkill (a1 : Int32) : z_b (K_isSkill a1) = true := by
  unfold K_isSkill
  (repeat' (first | split | (unfold z_let; dsimp only) | (unfold z_jn; dsimp only))) <;> first | decide +kernel

theorem hd_yX7_sixes : hdY yX7_sixes 1 := by decide +kernel
def K_sixes (a1 : Int32) : Int64 := if a1 < 0 then 1 else (if 11 ≤ a1 then 1 else (sixL.getD a1.toNatClampNeg 0))
set_option maxHeartbeats 4000000 in
set_option maxRecDepth 100000 in
theorem ctX7_sixes (l : Launch) (D : va_G) (ac cs : Nat → Nat) (a1 : Int32) (res : Int64) (hf : K_sixes a1 = res) : Met l yX7_sixes (cWW yX7_sixes cX7_sixes 1 (some .long)) { frames := 0, cells := 0, slots := 0, locals := 0 } (zR D ac cs [.int a1] ([])) (vp_Sl (fun r => r = res)) 0 0 (fun _ => False) := by
  refine Met.ofW (cc := cX7_sixes) (maxL := 1) (ret := (some .long)) (by decide) rfl ?_
  intro p e s m args below meth c s₁ B hml hv
  obtain ⟨rfl, hP, hKX, hC⟩ := hv
  have hx := B.exec
  have hb := B.bytes
  have hr := B.returns
  have hts := atoms_spec (ws := cWW yX7_sixes cX7_sixes 1 (some .long)) B.pre
  have htw : ∀ w ∈ WW, w.before _ s = true := fun w h => hts w (List.mem_cons_of_mem _ h)
  have hown : s.vm.findClass RX7 = some m.cls := findClass_of_methodNamed B.named
  have hlocks := B.notSynchronized
  clear hts B
  have hS : va_S (fun _ => False) s.heap s.heap [] := va_S.rf
  have hl := lv_entry ([.int a1]) (n := 1) (Nat.le_of_ble_eq_true rfl)
  rw [lg_entry_eq]
  generalize (lg_sl ([.int a1]) ++ List.replicate (1 - (lg_sl ([.int a1])).length) Slot.unset).toArray = ls at hl ⊢
  have hl : lv_has ls 1 [(0, .int a1)] := hl
  unfold K_sixes at hf
  show W p l e ({ frames := 0, cells := 0, slots := 0, locals := 0 } : Room) s m _ below meth c s.heap [] 0 0 _ (F0 m 0 ls [])
  refine lv_iload_n hx hb dX7_sixes_0 rfl (lv_at hl 0 rfl) ?_
  refine lv_if_lt (tgt := 20) hx hb dX7_sixes_1 (by decide) (fun c1 => ?_) (fun c1 => ?_)
  · have hf := z_p c1 hf
    refine lv_lconst (v := 1) hx hb dX7_sixes_20 rfl ?_
    exact zr_Rl hx hb hr hlocks hf dX7_sixes_21
  · have hf := z_n c1 hf
    refine lv_iload_n hx hb dX7_sixes_4 rfl (lv_at hl 0 rfl) ?_
    refine va_gets hx hb hC.2.2.1.1 hS hown (htw _ mF_RX7_348) (fun _ h9 => h9) dX7_sixes_5 ?_
    refine va_tlen hx hb hC.2.2.1.2 hS (v := 11) rfl dX7_sixes_8 ?_
    refine lv_icmp_ge (tgt := 20) hx hb dX7_sixes_9 (by decide) (fun c2 => ?_) (fun c2 => ?_)
    · have hf := z_p c2 hf
      refine lv_lconst (v := 1) hx hb dX7_sixes_20 rfl ?_
      exact zr_Rl hx hb hr hlocks hf dX7_sixes_21
    · have hf := z_n c2 hf
      refine va_gets hx hb hC.2.2.1.1 hS hown (htw _ mF_RX7_348) (fun _ h9 => h9) dX7_sixes_12 ?_
      refine lv_iload_n hx hb dX7_sixes_15 rfl (lv_at hl 0 rfl) ?_
      refine va_tl hx hb hC.2.2.1.2 hS (z_in_c rfl (Nat.le_of_ble_eq_true rfl) c1 c2) (v := .long (sixL.getD a1.toNatClampNeg 0)) rfl dX7_sixes_16 ?_
      refine lv_goto (tgt := 21) hx hb dX7_sixes_17 (by decide) ?_
      exact zr_Rl hx hb hr hlocks hf dX7_sixes_21

theorem hd_yX7_rowsOf : hdY yX7_rowsOf 1 := by decide +kernel
def K_rowsOf (a1 : Int32) : Int32 := if a1 < 0 then 0 else (if 6 ≤ a1 then 0 else (facL.getD a1.toNatClampNeg 0))
set_option maxHeartbeats 4000000 in
set_option maxRecDepth 100000 in
theorem ctX7_rowsOf (l : Launch) (D : va_G) (ac cs : Nat → Nat) (a1 : Int32) (res : Int32) (hf : K_rowsOf a1 = res) : Met l yX7_rowsOf (cWW yX7_rowsOf cX7_rowsOf 1 (some .int)) { frames := 0, cells := 0, slots := 0, locals := 0 } (zR D ac cs [.int a1] ([])) (vp_Si (fun r => r = res)) 0 0 (fun _ => False) := by
  refine Met.ofW (cc := cX7_rowsOf) (maxL := 1) (ret := (some .int)) (by decide) rfl ?_
  intro p e s m args below meth c s₁ B hml hv
  obtain ⟨rfl, hP, hKX, hC⟩ := hv
  have hx := B.exec
  have hb := B.bytes
  have hr := B.returns
  have hts := atoms_spec (ws := cWW yX7_rowsOf cX7_rowsOf 1 (some .int)) B.pre
  have htw : ∀ w ∈ WW, w.before _ s = true := fun w h => hts w (List.mem_cons_of_mem _ h)
  have hown : s.vm.findClass RX7 = some m.cls := findClass_of_methodNamed B.named
  have hlocks := B.notSynchronized
  clear hts B
  have hS : va_S (fun _ => False) s.heap s.heap [] := va_S.rf
  have hl := lv_entry ([.int a1]) (n := 1) (Nat.le_of_ble_eq_true rfl)
  rw [lg_entry_eq]
  generalize (lg_sl ([.int a1]) ++ List.replicate (1 - (lg_sl ([.int a1])).length) Slot.unset).toArray = ls at hl ⊢
  have hl : lv_has ls 1 [(0, .int a1)] := hl
  unfold K_rowsOf at hf
  show W p l e ({ frames := 0, cells := 0, slots := 0, locals := 0 } : Room) s m _ below meth c s.heap [] 0 0 _ (F0 m 0 ls [])
  refine lv_iload_n hx hb dX7_rowsOf_0 rfl (lv_at hl 0 rfl) ?_
  refine lv_if_lt (tgt := 20) hx hb dX7_rowsOf_1 (by decide) (fun c1 => ?_) (fun c1 => ?_)
  · have hf := z_p c1 hf
    refine lv_iconst (v := 0) hx hb dX7_rowsOf_20 rfl ?_
    exact zr_Ri hx hb hr hlocks hf dX7_rowsOf_21
  · have hf := z_n c1 hf
    refine lv_iload_n hx hb dX7_rowsOf_4 rfl (lv_at hl 0 rfl) ?_
    refine va_gets hx hb hC.1.1 hS hown (htw _ mF_RX7_352) (fun _ h9 => h9) dX7_rowsOf_5 ?_
    refine va_tlen hx hb hC.1.2 hS (v := 6) rfl dX7_rowsOf_8 ?_
    refine lv_icmp_ge (tgt := 20) hx hb dX7_rowsOf_9 (by decide) (fun c2 => ?_) (fun c2 => ?_)
    · have hf := z_p c2 hf
      refine lv_iconst (v := 0) hx hb dX7_rowsOf_20 rfl ?_
      exact zr_Ri hx hb hr hlocks hf dX7_rowsOf_21
    · have hf := z_n c2 hf
      refine va_gets hx hb hC.1.1 hS hown (htw _ mF_RX7_352) (fun _ h9 => h9) dX7_rowsOf_12 ?_
      refine lv_iload_n hx hb dX7_rowsOf_15 rfl (lv_at hl 0 rfl) ?_
      refine va_ti hx hb hC.1.2 hS (z_in_c rfl (Nat.le_of_ble_eq_true rfl) c1 c2) (v := .int (facL.getD a1.toNatClampNeg 0)) rfl dX7_rowsOf_16 ?_
      refine lv_goto (tgt := 21) hx hb dX7_rowsOf_17 (by decide) ?_
      exact zr_Ri hx hb hr hlocks hf dX7_rowsOf_21

theorem hd_yX7_tens : hdY yX7_tens 1 := by decide +kernel
def K_tens (a1 : Int32) : Int32 := if a1 < 0 then 1 else (if 6 ≤ a1 then 1 else (tenL.getD a1.toNatClampNeg 0))
set_option maxHeartbeats 4000000 in
set_option maxRecDepth 100000 in
theorem ctX7_tens (l : Launch) (D : va_G) (ac cs : Nat → Nat) (a1 : Int32) (res : Int32) (hf : K_tens a1 = res) : Met l yX7_tens (cWW yX7_tens cX7_tens 1 (some .int)) { frames := 0, cells := 0, slots := 0, locals := 0 } (zR D ac cs [.int a1] ([])) (vp_Si (fun r => r = res)) 0 0 (fun _ => False) := by
  refine Met.ofW (cc := cX7_tens) (maxL := 1) (ret := (some .int)) (by decide) rfl ?_
  intro p e s m args below meth c s₁ B hml hv
  obtain ⟨rfl, hP, hKX, hC⟩ := hv
  have hx := B.exec
  have hb := B.bytes
  have hr := B.returns
  have hts := atoms_spec (ws := cWW yX7_tens cX7_tens 1 (some .int)) B.pre
  have htw : ∀ w ∈ WW, w.before _ s = true := fun w h => hts w (List.mem_cons_of_mem _ h)
  have hown : s.vm.findClass RX7 = some m.cls := findClass_of_methodNamed B.named
  have hlocks := B.notSynchronized
  clear hts B
  have hS : va_S (fun _ => False) s.heap s.heap [] := va_S.rf
  have hl := lv_entry ([.int a1]) (n := 1) (Nat.le_of_ble_eq_true rfl)
  rw [lg_entry_eq]
  generalize (lg_sl ([.int a1]) ++ List.replicate (1 - (lg_sl ([.int a1])).length) Slot.unset).toArray = ls at hl ⊢
  have hl : lv_has ls 1 [(0, .int a1)] := hl
  unfold K_tens at hf
  show W p l e ({ frames := 0, cells := 0, slots := 0, locals := 0 } : Room) s m _ below meth c s.heap [] 0 0 _ (F0 m 0 ls [])
  refine lv_iload_n hx hb dX7_tens_0 rfl (lv_at hl 0 rfl) ?_
  refine lv_if_lt (tgt := 20) hx hb dX7_tens_1 (by decide) (fun c1 => ?_) (fun c1 => ?_)
  · have hf := z_p c1 hf
    refine lv_iconst (v := 1) hx hb dX7_tens_20 rfl ?_
    exact zr_Ri hx hb hr hlocks hf dX7_tens_21
  · have hf := z_n c1 hf
    refine lv_iload_n hx hb dX7_tens_4 rfl (lv_at hl 0 rfl) ?_
    refine va_gets hx hb hC.2.1.1 hS hown (htw _ mF_RX7_355) (fun _ h9 => h9) dX7_tens_5 ?_
    refine va_tlen hx hb hC.2.1.2 hS (v := 6) rfl dX7_tens_8 ?_
    refine lv_icmp_ge (tgt := 20) hx hb dX7_tens_9 (by decide) (fun c2 => ?_) (fun c2 => ?_)
    · have hf := z_p c2 hf
      refine lv_iconst (v := 1) hx hb dX7_tens_20 rfl ?_
      exact zr_Ri hx hb hr hlocks hf dX7_tens_21
    · have hf := z_n c2 hf
      refine va_gets hx hb hC.2.1.1 hS hown (htw _ mF_RX7_355) (fun _ h9 => h9) dX7_tens_12 ?_
      refine lv_iload_n hx hb dX7_tens_15 rfl (lv_at hl 0 rfl) ?_
      refine va_ti hx hb hC.2.1.2 hS (z_in_c rfl (Nat.le_of_ble_eq_true rfl) c1 c2) (v := .int (tenL.getD a1.toNatClampNeg 0)) rfl dX7_tens_16 ?_
      refine lv_goto (tgt := 21) hx hb dX7_tens_17 (by decide) ?_
      exact zr_Ri hx hb hr hlocks hf dX7_tens_21

theorem hd_yX7_digitAt : hdY yX7_digitAt 3 := by decide +kernel
def K_digitAt (a1 : Int32) (a2 : Int32) (a3 : Int32) : Int32 := z_let (K_tens ((a3 - 1) - a2)) (fun x1 : Int32 => if x1 ≤ 0 then 0 else (z_rem (a1 / x1) 10))
set_option maxHeartbeats 4000000 in
set_option maxRecDepth 100000 in
theorem ctX7_digitAt (l : Launch) (D : va_G) (ac cs : Nat → Nat) (a1 : Int32) (a2 : Int32) (a3 : Int32) (res : Int32) (hf : K_digitAt a1 a2 a3 = res) : Met l yX7_digitAt (cWW yX7_digitAt cX7_digitAt 4 (some .int)) { frames := 1, cells := 0, slots := 0, locals := 20 } (zR D ac cs [.int a1, .int a2, .int a3] ([])) (vp_Si (fun r => r = res)) 0 0 (fun _ => False) := by
  refine Met.ofW (cc := cX7_digitAt) (maxL := 4) (ret := (some .int)) (by decide) rfl ?_
  intro p e s m args below meth c s₁ B hml hv
  obtain ⟨rfl, hP, hKX, hC⟩ := hv
  have hx := B.exec
  have hb := B.bytes
  have hr := B.returns
  have hts := atoms_spec (ws := cWW yX7_digitAt cX7_digitAt 4 (some .int)) B.pre
  have htw : ∀ w ∈ WW, w.before _ s = true := fun w h => hts w (List.mem_cons_of_mem _ h)
  have hown : s.vm.findClass RX7 = some m.cls := findClass_of_methodNamed B.named
  have hlocks := B.notSynchronized
  clear hts B
  have hS : va_S (fun _ => False) s.heap s.heap [] := va_S.rf
  have hl := lv_entry ([.int a1, .int a2, .int a3]) (n := 4) (Nat.le_of_ble_eq_true rfl)
  rw [lg_entry_eq]
  generalize (lg_sl ([.int a1, .int a2, .int a3]) ++ List.replicate (4 - (lg_sl ([.int a1, .int a2, .int a3])).length) Slot.unset).toArray = ls at hl ⊢
  have hl : lv_has ls 4 [(0, .int a1), (1, .int a2), (2, .int a3)] := hl
  unfold K_digitAt at hf
  show W p l e ({ frames := 1, cells := 0, slots := 0, locals := 20 } : Room) s m _ below meth c s.heap [] 0 0 _ (F0 m 0 ls [])
  refine lv_iload_n hx hb dX7_digitAt_0 rfl (lv_at hl 2 rfl) ?_
  refine lv_iconst (v := 1) hx hb dX7_digitAt_1 rfl ?_
  refine lv_isub hx hb dX7_digitAt_2 ?_
  refine lv_iload_n hx hb dX7_digitAt_3 rfl (lv_at hl 1 rfl) ?_
  refine lv_isub hx hb dX7_digitAt_4 ?_
  refine zc_RSi (As := [.int ((a3 - 1) - a2)]) (rest := []) hx hb hml hown htw (ctX7_tens l D ac cs   ((a3 - 1) - a2)   _ rfl) (g_S mM_RX7_358 mT_yX7_tens mN_RX7 mC_yX7_tens) (hd_yX7_tens) ⟨rfl, rfl⟩ ⟨(Nat.le_of_ble_eq_true rfl), (Nat.le_of_ble_eq_true rfl)⟩ hKX hC hS zP0 rfl hl.1 rfl (Nat.le_of_ble_eq_true rfl) ⟨Nat.zero_le _, Nat.zero_le _⟩ dX7_digitAt_5 ?_
  refine lv_topi (fun x1 hx1 => ?_)
  have hf := z_let_u hx1 hf
  refine lv_istore_n (lv' := [(3, .int x1), (0, .int a1), (1, .int a2), (2, .int a3)]) hx hb dX7_digitAt_8 rfl hl (Nat.le_of_ble_eq_true rfl) rfl (fun ls hl => ?_)
  refine lv_iload_n hx hb dX7_digitAt_9 rfl (lv_at hl 0 rfl) ?_
  refine lv_if_le (tgt := 22) hx hb dX7_digitAt_10 (by decide) (fun c2 => ?_) (fun c2 => ?_)
  · have hf := z_p c2 hf
    refine lv_iconst (v := 0) hx hb dX7_digitAt_22 rfl ?_
    exact zr_Ri hx hb hr hlocks hf dX7_digitAt_23
  · have hf := z_n c2 hf
    refine lv_iload_n hx hb dX7_digitAt_13 rfl (lv_at hl 1 rfl) ?_
    refine lv_iload_n hx hb dX7_digitAt_14 rfl (lv_at hl 0 rfl) ?_
    refine lv_idiv hx hb dX7_digitAt_15 (z_npos c2) ?_
    refine lv_bipush (v := 10) hx hb dX7_digitAt_16 rfl ?_
    refine zv_irem hx hb dX7_digitAt_18 (by decide) ?_
    refine lv_goto (tgt := 23) hx hb dX7_digitAt_19 (by decide) ?_
    exact zr_Ri hx hb hr hlocks hf dX7_digitAt_23

theorem hd_yX7_isRow : hdY yX7_isRow 2 := by decide +kernel
def K_isRow_L18 (a1 : Int32) (a2 : Int32) (kx8 : Int32 → Option (Int32)) : Nat → Int32 → Int32 → Option (Int32)
  | 0, _, _ => none
  | n6 + 1, x3, x4 => if a2 ≤ x4 then (kx8 x3) else (z_let (x3 ||| (1 <<< ((K_digitAt a1 x4 a2) &&& 31))) (fun x11 : Int32 => z_let (x4 + 1) (fun x12 : Int32 => K_isRow_L18 a1 a2 kx8 n6 x11 x12)))
def K_isRow (F : Nat) (a1 : Int32) (a2 : Int32) : Option (Int32) := if a1 < 0 then (some 0) else (if a1 < K_tens a2 then (K_isRow_L18 a1 a2 (fun (x9 : Int32) => if x9 = ((1 <<< (a2 &&& 31)) - 1) then (some 1) else (some 0)) F 0 0) else (some 0))
set_option maxHeartbeats 4000000 in
set_option maxRecDepth 100000 in
theorem ctX7_isRow (l : Launch) (D : va_G) (ac cs : Nat → Nat) (a1 : Int32) (a2 : Int32) (F : Nat) (res : Int32) (hf : K_isRow F a1 a2 = some res) : Met l yX7_isRow (cWW yX7_isRow cX7_isRow 4 (some .boolean)) { frames := 2, cells := 0, slots := 0, locals := 43 } (zR D ac cs [.int a1, .int a2] ([])) (vp_Si (fun r => r = res)) 0 0 (fun _ => False) := by
  refine Met.ofW (cc := cX7_isRow) (maxL := 4) (ret := (some .boolean)) (by decide) rfl ?_
  intro p e s m args below meth c s₁ B hml hv
  obtain ⟨rfl, hP, hKX, hC⟩ := hv
  have hx := B.exec
  have hb := B.bytes
  have hr := B.returns
  have hts := atoms_spec (ws := cWW yX7_isRow cX7_isRow 4 (some .boolean)) B.pre
  have htw : ∀ w ∈ WW, w.before _ s = true := fun w h => hts w (List.mem_cons_of_mem _ h)
  have hown : s.vm.findClass RX7 = some m.cls := findClass_of_methodNamed B.named
  have hlocks := B.notSynchronized
  clear hts B
  have hS : va_S (fun _ => False) s.heap s.heap [] := va_S.rf
  have hl := lv_entry ([.int a1, .int a2]) (n := 4) (Nat.le_of_ble_eq_true rfl)
  rw [lg_entry_eq]
  generalize (lg_sl ([.int a1, .int a2]) ++ List.replicate (4 - (lg_sl ([.int a1, .int a2])).length) Slot.unset).toArray = ls at hl ⊢
  have hl : lv_has ls 4 [(0, .int a1), (1, .int a2)] := hl
  unfold K_isRow at hf
  show W p l e ({ frames := 2, cells := 0, slots := 0, locals := 43 } : Room) s m _ below meth c s.heap [] 0 0 _ (F0 m 0 ls [])
  refine lv_iload_n hx hb dX7_isRow_0 rfl (lv_at hl 0 rfl) ?_
  refine lv_if_lt (tgt := 12) hx hb dX7_isRow_1 (by decide) (fun c1 => ?_) (fun c1 => ?_)
  · have hf := z_p c1 hf
    refine lv_iconst (v := 0) hx hb dX7_isRow_12 rfl ?_
    exact zr_Rz hx hb hr hlocks (z_b_n z_b0) (Option.some.inj hf) dX7_isRow_13
  · have hf := z_n c1 hf
    refine lv_iload_n hx hb dX7_isRow_4 rfl (lv_at hl 0 rfl) ?_
    refine lv_iload_n hx hb dX7_isRow_5 rfl (lv_at hl 1 rfl) ?_
    refine zc_RSi (As := [.int a2]) (rest := [.int a1]) hx hb hml hown htw (ctX7_tens l D ac cs   a2   _ rfl) (g_S mM_RX7_358 mT_yX7_tens mN_RX7 mC_yX7_tens) (hd_yX7_tens) ⟨rfl, rfl⟩ ⟨(Nat.le_of_ble_eq_true rfl), (Nat.le_of_ble_eq_true rfl)⟩ hKX hC hS zP0 rfl hl.1 rfl (Nat.le_of_ble_eq_true rfl) ⟨Nat.zero_le _, Nat.zero_le _⟩ dX7_isRow_6 ?_
    refine lv_icmp_lt (tgt := 14) hx hb dX7_isRow_9 (by decide) (fun c2 => ?_) (fun c2 => ?_)
    · have hf := z_p c2 hf
      refine lv_iconst (v := 0) hx hb dX7_isRow_14 rfl ?_
      refine lv_istore_n (lv' := [(2, .int 0), (0, .int a1), (1, .int a2)]) hx hb dX7_isRow_15 rfl hl (Nat.le_of_ble_eq_true rfl) rfl (fun ls hl => ?_)
      refine lv_iconst (v := 0) hx hb dX7_isRow_16 rfl ?_
      refine lv_istore_n (lv' := [(3, .int 0), (2, .int 0), (0, .int a1), (1, .int a2)]) hx hb dX7_isRow_17 rfl hl (Nat.le_of_ble_eq_true rfl) rfl (fun ls hl => ?_)
      have hL5 : ∀ (kx8 : Int32 → Option (Int32)) (hkx8 : ∀ (x9 : Int32), kx8 x9 = some res → ∀ (ls : Array Slot), lv_has ls 4 [(1, .int a2), (2, .int x9)] → W p l e ({ frames := 2, cells := 0, slots := 0, locals := 43 } : Room) s m (([.int a1, .int a2] : List Value).toArray) below meth c s.heap [] 0 0 (MQ below (vp_Si (fun r => r = res)) ([.int a1, .int a2] : List Value).toArray s 0 0 (fun _ => False)) (F0 m 40 ls [])) (n6 : Nat) (x3 : Int32) (x4 : Int32), K_isRow_L18 a1 a2 kx8 n6 x3 x4 = some res → ∀ (ls : Array Slot), lv_has ls 4 [(0, .int a1), (1, .int a2), (2, .int x3), (3, .int x4)] → W p l e ({ frames := 2, cells := 0, slots := 0, locals := 43 } : Room) s m (([.int a1, .int a2] : List Value).toArray) below meth c s.heap [] 0 0 (MQ below (vp_Si (fun r => r = res)) ([.int a1, .int a2] : List Value).toArray s 0 0 (fun _ => False)) (F0 m 18 ls []) := by
        intro kx8 hkx8 n6
        induction n6 with
        | zero => intro x3 x4 hf; rw [K_isRow_L18] at hf; cases hf
        | succ n6 ih7 =>
          intro x3 x4 hf ls hl
          rw [K_isRow_L18] at hf
          refine lv_iload_n hx hb dX7_isRow_18 rfl (lv_at hl 3 rfl) ?_
          refine lv_iload_n hx hb dX7_isRow_19 rfl (lv_at hl 1 rfl) ?_
          refine lv_icmp_ge (tgt := 40) hx hb dX7_isRow_20 (by decide) (fun c10 => ?_) (fun c10 => ?_)
          · have hf := z_p c10 hf
            exact hkx8 x3 hf ls (lv_sub hl [1, 2] rfl)
          · have hf := z_n c10 hf
            refine lv_iload_n hx hb dX7_isRow_23 rfl (lv_at hl 2 rfl) ?_
            refine lv_iconst (v := 1) hx hb dX7_isRow_24 rfl ?_
            refine lv_iload_n hx hb dX7_isRow_25 rfl (lv_at hl 0 rfl) ?_
            refine lv_iload_n hx hb dX7_isRow_26 rfl (lv_at hl 3 rfl) ?_
            refine lv_iload_n hx hb dX7_isRow_27 rfl (lv_at hl 1 rfl) ?_
            refine zc_RSi (As := [.int a1, .int x4, .int a2]) (rest := [.int 1, .int x3]) hx hb hml hown htw (ctX7_digitAt l D ac cs   a1 x4 a2   _ rfl) (g_S mM_RX7_361 mT_yX7_digitAt mN_RX7 mC_yX7_digitAt) (hd_yX7_digitAt) ⟨rfl, rfl⟩ ⟨(Nat.le_of_ble_eq_true rfl), (Nat.le_of_ble_eq_true rfl)⟩ hKX hC hS zP0 rfl hl.1 rfl (Nat.le_of_ble_eq_true rfl) ⟨Nat.zero_le _, Nat.zero_le _⟩ dX7_isRow_28 ?_
            refine lv_ishl hx hb dX7_isRow_31 ?_
            refine lv_ior hx hb dX7_isRow_32 ?_
            refine lv_topi (fun x11 hx11 => ?_)
            have hf := z_let_u hx11 hf
            refine lv_istore_n (lv' := [(2, .int x11), (0, .int a1), (1, .int a2), (3, .int x4)]) hx hb dX7_isRow_33 rfl hl (Nat.le_of_ble_eq_true rfl) rfl (fun ls hl => ?_)
            obtain ⟨x12, hx12⟩ : ∃ y : Int32, y = (x4 + 1) := ⟨_, rfl⟩
            have hf := z_let_u hx12 hf
            refine lv_iinc (v := x12) (lv' := [(3, .int x12), (2, .int x11), (0, .int a1), (1, .int a2)]) hx hb dX7_isRow_34 hl (k := 3) rfl (by rw [hx12]; rfl) (Nat.le_of_ble_eq_true rfl) rfl (fun ls hl => ?_)
            refine lv_goto (tgt := 18) hx hb dX7_isRow_37 (by decide) ?_
            exact ih7 x11 x12 hf ls (lv_sub hl [2, 3, 1, 0] rfl)
      refine hL5 _ ?_ F 0 0 hf ls (lv_sub hl [2, 3, 1, 0] rfl)
      intro x9 hf ls hl
      refine lv_iload_n hx hb dX7_isRow_40 rfl (lv_at hl 1 rfl) ?_
      refine lv_iconst (v := 1) hx hb dX7_isRow_41 rfl ?_
      refine lv_iload_n hx hb dX7_isRow_42 rfl (lv_at hl 0 rfl) ?_
      refine lv_ishl hx hb dX7_isRow_43 ?_
      refine lv_iconst (v := 1) hx hb dX7_isRow_44 rfl ?_
      refine lv_isub hx hb dX7_isRow_45 ?_
      refine lv_icmp_ne (tgt := 53) hx hb dX7_isRow_46 (by decide) (fun c13 => ?_) (fun c13 => ?_)
      · have hf := z_n c13 hf
        refine lv_iconst (v := 0) hx hb dX7_isRow_53 rfl ?_
        exact zr_Rz hx hb hr hlocks (z_b_n z_b0) (Option.some.inj hf) dX7_isRow_54
      · have hf := z_p c13 hf
        refine lv_iconst (v := 1) hx hb dX7_isRow_49 rfl ?_
        refine lv_goto (tgt := 54) hx hb dX7_isRow_50 (by decide) ?_
        exact zr_Rz hx hb hr hlocks (z_b_n z_b1) (Option.some.inj hf) dX7_isRow_54
    · have hf := z_n c2 hf
      refine lv_iconst (v := 0) hx hb dX7_isRow_12 rfl ?_
      exact zr_Rz hx hb hr hlocks (z_b_n z_b0) (Option.some.inj hf) dX7_isRow_13

theorem hd_yX7_freeDigit : hdY yX7_freeDigit 3 := by decide +kernel
def K_freeDigit_L5 (a1 : Int32) (a3 : Int32) : Nat → Int32 → Int32 → Option (Int32)
  | 0, _, _ => none
  | n4 + 1, x1, x2 => if a3 ≤ x2 then (some 0) else (if ((a1 >>> (x2 &&& 31)) &&& 1) = 0 then (if x1 = 0 then (some x2) else (z_let (x1 + (-1)) (fun x10 : Int32 => z_let (x2 + 1) (fun x11 : Int32 => K_freeDigit_L5 a1 a3 n4 x10 x11)))) else (z_let (x2 + 1) (fun x8 : Int32 => K_freeDigit_L5 a1 a3 n4 x1 x8)))
def K_freeDigit (F : Nat) (a1 : Int32) (a2 : Int32) (a3 : Int32) : Option (Int32) := K_freeDigit_L5 a1 a3 F a2 0
set_option maxHeartbeats 4000000 in
set_option maxRecDepth 100000 in
theorem ctX7_freeDigit (l : Launch) (D : va_G) (ac cs : Nat → Nat) (a1 : Int32) (a2 : Int32) (a3 : Int32) (F : Nat) (res : Int32) (hf : K_freeDigit F a1 a2 a3 = some res) : Met l yX7_freeDigit (cWW yX7_freeDigit cX7_freeDigit 5 (some .int)) { frames := 0, cells := 0, slots := 0, locals := 0 } (zR D ac cs [.int a1, .int a2, .int a3] ([])) (vp_Si (fun r => r = res)) 0 0 (fun _ => False) := by
  refine Met.ofW (cc := cX7_freeDigit) (maxL := 5) (ret := (some .int)) (by decide) rfl ?_
  intro p e s m args below meth c s₁ B hml hv
  obtain ⟨rfl, hP, hKX, hC⟩ := hv
  have hx := B.exec
  have hb := B.bytes
  have hr := B.returns
  have hts := atoms_spec (ws := cWW yX7_freeDigit cX7_freeDigit 5 (some .int)) B.pre
  have htw : ∀ w ∈ WW, w.before _ s = true := fun w h => hts w (List.mem_cons_of_mem _ h)
  have hown : s.vm.findClass RX7 = some m.cls := findClass_of_methodNamed B.named
  have hlocks := B.notSynchronized
  clear hts B
  have hS : va_S (fun _ => False) s.heap s.heap [] := va_S.rf
  have hl := lv_entry ([.int a1, .int a2, .int a3]) (n := 5) (Nat.le_of_ble_eq_true rfl)
  rw [lg_entry_eq]
  generalize (lg_sl ([.int a1, .int a2, .int a3]) ++ List.replicate (5 - (lg_sl ([.int a1, .int a2, .int a3])).length) Slot.unset).toArray = ls at hl ⊢
  have hl : lv_has ls 5 [(0, .int a1), (1, .int a2), (2, .int a3)] := hl
  unfold K_freeDigit at hf
  show W p l e ({ frames := 0, cells := 0, slots := 0, locals := 0 } : Room) s m _ below meth c s.heap [] 0 0 _ (F0 m 0 ls [])
  refine lv_iload_n hx hb dX7_freeDigit_0 rfl (lv_at hl 1 rfl) ?_
  refine lv_istore_n (lv' := [(3, .int a2), (0, .int a1), (1, .int a2), (2, .int a3)]) hx hb dX7_freeDigit_1 rfl hl (Nat.le_of_ble_eq_true rfl) rfl (fun ls hl => ?_)
  refine lv_iconst (v := 0) hx hb dX7_freeDigit_2 rfl ?_
  refine lv_istore (lv' := [(4, .int 0), (3, .int a2), (0, .int a1), (1, .int a2), (2, .int a3)]) hx hb dX7_freeDigit_3 hl (Nat.le_of_ble_eq_true rfl) rfl (fun ls hl => ?_)
  have hL3 : ∀ (n4 : Nat) (x1 : Int32) (x2 : Int32), K_freeDigit_L5 a1 a3 n4 x1 x2 = some res → ∀ (ls : Array Slot), lv_has ls 5 [(0, .int a1), (2, .int a3), (3, .int x1), (4, .int x2)] → W p l e ({ frames := 0, cells := 0, slots := 0, locals := 0 } : Room) s m (([.int a1, .int a2, .int a3] : List Value).toArray) below meth c s.heap [] 0 0 (MQ below (vp_Si (fun r => r = res)) ([.int a1, .int a2, .int a3] : List Value).toArray s 0 0 (fun _ => False)) (F0 m 5 ls []) := by
    intro n4
    induction n4 with
    | zero => intro x1 x2 hf; rw [K_freeDigit_L5] at hf; cases hf
    | succ n4 ih5 =>
      intro x1 x2 hf ls hl
      rw [K_freeDigit_L5] at hf
      refine lv_iload hx hb dX7_freeDigit_5 (lv_at hl 3 rfl) ?_
      refine lv_iload_n hx hb dX7_freeDigit_7 rfl (lv_at hl 1 rfl) ?_
      refine lv_icmp_ge (tgt := 36) hx hb dX7_freeDigit_8 (by decide) (fun c6 => ?_) (fun c6 => ?_)
      · have hf := z_p c6 hf
        refine lv_iconst (v := 0) hx hb dX7_freeDigit_36 rfl ?_
        exact zr_Ri hx hb hr hlocks (Option.some.inj hf) dX7_freeDigit_37
      · have hf := z_n c6 hf
        refine lv_iload_n hx hb dX7_freeDigit_11 rfl (lv_at hl 0 rfl) ?_
        refine lv_iload hx hb dX7_freeDigit_12 (lv_at hl 3 rfl) ?_
        refine lv_ishr hx hb dX7_freeDigit_14 ?_
        refine lv_iconst (v := 1) hx hb dX7_freeDigit_15 rfl ?_
        refine lv_iand hx hb dX7_freeDigit_16 ?_
        refine lv_if_ne (tgt := 30) hx hb dX7_freeDigit_17 (by decide) (fun c7 => ?_) (fun c7 => ?_)
        · have hf := z_n c7 hf
          obtain ⟨x8, hx8⟩ : ∃ y : Int32, y = (x2 + 1) := ⟨_, rfl⟩
          have hf := z_let_u hx8 hf
          refine lv_iinc (v := x8) (lv' := [(4, .int x8), (0, .int a1), (2, .int a3), (3, .int x1)]) hx hb dX7_freeDigit_30 hl (k := 3) rfl (by rw [hx8]; rfl) (Nat.le_of_ble_eq_true rfl) rfl (fun ls hl => ?_)
          refine lv_goto (tgt := 5) hx hb dX7_freeDigit_33 (by decide) ?_
          exact ih5 x1 x8 hf ls (lv_sub hl [1, 2, 3, 0] rfl)
        · have hf := z_p c7 hf
          refine lv_iload_n hx hb dX7_freeDigit_20 rfl (lv_at hl 2 rfl) ?_
          refine lv_if_ne (tgt := 27) hx hb dX7_freeDigit_21 (by decide) (fun c9 => ?_) (fun c9 => ?_)
          · have hf := z_n c9 hf
            obtain ⟨x10, hx10⟩ : ∃ y : Int32, y = (x1 + (-1)) := ⟨_, rfl⟩
            have hf := z_let_u hx10 hf
            refine lv_iinc (v := x10) (lv' := [(3, .int x10), (0, .int a1), (2, .int a3), (4, .int x2)]) hx hb dX7_freeDigit_27 hl (k := 2) rfl (by rw [hx10]; rfl) (Nat.le_of_ble_eq_true rfl) rfl (fun ls hl => ?_)
            obtain ⟨x11, hx11⟩ : ∃ y : Int32, y = (x2 + 1) := ⟨_, rfl⟩
            have hf := z_let_u hx11 hf
            refine lv_iinc (v := x11) (lv' := [(4, .int x11), (3, .int x10), (0, .int a1), (2, .int a3)]) hx hb dX7_freeDigit_30 hl (k := 3) rfl (by rw [hx11]; rfl) (Nat.le_of_ble_eq_true rfl) rfl (fun ls hl => ?_)
            refine lv_goto (tgt := 5) hx hb dX7_freeDigit_33 (by decide) ?_
            exact ih5 x10 x11 hf ls (lv_sub hl [2, 3, 1, 0] rfl)
          · have hf := z_p c9 hf
            refine lv_iload hx hb dX7_freeDigit_24 (lv_at hl 3 rfl) ?_
            exact zr_Ri hx hb hr hlocks (Option.some.inj hf) dX7_freeDigit_26
  refine hL3  F a2 0 hf ls (lv_sub hl [2, 4, 1, 0] rfl)

theorem hd_yX7_rowAt : hdY yX7_rowAt 2 := by decide +kernel
def K_rowAt_L10 (F : Nat) (a2 : Int32) : Nat → Int32 → Int32 → Int32 → Int32 → Option (Int32)
  | 0, _, _, _, _ => none
  | n6 + 1, x1, x2, x3, x4 => if a2 ≤ x4 then (some x2) else (z_let (K_rowsOf ((a2 - 1) - x4)) (fun x9 : Int32 => z_let (if x9 ≤ 0 then 0 else (x3 / x9)) (fun v10 : Int32 => z_let (x3 - (v10 * x9)) (fun x14 : Int32 => z_bd (K_freeDigit F x1 v10 a2) (fun r15 : Int32 => z_let (x1 ||| (1 <<< (r15 &&& 31))) (fun x16 : Int32 => z_let ((10 * x2) + r15) (fun x17 : Int32 => z_let (x4 + 1) (fun x18 : Int32 => K_rowAt_L10 F a2 n6 x16 x17 x14 x18))))))))
def K_rowAt (F : Nat) (a1 : Int32) (a2 : Int32) : Option (Int32) := K_rowAt_L10 F a2 F 0 0 a1 0
set_option maxHeartbeats 4000000 in
set_option maxRecDepth 100000 in
theorem ctX7_rowAt (l : Launch) (D : va_G) (ac cs : Nat → Nat) (a1 : Int32) (a2 : Int32) (F : Nat) (res : Int32) (hf : K_rowAt F a1 a2 = some res) : Met l yX7_rowAt (cWW yX7_rowAt cX7_rowAt 9 (some .int)) { frames := 1, cells := 0, slots := 0, locals := 24 } (zR D ac cs [.int a1, .int a2] ([])) (vp_Si (fun r => r = res)) 0 0 (fun _ => False) := by
  refine Met.ofW (cc := cX7_rowAt) (maxL := 9) (ret := (some .int)) (by decide) rfl ?_
  intro p e s m args below meth c s₁ B hml hv
  obtain ⟨rfl, hP, hKX, hC⟩ := hv
  have hx := B.exec
  have hb := B.bytes
  have hr := B.returns
  have hts := atoms_spec (ws := cWW yX7_rowAt cX7_rowAt 9 (some .int)) B.pre
  have htw : ∀ w ∈ WW, w.before _ s = true := fun w h => hts w (List.mem_cons_of_mem _ h)
  have hown : s.vm.findClass RX7 = some m.cls := findClass_of_methodNamed B.named
  have hlocks := B.notSynchronized
  clear hts B
  have hS : va_S (fun _ => False) s.heap s.heap [] := va_S.rf
  have hl := lv_entry ([.int a1, .int a2]) (n := 9) (Nat.le_of_ble_eq_true rfl)
  rw [lg_entry_eq]
  generalize (lg_sl ([.int a1, .int a2]) ++ List.replicate (9 - (lg_sl ([.int a1, .int a2])).length) Slot.unset).toArray = ls at hl ⊢
  have hl : lv_has ls 9 [(0, .int a1), (1, .int a2)] := hl
  unfold K_rowAt at hf
  show W p l e ({ frames := 1, cells := 0, slots := 0, locals := 24 } : Room) s m _ below meth c s.heap [] 0 0 _ (F0 m 0 ls [])
  refine lv_iconst (v := 0) hx hb dX7_rowAt_0 rfl ?_
  refine lv_istore_n (lv' := [(2, .int 0), (0, .int a1), (1, .int a2)]) hx hb dX7_rowAt_1 rfl hl (Nat.le_of_ble_eq_true rfl) rfl (fun ls hl => ?_)
  refine lv_iconst (v := 0) hx hb dX7_rowAt_2 rfl ?_
  refine lv_istore_n (lv' := [(3, .int 0), (2, .int 0), (0, .int a1), (1, .int a2)]) hx hb dX7_rowAt_3 rfl hl (Nat.le_of_ble_eq_true rfl) rfl (fun ls hl => ?_)
  refine lv_iload_n hx hb dX7_rowAt_4 rfl (lv_at hl 2 rfl) ?_
  refine lv_istore (lv' := [(4, .int a1), (3, .int 0), (2, .int 0), (0, .int a1), (1, .int a2)]) hx hb dX7_rowAt_5 hl (Nat.le_of_ble_eq_true rfl) rfl (fun ls hl => ?_)
  refine lv_iconst (v := 0) hx hb dX7_rowAt_7 rfl ?_
  refine lv_istore (lv' := [(5, .int 0), (4, .int a1), (3, .int 0), (2, .int 0), (0, .int a1), (1, .int a2)]) hx hb dX7_rowAt_8 hl (Nat.le_of_ble_eq_true rfl) rfl (fun ls hl => ?_)
  have hL5 : ∀ (n6 : Nat) (x1 : Int32) (x2 : Int32) (x3 : Int32) (x4 : Int32), K_rowAt_L10 F a2 n6 x1 x2 x3 x4 = some res → ∀ (ls : Array Slot), lv_has ls 9 [(1, .int a2), (2, .int x1), (3, .int x2), (4, .int x3), (5, .int x4)] → W p l e ({ frames := 1, cells := 0, slots := 0, locals := 24 } : Room) s m (([.int a1, .int a2] : List Value).toArray) below meth c s.heap [] 0 0 (MQ below (vp_Si (fun r => r = res)) ([.int a1, .int a2] : List Value).toArray s 0 0 (fun _ => False)) (F0 m 10 ls []) := by
    intro n6
    induction n6 with
    | zero => intro x1 x2 x3 x4 hf; rw [K_rowAt_L10] at hf; cases hf
    | succ n6 ih7 =>
      intro x1 x2 x3 x4 hf ls hl
      rw [K_rowAt_L10] at hf
      refine lv_iload hx hb dX7_rowAt_10 (lv_at hl 4 rfl) ?_
      refine lv_iload_n hx hb dX7_rowAt_12 rfl (lv_at hl 0 rfl) ?_
      refine lv_icmp_ge (tgt := 83) hx hb dX7_rowAt_13 (by decide) (fun c8 => ?_) (fun c8 => ?_)
      · have hf := z_p c8 hf
        refine lv_iload_n hx hb dX7_rowAt_83 rfl (lv_at hl 2 rfl) ?_
        exact zr_Ri hx hb hr hlocks (Option.some.inj hf) dX7_rowAt_84
      · have hf := z_n c8 hf
        refine lv_iload_n hx hb dX7_rowAt_16 rfl (lv_at hl 0 rfl) ?_
        refine lv_iconst (v := 1) hx hb dX7_rowAt_17 rfl ?_
        refine lv_isub hx hb dX7_rowAt_18 ?_
        refine lv_iload hx hb dX7_rowAt_19 (lv_at hl 4 rfl) ?_
        refine lv_isub hx hb dX7_rowAt_21 ?_
        refine zc_RSi (As := [.int ((a2 - 1) - x4)]) (rest := []) hx hb hml hown htw (ctX7_rowsOf l D ac cs   ((a2 - 1) - x4)   _ rfl) (g_S mM_RX7_261 mT_yX7_rowsOf mN_RX7 mC_yX7_rowsOf) (hd_yX7_rowsOf) ⟨rfl, rfl⟩ ⟨(Nat.le_of_ble_eq_true rfl), (Nat.le_of_ble_eq_true rfl)⟩ hKX hC hS zP0 rfl hl.1 rfl (Nat.le_of_ble_eq_true rfl) ⟨Nat.zero_le _, Nat.zero_le _⟩ dX7_rowAt_22 ?_
        refine lv_topi (fun x9 hx9 => ?_)
        have hf := z_let_u hx9 hf
        refine lv_istore (lv' := [(6, .int x9), (1, .int a2), (2, .int x1), (3, .int x2), (4, .int x3), (5, .int x4)]) hx hb dX7_rowAt_25 hl (Nat.le_of_ble_eq_true rfl) rfl (fun ls hl => ?_)
        refine lv_iload hx hb dX7_rowAt_27 (lv_at hl 0 rfl) ?_
        have hj12 : ∀ (v10 : Int32), v10 = (if x9 ≤ 0 then 0 else (x3 / x9)) → ∀ (ls : Array Slot), lv_has ls 9 [(1, .int a2), (2, .int x1), (3, .int x2), (4, .int x3), (5, .int x4), (6, .int x9)] → W p l e ({ frames := 1, cells := 0, slots := 0, locals := 24 } : Room) s m (([.int a1, .int a2] : List Value).toArray) below meth c s.heap [] 0 0 (MQ below (vp_Si (fun r => r = res)) ([.int a1, .int a2] : List Value).toArray s 0 0 (fun _ => False)) (F0 m 41 ls [.int v10]) := by
          intro v10 hv10 ls hl
          have hf := z_let_u hv10 hf
          refine lv_istore (lv' := [(7, .int v10), (1, .int a2), (2, .int x1), (3, .int x2), (4, .int x3), (5, .int x4), (6, .int x9)]) hx hb dX7_rowAt_41 hl (Nat.le_of_ble_eq_true rfl) rfl (fun ls hl => ?_)
          refine lv_iload hx hb dX7_rowAt_43 (lv_at hl 4 rfl) ?_
          refine lv_iload hx hb dX7_rowAt_45 (lv_at hl 0 rfl) ?_
          refine lv_iload hx hb dX7_rowAt_47 (lv_at hl 6 rfl) ?_
          refine lv_imul hx hb dX7_rowAt_49 ?_
          refine lv_isub hx hb dX7_rowAt_50 ?_
          refine lv_topi (fun x14 hx14 => ?_)
          have hf := z_let_u hx14 hf
          refine lv_istore (lv' := [(4, .int x14), (7, .int v10), (1, .int a2), (2, .int x1), (3, .int x2), (5, .int x4), (6, .int x9)]) hx hb dX7_rowAt_51 hl (Nat.le_of_ble_eq_true rfl) rfl (fun ls hl => ?_)
          refine lv_iload_n hx hb dX7_rowAt_53 rfl (lv_at hl 3 rfl) ?_
          refine lv_iload hx hb dX7_rowAt_54 (lv_at hl 1 rfl) ?_
          refine lv_iload_n hx hb dX7_rowAt_56 rfl (lv_at hl 2 rfl) ?_
          obtain ⟨r15, hr15, hf⟩ := z_bd_u hf
          refine zc_RSi (As := [.int x1, .int v10, .int a2]) (rest := []) hx hb hml hown htw (ctX7_freeDigit l D ac cs   x1 v10 a2   F _ hr15) (g_S mM_RX7_365 mT_yX7_freeDigit mN_RX7 mC_yX7_freeDigit) (hd_yX7_freeDigit) ⟨rfl, rfl⟩ ⟨(Nat.le_of_ble_eq_true rfl), (Nat.le_of_ble_eq_true rfl)⟩ hKX hC hS zP0 rfl hl.1 rfl (Nat.le_of_ble_eq_true rfl) ⟨Nat.zero_le _, Nat.zero_le _⟩ dX7_rowAt_57 ?_
          refine lv_istore (lv' := [(8, .int r15), (4, .int x14), (7, .int v10), (1, .int a2), (2, .int x1), (3, .int x2), (5, .int x4), (6, .int x9)]) hx hb dX7_rowAt_60 hl (Nat.le_of_ble_eq_true rfl) rfl (fun ls hl => ?_)
          refine lv_iload_n hx hb dX7_rowAt_62 rfl (lv_at hl 4 rfl) ?_
          refine lv_iconst (v := 1) hx hb dX7_rowAt_63 rfl ?_
          refine lv_iload hx hb dX7_rowAt_64 (lv_at hl 0 rfl) ?_
          refine lv_ishl hx hb dX7_rowAt_66 ?_
          refine lv_ior hx hb dX7_rowAt_67 ?_
          refine lv_topi (fun x16 hx16 => ?_)
          have hf := z_let_u hx16 hf
          refine lv_istore_n (lv' := [(2, .int x16), (8, .int r15), (4, .int x14), (7, .int v10), (1, .int a2), (3, .int x2), (5, .int x4), (6, .int x9)]) hx hb dX7_rowAt_68 rfl hl (Nat.le_of_ble_eq_true rfl) rfl (fun ls hl => ?_)
          refine lv_bipush (v := 10) hx hb dX7_rowAt_69 rfl ?_
          refine lv_iload_n hx hb dX7_rowAt_71 rfl (lv_at hl 5 rfl) ?_
          refine lv_imul hx hb dX7_rowAt_72 ?_
          refine lv_iload hx hb dX7_rowAt_73 (lv_at hl 1 rfl) ?_
          refine lv_iadd hx hb dX7_rowAt_75 ?_
          refine lv_topi (fun x17 hx17 => ?_)
          have hf := z_let_u hx17 hf
          refine lv_istore_n (lv' := [(3, .int x17), (2, .int x16), (8, .int r15), (4, .int x14), (7, .int v10), (1, .int a2), (5, .int x4), (6, .int x9)]) hx hb dX7_rowAt_76 rfl hl (Nat.le_of_ble_eq_true rfl) rfl (fun ls hl => ?_)
          obtain ⟨x18, hx18⟩ : ∃ y : Int32, y = (x4 + 1) := ⟨_, rfl⟩
          have hf := z_let_u hx18 hf
          refine lv_iinc (v := x18) (lv' := [(5, .int x18), (3, .int x17), (2, .int x16), (8, .int r15), (4, .int x14), (7, .int v10), (1, .int a2), (6, .int x9)]) hx hb dX7_rowAt_77 hl (k := 6) rfl (by rw [hx18]; rfl) (Nat.le_of_ble_eq_true rfl) rfl (fun ls hl => ?_)
          refine lv_goto (tgt := 10) hx hb dX7_rowAt_80 (by decide) ?_
          exact ih7 x16 x17 x14 x18 hf ls (lv_sub hl [6, 2, 1, 4, 0] rfl)
        refine lv_if_le (tgt := 40) hx hb dX7_rowAt_29 (by decide) (fun c13 => ?_) (fun c13 => ?_)
        · skip
          refine lv_iconst (v := 0) hx hb dX7_rowAt_40 rfl ?_
          exact hj12 0 (if_pos c13).symm ls (lv_sub hl [1, 2, 3, 4, 5, 0] rfl)
        · skip
          refine lv_iload hx hb dX7_rowAt_32 (lv_at hl 4 rfl) ?_
          refine lv_iload hx hb dX7_rowAt_34 (lv_at hl 0 rfl) ?_
          refine lv_idiv hx hb dX7_rowAt_36 (z_npos c13) ?_
          refine lv_goto (tgt := 41) hx hb dX7_rowAt_37 (by decide) ?_
          exact hj12 (x3 / x9) (if_neg c13).symm ls (lv_sub hl [1, 2, 3, 4, 5, 0] rfl)
  refine hL5  F 0 0 a1 0 hf ls (lv_sub hl [5, 3, 2, 1, 0] rfl)

theorem hd_yX7_swapPlaces : hdY yX7_swapPlaces 4 := by decide +kernel
def K_swapPlaces (a1 : Int32) (a2 : Int32) (a3 : Int32) (a4 : Int32) : Int32 := z_let ((K_digitAt a1 a3 a4) - (K_digitAt a1 a2 a4)) (fun x1 : Int32 => ((a1 + (x1 * (K_tens ((a4 - 1) - a2)))) - (x1 * (K_tens ((a4 - 1) - a3)))))
set_option maxHeartbeats 4000000 in
set_option maxRecDepth 100000 in
theorem ctX7_swapPlaces (l : Launch) (D : va_G) (ac cs : Nat → Nat) (a1 : Int32) (a2 : Int32) (a3 : Int32) (a4 : Int32) (res : Int32) (hf : K_swapPlaces a1 a2 a3 a4 = res) : Met l yX7_swapPlaces (cWW yX7_swapPlaces cX7_swapPlaces 5 (some .int)) { frames := 2, cells := 0, slots := 0, locals := 43 } (zR D ac cs [.int a1, .int a2, .int a3, .int a4] ([])) (vp_Si (fun r => r = res)) 0 0 (fun _ => False) := by
  refine Met.ofW (cc := cX7_swapPlaces) (maxL := 5) (ret := (some .int)) (by decide) rfl ?_
  intro p e s m args below meth c s₁ B hml hv
  obtain ⟨rfl, hP, hKX, hC⟩ := hv
  have hx := B.exec
  have hb := B.bytes
  have hr := B.returns
  have hts := atoms_spec (ws := cWW yX7_swapPlaces cX7_swapPlaces 5 (some .int)) B.pre
  have htw : ∀ w ∈ WW, w.before _ s = true := fun w h => hts w (List.mem_cons_of_mem _ h)
  have hown : s.vm.findClass RX7 = some m.cls := findClass_of_methodNamed B.named
  have hlocks := B.notSynchronized
  clear hts B
  have hS : va_S (fun _ => False) s.heap s.heap [] := va_S.rf
  have hl := lv_entry ([.int a1, .int a2, .int a3, .int a4]) (n := 5) (Nat.le_of_ble_eq_true rfl)
  rw [lg_entry_eq]
  generalize (lg_sl ([.int a1, .int a2, .int a3, .int a4]) ++ List.replicate (5 - (lg_sl ([.int a1, .int a2, .int a3, .int a4])).length) Slot.unset).toArray = ls at hl ⊢
  have hl : lv_has ls 5 [(0, .int a1), (1, .int a2), (2, .int a3), (3, .int a4)] := hl
  unfold K_swapPlaces at hf
  show W p l e ({ frames := 2, cells := 0, slots := 0, locals := 43 } : Room) s m _ below meth c s.heap [] 0 0 _ (F0 m 0 ls [])
  refine lv_iload_n hx hb dX7_swapPlaces_0 rfl (lv_at hl 0 rfl) ?_
  refine lv_iload_n hx hb dX7_swapPlaces_1 rfl (lv_at hl 2 rfl) ?_
  refine lv_iload_n hx hb dX7_swapPlaces_2 rfl (lv_at hl 3 rfl) ?_
  refine zc_RSi (As := [.int a1, .int a3, .int a4]) (rest := []) hx hb hml hown htw (ctX7_digitAt l D ac cs   a1 a3 a4   _ rfl) (g_S mM_RX7_361 mT_yX7_digitAt mN_RX7 mC_yX7_digitAt) (hd_yX7_digitAt) ⟨rfl, rfl⟩ ⟨(Nat.le_of_ble_eq_true rfl), (Nat.le_of_ble_eq_true rfl)⟩ hKX hC hS zP0 rfl hl.1 rfl (Nat.le_of_ble_eq_true rfl) ⟨Nat.zero_le _, Nat.zero_le _⟩ dX7_swapPlaces_3 ?_
  refine lv_iload_n hx hb dX7_swapPlaces_6 rfl (lv_at hl 0 rfl) ?_
  refine lv_iload_n hx hb dX7_swapPlaces_7 rfl (lv_at hl 1 rfl) ?_
  refine lv_iload_n hx hb dX7_swapPlaces_8 rfl (lv_at hl 3 rfl) ?_
  refine zc_RSi (As := [.int a1, .int a2, .int a4]) (rest := [.int (K_digitAt a1 a3 a4)]) hx hb hml hown htw (ctX7_digitAt l D ac cs   a1 a2 a4   _ rfl) (g_S mM_RX7_361 mT_yX7_digitAt mN_RX7 mC_yX7_digitAt) (hd_yX7_digitAt) ⟨rfl, rfl⟩ ⟨(Nat.le_of_ble_eq_true rfl), (Nat.le_of_ble_eq_true rfl)⟩ hKX hC hS zP0 rfl hl.1 rfl (Nat.le_of_ble_eq_true rfl) ⟨Nat.zero_le _, Nat.zero_le _⟩ dX7_swapPlaces_9 ?_
  refine lv_isub hx hb dX7_swapPlaces_12 ?_
  refine lv_topi (fun x1 hx1 => ?_)
  have hf := z_let_u hx1 hf
  refine lv_istore (lv' := [(4, .int x1), (0, .int a1), (1, .int a2), (2, .int a3), (3, .int a4)]) hx hb dX7_swapPlaces_13 hl (Nat.le_of_ble_eq_true rfl) rfl (fun ls hl => ?_)
  refine lv_iload_n hx hb dX7_swapPlaces_15 rfl (lv_at hl 1 rfl) ?_
  refine lv_iload hx hb dX7_swapPlaces_16 (lv_at hl 0 rfl) ?_
  refine lv_iload_n hx hb dX7_swapPlaces_18 rfl (lv_at hl 4 rfl) ?_
  refine lv_iconst (v := 1) hx hb dX7_swapPlaces_19 rfl ?_
  refine lv_isub hx hb dX7_swapPlaces_20 ?_
  refine lv_iload_n hx hb dX7_swapPlaces_21 rfl (lv_at hl 2 rfl) ?_
  refine lv_isub hx hb dX7_swapPlaces_22 ?_
  refine zc_RSi (As := [.int ((a4 - 1) - a2)]) (rest := [.int x1, .int a1]) hx hb hml hown htw (ctX7_tens l D ac cs   ((a4 - 1) - a2)   _ rfl) (g_S mM_RX7_358 mT_yX7_tens mN_RX7 mC_yX7_tens) (hd_yX7_tens) ⟨rfl, rfl⟩ ⟨(Nat.le_of_ble_eq_true rfl), (Nat.le_of_ble_eq_true rfl)⟩ hKX hC hS zP0 rfl hl.1 rfl (Nat.le_of_ble_eq_true rfl) ⟨Nat.zero_le _, Nat.zero_le _⟩ dX7_swapPlaces_23 ?_
  refine lv_imul hx hb dX7_swapPlaces_26 ?_
  refine lv_iadd hx hb dX7_swapPlaces_27 ?_
  refine lv_iload hx hb dX7_swapPlaces_28 (lv_at hl 0 rfl) ?_
  refine lv_iload_n hx hb dX7_swapPlaces_30 rfl (lv_at hl 4 rfl) ?_
  refine lv_iconst (v := 1) hx hb dX7_swapPlaces_31 rfl ?_
  refine lv_isub hx hb dX7_swapPlaces_32 ?_
  refine lv_iload_n hx hb dX7_swapPlaces_33 rfl (lv_at hl 3 rfl) ?_
  refine lv_isub hx hb dX7_swapPlaces_34 ?_
  refine zc_RSi (As := [.int ((a4 - 1) - a3)]) (rest := [.int x1, .int (a1 + (x1 * (K_tens ((a4 - 1) - a2))))]) hx hb hml hown htw (ctX7_tens l D ac cs   ((a4 - 1) - a3)   _ rfl) (g_S mM_RX7_358 mT_yX7_tens mN_RX7 mC_yX7_tens) (hd_yX7_tens) ⟨rfl, rfl⟩ ⟨(Nat.le_of_ble_eq_true rfl), (Nat.le_of_ble_eq_true rfl)⟩ hKX hC hS zP0 rfl hl.1 rfl (Nat.le_of_ble_eq_true rfl) ⟨Nat.zero_le _, Nat.zero_le _⟩ dX7_swapPlaces_35 ?_
  refine lv_imul hx hb dX7_swapPlaces_38 ?_
  refine lv_isub hx hb dX7_swapPlaces_39 ?_
  exact zr_Ri hx hb hr hlocks hf dX7_swapPlaces_40

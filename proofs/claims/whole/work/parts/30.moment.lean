theorem hd_yX8_thrown : hdY yX8_thrown 0 := by decide +kernel
def M_thrown (th : Th) : Int32 := th
set_option maxHeartbeats 4000000 in
set_option maxRecDepth 100000 in
theorem ctX8_thrown (l : Launch) (D : va_G) (ac cs : Nat → Nat) (q : Nat → Nat) (th : Th) (row : MRow) (un : Un) (kp : Kp) (mt : Mt) (ps : Ps) (bx : Bx) (mo : Mo) (su : Su) (wy : Wy) (wa : Wa) (od : Od) (py : Py) (ju : Ju) (pl : Pl) (rs : Rs) (res : Int32) (hf : M_thrown th = res) : Met l yX8_thrown (cWW yX8_thrown cX8_thrown 1 (some .int)) { frames := 0, cells := 0, slots := 0, locals := 0 } (zR D ac cs [.ref (q 0)] (moW ac q th row un kp mt ps bx mo su wy wa od py ju pl rs)) (vp_Si (fun r => r = res)) 0 0 (fun _ => False) := by
  refine Met.ofW (cc := cX8_thrown) (maxL := 1) (ret := (some .int)) (by decide) rfl ?_
  intro p e s m args below meth c s₁ B hml hv
  obtain ⟨rfl, hP, hKX, hC⟩ := hv
  have hx := B.exec
  have hb := B.bytes
  have hr := B.returns
  have hts := atoms_spec (ws := cWW yX8_thrown cX8_thrown 1 (some .int)) B.pre
  have htw : ∀ w ∈ WW, w.before _ s = true := fun w h => hts w (List.mem_cons_of_mem _ h)
  have hown : s.vm.findClass RX8 = some m.cls := findClass_of_methodNamed B.named
  have hlocks := B.notSynchronized
  clear hts B
  have hS : va_S (fun _ => False) s.heap s.heap [] := va_S.rf
  have hl := lv_entry ([.ref (q 0)]) (n := 1) (Nat.le_of_ble_eq_true rfl)
  rw [lg_entry_eq]
  generalize (lg_sl ([.ref (q 0)]) ++ List.replicate (1 - (lg_sl ([.ref (q 0)])).length) Slot.unset).toArray = ls at hl ⊢
  have hl : lv_has ls 1 [(0, .ref (q 0))] := hl
  unfold M_thrown at hf
  show W p l e ({ frames := 0, cells := 0, slots := 0, locals := 0 } : Room) s m _ below meth c s.heap [] 0 0 _ (F0 m 0 ls [])
  refine lv_aload_n hx hb dX8_thrown_0 rfl (lv_at hl 0 rfl) ?_
  refine va_get (D := D) (ci := 8) (v := .int th) (C := RX8) (T := TX8) (N := 41) hx hb htw WW_wsX80 hown hKX.1 hP 0 rfl rfl 0 (Nat.le_of_ble_eq_true rfl) (htw _ mF_RX8_75) (fun _ h9 => h9) rfl dX8_thrown_1 ?_
  exact zr_Ri hx hb hr hlocks hf dX8_thrown_4

theorem hd_yX8_in : hdY yX8_in 3 := by decide +kernel
def M_in (a1 : Int64) (a2 : Int64) (a3 : Int64) : Int32 := if (lg_cmp a1 a2) < 0 then 0 else (if 0 < (lg_cmp a1 a3) then 0 else 1)
set_option maxHeartbeats 4000000 in
set_option maxRecDepth 100000 in
theorem ctX8_in (l : Launch) (D : va_G) (ac cs : Nat → Nat) (a1 : Int64) (a2 : Int64) (a3 : Int64) (res : Int32) (hf : M_in a1 a2 a3 = res) : Met l yX8_in (cWW yX8_in cX8_in 6 (some .boolean)) { frames := 0, cells := 0, slots := 0, locals := 0 } (zR D ac cs [.long a1, .long a2, .long a3] ([])) (vp_Si (fun r => r = res)) 0 0 (fun _ => False) := by
  refine Met.ofW (cc := cX8_in) (maxL := 6) (ret := (some .boolean)) (by decide) rfl ?_
  intro p e s m args below meth c s₁ B hml hv
  obtain ⟨rfl, hP, hKX, hC⟩ := hv
  have hx := B.exec
  have hb := B.bytes
  have hr := B.returns
  have hts := atoms_spec (ws := cWW yX8_in cX8_in 6 (some .boolean)) B.pre
  have htw : ∀ w ∈ WW, w.before _ s = true := fun w h => hts w (List.mem_cons_of_mem _ h)
  have hown : s.vm.findClass RX8 = some m.cls := findClass_of_methodNamed B.named
  have hlocks := B.notSynchronized
  clear hts B
  have hS : va_S (fun _ => False) s.heap s.heap [] := va_S.rf
  have hl := lv_entry ([.long a1, .long a2, .long a3]) (n := 6) (Nat.le_of_ble_eq_true rfl)
  rw [lg_entry_eq]
  generalize (lg_sl ([.long a1, .long a2, .long a3]) ++ List.replicate (6 - (lg_sl ([.long a1, .long a2, .long a3])).length) Slot.unset).toArray = ls at hl ⊢
  have hl : lv_has ls 6 [(0, .long a1), (2, .long a2), (4, .long a3)] := hl
  unfold M_in at hf
  show W p l e ({ frames := 0, cells := 0, slots := 0, locals := 0 } : Room) s m _ below meth c s.heap [] 0 0 _ (F0 m 0 ls [])
  refine lv_lload_n hx hb dX8_in_0 rfl (lv_at hl 0 rfl) ?_
  refine lv_lload_n hx hb dX8_in_1 rfl (lv_at hl 1 rfl) ?_
  refine W.lcmp hx hb dX8_in_2 ?_
  refine lv_if_lt (tgt := 17) hx hb dX8_in_3 (by decide) (fun c1 => ?_) (fun c1 => ?_)
  · have hf := z_p c1 hf
    refine lv_iconst (v := 0) hx hb dX8_in_17 rfl ?_
    exact zr_Rz hx hb hr hlocks (z_b_n z_b0) hf dX8_in_18
  · have hf := z_n c1 hf
    refine lv_lload_n hx hb dX8_in_6 rfl (lv_at hl 0 rfl) ?_
    refine lv_lload hx hb dX8_in_7 (lv_at hl 2 rfl) ?_
    refine W.lcmp hx hb dX8_in_9 ?_
    refine lv_if_gt (tgt := 17) hx hb dX8_in_10 (by decide) (fun c2 => ?_) (fun c2 => ?_)
    · have hf := z_p c2 hf
      refine lv_iconst (v := 0) hx hb dX8_in_17 rfl ?_
      exact zr_Rz hx hb hr hlocks (z_b_n z_b0) hf dX8_in_18
    · have hf := z_n c2 hf
      refine lv_iconst (v := 1) hx hb dX8_in_13 rfl ?_
      refine lv_goto (tgt := 18) hx hb dX8_in_14 (by decide) ?_
      exact zr_Rz hx hb hr hlocks (z_b_n z_b1) hf dX8_in_18
theorem b_M_in (a1 : Int64) (a2 : Int64) (a3 : Int64) : z_b (M_in a1 a2 a3) = true := by
  unfold M_in
  (repeat' (first | split | (unfold z_let; dsimp only) | (unfold z_jn; dsimp only))) <;> first | decide +kernel

theorem hd_yX8_n : hdY yX8_n 0 := by decide +kernel
def M_n (row : MRow) : Int32 := (row 0)
set_option maxHeartbeats 4000000 in
set_option maxRecDepth 100000 in
theorem ctX8_n (l : Launch) (D : va_G) (ac cs : Nat → Nat) (q : Nat → Nat) (th : Th) (row : MRow) (un : Un) (kp : Kp) (mt : Mt) (ps : Ps) (bx : Bx) (mo : Mo) (su : Su) (wy : Wy) (wa : Wa) (od : Od) (py : Py) (ju : Ju) (pl : Pl) (rs : Rs) (res : Int32) (hf : M_n row = res) : Met l yX8_n (cWW yX8_n cX8_n 1 (some .int)) { frames := 0, cells := 0, slots := 0, locals := 0 } (zR D ac cs [.ref (q 0)] (moW ac q th row un kp mt ps bx mo su wy wa od py ju pl rs)) (vp_Si (fun r => r = res)) 0 0 (fun _ => False) := by
  refine Met.ofW (cc := cX8_n) (maxL := 1) (ret := (some .int)) (by decide) rfl ?_
  intro p e s m args below meth c s₁ B hml hv
  obtain ⟨rfl, hP, hKX, hC⟩ := hv
  have hx := B.exec
  have hb := B.bytes
  have hr := B.returns
  have hts := atoms_spec (ws := cWW yX8_n cX8_n 1 (some .int)) B.pre
  have htw : ∀ w ∈ WW, w.before _ s = true := fun w h => hts w (List.mem_cons_of_mem _ h)
  have hown : s.vm.findClass RX8 = some m.cls := findClass_of_methodNamed B.named
  have hlocks := B.notSynchronized
  clear hts B
  have hS : va_S (fun _ => False) s.heap s.heap [] := va_S.rf
  have hl := lv_entry ([.ref (q 0)]) (n := 1) (Nat.le_of_ble_eq_true rfl)
  rw [lg_entry_eq]
  generalize (lg_sl ([.ref (q 0)]) ++ List.replicate (1 - (lg_sl ([.ref (q 0)])).length) Slot.unset).toArray = ls at hl ⊢
  have hl : lv_has ls 1 [(0, .ref (q 0))] := hl
  unfold M_n at hf
  show W p l e ({ frames := 0, cells := 0, slots := 0, locals := 0 } : Room) s m _ below meth c s.heap [] 0 0 _ (F0 m 0 ls [])
  refine lv_aload_n hx hb dX8_n_0 rfl (lv_at hl 0 rfl) ?_
  refine va_get (D := D) (ci := 8) (v := .ref (q 1)) (C := RX8) (T := TX8) (N := 41) hx hb htw WW_wsX80 hown hKX.1 hP 0 rfl rfl 1 (Nat.le_of_ble_eq_true rfl) (htw _ mF_RX8_9) (fun _ h9 => h9) rfl dX8_n_1 ?_
  refine lv_iconst (v := 0) hx hb dX8_n_4 rfl ?_
  refine zv_iald_k hx hb hKX.1 hP 1 0 rfl rfl 0 rfl (z_in_u (by decide +kernel)) dX8_n_5 ?_
  exact zr_Ri hx hb hr hlocks hf dX8_n_6

theorem hd_yX8_isTold : hdY yX8_isTold 0 := by decide +kernel
def M_isTold (row : MRow) : Int32 := if (row 0) ≤ 0 then 0 else 1
set_option maxHeartbeats 4000000 in
set_option maxRecDepth 100000 in
theorem ctX8_isTold (l : Launch) (D : va_G) (ac cs : Nat → Nat) (q : Nat → Nat) (th : Th) (row : MRow) (un : Un) (kp : Kp) (mt : Mt) (ps : Ps) (bx : Bx) (mo : Mo) (su : Su) (wy : Wy) (wa : Wa) (od : Od) (py : Py) (ju : Ju) (pl : Pl) (rs : Rs) (res : Int32) (hf : M_isTold row = res) : Met l yX8_isTold (cWW yX8_isTold cX8_isTold 1 (some .boolean)) { frames := 0, cells := 0, slots := 0, locals := 0 } (zR D ac cs [.ref (q 0)] (moW ac q th row un kp mt ps bx mo su wy wa od py ju pl rs)) (vp_Si (fun r => r = res)) 0 0 (fun _ => False) := by
  refine Met.ofW (cc := cX8_isTold) (maxL := 1) (ret := (some .boolean)) (by decide) rfl ?_
  intro p e s m args below meth c s₁ B hml hv
  obtain ⟨rfl, hP, hKX, hC⟩ := hv
  have hx := B.exec
  have hb := B.bytes
  have hr := B.returns
  have hts := atoms_spec (ws := cWW yX8_isTold cX8_isTold 1 (some .boolean)) B.pre
  have htw : ∀ w ∈ WW, w.before _ s = true := fun w h => hts w (List.mem_cons_of_mem _ h)
  have hown : s.vm.findClass RX8 = some m.cls := findClass_of_methodNamed B.named
  have hlocks := B.notSynchronized
  clear hts B
  have hS : va_S (fun _ => False) s.heap s.heap [] := va_S.rf
  have hl := lv_entry ([.ref (q 0)]) (n := 1) (Nat.le_of_ble_eq_true rfl)
  rw [lg_entry_eq]
  generalize (lg_sl ([.ref (q 0)]) ++ List.replicate (1 - (lg_sl ([.ref (q 0)])).length) Slot.unset).toArray = ls at hl ⊢
  have hl : lv_has ls 1 [(0, .ref (q 0))] := hl
  unfold M_isTold at hf
  show W p l e ({ frames := 0, cells := 0, slots := 0, locals := 0 } : Room) s m _ below meth c s.heap [] 0 0 _ (F0 m 0 ls [])
  refine lv_aload_n hx hb dX8_isTold_0 rfl (lv_at hl 0 rfl) ?_
  refine va_get (D := D) (ci := 8) (v := .ref (q 1)) (C := RX8) (T := TX8) (N := 41) hx hb htw WW_wsX80 hown hKX.1 hP 0 rfl rfl 1 (Nat.le_of_ble_eq_true rfl) (htw _ mF_RX8_9) (fun _ h9 => h9) rfl dX8_isTold_1 ?_
  refine lv_iconst (v := 0) hx hb dX8_isTold_4 rfl ?_
  refine zv_iald_k hx hb hKX.1 hP 1 0 rfl rfl 0 rfl (z_in_u (by decide +kernel)) dX8_isTold_5 ?_
  refine lv_if_le (tgt := 13) hx hb dX8_isTold_6 (by decide) (fun c1 => ?_) (fun c1 => ?_)
  · have hf := z_p c1 hf
    refine lv_iconst (v := 0) hx hb dX8_isTold_13 rfl ?_
    exact zr_Rz hx hb hr hlocks (z_b_n z_b0) hf dX8_isTold_14
  · have hf := z_n c1 hf
    refine lv_iconst (v := 1) hx hb dX8_isTold_9 rfl ?_
    refine lv_goto (tgt := 14) hx hb dX8_isTold_10 (by decide) ?_
    exact zr_Rz hx hb hr hlocks (z_b_n z_b1) hf dX8_isTold_14
theorem b_M_isTold (row : MRow) : z_b (M_isTold row) = true := by
  unfold M_isTold
  (repeat' (first | split | (unfold z_let; dsimp only) | (unfold z_jn; dsimp only))) <;> first | decide +kernel

theorem hd_yX8_isSide : hdY yX8_isSide 1 := by decide +kernel
def M_isSide (a1 : Int32) : Int32 := M_in a1.toInt64 0 1
set_option maxHeartbeats 4000000 in
set_option maxRecDepth 100000 in
theorem ctX8_isSide (l : Launch) (D : va_G) (ac cs : Nat → Nat) (a1 : Int32) (res : Int32) (hf : M_isSide a1 = res) : Met l yX8_isSide (cWW yX8_isSide cX8_isSide 1 (some .boolean)) { frames := 1, cells := 0, slots := 0, locals := 25 } (zR D ac cs [.int a1] ([])) (vp_Si (fun r => r = res)) 0 0 (fun _ => False) := by
  refine Met.ofW (cc := cX8_isSide) (maxL := 1) (ret := (some .boolean)) (by decide) rfl ?_
  intro p e s m args below meth c s₁ B hml hv
  obtain ⟨rfl, hP, hKX, hC⟩ := hv
  have hx := B.exec
  have hb := B.bytes
  have hr := B.returns
  have hts := atoms_spec (ws := cWW yX8_isSide cX8_isSide 1 (some .boolean)) B.pre
  have htw : ∀ w ∈ WW, w.before _ s = true := fun w h => hts w (List.mem_cons_of_mem _ h)
  have hown : s.vm.findClass RX8 = some m.cls := findClass_of_methodNamed B.named
  have hlocks := B.notSynchronized
  clear hts B
  have hS : va_S (fun _ => False) s.heap s.heap [] := va_S.rf
  have hl := lv_entry ([.int a1]) (n := 1) (Nat.le_of_ble_eq_true rfl)
  rw [lg_entry_eq]
  generalize (lg_sl ([.int a1]) ++ List.replicate (1 - (lg_sl ([.int a1])).length) Slot.unset).toArray = ls at hl ⊢
  have hl : lv_has ls 1 [(0, .int a1)] := hl
  unfold M_isSide at hf
  show W p l e ({ frames := 1, cells := 0, slots := 0, locals := 25 } : Room) s m _ below meth c s.heap [] 0 0 _ (F0 m 0 ls [])
  refine lv_iload_n hx hb dX8_isSide_0 rfl (lv_at hl 0 rfl) ?_
  refine lv_i2l hx hb dX8_isSide_1 rfl ?_
  refine lv_lconst (v := 0) hx hb dX8_isSide_2 rfl ?_
  refine lv_lconst (v := 1) hx hb dX8_isSide_3 rfl ?_
  refine zc_RSi (As := [.long a1.toInt64, .long 0, .long 1]) (rest := []) hx hb hml hown htw (ctX8_in l D ac cs   a1.toInt64 0 1   _ rfl) (g_S mM_RX8_79 mT_yX8_in mN_RX8 mC_yX8_in) (hd_yX8_in) ⟨rfl, rfl⟩ ⟨(Nat.le_of_ble_eq_true rfl), (Nat.le_of_ble_eq_true rfl)⟩ hKX hC hS zP0 rfl hl.1 rfl (Nat.le_of_ble_eq_true rfl) ⟨Nat.zero_le _, Nat.zero_le _⟩ dX8_isSide_4 ?_
  exact zr_Rz hx hb hr hlocks (z_b_n (b_M_in a1.toInt64 0 1)) hf dX8_isSide_7
theorem b_M_isSide (a1 : Int32) : z_b (M_isSide a1) = true := by
  unfold M_isSide
  (repeat' (first | split | (unfold z_let; dsimp only) | (unfold z_jn; dsimp only))) <;> first | decide +kernel | apply b_M_in

theorem hd_yX8_isThere : hdY yX8_isThere 1 := by decide +kernel
def M_isThere (row : MRow) (a1 : Int32) : Int32 := if M_isTold row = 0 then 0 else (if M_isSide a1 = 0 then 0 else 1)
set_option maxHeartbeats 4000000 in
set_option maxRecDepth 100000 in
theorem ctX8_isThere (l : Launch) (D : va_G) (ac cs : Nat → Nat) (q : Nat → Nat) (th : Th) (row : MRow) (un : Un) (kp : Kp) (mt : Mt) (ps : Ps) (bx : Bx) (mo : Mo) (su : Su) (wy : Wy) (wa : Wa) (od : Od) (py : Py) (ju : Ju) (pl : Pl) (rs : Rs) (a1 : Int32) (res : Int32) (hf : M_isThere row a1 = res) : Met l yX8_isThere (cWW yX8_isThere cX8_isThere 2 (some .boolean)) { frames := 2, cells := 0, slots := 0, locals := 45 } (zR D ac cs [.ref (q 0), .int a1] (moW ac q th row un kp mt ps bx mo su wy wa od py ju pl rs)) (vp_Si (fun r => r = res)) 0 0 (fun _ => False) := by
  refine Met.ofW (cc := cX8_isThere) (maxL := 2) (ret := (some .boolean)) (by decide) rfl ?_
  intro p e s m args below meth c s₁ B hml hv
  obtain ⟨rfl, hP, hKX, hC⟩ := hv
  have hx := B.exec
  have hb := B.bytes
  have hr := B.returns
  have hts := atoms_spec (ws := cWW yX8_isThere cX8_isThere 2 (some .boolean)) B.pre
  have htw : ∀ w ∈ WW, w.before _ s = true := fun w h => hts w (List.mem_cons_of_mem _ h)
  have hown : s.vm.findClass RX8 = some m.cls := findClass_of_methodNamed B.named
  have hlocks := B.notSynchronized
  clear hts B
  have hS : va_S (fun _ => False) s.heap s.heap [] := va_S.rf
  have hl := lv_entry ([.ref (q 0), .int a1]) (n := 2) (Nat.le_of_ble_eq_true rfl)
  rw [lg_entry_eq]
  generalize (lg_sl ([.ref (q 0), .int a1]) ++ List.replicate (2 - (lg_sl ([.ref (q 0), .int a1])).length) Slot.unset).toArray = ls at hl ⊢
  have hl : lv_has ls 2 [(0, .ref (q 0)), (1, .int a1)] := hl
  unfold M_isThere at hf
  show W p l e ({ frames := 2, cells := 0, slots := 0, locals := 45 } : Room) s m _ below meth c s.heap [] 0 0 _ (F0 m 0 ls [])
  refine lv_aload_n hx hb dX8_isThere_0 rfl (lv_at hl 0 rfl) ?_
  refine zc_RVi (As := []) (rest := []) hx hb hml hown htw (ctX8_isTold l D ac cs q th row un kp mt ps bx mo su wy wa od py ju pl rs    _ rfl) (g_V mM_RX8_83 mI_yX8_isTold mS_RX8_yX8_isTold_yX8_isTold mN_RX8 mC_yX8_isTold) rfl (hd_yX8_isTold) ⟨rfl, rfl⟩ ⟨(Nat.le_of_ble_eq_true rfl), (Nat.le_of_ble_eq_true rfl)⟩ hKX hC hS hP 8 rfl rfl rfl hl.1 rfl (Nat.le_of_ble_eq_true rfl) ⟨Nat.zero_le _, Nat.zero_le _⟩ dX8_isThere_1 ?_
  refine lv_if_eq (tgt := 18) hx hb dX8_isThere_4 (by decide) (fun c1 => ?_) (fun c1 => ?_)
  · have hf := z_p c1 hf
    refine lv_iconst (v := 0) hx hb dX8_isThere_18 rfl ?_
    exact zr_Rz hx hb hr hlocks (z_b_n z_b0) hf dX8_isThere_19
  · have hf := z_n c1 hf
    refine lv_iload_n hx hb dX8_isThere_7 rfl (lv_at hl 1 rfl) ?_
    refine zc_RSi (As := [.int a1]) (rest := []) hx hb hml hown htw (ctX8_isSide l D ac cs   a1   _ rfl) (g_S mM_RX8_87 mT_yX8_isSide mN_RX8 mC_yX8_isSide) (hd_yX8_isSide) ⟨rfl, rfl⟩ ⟨(Nat.le_of_ble_eq_true rfl), (Nat.le_of_ble_eq_true rfl)⟩ hKX hC hS zP0 rfl hl.1 rfl (Nat.le_of_ble_eq_true rfl) ⟨Nat.zero_le _, Nat.zero_le _⟩ dX8_isThere_8 ?_
    refine lv_if_eq (tgt := 18) hx hb dX8_isThere_11 (by decide) (fun c2 => ?_) (fun c2 => ?_)
    · have hf := z_p c2 hf
      refine lv_iconst (v := 0) hx hb dX8_isThere_18 rfl ?_
      exact zr_Rz hx hb hr hlocks (z_b_n z_b0) hf dX8_isThere_19
    · have hf := z_n c2 hf
      refine lv_iconst (v := 1) hx hb dX8_isThere_14 rfl ?_
      refine lv_goto (tgt := 19) hx hb dX8_isThere_15 (by decide) ?_
      exact zr_Rz hx hb hr hlocks (z_b_n z_b1) hf dX8_isThere_19
theorem b_M_isThere (row : MRow) (a1 : Int32) : z_b (M_isThere row a1) = true := by
  unfold M_isThere
  (repeat' (first | split | (unfold z_let; dsimp only) | (unfold z_jn; dsimp only))) <;> first | decide +kernel | apply b_M_isSide | apply b_M_isTold

theorem hd_yX8_remember : hdY yX8_remember 0 := by decide +kernel
def M_remember_L55 (row : MRow) (kx9 : Un → Option (Un)) : Nat → Int32 → Un → Option (Un)
  | 0, _, _ => none
  | n7 + 1, x4, un5 => if 78 ≤ x4 then (kx9 un5) else (z_gd (z_in x4 78) (z_let (row x4.toNatClampNeg) (fun x13 : Int32 => z_gd (z_in ((78 * (un_nUndo un5)) + x4) 1560) (z_let (x4 + 1) (fun x15 : Int32 => M_remember_L55 row kx9 n7 x15 ((upd (un_undos un5) ((78 * (un_nUndo un5)) + x4).toNatClampNeg x13), (un_nUndo un5)))))))
def M_remember_L21 (kx24 : Un → Option (Un)) : Nat → Int32 → Un → Option (Un)
  | 0, _, _ => none
  | n22 + 1, x19, un20 => if (78 * (un_nUndo un20)) ≤ x19 then (kx24 un20) else (z_gd (z_in (x19 + 78) 1560) (z_let ((un_undos un20) (x19 + 78).toNatClampNeg) (fun x28 : Int32 => z_gd (z_in x19 1560) (z_let (x19 + 1) (fun x30 : Int32 => M_remember_L21 kx24 n22 x30 ((upd (un_undos un20) x19.toNatClampNeg x28), (un_nUndo un20)))))))
def M_remember (F : Nat) (row : MRow) (un : Un) : Option (Un) := z_jn (fun un1 : Un => M_remember_L55 row (fun (un10 : Un) => z_let ((un_nUndo un10) + 1) (fun x16 : Int32 => some ((un_undos un10), x16))) F 0 un1) (fun k2 => if (un_nUndo un) = 20 then (z_let ((un_nUndo un) - 1) (fun x18 : Int32 => M_remember_L21 (fun (un25 : Un) => k2 un25) F 0 ((un_undos un), x18))) else (k2 un))
set_option maxHeartbeats 4000000 in
set_option maxRecDepth 100000 in
theorem ctX8_remember (l : Launch) (D : va_G) (ac cs : Nat → Nat) (q : Nat → Nat) (sz : Nat) (th : Th) (row : MRow) (un : Un) (kp : Kp) (mt : Mt) (ps : Ps) (bx : Bx) (mo : Mo) (su : Su) (wy : Wy) (wa : Wa) (od : Od) (py : Py) (ju : Ju) (pl : Pl) (rs : Rs) (F : Nat) (res : Un) (hf : M_remember F row un = some res) : Met l yX8_remember (cWW yX8_remember cX8_remember 2 none) { frames := 0, cells := 0, slots := 0, locals := 0 } (zM D ac cs [.ref (q 0)] (moW ac q th row un kp mt ps bx mo su wy wa od py ju pl rs) sz) (va_Qv (fun _ : Unit => True) (fun _ => zB D (va_A (moW ac q th row un kp mt ps bx mo su wy wa od py ju pl rs) sz) (moW ac q th row res kp mt ps bx mo su wy wa od py ju pl rs)) (va_A (moW ac q th row un kp mt ps bx mo su wy wa od py ju pl rs) sz)) 0 0 (va_A (moW ac q th row un kp mt ps bx mo su wy wa od py ju pl rs) sz) := by
  refine Met.ofW (cc := cX8_remember) (maxL := 2) (ret := none) (by decide) rfl ?_
  intro p e s m args below meth c s₁ B hml hv
  obtain ⟨rfl, hsz, hP, hKX, hD0, hC⟩ := hv
  have hx := B.exec
  have hb := B.bytes
  have hr := B.returns
  have hts := atoms_spec (ws := cWW yX8_remember cX8_remember 2 none) B.pre
  have htw : ∀ w ∈ WW, w.before _ s = true := fun w h => hts w (List.mem_cons_of_mem _ h)
  have hown : s.vm.findClass RX8 = some m.cls := findClass_of_methodNamed B.named
  have hlocks := B.notSynchronized
  clear hts B
  subst hsz
  have hD := hD0.self (sz := s.heap.size)
  generalize hAe : va_A (moW ac q th row un kp mt ps bx mo su wy wa od py ju pl rs) s.heap.size = A at hD hC ⊢
  have hA : ∀ q : Nat, s.heap.size ≤ q → A q := fun q h => by rw [← hAe]; exact Or.inr h
  have hS : va_S A s.heap s.heap [] := va_S.rf
  clear hD0 hAe
  have hP : va_P D vwCl (moW ac q th row un kp mt ps bx mo su wy wa od py ju pl rs) s.heap := hP
  have hl := lv_entry ([.ref (q 0)]) (n := 2) (Nat.le_of_ble_eq_true rfl)
  rw [lg_entry_eq]
  generalize (lg_sl ([.ref (q 0)]) ++ List.replicate (2 - (lg_sl ([.ref (q 0)])).length) Slot.unset).toArray = ls at hl ⊢
  have hl : lv_has ls 2 [(0, .ref (q 0))] := hl
  unfold M_remember at hf
  show W p l e ({ frames := 0, cells := 0, slots := 0, locals := 0 } : Room) s m _ below meth c s.heap [] 0 0 _ (F0 m 0 ls [])
  refine lv_aload_n hx hb dX8_remember_0 rfl (lv_at hl 0 rfl) ?_
  refine va_get (D := D) (ci := 8) (v := .int (un_nUndo un)) (C := RX8) (T := TX8) (N := 41) hx hb htw WW_wsX80 hown hKX.1 hP 0 rfl rfl 3 (Nat.le_of_ble_eq_true rfl) (htw _ mF_RX8_91) (fun _ h9 => h9) rfl dX8_remember_1 ?_
  refine lv_bipush (v := 20) hx hb dX8_remember_4 rfl ?_
  obtain ⟨k2, hk2, hf⟩ := z_jn_u hf
  have hj3 : ∀ (un1 : Un), k2 un1 = some res → ∀ (H : Heap) (locs : List Loc) (ls : Array Slot), va_P D vwCl (moW ac q th row un1 kp mt ps bx mo su wy wa od py ju pl rs) H → va_D A (moW ac q th row un1 kp mt ps bx mo su wy wa od py ju pl rs) → va_S A s.heap H locs → lv_has ls 2 [(0, .ref (q 0))] → W p l e ({ frames := 0, cells := 0, slots := 0, locals := 0 } : Room) s m (([.ref (q 0)] : List Value).toArray) below meth c H locs 0 0 (MQ below (va_Qv (fun _ : Unit => True) (fun _ => zB D A (moW ac q th row res kp mt ps bx mo su wy wa od py ju pl rs)) A) ([.ref (q 0)] : List Value).toArray s 0 0 A) (F0 m 53 ls []) := by
    intro un1 hf H locs ls hP hD hS hl
    have hf := hk2 _ hf
    refine lv_iconst (v := 0) hx hb dX8_remember_53 rfl ?_
    refine lv_istore_n (lv' := [(1, .int 0), (0, .ref (q 0))]) hx hb dX8_remember_54 rfl hl (Nat.le_of_ble_eq_true rfl) rfl (fun ls hl => ?_)
    have hL6 : ∀ (kx9 : Un → Option (Un)) (hkx9 : ∀ (un10 : Un), kx9 un10 = some res → ∀ (H : Heap) (locs : List Loc) (ls : Array Slot), va_P D vwCl (moW ac q th row un10 kp mt ps bx mo su wy wa od py ju pl rs) H → va_D A (moW ac q th row un10 kp mt ps bx mo su wy wa od py ju pl rs) → va_S A s.heap H locs → lv_has ls 2 [(0, .ref (q 0))] → W p l e ({ frames := 0, cells := 0, slots := 0, locals := 0 } : Room) s m (([.ref (q 0)] : List Value).toArray) below meth c H locs 0 0 (MQ below (va_Qv (fun _ : Unit => True) (fun _ => zB D A (moW ac q th row res kp mt ps bx mo su wy wa od py ju pl rs)) A) ([.ref (q 0)] : List Value).toArray s 0 0 A) (F0 m 87 ls [])) (n7 : Nat) (x4 : Int32) (un5 : Un), M_remember_L55 row kx9 n7 x4 un5 = some res → ∀ (H : Heap) (locs : List Loc) (ls : Array Slot), va_P D vwCl (moW ac q th row un5 kp mt ps bx mo su wy wa od py ju pl rs) H → va_D A (moW ac q th row un5 kp mt ps bx mo su wy wa od py ju pl rs) → va_S A s.heap H locs → lv_has ls 2 [(0, .ref (q 0)), (1, .int x4)] → W p l e ({ frames := 0, cells := 0, slots := 0, locals := 0 } : Room) s m (([.ref (q 0)] : List Value).toArray) below meth c H locs 0 0 (MQ below (va_Qv (fun _ : Unit => True) (fun _ => zB D A (moW ac q th row res kp mt ps bx mo su wy wa od py ju pl rs)) A) ([.ref (q 0)] : List Value).toArray s 0 0 A) (F0 m 55 ls []) := by
      intro kx9 hkx9 n7
      induction n7 with
      | zero => intro x4 un5 hf; rw [M_remember_L55] at hf; cases hf
      | succ n7 ih8 =>
        intro x4 un5 hf H locs ls hP hD hS hl
        rw [M_remember_L55] at hf
        refine lv_iload_n hx hb dX8_remember_55 rfl (lv_at hl 1 rfl) ?_
        refine lv_bipush (v := 78) hx hb dX8_remember_56 rfl ?_
        refine lv_icmp_ge (tgt := 87) hx hb dX8_remember_58 (by decide) (fun c11 => ?_) (fun c11 => ?_)
        · have hf := z_p c11 hf
          exact hkx9 un5 hf _ _ ls  hP hD hS (lv_sub hl [0] rfl)
        · have hf := z_n c11 hf
          refine lv_aload_n hx hb dX8_remember_61 rfl (lv_at hl 0 rfl) ?_
          refine va_get (D := D) (ci := 8) (v := .ref (q 2)) (C := RX8) (T := TX8) (N := 41) hx hb htw WW_wsX80 hown hKX.1 hP 0 rfl rfl 2 (Nat.le_of_ble_eq_true rfl) (htw _ mF_RX8_15) (fun _ h9 => h9) rfl dX8_remember_62 ?_
          refine lv_bipush (v := 78) hx hb dX8_remember_65 rfl ?_
          refine lv_aload_n hx hb dX8_remember_67 rfl (lv_at hl 0 rfl) ?_
          refine va_get (D := D) (ci := 8) (v := .int (un_nUndo un5)) (C := RX8) (T := TX8) (N := 41) hx hb htw WW_wsX80 hown hKX.1 hP 0 rfl rfl 3 (Nat.le_of_ble_eq_true rfl) (htw _ mF_RX8_91) (fun _ h9 => h9) rfl dX8_remember_68 ?_
          refine lv_imul hx hb dX8_remember_71 ?_
          refine lv_iload_n hx hb dX8_remember_72 rfl (lv_at hl 1 rfl) ?_
          refine lv_iadd hx hb dX8_remember_73 ?_
          refine lv_aload_n hx hb dX8_remember_74 rfl (lv_at hl 0 rfl) ?_
          refine va_get (D := D) (ci := 8) (v := .ref (q 1)) (C := RX8) (T := TX8) (N := 41) hx hb htw WW_wsX80 hown hKX.1 hP 0 rfl rfl 1 (Nat.le_of_ble_eq_true rfl) (htw _ mF_RX8_9) (fun _ h9 => h9) rfl dX8_remember_75 ?_
          refine lv_iload_n hx hb dX8_remember_78 rfl (lv_at hl 1 rfl) ?_
          obtain ⟨g12, hf⟩ := z_gd_u hf
          refine va_iald hx hb hKX.1 hP 1 0 rfl rfl (z_in_u g12) dX8_remember_79 ?_
          refine lv_topi (fun x13 hx13 => ?_)
          have hf := z_let_u hx13 hf
          obtain ⟨g14, hf⟩ := z_gd_u hf
          refine va_iast hx hb hKX.1 hP hD hS 2 0 rfl rfl (z_in_u g14) dX8_remember_80 (fun H locs hP hD hS => ?_)
          have hP : va_P D vwCl (moW ac q th row ((upd (un_undos un5) ((78 * (un_nUndo un5)) + x4).toNatClampNeg x13), (un_nUndo un5)) kp mt ps bx mo su wy wa od py ju pl rs) H := hP
          have hD : va_D A (moW ac q th row ((upd (un_undos un5) ((78 * (un_nUndo un5)) + x4).toNatClampNeg x13), (un_nUndo un5)) kp mt ps bx mo su wy wa od py ju pl rs) := hD
          obtain ⟨x15, hx15⟩ : ∃ y : Int32, y = (x4 + 1) := ⟨_, rfl⟩
          have hf := z_let_u hx15 hf
          refine lv_iinc (v := x15) (lv' := [(1, .int x15), (0, .ref (q 0))]) hx hb dX8_remember_81 hl (k := 1) rfl (by rw [hx15]; rfl) (Nat.le_of_ble_eq_true rfl) rfl (fun ls hl => ?_)
          refine lv_goto (tgt := 55) hx hb dX8_remember_84 (by decide) ?_
          exact ih8 x15 ((upd (un_undos un5) ((78 * (un_nUndo un5)) + x4).toNatClampNeg x13), (un_nUndo un5)) hf _ _ ls  hP hD hS (lv_sub hl [1, 0] rfl)
    refine hL6 _ ?_ F 0 un1 hf _ _ ls  hP hD hS (lv_sub hl [1, 0] rfl)
    intro un10 hf H locs ls hP hD hS hl
    refine lv_aload_n hx hb dX8_remember_87 rfl (lv_at hl 0 rfl) ?_
    refine lv_dup hx hb dX8_remember_88 rfl ?_
    refine va_get (D := D) (ci := 8) (v := .int (un_nUndo un10)) (C := RX8) (T := TX8) (N := 41) hx hb htw WW_wsX80 hown hKX.1 hP 0 rfl rfl 3 (Nat.le_of_ble_eq_true rfl) (htw _ mF_RX8_91) (fun _ h9 => h9) rfl dX8_remember_89 ?_
    refine lv_iconst (v := 1) hx hb dX8_remember_92 rfl ?_
    refine lv_iadd hx hb dX8_remember_93 ?_
    refine lv_topi (fun x16 hx16 => ?_)
    have hf := z_let_u hx16 hf
    refine va_put (D := D) (ci := 8) (v := .int x16) (ty := tyX8 3) (C := RX8) (T := TX8) (N := 41) hx hb htw WW_wsX80 tyX8 tyX8_ok nmX8 hown hKX.1 hP hD hS 0 rfl rfl 3 (Nat.le_of_ble_eq_true rfl) (htw _ mF_RX8_91) (fun _ h9 => h9) rfl (tyX8_ok 3 (Nat.le_of_ble_eq_true rfl)) rfl rfl (Nat.le_of_ble_eq_true rfl) dX8_remember_94 (fun H locs hP hD hS => ?_)
    have hP : va_P D vwCl (moW ac q th row ((un_undos un10), x16) kp mt ps bx mo su wy wa od py ju pl rs) H := hP
    have hD : va_D A (moW ac q th row ((un_undos un10), x16) kp mt ps bx mo su wy wa od py ju pl rs) := hD
    obtain rfl := Option.some.inj hf
    exact zr_Mv hx hb hr hlocks hP hD hS dX8_remember_97
  refine lv_icmp_ne (tgt := 53) hx hb dX8_remember_6 (by decide) (fun c17 => ?_) (fun c17 => ?_)
  · have hf := z_n c17 hf
    exact hj3 un hf _ _ ls  hP hD hS (lv_sub hl [0] rfl)
  · have hf := z_p c17 hf
    refine lv_aload_n hx hb dX8_remember_9 rfl (lv_at hl 0 rfl) ?_
    refine lv_dup hx hb dX8_remember_10 rfl ?_
    refine va_get (D := D) (ci := 8) (v := .int (un_nUndo un)) (C := RX8) (T := TX8) (N := 41) hx hb htw WW_wsX80 hown hKX.1 hP 0 rfl rfl 3 (Nat.le_of_ble_eq_true rfl) (htw _ mF_RX8_91) (fun _ h9 => h9) rfl dX8_remember_11 ?_
    refine lv_iconst (v := 1) hx hb dX8_remember_14 rfl ?_
    refine lv_isub hx hb dX8_remember_15 ?_
    refine lv_topi (fun x18 hx18 => ?_)
    have hf := z_let_u hx18 hf
    refine va_put (D := D) (ci := 8) (v := .int x18) (ty := tyX8 3) (C := RX8) (T := TX8) (N := 41) hx hb htw WW_wsX80 tyX8 tyX8_ok nmX8 hown hKX.1 hP hD hS 0 rfl rfl 3 (Nat.le_of_ble_eq_true rfl) (htw _ mF_RX8_91) (fun _ h9 => h9) rfl (tyX8_ok 3 (Nat.le_of_ble_eq_true rfl)) rfl rfl (Nat.le_of_ble_eq_true rfl) dX8_remember_16 (fun H locs hP hD hS => ?_)
    have hP : va_P D vwCl (moW ac q th row ((un_undos un), x18) kp mt ps bx mo su wy wa od py ju pl rs) H := hP
    have hD : va_D A (moW ac q th row ((un_undos un), x18) kp mt ps bx mo su wy wa od py ju pl rs) := hD
    refine lv_iconst (v := 0) hx hb dX8_remember_19 rfl ?_
    refine lv_istore_n (lv' := [(1, .int 0), (0, .ref (q 0))]) hx hb dX8_remember_20 rfl hl (Nat.le_of_ble_eq_true rfl) rfl (fun ls hl => ?_)
    have hL21 : ∀ (kx24 : Un → Option (Un)) (hkx24 : ∀ (un25 : Un), kx24 un25 = some res → ∀ (H : Heap) (locs : List Loc) (ls : Array Slot), va_P D vwCl (moW ac q th row un25 kp mt ps bx mo su wy wa od py ju pl rs) H → va_D A (moW ac q th row un25 kp mt ps bx mo su wy wa od py ju pl rs) → va_S A s.heap H locs → lv_has ls 2 [(0, .ref (q 0))] → W p l e ({ frames := 0, cells := 0, slots := 0, locals := 0 } : Room) s m (([.ref (q 0)] : List Value).toArray) below meth c H locs 0 0 (MQ below (va_Qv (fun _ : Unit => True) (fun _ => zB D A (moW ac q th row res kp mt ps bx mo su wy wa od py ju pl rs)) A) ([.ref (q 0)] : List Value).toArray s 0 0 A) (F0 m 53 ls [])) (n22 : Nat) (x19 : Int32) (un20 : Un), M_remember_L21 kx24 n22 x19 un20 = some res → ∀ (H : Heap) (locs : List Loc) (ls : Array Slot), va_P D vwCl (moW ac q th row un20 kp mt ps bx mo su wy wa od py ju pl rs) H → va_D A (moW ac q th row un20 kp mt ps bx mo su wy wa od py ju pl rs) → va_S A s.heap H locs → lv_has ls 2 [(0, .ref (q 0)), (1, .int x19)] → W p l e ({ frames := 0, cells := 0, slots := 0, locals := 0 } : Room) s m (([.ref (q 0)] : List Value).toArray) below meth c H locs 0 0 (MQ below (va_Qv (fun _ : Unit => True) (fun _ => zB D A (moW ac q th row res kp mt ps bx mo su wy wa od py ju pl rs)) A) ([.ref (q 0)] : List Value).toArray s 0 0 A) (F0 m 21 ls []) := by
      intro kx24 hkx24 n22
      induction n22 with
      | zero => intro x19 un20 hf; rw [M_remember_L21] at hf; cases hf
      | succ n22 ih23 =>
        intro x19 un20 hf H locs ls hP hD hS hl
        rw [M_remember_L21] at hf
        refine lv_iload_n hx hb dX8_remember_21 rfl (lv_at hl 1 rfl) ?_
        refine lv_bipush (v := 78) hx hb dX8_remember_22 rfl ?_
        refine lv_aload_n hx hb dX8_remember_24 rfl (lv_at hl 0 rfl) ?_
        refine va_get (D := D) (ci := 8) (v := .int (un_nUndo un20)) (C := RX8) (T := TX8) (N := 41) hx hb htw WW_wsX80 hown hKX.1 hP 0 rfl rfl 3 (Nat.le_of_ble_eq_true rfl) (htw _ mF_RX8_91) (fun _ h9 => h9) rfl dX8_remember_25 ?_
        refine lv_imul hx hb dX8_remember_28 ?_
        refine lv_icmp_ge (tgt := 53) hx hb dX8_remember_29 (by decide) (fun c26 => ?_) (fun c26 => ?_)
        · have hf := z_p c26 hf
          exact hkx24 un20 hf _ _ ls  hP hD hS (lv_sub hl [0] rfl)
        · have hf := z_n c26 hf
          refine lv_aload_n hx hb dX8_remember_32 rfl (lv_at hl 0 rfl) ?_
          refine va_get (D := D) (ci := 8) (v := .ref (q 2)) (C := RX8) (T := TX8) (N := 41) hx hb htw WW_wsX80 hown hKX.1 hP 0 rfl rfl 2 (Nat.le_of_ble_eq_true rfl) (htw _ mF_RX8_15) (fun _ h9 => h9) rfl dX8_remember_33 ?_
          refine lv_iload_n hx hb dX8_remember_36 rfl (lv_at hl 1 rfl) ?_
          refine lv_aload_n hx hb dX8_remember_37 rfl (lv_at hl 0 rfl) ?_
          refine va_get (D := D) (ci := 8) (v := .ref (q 2)) (C := RX8) (T := TX8) (N := 41) hx hb htw WW_wsX80 hown hKX.1 hP 0 rfl rfl 2 (Nat.le_of_ble_eq_true rfl) (htw _ mF_RX8_15) (fun _ h9 => h9) rfl dX8_remember_38 ?_
          refine lv_iload_n hx hb dX8_remember_41 rfl (lv_at hl 1 rfl) ?_
          refine lv_bipush (v := 78) hx hb dX8_remember_42 rfl ?_
          refine lv_iadd hx hb dX8_remember_44 ?_
          obtain ⟨g27, hf⟩ := z_gd_u hf
          refine va_iald hx hb hKX.1 hP 2 0 rfl rfl (z_in_u g27) dX8_remember_45 ?_
          refine lv_topi (fun x28 hx28 => ?_)
          have hf := z_let_u hx28 hf
          obtain ⟨g29, hf⟩ := z_gd_u hf
          refine va_iast hx hb hKX.1 hP hD hS 2 0 rfl rfl (z_in_u g29) dX8_remember_46 (fun H locs hP hD hS => ?_)
          have hP : va_P D vwCl (moW ac q th row ((upd (un_undos un20) x19.toNatClampNeg x28), (un_nUndo un20)) kp mt ps bx mo su wy wa od py ju pl rs) H := hP
          have hD : va_D A (moW ac q th row ((upd (un_undos un20) x19.toNatClampNeg x28), (un_nUndo un20)) kp mt ps bx mo su wy wa od py ju pl rs) := hD
          obtain ⟨x30, hx30⟩ : ∃ y : Int32, y = (x19 + 1) := ⟨_, rfl⟩
          have hf := z_let_u hx30 hf
          refine lv_iinc (v := x30) (lv' := [(1, .int x30), (0, .ref (q 0))]) hx hb dX8_remember_47 hl (k := 1) rfl (by rw [hx30]; rfl) (Nat.le_of_ble_eq_true rfl) rfl (fun ls hl => ?_)
          refine lv_goto (tgt := 21) hx hb dX8_remember_50 (by decide) ?_
          exact ih23 x30 ((upd (un_undos un20) x19.toNatClampNeg x28), (un_nUndo un20)) hf _ _ ls  hP hD hS (lv_sub hl [1, 0] rfl)
    refine hL21 _ ?_ F 0 ((un_undos un), x18) hf _ _ ls  hP hD hS (lv_sub hl [1, 0] rfl)
    intro un25 hf H locs ls hP hD hS hl
    exact hj3 un25 hf _ _ ls  hP hD hS (lv_sub hl [0] rfl)

theorem hd_yX8_sign : hdY yX8_sign 1 := by decide +kernel
def M_sign_L22 (a1 : Int32) : Nat → Int32 → Mt → Option (Int32 × Th × Mt)
  | 0, _, _ => none
  | n5 + 1, x2, mt3 => if x2 < 0 then (some ((mt_texted mt3), 0, mt3)) else (z_let (((a1.toUInt32 >>> (x2.toUInt32 &&& Int32.toUInt32 31)).toInt32).toInt8.toInt32) (fun x8 : Int32 => z_gd (z_in (mt_texted mt3) 200) (z_let ((mt_texted mt3) + 1) (fun x10 : Int32 => z_let (x2 + (-8)) (fun x11 : Int32 => M_sign_L22 a1 n5 x11 ((upd (mt_text mt3) (mt_texted mt3).toNatClampNeg (vp_nar .byte x8)), x10))))))
def M_sign (F : Nat) (mt : Mt) (a1 : Int32) : Option (Int32 × Th × Mt) := if ((mt_texted mt) + 4) ≤ 200 then (M_sign_L22 a1 F 24 mt) else (some ((-1), 0, mt))
set_option maxHeartbeats 4000000 in
set_option maxRecDepth 100000 in
theorem ctX8_sign (l : Launch) (D : va_G) (ac cs : Nat → Nat) (q : Nat → Nat) (sz : Nat) (th : Th) (row : MRow) (un : Un) (kp : Kp) (mt : Mt) (ps : Ps) (bx : Bx) (mo : Mo) (su : Su) (wy : Wy) (wa : Wa) (od : Od) (py : Py) (ju : Ju) (pl : Pl) (rs : Rs) (a1 : Int32) (F : Nat) (res : Int32 × Th × Mt) (hf : M_sign F mt a1 = some res) : Met l yX8_sign (cWW yX8_sign cX8_sign 3 (some .int)) { frames := 0, cells := 0, slots := 0, locals := 0 } (zM D ac cs [.ref (q 0), .int a1] (moW ac q th row un kp mt ps bx mo su wy wa od py ju pl rs) sz) (va_Qi (fun r (_ : Unit) => r = res.1) (fun _ => zB D (va_A (moW ac q th row un kp mt ps bx mo su wy wa od py ju pl rs) sz) (moW ac q res.2.1 row un kp res.2.2 ps bx mo su wy wa od py ju pl rs)) (va_A (moW ac q th row un kp mt ps bx mo su wy wa od py ju pl rs) sz)) 0 0 (va_A (moW ac q th row un kp mt ps bx mo su wy wa od py ju pl rs) sz) := by
  refine Met.ofW (cc := cX8_sign) (maxL := 3) (ret := (some .int)) (by decide) rfl ?_
  intro p e s m args below meth c s₁ B hml hv
  obtain ⟨rfl, hsz, hP, hKX, hD0, hC⟩ := hv
  have hx := B.exec
  have hb := B.bytes
  have hr := B.returns
  have hts := atoms_spec (ws := cWW yX8_sign cX8_sign 3 (some .int)) B.pre
  have htw : ∀ w ∈ WW, w.before _ s = true := fun w h => hts w (List.mem_cons_of_mem _ h)
  have hown : s.vm.findClass RX8 = some m.cls := findClass_of_methodNamed B.named
  have hlocks := B.notSynchronized
  clear hts B
  subst hsz
  have hD := hD0.self (sz := s.heap.size)
  generalize hAe : va_A (moW ac q th row un kp mt ps bx mo su wy wa od py ju pl rs) s.heap.size = A at hD hC ⊢
  have hA : ∀ q : Nat, s.heap.size ≤ q → A q := fun q h => by rw [← hAe]; exact Or.inr h
  have hS : va_S A s.heap s.heap [] := va_S.rf
  clear hD0 hAe
  have hP : va_P D vwCl (moW ac q th row un kp mt ps bx mo su wy wa od py ju pl rs) s.heap := hP
  have hl := lv_entry ([.ref (q 0), .int a1]) (n := 3) (Nat.le_of_ble_eq_true rfl)
  rw [lg_entry_eq]
  generalize (lg_sl ([.ref (q 0), .int a1]) ++ List.replicate (3 - (lg_sl ([.ref (q 0), .int a1])).length) Slot.unset).toArray = ls at hl ⊢
  have hl : lv_has ls 3 [(0, .ref (q 0)), (1, .int a1)] := hl
  unfold M_sign at hf
  show W p l e ({ frames := 0, cells := 0, slots := 0, locals := 0 } : Room) s m _ below meth c s.heap [] 0 0 _ (F0 m 0 ls [])
  refine lv_aload_n hx hb dX8_sign_0 rfl (lv_at hl 0 rfl) ?_
  refine lv_iconst (v := 0) hx hb dX8_sign_1 rfl ?_
  refine va_put (D := D) (ci := 8) (v := .int 0) (ty := tyX8 0) (C := RX8) (T := TX8) (N := 41) hx hb htw WW_wsX80 tyX8 tyX8_ok nmX8 hown hKX.1 hP hD hS 0 rfl rfl 0 (Nat.le_of_ble_eq_true rfl) (htw _ mF_RX8_75) (fun _ h9 => h9) rfl (tyX8_ok 0 (Nat.le_of_ble_eq_true rfl)) rfl rfl (Nat.le_of_ble_eq_true rfl) dX8_sign_2 (fun H locs hP hD hS => ?_)
  have hP : va_P D vwCl (moW ac q 0 row un kp mt ps bx mo su wy wa od py ju pl rs) H := hP
  have hD : va_D A (moW ac q 0 row un kp mt ps bx mo su wy wa od py ju pl rs) := hD
  refine lv_aload_n hx hb dX8_sign_5 rfl (lv_at hl 0 rfl) ?_
  refine va_get (D := D) (ci := 8) (v := .int (mt_texted mt)) (C := RX8) (T := TX8) (N := 41) hx hb htw WW_wsX80 hown hKX.1 hP 0 rfl rfl 7 (Nat.le_of_ble_eq_true rfl) (htw _ mF_RX8_94) (fun _ h9 => h9) rfl dX8_sign_6 ?_
  refine lv_iconst (v := 4) hx hb dX8_sign_9 rfl ?_
  refine lv_iadd hx hb dX8_sign_10 ?_
  refine lv_sipush (v := 200) hx hb dX8_sign_11 rfl ?_
  refine lv_icmp_le (tgt := 19) hx hb dX8_sign_14 (by decide) (fun c1 => ?_) (fun c1 => ?_)
  · have hf := z_p c1 hf
    refine lv_bipush (v := 24) hx hb dX8_sign_19 rfl ?_
    refine lv_istore_n (lv' := [(2, .int 24), (0, .ref (q 0)), (1, .int a1)]) hx hb dX8_sign_21 rfl hl (Nat.le_of_ble_eq_true rfl) rfl (fun ls hl => ?_)
    have hL4 : ∀ (n5 : Nat) (x2 : Int32) (mt3 : Mt), M_sign_L22 a1 n5 x2 mt3 = some res → ∀ (H : Heap) (locs : List Loc) (ls : Array Slot), va_P D vwCl (moW ac q 0 row un kp mt3 ps bx mo su wy wa od py ju pl rs) H → va_D A (moW ac q 0 row un kp mt3 ps bx mo su wy wa od py ju pl rs) → va_S A s.heap H locs → lv_has ls 3 [(0, .ref (q 0)), (1, .int a1), (2, .int x2)] → W p l e ({ frames := 0, cells := 0, slots := 0, locals := 0 } : Room) s m (([.ref (q 0), .int a1] : List Value).toArray) below meth c H locs 0 0 (MQ below (va_Qi (fun r (_ : Unit) => r = res.1) (fun _ => zB D A (moW ac q res.2.1 row un kp res.2.2 ps bx mo su wy wa od py ju pl rs)) A) ([.ref (q 0), .int a1] : List Value).toArray s 0 0 A) (F0 m 22 ls []) := by
      intro n5
      induction n5 with
      | zero => intro x2 mt3 hf; rw [M_sign_L22] at hf; cases hf
      | succ n5 ih6 =>
        intro x2 mt3 hf H locs ls hP hD hS hl
        rw [M_sign_L22] at hf
        refine lv_iload_n hx hb dX8_sign_22 rfl (lv_at hl 2 rfl) ?_
        refine lv_if_lt (tgt := 55) hx hb dX8_sign_23 (by decide) (fun c7 => ?_) (fun c7 => ?_)
        · have hf := z_p c7 hf
          refine lv_aload_n hx hb dX8_sign_55 rfl (lv_at hl 0 rfl) ?_
          refine va_get (D := D) (ci := 8) (v := .int (mt_texted mt3)) (C := RX8) (T := TX8) (N := 41) hx hb htw WW_wsX80 hown hKX.1 hP 0 rfl rfl 7 (Nat.le_of_ble_eq_true rfl) (htw _ mF_RX8_94) (fun _ h9 => h9) rfl dX8_sign_56 ?_
          obtain rfl := Option.some.inj hf
          exact zr_Mi hx hb hr hlocks hP hD hS dX8_sign_59
        · have hf := z_n c7 hf
          refine lv_aload_n hx hb dX8_sign_26 rfl (lv_at hl 0 rfl) ?_
          refine va_get (D := D) (ci := 8) (v := .ref (q 5)) (C := RX8) (T := TX8) (N := 41) hx hb htw WW_wsX80 hown hKX.1 hP 0 rfl rfl 6 (Nat.le_of_ble_eq_true rfl) (htw _ mF_RX8_25) (fun _ h9 => h9) rfl dX8_sign_27 ?_
          refine lv_aload_n hx hb dX8_sign_30 rfl (lv_at hl 0 rfl) ?_
          refine va_get (D := D) (ci := 8) (v := .int (mt_texted mt3)) (C := RX8) (T := TX8) (N := 41) hx hb htw WW_wsX80 hown hKX.1 hP 0 rfl rfl 7 (Nat.le_of_ble_eq_true rfl) (htw _ mF_RX8_94) (fun _ h9 => h9) rfl dX8_sign_31 ?_
          refine lv_iload_n hx hb dX8_sign_34 rfl (lv_at hl 1 rfl) ?_
          refine lv_iload_n hx hb dX8_sign_35 rfl (lv_at hl 2 rfl) ?_
          refine lv_iushr hx hb dX8_sign_36 rfl ?_
          refine lv_i2b hx hb dX8_sign_37 rfl ?_
          refine lv_topi (fun x8 hx8 => ?_)
          have hf := z_let_u hx8 hf
          obtain ⟨g9, hf⟩ := z_gd_u hf
          refine va_bast hx hb hKX.1 hP hD hS 5 3 rfl rfl (z_in_u g9) dX8_sign_38 (fun H locs hP hD hS => ?_)
          have hP : va_P D vwCl (moW ac q 0 row un kp ((upd (mt_text mt3) (mt_texted mt3).toNatClampNeg (vp_nar .byte x8)), (mt_texted mt3)) ps bx mo su wy wa od py ju pl rs) H := hP
          have hD : va_D A (moW ac q 0 row un kp ((upd (mt_text mt3) (mt_texted mt3).toNatClampNeg (vp_nar .byte x8)), (mt_texted mt3)) ps bx mo su wy wa od py ju pl rs) := hD
          refine lv_aload_n hx hb dX8_sign_39 rfl (lv_at hl 0 rfl) ?_
          refine lv_dup hx hb dX8_sign_40 rfl ?_
          refine va_get (D := D) (ci := 8) (v := .int (mt_texted mt3)) (C := RX8) (T := TX8) (N := 41) hx hb htw WW_wsX80 hown hKX.1 hP 0 rfl rfl 7 (Nat.le_of_ble_eq_true rfl) (htw _ mF_RX8_94) (fun _ h9 => h9) rfl dX8_sign_41 ?_
          refine lv_iconst (v := 1) hx hb dX8_sign_44 rfl ?_
          refine lv_iadd hx hb dX8_sign_45 ?_
          refine lv_topi (fun x10 hx10 => ?_)
          have hf := z_let_u hx10 hf
          refine va_put (D := D) (ci := 8) (v := .int x10) (ty := tyX8 7) (C := RX8) (T := TX8) (N := 41) hx hb htw WW_wsX80 tyX8 tyX8_ok nmX8 hown hKX.1 hP hD hS 0 rfl rfl 7 (Nat.le_of_ble_eq_true rfl) (htw _ mF_RX8_94) (fun _ h9 => h9) rfl (tyX8_ok 7 (Nat.le_of_ble_eq_true rfl)) rfl rfl (Nat.le_of_ble_eq_true rfl) dX8_sign_46 (fun H locs hP hD hS => ?_)
          have hP : va_P D vwCl (moW ac q 0 row un kp ((upd (mt_text mt3) (mt_texted mt3).toNatClampNeg (vp_nar .byte x8)), x10) ps bx mo su wy wa od py ju pl rs) H := hP
          have hD : va_D A (moW ac q 0 row un kp ((upd (mt_text mt3) (mt_texted mt3).toNatClampNeg (vp_nar .byte x8)), x10) ps bx mo su wy wa od py ju pl rs) := hD
          obtain ⟨x11, hx11⟩ : ∃ y : Int32, y = (x2 + (-8)) := ⟨_, rfl⟩
          have hf := z_let_u hx11 hf
          refine lv_iinc (v := x11) (lv' := [(2, .int x11), (0, .ref (q 0)), (1, .int a1)]) hx hb dX8_sign_49 hl (k := 2) rfl (by rw [hx11]; rfl) (Nat.le_of_ble_eq_true rfl) rfl (fun ls hl => ?_)
          refine lv_goto (tgt := 22) hx hb dX8_sign_52 (by decide) ?_
          exact ih6 x11 ((upd (mt_text mt3) (mt_texted mt3).toNatClampNeg (vp_nar .byte x8)), x10) hf _ _ ls  hP hD hS (lv_sub hl [1, 2, 0] rfl)
    refine hL4  F 24 mt hf _ _ ls  hP hD hS (lv_sub hl [1, 2, 0] rfl)
  · have hf := z_n c1 hf
    refine lv_iconst (v := (-1)) hx hb dX8_sign_17 rfl ?_
    obtain rfl := Option.some.inj hf
    exact zr_Mi hx hb hr hlocks hP hD hS dX8_sign_18

theorem hd_yX8_end : hdY yX8_end 1 := by decide +kernel
def M_end (mt : Mt) (a1 : Int32) : Int32 × Th × Mt := if M_in a1.toInt64 0 ((mt_texted mt).toInt64) = 0 then (0, 0, mt) else (1, 0, ((mt_text mt), a1))
set_option maxHeartbeats 4000000 in
set_option maxRecDepth 100000 in
theorem ctX8_end (l : Launch) (D : va_G) (ac cs : Nat → Nat) (q : Nat → Nat) (sz : Nat) (th : Th) (row : MRow) (un : Un) (kp : Kp) (mt : Mt) (ps : Ps) (bx : Bx) (mo : Mo) (su : Su) (wy : Wy) (wa : Wa) (od : Od) (py : Py) (ju : Ju) (pl : Pl) (rs : Rs) (a1 : Int32) (res : Int32 × Th × Mt) (hf : M_end mt a1 = res) : Met l yX8_end (cWW yX8_end cX8_end 2 (some .boolean)) { frames := 1, cells := 0, slots := 0, locals := 25 } (zM D ac cs [.ref (q 0), .int a1] (moW ac q th row un kp mt ps bx mo su wy wa od py ju pl rs) sz) (va_Qi (fun r (_ : Unit) => r = res.1) (fun _ => zB D (va_A (moW ac q th row un kp mt ps bx mo su wy wa od py ju pl rs) sz) (moW ac q res.2.1 row un kp res.2.2 ps bx mo su wy wa od py ju pl rs)) (va_A (moW ac q th row un kp mt ps bx mo su wy wa od py ju pl rs) sz)) 0 0 (va_A (moW ac q th row un kp mt ps bx mo su wy wa od py ju pl rs) sz) := by
  refine Met.ofW (cc := cX8_end) (maxL := 2) (ret := (some .boolean)) (by decide) rfl ?_
  intro p e s m args below meth c s₁ B hml hv
  obtain ⟨rfl, hsz, hP, hKX, hD0, hC⟩ := hv
  have hx := B.exec
  have hb := B.bytes
  have hr := B.returns
  have hts := atoms_spec (ws := cWW yX8_end cX8_end 2 (some .boolean)) B.pre
  have htw : ∀ w ∈ WW, w.before _ s = true := fun w h => hts w (List.mem_cons_of_mem _ h)
  have hown : s.vm.findClass RX8 = some m.cls := findClass_of_methodNamed B.named
  have hlocks := B.notSynchronized
  clear hts B
  subst hsz
  have hD := hD0.self (sz := s.heap.size)
  generalize hAe : va_A (moW ac q th row un kp mt ps bx mo su wy wa od py ju pl rs) s.heap.size = A at hD hC ⊢
  have hA : ∀ q : Nat, s.heap.size ≤ q → A q := fun q h => by rw [← hAe]; exact Or.inr h
  have hS : va_S A s.heap s.heap [] := va_S.rf
  clear hD0 hAe
  have hP : va_P D vwCl (moW ac q th row un kp mt ps bx mo su wy wa od py ju pl rs) s.heap := hP
  have hl := lv_entry ([.ref (q 0), .int a1]) (n := 2) (Nat.le_of_ble_eq_true rfl)
  rw [lg_entry_eq]
  generalize (lg_sl ([.ref (q 0), .int a1]) ++ List.replicate (2 - (lg_sl ([.ref (q 0), .int a1])).length) Slot.unset).toArray = ls at hl ⊢
  have hl : lv_has ls 2 [(0, .ref (q 0)), (1, .int a1)] := hl
  unfold M_end at hf
  show W p l e ({ frames := 1, cells := 0, slots := 0, locals := 25 } : Room) s m _ below meth c s.heap [] 0 0 _ (F0 m 0 ls [])
  refine lv_aload_n hx hb dX8_end_0 rfl (lv_at hl 0 rfl) ?_
  refine lv_iconst (v := 0) hx hb dX8_end_1 rfl ?_
  refine va_put (D := D) (ci := 8) (v := .int 0) (ty := tyX8 0) (C := RX8) (T := TX8) (N := 41) hx hb htw WW_wsX80 tyX8 tyX8_ok nmX8 hown hKX.1 hP hD hS 0 rfl rfl 0 (Nat.le_of_ble_eq_true rfl) (htw _ mF_RX8_75) (fun _ h9 => h9) rfl (tyX8_ok 0 (Nat.le_of_ble_eq_true rfl)) rfl rfl (Nat.le_of_ble_eq_true rfl) dX8_end_2 (fun H locs hP hD hS => ?_)
  have hP : va_P D vwCl (moW ac q 0 row un kp mt ps bx mo su wy wa od py ju pl rs) H := hP
  have hD : va_D A (moW ac q 0 row un kp mt ps bx mo su wy wa od py ju pl rs) := hD
  refine lv_iload_n hx hb dX8_end_5 rfl (lv_at hl 1 rfl) ?_
  refine lv_i2l hx hb dX8_end_6 rfl ?_
  refine lv_lconst (v := 0) hx hb dX8_end_7 rfl ?_
  refine lv_aload_n hx hb dX8_end_8 rfl (lv_at hl 0 rfl) ?_
  refine va_get (D := D) (ci := 8) (v := .int (mt_texted mt)) (C := RX8) (T := TX8) (N := 41) hx hb htw WW_wsX80 hown hKX.1 hP 0 rfl rfl 7 (Nat.le_of_ble_eq_true rfl) (htw _ mF_RX8_94) (fun _ h9 => h9) rfl dX8_end_9 ?_
  refine lv_i2l hx hb dX8_end_12 rfl ?_
  refine zc_RSi (As := [.long a1.toInt64, .long 0, .long ((mt_texted mt).toInt64)]) (rest := []) hx hb hml hown htw (ctX8_in l D ac cs   a1.toInt64 0 ((mt_texted mt).toInt64)   _ rfl) (g_S mM_RX8_79 mT_yX8_in mN_RX8 mC_yX8_in) (hd_yX8_in) ⟨rfl, rfl⟩ ⟨(Nat.le_of_ble_eq_true rfl), (Nat.le_of_ble_eq_true rfl)⟩ hKX hC hS zP0 rfl hl.1 rfl (Nat.le_of_ble_eq_true rfl) ⟨Nat.zero_le _, Nat.zero_le _⟩ dX8_end_13 ?_
  refine lv_if_ne (tgt := 21) hx hb dX8_end_16 (by decide) (fun c1 => ?_) (fun c1 => ?_)
  · have hf := z_n c1 hf
    refine lv_aload_n hx hb dX8_end_21 rfl (lv_at hl 0 rfl) ?_
    refine lv_iload_n hx hb dX8_end_22 rfl (lv_at hl 1 rfl) ?_
    refine va_put (D := D) (ci := 8) (v := .int a1) (ty := tyX8 7) (C := RX8) (T := TX8) (N := 41) hx hb htw WW_wsX80 tyX8 tyX8_ok nmX8 hown hKX.1 hP hD hS 0 rfl rfl 7 (Nat.le_of_ble_eq_true rfl) (htw _ mF_RX8_94) (fun _ h9 => h9) rfl (tyX8_ok 7 (Nat.le_of_ble_eq_true rfl)) rfl rfl (Nat.le_of_ble_eq_true rfl) dX8_end_23 (fun H locs hP hD hS => ?_)
    have hP : va_P D vwCl (moW ac q 0 row un kp ((mt_text mt), a1) ps bx mo su wy wa od py ju pl rs) H := hP
    have hD : va_D A (moW ac q 0 row un kp ((mt_text mt), a1) ps bx mo su wy wa od py ju pl rs) := hD
    refine lv_iconst (v := 1) hx hb dX8_end_26 rfl ?_
    subst hf
    exact zr_Mz hx hb hr hlocks (z_b_n z_b1) hP hD hS dX8_end_27
  · have hf := z_p c1 hf
    refine lv_iconst (v := 0) hx hb dX8_end_19 rfl ?_
    subst hf
    exact zr_Mz hx hb hr hlocks (z_b_n z_b0) hP hD hS dX8_end_20

theorem hd_yX8_start : hdY yX8_start 0 := by decide +kernel
def M_start (bx : Bx) (mo : Mo) : Mo := z_let (bx_byFirst bx) (fun x1 : Int32 => ((upd (upd (mo_goals mo) 0 0) 1 0), (upd (upd (mo_kicked mo) 0 0) 1 0), 0, x1, 0))
set_option maxHeartbeats 4000000 in
set_option maxRecDepth 100000 in
theorem ctX8_start (l : Launch) (D : va_G) (ac cs : Nat → Nat) (q : Nat → Nat) (sz : Nat) (th : Th) (row : MRow) (un : Un) (kp : Kp) (mt : Mt) (ps : Ps) (bx : Bx) (mo : Mo) (su : Su) (wy : Wy) (wa : Wa) (od : Od) (py : Py) (ju : Ju) (pl : Pl) (rs : Rs) (res : Mo) (hf : M_start bx mo = res) : Met l yX8_start (cWW yX8_start cX8_start 1 none) { frames := 0, cells := 0, slots := 0, locals := 0 } (zM D ac cs [.ref (q 0)] (moW ac q th row un kp mt ps bx mo su wy wa od py ju pl rs) sz) (va_Qv (fun _ : Unit => True) (fun _ => zB D (va_A (moW ac q th row un kp mt ps bx mo su wy wa od py ju pl rs) sz) (moW ac q th row un kp mt ps bx res su wy wa od py ju pl rs)) (va_A (moW ac q th row un kp mt ps bx mo su wy wa od py ju pl rs) sz)) 0 0 (va_A (moW ac q th row un kp mt ps bx mo su wy wa od py ju pl rs) sz) := by
  refine Met.ofW (cc := cX8_start) (maxL := 1) (ret := none) (by decide) rfl ?_
  intro p e s m args below meth c s₁ B hml hv
  obtain ⟨rfl, hsz, hP, hKX, hD0, hC⟩ := hv
  have hx := B.exec
  have hb := B.bytes
  have hr := B.returns
  have hts := atoms_spec (ws := cWW yX8_start cX8_start 1 none) B.pre
  have htw : ∀ w ∈ WW, w.before _ s = true := fun w h => hts w (List.mem_cons_of_mem _ h)
  have hown : s.vm.findClass RX8 = some m.cls := findClass_of_methodNamed B.named
  have hlocks := B.notSynchronized
  clear hts B
  subst hsz
  have hD := hD0.self (sz := s.heap.size)
  generalize hAe : va_A (moW ac q th row un kp mt ps bx mo su wy wa od py ju pl rs) s.heap.size = A at hD hC ⊢
  have hA : ∀ q : Nat, s.heap.size ≤ q → A q := fun q h => by rw [← hAe]; exact Or.inr h
  have hS : va_S A s.heap s.heap [] := va_S.rf
  clear hD0 hAe
  have hP : va_P D vwCl (moW ac q th row un kp mt ps bx mo su wy wa od py ju pl rs) s.heap := hP
  have hl := lv_entry ([.ref (q 0)]) (n := 1) (Nat.le_of_ble_eq_true rfl)
  rw [lg_entry_eq]
  generalize (lg_sl ([.ref (q 0)]) ++ List.replicate (1 - (lg_sl ([.ref (q 0)])).length) Slot.unset).toArray = ls at hl ⊢
  have hl : lv_has ls 1 [(0, .ref (q 0))] := hl
  unfold M_start at hf
  show W p l e ({ frames := 0, cells := 0, slots := 0, locals := 0 } : Room) s m _ below meth c s.heap [] 0 0 _ (F0 m 0 ls [])
  refine lv_aload_n hx hb dX8_start_0 rfl (lv_at hl 0 rfl) ?_
  refine va_get (D := D) (ci := 8) (v := .ref (q 9)) (C := RX8) (T := TX8) (N := 41) hx hb htw WW_wsX80 hown hKX.1 hP 0 rfl rfl 17 (Nat.le_of_ble_eq_true rfl) (htw _ mF_RX8_38) (fun _ h9 => h9) rfl dX8_start_1 ?_
  refine lv_iconst (v := 0) hx hb dX8_start_4 rfl ?_
  refine lv_iconst (v := 0) hx hb dX8_start_5 rfl ?_
  refine zv_iast_k hx hb hKX.1 hP hD hS 9 0 rfl rfl 0 rfl (z_in_u (by decide +kernel)) dX8_start_6 (fun H locs hP hD hS => ?_)
  have hP : va_P D vwCl (moW ac q th row un kp mt ps bx ((upd (mo_goals mo) 0 0), (mo_kicked mo), (mo_kicks mo), (mo_leader mo), (mo_isOver mo)) su wy wa od py ju pl rs) H := hP
  have hD : va_D A (moW ac q th row un kp mt ps bx ((upd (mo_goals mo) 0 0), (mo_kicked mo), (mo_kicks mo), (mo_leader mo), (mo_isOver mo)) su wy wa od py ju pl rs) := hD
  refine lv_aload_n hx hb dX8_start_7 rfl (lv_at hl 0 rfl) ?_
  refine va_get (D := D) (ci := 8) (v := .ref (q 9)) (C := RX8) (T := TX8) (N := 41) hx hb htw WW_wsX80 hown hKX.1 hP 0 rfl rfl 17 (Nat.le_of_ble_eq_true rfl) (htw _ mF_RX8_38) (fun _ h9 => h9) rfl dX8_start_8 ?_
  refine lv_iconst (v := 1) hx hb dX8_start_11 rfl ?_
  refine lv_iconst (v := 0) hx hb dX8_start_12 rfl ?_
  refine zv_iast_k hx hb hKX.1 hP hD hS 9 0 rfl rfl 1 rfl (z_in_u (by decide +kernel)) dX8_start_13 (fun H locs hP hD hS => ?_)
  have hP : va_P D vwCl (moW ac q th row un kp mt ps bx ((upd (upd (mo_goals mo) 0 0) 1 0), (mo_kicked mo), (mo_kicks mo), (mo_leader mo), (mo_isOver mo)) su wy wa od py ju pl rs) H := hP
  have hD : va_D A (moW ac q th row un kp mt ps bx ((upd (upd (mo_goals mo) 0 0) 1 0), (mo_kicked mo), (mo_kicks mo), (mo_leader mo), (mo_isOver mo)) su wy wa od py ju pl rs) := hD
  refine lv_aload_n hx hb dX8_start_14 rfl (lv_at hl 0 rfl) ?_
  refine va_get (D := D) (ci := 8) (v := .ref (q 10)) (C := RX8) (T := TX8) (N := 41) hx hb htw WW_wsX80 hown hKX.1 hP 0 rfl rfl 18 (Nat.le_of_ble_eq_true rfl) (htw _ mF_RX8_41) (fun _ h9 => h9) rfl dX8_start_15 ?_
  refine lv_iconst (v := 0) hx hb dX8_start_18 rfl ?_
  refine lv_iconst (v := 0) hx hb dX8_start_19 rfl ?_
  refine zv_iast_k hx hb hKX.1 hP hD hS 10 0 rfl rfl 0 rfl (z_in_u (by decide +kernel)) dX8_start_20 (fun H locs hP hD hS => ?_)
  have hP : va_P D vwCl (moW ac q th row un kp mt ps bx ((upd (upd (mo_goals mo) 0 0) 1 0), (upd (mo_kicked mo) 0 0), (mo_kicks mo), (mo_leader mo), (mo_isOver mo)) su wy wa od py ju pl rs) H := hP
  have hD : va_D A (moW ac q th row un kp mt ps bx ((upd (upd (mo_goals mo) 0 0) 1 0), (upd (mo_kicked mo) 0 0), (mo_kicks mo), (mo_leader mo), (mo_isOver mo)) su wy wa od py ju pl rs) := hD
  refine lv_aload_n hx hb dX8_start_21 rfl (lv_at hl 0 rfl) ?_
  refine va_get (D := D) (ci := 8) (v := .ref (q 10)) (C := RX8) (T := TX8) (N := 41) hx hb htw WW_wsX80 hown hKX.1 hP 0 rfl rfl 18 (Nat.le_of_ble_eq_true rfl) (htw _ mF_RX8_41) (fun _ h9 => h9) rfl dX8_start_22 ?_
  refine lv_iconst (v := 1) hx hb dX8_start_25 rfl ?_
  refine lv_iconst (v := 0) hx hb dX8_start_26 rfl ?_
  refine zv_iast_k hx hb hKX.1 hP hD hS 10 0 rfl rfl 1 rfl (z_in_u (by decide +kernel)) dX8_start_27 (fun H locs hP hD hS => ?_)
  have hP : va_P D vwCl (moW ac q th row un kp mt ps bx ((upd (upd (mo_goals mo) 0 0) 1 0), (upd (upd (mo_kicked mo) 0 0) 1 0), (mo_kicks mo), (mo_leader mo), (mo_isOver mo)) su wy wa od py ju pl rs) H := hP
  have hD : va_D A (moW ac q th row un kp mt ps bx ((upd (upd (mo_goals mo) 0 0) 1 0), (upd (upd (mo_kicked mo) 0 0) 1 0), (mo_kicks mo), (mo_leader mo), (mo_isOver mo)) su wy wa od py ju pl rs) := hD
  refine lv_aload_n hx hb dX8_start_28 rfl (lv_at hl 0 rfl) ?_
  refine lv_iconst (v := 0) hx hb dX8_start_29 rfl ?_
  refine va_put (D := D) (ci := 8) (v := .int 0) (ty := tyX8 19) (C := RX8) (T := TX8) (N := 41) hx hb htw WW_wsX80 tyX8 tyX8_ok nmX8 hown hKX.1 hP hD hS 0 rfl rfl 19 (Nat.le_of_ble_eq_true rfl) (htw _ mF_RX8_202) (fun _ h9 => h9) rfl (tyX8_ok 19 (Nat.le_of_ble_eq_true rfl)) rfl rfl (Nat.le_of_ble_eq_true rfl) dX8_start_30 (fun H locs hP hD hS => ?_)
  have hP : va_P D vwCl (moW ac q th row un kp mt ps bx ((upd (upd (mo_goals mo) 0 0) 1 0), (upd (upd (mo_kicked mo) 0 0) 1 0), 0, (mo_leader mo), (mo_isOver mo)) su wy wa od py ju pl rs) H := hP
  have hD : va_D A (moW ac q th row un kp mt ps bx ((upd (upd (mo_goals mo) 0 0) 1 0), (upd (upd (mo_kicked mo) 0 0) 1 0), 0, (mo_leader mo), (mo_isOver mo)) su wy wa od py ju pl rs) := hD
  refine lv_aload_n hx hb dX8_start_33 rfl (lv_at hl 0 rfl) ?_
  refine lv_aload_n hx hb dX8_start_34 rfl (lv_at hl 0 rfl) ?_
  refine va_get (D := D) (ci := 8) (v := .int (bx_byFirst bx)) (C := RX8) (T := TX8) (N := 41) hx hb htw WW_wsX80 hown hKX.1 hP 0 rfl rfl 15 (Nat.le_of_ble_eq_true rfl) (htw _ mF_RX8_196) (fun _ h9 => h9) rfl dX8_start_35 ?_
  refine lv_topi (fun x1 hx1 => ?_)
  have hf := z_let_u hx1 hf
  refine va_put (D := D) (ci := 8) (v := .int x1) (ty := tyX8 20) (C := RX8) (T := TX8) (N := 41) hx hb htw WW_wsX80 tyX8 tyX8_ok nmX8 hown hKX.1 hP hD hS 0 rfl rfl 20 (Nat.le_of_ble_eq_true rfl) (htw _ mF_RX8_205) (fun _ h9 => h9) rfl (tyX8_ok 20 (Nat.le_of_ble_eq_true rfl)) rfl rfl (Nat.le_of_ble_eq_true rfl) dX8_start_38 (fun H locs hP hD hS => ?_)
  have hP : va_P D vwCl (moW ac q th row un kp mt ps bx ((upd (upd (mo_goals mo) 0 0) 1 0), (upd (upd (mo_kicked mo) 0 0) 1 0), 0, x1, (mo_isOver mo)) su wy wa od py ju pl rs) H := hP
  have hD : va_D A (moW ac q th row un kp mt ps bx ((upd (upd (mo_goals mo) 0 0) 1 0), (upd (upd (mo_kicked mo) 0 0) 1 0), 0, x1, (mo_isOver mo)) su wy wa od py ju pl rs) := hD
  refine lv_aload_n hx hb dX8_start_41 rfl (lv_at hl 0 rfl) ?_
  refine lv_iconst (v := 0) hx hb dX8_start_42 rfl ?_
  refine va_put (D := D) (ci := 8) (v := .int 0) (ty := tyX8 21) (C := RX8) (T := TX8) (N := 41) hx hb htw WW_wsX80 tyX8 tyX8_ok nmX8 hown hKX.1 hP hD hS 0 rfl rfl 21 (Nat.le_of_ble_eq_true rfl) (htw _ mF_RX8_208) (fun _ h9 => h9) rfl (tyX8_ok 21 (Nat.le_of_ble_eq_true rfl)) (z_b_n z_b0) (z_b_f z_b0) (Nat.le_of_ble_eq_true rfl) dX8_start_43 (fun H locs hP hD hS => ?_)
  have hP : va_P D vwCl (moW ac q th row un kp mt ps bx ((upd (upd (mo_goals mo) 0 0) 1 0), (upd (upd (mo_kicked mo) 0 0) 1 0), 0, x1, 0) su wy wa od py ju pl rs) H := hP
  have hD : va_D A (moW ac q th row un kp mt ps bx ((upd (upd (mo_goals mo) 0 0) 1 0), (upd (upd (mo_kicked mo) 0 0) 1 0), 0, x1, 0) su wy wa od py ju pl rs) := hD
  subst hf
  exact zr_Mv hx hb hr hlocks hP hD hS dX8_start_46

theorem hd_yX8_begin : hdY yX8_begin 0 := by decide +kernel
def M_begin_L22 (row : MRow) (kx8 : Bx → Option (Bx × Mo)) : Nat → Int32 → Bx → Option (Bx × Mo)
  | 0, _, _ => none
  | n6 + 1, x3, bx4 => if 10 ≤ x3 then (kx8 bx4) else (z_gd (z_in (8 + x3) 78) (z_let (row (8 + x3).toNatClampNeg) (fun x12 : Int32 => z_gd (z_in x3 10) (z_let (x3 + 1) (fun x14 : Int32 => M_begin_L22 row kx8 n6 x14 ((bx_byOrder bx4), (bx_byFirst bx4), (upd (bx_skill bx4) x3.toNatClampNeg x12)))))))
def M_begin (F : Nat) (row : MRow) (bx : Bx) (mo : Mo) : Option (Bx × Mo) := z_let (row 1) (fun x1 : Int32 => z_let (row 2) (fun x2 : Int32 => M_begin_L22 row (fun (bx9 : Bx) => z_let (M_start bx9 mo) (fun u15 : Mo => some (bx9, u15))) F 0 (x1, x2, (bx_skill bx))))
set_option maxHeartbeats 4000000 in
set_option maxRecDepth 100000 in
theorem ctX8_begin (l : Launch) (D : va_G) (ac cs : Nat → Nat) (q : Nat → Nat) (sz : Nat) (th : Th) (row : MRow) (un : Un) (kp : Kp) (mt : Mt) (ps : Ps) (bx : Bx) (mo : Mo) (su : Su) (wy : Wy) (wa : Wa) (od : Od) (py : Py) (ju : Ju) (pl : Pl) (rs : Rs) (F : Nat) (res : Bx × Mo) (hf : M_begin F row bx mo = some res) : Met l yX8_begin (cWW yX8_begin cX8_begin 2 none) { frames := 1, cells := 0, slots := 0, locals := 20 } (zM D ac cs [.ref (q 0)] (moW ac q th row un kp mt ps bx mo su wy wa od py ju pl rs) sz) (va_Qv (fun _ : Unit => True) (fun _ => zB D (va_A (moW ac q th row un kp mt ps bx mo su wy wa od py ju pl rs) sz) (moW ac q th row un kp mt ps res.1 res.2 su wy wa od py ju pl rs)) (va_A (moW ac q th row un kp mt ps bx mo su wy wa od py ju pl rs) sz)) 0 0 (va_A (moW ac q th row un kp mt ps bx mo su wy wa od py ju pl rs) sz) := by
  refine Met.ofW (cc := cX8_begin) (maxL := 2) (ret := none) (by decide) rfl ?_
  intro p e s m args below meth c s₁ B hml hv
  obtain ⟨rfl, hsz, hP, hKX, hD0, hC⟩ := hv
  have hx := B.exec
  have hb := B.bytes
  have hr := B.returns
  have hts := atoms_spec (ws := cWW yX8_begin cX8_begin 2 none) B.pre
  have htw : ∀ w ∈ WW, w.before _ s = true := fun w h => hts w (List.mem_cons_of_mem _ h)
  have hown : s.vm.findClass RX8 = some m.cls := findClass_of_methodNamed B.named
  have hlocks := B.notSynchronized
  clear hts B
  subst hsz
  have hD := hD0.self (sz := s.heap.size)
  generalize hAe : va_A (moW ac q th row un kp mt ps bx mo su wy wa od py ju pl rs) s.heap.size = A at hD hC ⊢
  have hA : ∀ q : Nat, s.heap.size ≤ q → A q := fun q h => by rw [← hAe]; exact Or.inr h
  have hS : va_S A s.heap s.heap [] := va_S.rf
  clear hD0 hAe
  have hP : va_P D vwCl (moW ac q th row un kp mt ps bx mo su wy wa od py ju pl rs) s.heap := hP
  have hl := lv_entry ([.ref (q 0)]) (n := 2) (Nat.le_of_ble_eq_true rfl)
  rw [lg_entry_eq]
  generalize (lg_sl ([.ref (q 0)]) ++ List.replicate (2 - (lg_sl ([.ref (q 0)])).length) Slot.unset).toArray = ls at hl ⊢
  have hl : lv_has ls 2 [(0, .ref (q 0))] := hl
  unfold M_begin at hf
  show W p l e ({ frames := 1, cells := 0, slots := 0, locals := 20 } : Room) s m _ below meth c s.heap [] 0 0 _ (F0 m 0 ls [])
  refine lv_aload_n hx hb dX8_begin_0 rfl (lv_at hl 0 rfl) ?_
  refine lv_aload_n hx hb dX8_begin_1 rfl (lv_at hl 0 rfl) ?_
  refine va_get (D := D) (ci := 8) (v := .ref (q 1)) (C := RX8) (T := TX8) (N := 41) hx hb htw WW_wsX80 hown hKX.1 hP 0 rfl rfl 1 (Nat.le_of_ble_eq_true rfl) (htw _ mF_RX8_9) (fun _ h9 => h9) rfl dX8_begin_2 ?_
  refine lv_iconst (v := 1) hx hb dX8_begin_5 rfl ?_
  refine zv_iald_k hx hb hKX.1 hP 1 0 rfl rfl 1 rfl (z_in_u (by decide +kernel)) dX8_begin_6 ?_
  refine lv_topi (fun x1 hx1 => ?_)
  have hf := z_let_u hx1 hf
  refine va_put (D := D) (ci := 8) (v := .int x1) (ty := tyX8 14) (C := RX8) (T := TX8) (N := 41) hx hb htw WW_wsX80 tyX8 tyX8_ok nmX8 hown hKX.1 hP hD hS 0 rfl rfl 14 (Nat.le_of_ble_eq_true rfl) (htw _ mF_RX8_193) (fun _ h9 => h9) rfl (tyX8_ok 14 (Nat.le_of_ble_eq_true rfl)) rfl rfl (Nat.le_of_ble_eq_true rfl) dX8_begin_7 (fun H locs hP hD hS => ?_)
  have hP : va_P D vwCl (moW ac q th row un kp mt ps (x1, (bx_byFirst bx), (bx_skill bx)) mo su wy wa od py ju pl rs) H := hP
  have hD : va_D A (moW ac q th row un kp mt ps (x1, (bx_byFirst bx), (bx_skill bx)) mo su wy wa od py ju pl rs) := hD
  refine lv_aload_n hx hb dX8_begin_10 rfl (lv_at hl 0 rfl) ?_
  refine lv_aload_n hx hb dX8_begin_11 rfl (lv_at hl 0 rfl) ?_
  refine va_get (D := D) (ci := 8) (v := .ref (q 1)) (C := RX8) (T := TX8) (N := 41) hx hb htw WW_wsX80 hown hKX.1 hP 0 rfl rfl 1 (Nat.le_of_ble_eq_true rfl) (htw _ mF_RX8_9) (fun _ h9 => h9) rfl dX8_begin_12 ?_
  refine lv_iconst (v := 2) hx hb dX8_begin_15 rfl ?_
  refine zv_iald_k hx hb hKX.1 hP 1 0 rfl rfl 2 rfl (z_in_u (by decide +kernel)) dX8_begin_16 ?_
  refine lv_topi (fun x2 hx2 => ?_)
  have hf := z_let_u hx2 hf
  refine va_put (D := D) (ci := 8) (v := .int x2) (ty := tyX8 15) (C := RX8) (T := TX8) (N := 41) hx hb htw WW_wsX80 tyX8 tyX8_ok nmX8 hown hKX.1 hP hD hS 0 rfl rfl 15 (Nat.le_of_ble_eq_true rfl) (htw _ mF_RX8_196) (fun _ h9 => h9) rfl (tyX8_ok 15 (Nat.le_of_ble_eq_true rfl)) rfl rfl (Nat.le_of_ble_eq_true rfl) dX8_begin_17 (fun H locs hP hD hS => ?_)
  have hP : va_P D vwCl (moW ac q th row un kp mt ps (x1, x2, (bx_skill bx)) mo su wy wa od py ju pl rs) H := hP
  have hD : va_D A (moW ac q th row un kp mt ps (x1, x2, (bx_skill bx)) mo su wy wa od py ju pl rs) := hD
  refine lv_iconst (v := 0) hx hb dX8_begin_20 rfl ?_
  refine lv_istore_n (lv' := [(1, .int 0), (0, .ref (q 0))]) hx hb dX8_begin_21 rfl hl (Nat.le_of_ble_eq_true rfl) rfl (fun ls hl => ?_)
  have hL5 : ∀ (kx8 : Bx → Option (Bx × Mo)) (hkx8 : ∀ (bx9 : Bx), kx8 bx9 = some res → ∀ (H : Heap) (locs : List Loc) (ls : Array Slot), va_P D vwCl (moW ac q th row un kp mt ps bx9 mo su wy wa od py ju pl rs) H → va_D A (moW ac q th row un kp mt ps bx9 mo su wy wa od py ju pl rs) → va_S A s.heap H locs → lv_has ls 2 [(0, .ref (q 0))] → W p l e ({ frames := 1, cells := 0, slots := 0, locals := 20 } : Room) s m (([.ref (q 0)] : List Value).toArray) below meth c H locs 0 0 (MQ below (va_Qv (fun _ : Unit => True) (fun _ => zB D A (moW ac q th row un kp mt ps res.1 res.2 su wy wa od py ju pl rs)) A) ([.ref (q 0)] : List Value).toArray s 0 0 A) (F0 m 49 ls [])) (n6 : Nat) (x3 : Int32) (bx4 : Bx), M_begin_L22 row kx8 n6 x3 bx4 = some res → ∀ (H : Heap) (locs : List Loc) (ls : Array Slot), va_P D vwCl (moW ac q th row un kp mt ps bx4 mo su wy wa od py ju pl rs) H → va_D A (moW ac q th row un kp mt ps bx4 mo su wy wa od py ju pl rs) → va_S A s.heap H locs → lv_has ls 2 [(0, .ref (q 0)), (1, .int x3)] → W p l e ({ frames := 1, cells := 0, slots := 0, locals := 20 } : Room) s m (([.ref (q 0)] : List Value).toArray) below meth c H locs 0 0 (MQ below (va_Qv (fun _ : Unit => True) (fun _ => zB D A (moW ac q th row un kp mt ps res.1 res.2 su wy wa od py ju pl rs)) A) ([.ref (q 0)] : List Value).toArray s 0 0 A) (F0 m 22 ls []) := by
    intro kx8 hkx8 n6
    induction n6 with
    | zero => intro x3 bx4 hf; rw [M_begin_L22] at hf; cases hf
    | succ n6 ih7 =>
      intro x3 bx4 hf H locs ls hP hD hS hl
      rw [M_begin_L22] at hf
      refine lv_iload_n hx hb dX8_begin_22 rfl (lv_at hl 1 rfl) ?_
      refine lv_bipush (v := 10) hx hb dX8_begin_23 rfl ?_
      refine lv_icmp_ge (tgt := 49) hx hb dX8_begin_25 (by decide) (fun c10 => ?_) (fun c10 => ?_)
      · have hf := z_p c10 hf
        exact hkx8 bx4 hf _ _ ls  hP hD hS (lv_sub hl [0] rfl)
      · have hf := z_n c10 hf
        refine lv_aload_n hx hb dX8_begin_28 rfl (lv_at hl 0 rfl) ?_
        refine va_get (D := D) (ci := 8) (v := .ref (q 8)) (C := RX8) (T := TX8) (N := 41) hx hb htw WW_wsX80 hown hKX.1 hP 0 rfl rfl 16 (Nat.le_of_ble_eq_true rfl) (htw _ mF_RX8_35) (fun _ h9 => h9) rfl dX8_begin_29 ?_
        refine lv_iload_n hx hb dX8_begin_32 rfl (lv_at hl 1 rfl) ?_
        refine lv_aload_n hx hb dX8_begin_33 rfl (lv_at hl 0 rfl) ?_
        refine va_get (D := D) (ci := 8) (v := .ref (q 1)) (C := RX8) (T := TX8) (N := 41) hx hb htw WW_wsX80 hown hKX.1 hP 0 rfl rfl 1 (Nat.le_of_ble_eq_true rfl) (htw _ mF_RX8_9) (fun _ h9 => h9) rfl dX8_begin_34 ?_
        refine lv_bipush (v := 8) hx hb dX8_begin_37 rfl ?_
        refine lv_iload_n hx hb dX8_begin_39 rfl (lv_at hl 1 rfl) ?_
        refine lv_iadd hx hb dX8_begin_40 ?_
        obtain ⟨g11, hf⟩ := z_gd_u hf
        refine va_iald hx hb hKX.1 hP 1 0 rfl rfl (z_in_u g11) dX8_begin_41 ?_
        refine lv_topi (fun x12 hx12 => ?_)
        have hf := z_let_u hx12 hf
        obtain ⟨g13, hf⟩ := z_gd_u hf
        refine va_iast hx hb hKX.1 hP hD hS 8 0 rfl rfl (z_in_u g13) dX8_begin_42 (fun H locs hP hD hS => ?_)
        have hP : va_P D vwCl (moW ac q th row un kp mt ps ((bx_byOrder bx4), (bx_byFirst bx4), (upd (bx_skill bx4) x3.toNatClampNeg x12)) mo su wy wa od py ju pl rs) H := hP
        have hD : va_D A (moW ac q th row un kp mt ps ((bx_byOrder bx4), (bx_byFirst bx4), (upd (bx_skill bx4) x3.toNatClampNeg x12)) mo su wy wa od py ju pl rs) := hD
        obtain ⟨x14, hx14⟩ : ∃ y : Int32, y = (x3 + 1) := ⟨_, rfl⟩
        have hf := z_let_u hx14 hf
        refine lv_iinc (v := x14) (lv' := [(1, .int x14), (0, .ref (q 0))]) hx hb dX8_begin_43 hl (k := 1) rfl (by rw [hx14]; rfl) (Nat.le_of_ble_eq_true rfl) rfl (fun ls hl => ?_)
        refine lv_goto (tgt := 22) hx hb dX8_begin_46 (by decide) ?_
        exact ih7 x14 ((bx_byOrder bx4), (bx_byFirst bx4), (upd (bx_skill bx4) x3.toNatClampNeg x12)) hf _ _ ls  hP hD hS (lv_sub hl [1, 0] rfl)
  refine hL5 _ ?_ F 0 (x1, x2, (bx_skill bx)) hf _ _ ls  hP hD hS (lv_sub hl [1, 0] rfl)
  intro bx9 hf H locs ls hP hD hS hl
  refine lv_aload_n hx hb dX8_begin_49 rfl (lv_at hl 0 rfl) ?_
  obtain ⟨u15, hu15⟩ : ∃ y : Mo, y = M_start bx9 mo := ⟨_, rfl⟩
  have hf := z_let_u hu15 hf
  refine zc_MVv (As := []) (rest := []) (wr := []) (wsc := moW ac q th row un kp mt ps bx9 mo su wy wa od py ju pl rs) (wsc' := moW ac q th row un kp mt ps bx9 u15 su wy wa od py ju pl rs) hx hb hml hown htw (ctX8_start l D ac cs q H.size th row un kp mt ps bx9 mo su wy wa od py ju pl rs    u15 hu15.symm) (g_V mM_RX8_199 mI_yX8_start mS_RX8_yX8_start_yX8_start mN_RX8 mC_yX8_start) rfl (hd_yX8_start) ⟨rfl, rfl⟩ ⟨(Nat.le_of_ble_eq_true rfl), (Nat.le_of_ble_eq_true rfl)⟩ hKX hC hS hA hP hD [0, 1, 2, 3, 4, 5, 6, 7, 8, 9, 10, 11, 12, 13, 14, 15, 16, 17, 18, 19, 20] [] rfl (by decide) rfl (by decide) (by decide) 8 rfl rfl rfl hl.1 rfl (Nat.le_of_ble_eq_true rfl) ⟨Nat.zero_le _, Nat.zero_le _⟩ dX8_begin_50 (fun H locs hP hD hS => ?_)
  have hP : va_P D vwCl (moW ac q th row un kp mt ps bx9 u15 su wy wa od py ju pl rs) H := hP
  have hD : va_D A (moW ac q th row un kp mt ps bx9 u15 su wy wa od py ju pl rs) := hD
  obtain rfl := Option.some.inj hf
  exact zr_Mv hx hb hr hlocks hP hD hS dX8_begin_53

theorem hd_yX8_bits : hdY yX8_bits 1 := by decide +kernel
def M_bits_L4 (a1 : Int32) : Nat → Int32 → Int32 → Option (Int32)
  | 0, _, _ => none
  | n4 + 1, x1, x2 => if 8 ≤ x2 then (some x1) else (z_let (x1 + ((a1 >>> (x2 &&& 31)) &&& 1)) (fun x7 : Int32 => z_let (x2 + 1) (fun x8 : Int32 => M_bits_L4 a1 n4 x7 x8)))
def M_bits (F : Nat) (a1 : Int32) : Option (Int32) := M_bits_L4 a1 F 0 0
set_option maxHeartbeats 4000000 in
set_option maxRecDepth 100000 in
theorem ctX8_bits (l : Launch) (D : va_G) (ac cs : Nat → Nat) (a1 : Int32) (F : Nat) (res : Int32) (hf : M_bits F a1 = some res) : Met l yX8_bits (cWW yX8_bits cX8_bits 3 (some .int)) { frames := 0, cells := 0, slots := 0, locals := 0 } (zR D ac cs [.int a1] ([])) (vp_Si (fun r => r = res)) 0 0 (fun _ => False) := by
  refine Met.ofW (cc := cX8_bits) (maxL := 3) (ret := (some .int)) (by decide) rfl ?_
  intro p e s m args below meth c s₁ B hml hv
  obtain ⟨rfl, hP, hKX, hC⟩ := hv
  have hx := B.exec
  have hb := B.bytes
  have hr := B.returns
  have hts := atoms_spec (ws := cWW yX8_bits cX8_bits 3 (some .int)) B.pre
  have htw : ∀ w ∈ WW, w.before _ s = true := fun w h => hts w (List.mem_cons_of_mem _ h)
  have hown : s.vm.findClass RX8 = some m.cls := findClass_of_methodNamed B.named
  have hlocks := B.notSynchronized
  clear hts B
  have hS : va_S (fun _ => False) s.heap s.heap [] := va_S.rf
  have hl := lv_entry ([.int a1]) (n := 3) (Nat.le_of_ble_eq_true rfl)
  rw [lg_entry_eq]
  generalize (lg_sl ([.int a1]) ++ List.replicate (3 - (lg_sl ([.int a1])).length) Slot.unset).toArray = ls at hl ⊢
  have hl : lv_has ls 3 [(0, .int a1)] := hl
  unfold M_bits at hf
  show W p l e ({ frames := 0, cells := 0, slots := 0, locals := 0 } : Room) s m _ below meth c s.heap [] 0 0 _ (F0 m 0 ls [])
  refine lv_iconst (v := 0) hx hb dX8_bits_0 rfl ?_
  refine lv_istore_n (lv' := [(1, .int 0), (0, .int a1)]) hx hb dX8_bits_1 rfl hl (Nat.le_of_ble_eq_true rfl) rfl (fun ls hl => ?_)
  refine lv_iconst (v := 0) hx hb dX8_bits_2 rfl ?_
  refine lv_istore_n (lv' := [(2, .int 0), (1, .int 0), (0, .int a1)]) hx hb dX8_bits_3 rfl hl (Nat.le_of_ble_eq_true rfl) rfl (fun ls hl => ?_)
  have hL3 : ∀ (n4 : Nat) (x1 : Int32) (x2 : Int32), M_bits_L4 a1 n4 x1 x2 = some res → ∀ (ls : Array Slot), lv_has ls 3 [(0, .int a1), (1, .int x1), (2, .int x2)] → W p l e ({ frames := 0, cells := 0, slots := 0, locals := 0 } : Room) s m (([.int a1] : List Value).toArray) below meth c s.heap [] 0 0 (MQ below (vp_Si (fun r => r = res)) ([.int a1] : List Value).toArray s 0 0 (fun _ => False)) (F0 m 4 ls []) := by
    intro n4
    induction n4 with
    | zero => intro x1 x2 hf; rw [M_bits_L4] at hf; cases hf
    | succ n4 ih5 =>
      intro x1 x2 hf ls hl
      rw [M_bits_L4] at hf
      refine lv_iload_n hx hb dX8_bits_4 rfl (lv_at hl 2 rfl) ?_
      refine lv_bipush (v := 8) hx hb dX8_bits_5 rfl ?_
      refine lv_icmp_ge (tgt := 24) hx hb dX8_bits_7 (by decide) (fun c6 => ?_) (fun c6 => ?_)
      · have hf := z_p c6 hf
        refine lv_iload_n hx hb dX8_bits_24 rfl (lv_at hl 1 rfl) ?_
        exact zr_Ri hx hb hr hlocks (Option.some.inj hf) dX8_bits_25
      · have hf := z_n c6 hf
        refine lv_iload_n hx hb dX8_bits_10 rfl (lv_at hl 1 rfl) ?_
        refine lv_iload_n hx hb dX8_bits_11 rfl (lv_at hl 0 rfl) ?_
        refine lv_iload_n hx hb dX8_bits_12 rfl (lv_at hl 2 rfl) ?_
        refine lv_ishr hx hb dX8_bits_13 ?_
        refine lv_iconst (v := 1) hx hb dX8_bits_14 rfl ?_
        refine lv_iand hx hb dX8_bits_15 ?_
        refine lv_iadd hx hb dX8_bits_16 ?_
        refine lv_topi (fun x7 hx7 => ?_)
        have hf := z_let_u hx7 hf
        refine lv_istore_n (lv' := [(1, .int x7), (0, .int a1), (2, .int x2)]) hx hb dX8_bits_17 rfl hl (Nat.le_of_ble_eq_true rfl) rfl (fun ls hl => ?_)
        obtain ⟨x8, hx8⟩ : ∃ y : Int32, y = (x2 + 1) := ⟨_, rfl⟩
        have hf := z_let_u hx8 hf
        refine lv_iinc (v := x8) (lv' := [(2, .int x8), (1, .int x7), (0, .int a1)]) hx hb dX8_bits_18 hl (k := 2) rfl (by rw [hx8]; rfl) (Nat.le_of_ble_eq_true rfl) rfl (fun ls hl => ?_)
        refine lv_goto (tgt := 4) hx hb dX8_bits_21 (by decide) ?_
        exact ih5 x7 x8 hf ls (lv_sub hl [2, 1, 0] rfl)
  refine hL3  F 0 0 hf ls (lv_sub hl [2, 1, 0] rfl)

theorem hd_yX8_leaderOf : hdY yX8_leaderOf 1 := by decide +kernel
def M_leaderOf (F : Nat) (row : MRow) (bx : Bx) (mo : Mo) (a1 : Int32) : Option (Int32) := if M_n row ≤ a1 then (some (bx_byFirst bx)) else (if (bx_byOrder bx) = 0 then (some (bx_byFirst bx)) else (if (bx_byOrder bx) = 1 then (if (z_rem a1 2) = 0 then (some (bx_byFirst bx)) else (some (1 - (bx_byFirst bx)))) else (if (bx_byOrder bx) = 2 then (z_bd (M_bits F a1) (fun r8 : Int32 => if (z_rem r8 2) = 0 then (some (bx_byFirst bx)) else (some (1 - (bx_byFirst bx))))) else (if ((mo_goals mo) 0) = ((mo_goals mo) 1) then (if a1 = 0 then (some (bx_byFirst bx)) else (some (1 - (mo_leader mo)))) else (if ((mo_goals mo) 1) ≤ ((mo_goals mo) 0) then (some 1) else (some 0))))))
set_option maxHeartbeats 4000000 in
set_option maxRecDepth 100000 in
theorem ctX8_leaderOf (l : Launch) (D : va_G) (ac cs : Nat → Nat) (q : Nat → Nat) (th : Th) (row : MRow) (un : Un) (kp : Kp) (mt : Mt) (ps : Ps) (bx : Bx) (mo : Mo) (su : Su) (wy : Wy) (wa : Wa) (od : Od) (py : Py) (ju : Ju) (pl : Pl) (rs : Rs) (a1 : Int32) (F : Nat) (res : Int32) (hf : M_leaderOf F row bx mo a1 = some res) : Met l yX8_leaderOf (cWW yX8_leaderOf cX8_leaderOf 2 (some .int)) { frames := 1, cells := 0, slots := 0, locals := 22 } (zR D ac cs [.ref (q 0), .int a1] (moW ac q th row un kp mt ps bx mo su wy wa od py ju pl rs)) (vp_Si (fun r => r = res)) 0 0 (fun _ => False) := by
  refine Met.ofW (cc := cX8_leaderOf) (maxL := 2) (ret := (some .int)) (by decide) rfl ?_
  intro p e s m args below meth c s₁ B hml hv
  obtain ⟨rfl, hP, hKX, hC⟩ := hv
  have hx := B.exec
  have hb := B.bytes
  have hr := B.returns
  have hts := atoms_spec (ws := cWW yX8_leaderOf cX8_leaderOf 2 (some .int)) B.pre
  have htw : ∀ w ∈ WW, w.before _ s = true := fun w h => hts w (List.mem_cons_of_mem _ h)
  have hown : s.vm.findClass RX8 = some m.cls := findClass_of_methodNamed B.named
  have hlocks := B.notSynchronized
  clear hts B
  have hS : va_S (fun _ => False) s.heap s.heap [] := va_S.rf
  have hl := lv_entry ([.ref (q 0), .int a1]) (n := 2) (Nat.le_of_ble_eq_true rfl)
  rw [lg_entry_eq]
  generalize (lg_sl ([.ref (q 0), .int a1]) ++ List.replicate (2 - (lg_sl ([.ref (q 0), .int a1])).length) Slot.unset).toArray = ls at hl ⊢
  have hl : lv_has ls 2 [(0, .ref (q 0)), (1, .int a1)] := hl
  unfold M_leaderOf at hf
  show W p l e ({ frames := 1, cells := 0, slots := 0, locals := 22 } : Room) s m _ below meth c s.heap [] 0 0 _ (F0 m 0 ls [])
  refine lv_iload_n hx hb dX8_leaderOf_0 rfl (lv_at hl 1 rfl) ?_
  refine lv_aload_n hx hb dX8_leaderOf_1 rfl (lv_at hl 0 rfl) ?_
  refine zc_RVi (As := []) (rest := [.int a1]) hx hb hml hown htw (ctX8_n l D ac cs q th row un kp mt ps bx mo su wy wa od py ju pl rs    _ rfl) (g_V mM_RX8_190 mI_yX8_n mS_RX8_yX8_n_yX8_n mN_RX8 mC_yX8_n) rfl (hd_yX8_n) ⟨rfl, rfl⟩ ⟨(Nat.le_of_ble_eq_true rfl), (Nat.le_of_ble_eq_true rfl)⟩ hKX hC hS hP 8 rfl rfl rfl hl.1 rfl (Nat.le_of_ble_eq_true rfl) ⟨Nat.zero_le _, Nat.zero_le _⟩ dX8_leaderOf_2 ?_
  refine lv_icmp_ge (tgt := 15) hx hb dX8_leaderOf_5 (by decide) (fun c1 => ?_) (fun c1 => ?_)
  · have hf := z_p c1 hf
    refine lv_aload_n hx hb dX8_leaderOf_15 rfl (lv_at hl 0 rfl) ?_
    refine va_get (D := D) (ci := 8) (v := .int (bx_byFirst bx)) (C := RX8) (T := TX8) (N := 41) hx hb htw WW_wsX80 hown hKX.1 hP 0 rfl rfl 15 (Nat.le_of_ble_eq_true rfl) (htw _ mF_RX8_196) (fun _ h9 => h9) rfl dX8_leaderOf_16 ?_
    exact zr_Ri hx hb hr hlocks (Option.some.inj hf) dX8_leaderOf_19
  · have hf := z_n c1 hf
    refine lv_aload_n hx hb dX8_leaderOf_8 rfl (lv_at hl 0 rfl) ?_
    refine va_get (D := D) (ci := 8) (v := .int (bx_byOrder bx)) (C := RX8) (T := TX8) (N := 41) hx hb htw WW_wsX80 hown hKX.1 hP 0 rfl rfl 14 (Nat.le_of_ble_eq_true rfl) (htw _ mF_RX8_193) (fun _ h9 => h9) rfl dX8_leaderOf_9 ?_
    refine lv_if_ne (tgt := 20) hx hb dX8_leaderOf_12 (by decide) (fun c2 => ?_) (fun c2 => ?_)
    · have hf := z_n c2 hf
      refine lv_aload_n hx hb dX8_leaderOf_20 rfl (lv_at hl 0 rfl) ?_
      refine va_get (D := D) (ci := 8) (v := .int (bx_byOrder bx)) (C := RX8) (T := TX8) (N := 41) hx hb htw WW_wsX80 hown hKX.1 hP 0 rfl rfl 14 (Nat.le_of_ble_eq_true rfl) (htw _ mF_RX8_193) (fun _ h9 => h9) rfl dX8_leaderOf_21 ?_
      refine lv_iconst (v := 1) hx hb dX8_leaderOf_24 rfl ?_
      refine lv_icmp_ne (tgt := 48) hx hb dX8_leaderOf_25 (by decide) (fun c3 => ?_) (fun c3 => ?_)
      · have hf := z_n c3 hf
        refine lv_aload_n hx hb dX8_leaderOf_48 rfl (lv_at hl 0 rfl) ?_
        refine va_get (D := D) (ci := 8) (v := .int (bx_byOrder bx)) (C := RX8) (T := TX8) (N := 41) hx hb htw WW_wsX80 hown hKX.1 hP 0 rfl rfl 14 (Nat.le_of_ble_eq_true rfl) (htw _ mF_RX8_193) (fun _ h9 => h9) rfl dX8_leaderOf_49 ?_
        refine lv_iconst (v := 2) hx hb dX8_leaderOf_52 rfl ?_
        refine lv_icmp_ne (tgt := 79) hx hb dX8_leaderOf_53 (by decide) (fun c4 => ?_) (fun c4 => ?_)
        · have hf := z_n c4 hf
          refine lv_aload_n hx hb dX8_leaderOf_79 rfl (lv_at hl 0 rfl) ?_
          refine va_get (D := D) (ci := 8) (v := .ref (q 9)) (C := RX8) (T := TX8) (N := 41) hx hb htw WW_wsX80 hown hKX.1 hP 0 rfl rfl 17 (Nat.le_of_ble_eq_true rfl) (htw _ mF_RX8_38) (fun _ h9 => h9) rfl dX8_leaderOf_80 ?_
          refine lv_iconst (v := 0) hx hb dX8_leaderOf_83 rfl ?_
          refine zv_iald_k hx hb hKX.1 hP 9 0 rfl rfl 0 rfl (z_in_u (by decide +kernel)) dX8_leaderOf_84 ?_
          refine lv_aload_n hx hb dX8_leaderOf_85 rfl (lv_at hl 0 rfl) ?_
          refine va_get (D := D) (ci := 8) (v := .ref (q 9)) (C := RX8) (T := TX8) (N := 41) hx hb htw WW_wsX80 hown hKX.1 hP 0 rfl rfl 17 (Nat.le_of_ble_eq_true rfl) (htw _ mF_RX8_38) (fun _ h9 => h9) rfl dX8_leaderOf_86 ?_
          refine lv_iconst (v := 1) hx hb dX8_leaderOf_89 rfl ?_
          refine zv_iald_k hx hb hKX.1 hP 9 0 rfl rfl 1 rfl (z_in_u (by decide +kernel)) dX8_leaderOf_90 ?_
          refine lv_icmp_eq (tgt := 115) hx hb dX8_leaderOf_91 (by decide) (fun c5 => ?_) (fun c5 => ?_)
          · have hf := z_p c5 hf
            refine lv_iload_n hx hb dX8_leaderOf_115 rfl (lv_at hl 1 rfl) ?_
            refine lv_if_ne (tgt := 126) hx hb dX8_leaderOf_116 (by decide) (fun c6 => ?_) (fun c6 => ?_)
            · have hf := z_n c6 hf
              refine lv_iconst (v := 1) hx hb dX8_leaderOf_126 rfl ?_
              refine lv_aload_n hx hb dX8_leaderOf_127 rfl (lv_at hl 0 rfl) ?_
              refine va_get (D := D) (ci := 8) (v := .int (mo_leader mo)) (C := RX8) (T := TX8) (N := 41) hx hb htw WW_wsX80 hown hKX.1 hP 0 rfl rfl 20 (Nat.le_of_ble_eq_true rfl) (htw _ mF_RX8_205) (fun _ h9 => h9) rfl dX8_leaderOf_128 ?_
              refine lv_isub hx hb dX8_leaderOf_131 ?_
              exact zr_Ri hx hb hr hlocks (Option.some.inj hf) dX8_leaderOf_132
            · have hf := z_p c6 hf
              refine lv_aload_n hx hb dX8_leaderOf_119 rfl (lv_at hl 0 rfl) ?_
              refine va_get (D := D) (ci := 8) (v := .int (bx_byFirst bx)) (C := RX8) (T := TX8) (N := 41) hx hb htw WW_wsX80 hown hKX.1 hP 0 rfl rfl 15 (Nat.le_of_ble_eq_true rfl) (htw _ mF_RX8_196) (fun _ h9 => h9) rfl dX8_leaderOf_120 ?_
              refine lv_goto (tgt := 132) hx hb dX8_leaderOf_123 (by decide) ?_
              exact zr_Ri hx hb hr hlocks (Option.some.inj hf) dX8_leaderOf_132
          · have hf := z_n c5 hf
            refine lv_aload_n hx hb dX8_leaderOf_94 rfl (lv_at hl 0 rfl) ?_
            refine va_get (D := D) (ci := 8) (v := .ref (q 9)) (C := RX8) (T := TX8) (N := 41) hx hb htw WW_wsX80 hown hKX.1 hP 0 rfl rfl 17 (Nat.le_of_ble_eq_true rfl) (htw _ mF_RX8_38) (fun _ h9 => h9) rfl dX8_leaderOf_95 ?_
            refine lv_iconst (v := 0) hx hb dX8_leaderOf_98 rfl ?_
            refine zv_iald_k hx hb hKX.1 hP 9 0 rfl rfl 0 rfl (z_in_u (by decide +kernel)) dX8_leaderOf_99 ?_
            refine lv_aload_n hx hb dX8_leaderOf_100 rfl (lv_at hl 0 rfl) ?_
            refine va_get (D := D) (ci := 8) (v := .ref (q 9)) (C := RX8) (T := TX8) (N := 41) hx hb htw WW_wsX80 hown hKX.1 hP 0 rfl rfl 17 (Nat.le_of_ble_eq_true rfl) (htw _ mF_RX8_38) (fun _ h9 => h9) rfl dX8_leaderOf_101 ?_
            refine lv_iconst (v := 1) hx hb dX8_leaderOf_104 rfl ?_
            refine zv_iald_k hx hb hKX.1 hP 9 0 rfl rfl 1 rfl (z_in_u (by decide +kernel)) dX8_leaderOf_105 ?_
            refine lv_icmp_ge (tgt := 113) hx hb dX8_leaderOf_106 (by decide) (fun c7 => ?_) (fun c7 => ?_)
            · have hf := z_p c7 hf
              refine lv_iconst (v := 1) hx hb dX8_leaderOf_113 rfl ?_
              exact zr_Ri hx hb hr hlocks (Option.some.inj hf) dX8_leaderOf_114
            · have hf := z_n c7 hf
              refine lv_iconst (v := 0) hx hb dX8_leaderOf_109 rfl ?_
              refine lv_goto (tgt := 114) hx hb dX8_leaderOf_110 (by decide) ?_
              exact zr_Ri hx hb hr hlocks (Option.some.inj hf) dX8_leaderOf_114
        · have hf := z_p c4 hf
          refine lv_iload_n hx hb dX8_leaderOf_56 rfl (lv_at hl 1 rfl) ?_
          obtain ⟨r8, hr8, hf⟩ := z_bd_u hf
          refine zc_RSi (As := [.int a1]) (rest := []) hx hb hml hown htw (ctX8_bits l D ac cs   a1   F _ hr8) (g_S mM_RX8_217 mT_yX8_bits mN_RX8 mC_yX8_bits) (hd_yX8_bits) ⟨rfl, rfl⟩ ⟨(Nat.le_of_ble_eq_true rfl), (Nat.le_of_ble_eq_true rfl)⟩ hKX hC hS zP0 rfl hl.1 rfl (Nat.le_of_ble_eq_true rfl) ⟨Nat.zero_le _, Nat.zero_le _⟩ dX8_leaderOf_57 ?_
          refine lv_iconst (v := 2) hx hb dX8_leaderOf_60 rfl ?_
          refine zv_irem hx hb dX8_leaderOf_61 (by decide) ?_
          refine lv_if_ne (tgt := 72) hx hb dX8_leaderOf_62 (by decide) (fun c9 => ?_) (fun c9 => ?_)
          · have hf := z_n c9 hf
            refine lv_iconst (v := 1) hx hb dX8_leaderOf_72 rfl ?_
            refine lv_aload_n hx hb dX8_leaderOf_73 rfl (lv_at hl 0 rfl) ?_
            refine va_get (D := D) (ci := 8) (v := .int (bx_byFirst bx)) (C := RX8) (T := TX8) (N := 41) hx hb htw WW_wsX80 hown hKX.1 hP 0 rfl rfl 15 (Nat.le_of_ble_eq_true rfl) (htw _ mF_RX8_196) (fun _ h9 => h9) rfl dX8_leaderOf_74 ?_
            refine lv_isub hx hb dX8_leaderOf_77 ?_
            exact zr_Ri hx hb hr hlocks (Option.some.inj hf) dX8_leaderOf_78
          · have hf := z_p c9 hf
            refine lv_aload_n hx hb dX8_leaderOf_65 rfl (lv_at hl 0 rfl) ?_
            refine va_get (D := D) (ci := 8) (v := .int (bx_byFirst bx)) (C := RX8) (T := TX8) (N := 41) hx hb htw WW_wsX80 hown hKX.1 hP 0 rfl rfl 15 (Nat.le_of_ble_eq_true rfl) (htw _ mF_RX8_196) (fun _ h9 => h9) rfl dX8_leaderOf_66 ?_
            refine lv_goto (tgt := 78) hx hb dX8_leaderOf_69 (by decide) ?_
            exact zr_Ri hx hb hr hlocks (Option.some.inj hf) dX8_leaderOf_78
      · have hf := z_p c3 hf
        refine lv_iload_n hx hb dX8_leaderOf_28 rfl (lv_at hl 1 rfl) ?_
        refine lv_iconst (v := 2) hx hb dX8_leaderOf_29 rfl ?_
        refine zv_irem hx hb dX8_leaderOf_30 (by decide) ?_
        refine lv_if_ne (tgt := 41) hx hb dX8_leaderOf_31 (by decide) (fun c10 => ?_) (fun c10 => ?_)
        · have hf := z_n c10 hf
          refine lv_iconst (v := 1) hx hb dX8_leaderOf_41 rfl ?_
          refine lv_aload_n hx hb dX8_leaderOf_42 rfl (lv_at hl 0 rfl) ?_
          refine va_get (D := D) (ci := 8) (v := .int (bx_byFirst bx)) (C := RX8) (T := TX8) (N := 41) hx hb htw WW_wsX80 hown hKX.1 hP 0 rfl rfl 15 (Nat.le_of_ble_eq_true rfl) (htw _ mF_RX8_196) (fun _ h9 => h9) rfl dX8_leaderOf_43 ?_
          refine lv_isub hx hb dX8_leaderOf_46 ?_
          exact zr_Ri hx hb hr hlocks (Option.some.inj hf) dX8_leaderOf_47
        · have hf := z_p c10 hf
          refine lv_aload_n hx hb dX8_leaderOf_34 rfl (lv_at hl 0 rfl) ?_
          refine va_get (D := D) (ci := 8) (v := .int (bx_byFirst bx)) (C := RX8) (T := TX8) (N := 41) hx hb htw WW_wsX80 hown hKX.1 hP 0 rfl rfl 15 (Nat.le_of_ble_eq_true rfl) (htw _ mF_RX8_196) (fun _ h9 => h9) rfl dX8_leaderOf_35 ?_
          refine lv_goto (tgt := 47) hx hb dX8_leaderOf_38 (by decide) ?_
          exact zr_Ri hx hb hr hlocks (Option.some.inj hf) dX8_leaderOf_47
    · have hf := z_p c2 hf
      refine lv_aload_n hx hb dX8_leaderOf_15 rfl (lv_at hl 0 rfl) ?_
      refine va_get (D := D) (ci := 8) (v := .int (bx_byFirst bx)) (C := RX8) (T := TX8) (N := 41) hx hb htw WW_wsX80 hown hKX.1 hP 0 rfl rfl 15 (Nat.le_of_ble_eq_true rfl) (htw _ mF_RX8_196) (fun _ h9 => h9) rfl dX8_leaderOf_16 ?_
      exact zr_Ri hx hb hr hlocks (Option.some.inj hf) dX8_leaderOf_19

theorem hd_yX8_turnNow : hdY yX8_turnNow 0 := by decide +kernel
def M_turnNow (mo : Mo) : Int32 := if (z_rem (mo_kicks mo) 2) = 0 then (mo_leader mo) else (1 - (mo_leader mo))
set_option maxHeartbeats 4000000 in
set_option maxRecDepth 100000 in
theorem ctX8_turnNow (l : Launch) (D : va_G) (ac cs : Nat → Nat) (q : Nat → Nat) (th : Th) (row : MRow) (un : Un) (kp : Kp) (mt : Mt) (ps : Ps) (bx : Bx) (mo : Mo) (su : Su) (wy : Wy) (wa : Wa) (od : Od) (py : Py) (ju : Ju) (pl : Pl) (rs : Rs) (res : Int32) (hf : M_turnNow mo = res) : Met l yX8_turnNow (cWW yX8_turnNow cX8_turnNow 1 (some .int)) { frames := 0, cells := 0, slots := 0, locals := 0 } (zR D ac cs [.ref (q 0)] (moW ac q th row un kp mt ps bx mo su wy wa od py ju pl rs)) (vp_Si (fun r => r = res)) 0 0 (fun _ => False) := by
  refine Met.ofW (cc := cX8_turnNow) (maxL := 1) (ret := (some .int)) (by decide) rfl ?_
  intro p e s m args below meth c s₁ B hml hv
  obtain ⟨rfl, hP, hKX, hC⟩ := hv
  have hx := B.exec
  have hb := B.bytes
  have hr := B.returns
  have hts := atoms_spec (ws := cWW yX8_turnNow cX8_turnNow 1 (some .int)) B.pre
  have htw : ∀ w ∈ WW, w.before _ s = true := fun w h => hts w (List.mem_cons_of_mem _ h)
  have hown : s.vm.findClass RX8 = some m.cls := findClass_of_methodNamed B.named
  have hlocks := B.notSynchronized
  clear hts B
  have hS : va_S (fun _ => False) s.heap s.heap [] := va_S.rf
  have hl := lv_entry ([.ref (q 0)]) (n := 1) (Nat.le_of_ble_eq_true rfl)
  rw [lg_entry_eq]
  generalize (lg_sl ([.ref (q 0)]) ++ List.replicate (1 - (lg_sl ([.ref (q 0)])).length) Slot.unset).toArray = ls at hl ⊢
  have hl : lv_has ls 1 [(0, .ref (q 0))] := hl
  unfold M_turnNow at hf
  show W p l e ({ frames := 0, cells := 0, slots := 0, locals := 0 } : Room) s m _ below meth c s.heap [] 0 0 _ (F0 m 0 ls [])
  refine lv_aload_n hx hb dX8_turnNow_0 rfl (lv_at hl 0 rfl) ?_
  refine va_get (D := D) (ci := 8) (v := .int (mo_kicks mo)) (C := RX8) (T := TX8) (N := 41) hx hb htw WW_wsX80 hown hKX.1 hP 0 rfl rfl 19 (Nat.le_of_ble_eq_true rfl) (htw _ mF_RX8_202) (fun _ h9 => h9) rfl dX8_turnNow_1 ?_
  refine lv_iconst (v := 2) hx hb dX8_turnNow_4 rfl ?_
  refine zv_irem hx hb dX8_turnNow_5 (by decide) ?_
  refine lv_if_ne (tgt := 16) hx hb dX8_turnNow_6 (by decide) (fun c1 => ?_) (fun c1 => ?_)
  · have hf := z_n c1 hf
    refine lv_iconst (v := 1) hx hb dX8_turnNow_16 rfl ?_
    refine lv_aload_n hx hb dX8_turnNow_17 rfl (lv_at hl 0 rfl) ?_
    refine va_get (D := D) (ci := 8) (v := .int (mo_leader mo)) (C := RX8) (T := TX8) (N := 41) hx hb htw WW_wsX80 hown hKX.1 hP 0 rfl rfl 20 (Nat.le_of_ble_eq_true rfl) (htw _ mF_RX8_205) (fun _ h9 => h9) rfl dX8_turnNow_18 ?_
    refine lv_isub hx hb dX8_turnNow_21 ?_
    exact zr_Ri hx hb hr hlocks hf dX8_turnNow_22
  · have hf := z_p c1 hf
    refine lv_aload_n hx hb dX8_turnNow_9 rfl (lv_at hl 0 rfl) ?_
    refine va_get (D := D) (ci := 8) (v := .int (mo_leader mo)) (C := RX8) (T := TX8) (N := 41) hx hb htw WW_wsX80 hown hKX.1 hP 0 rfl rfl 20 (Nat.le_of_ble_eq_true rfl) (htw _ mF_RX8_205) (fun _ h9 => h9) rfl dX8_turnNow_10 ?_
    refine lv_goto (tgt := 22) hx hb dX8_turnNow_13 (by decide) ?_
    exact zr_Ri hx hb hr hlocks hf dX8_turnNow_22

theorem hd_yX8_shooterNow : hdY yX8_shooterNow 0 := by decide +kernel
def M_shooterNow (row : MRow) (mo : Mo) : Option (Int32) := z_gd (z_nz (M_n row)) (some (z_rem ((mo_kicks mo) / 2) (M_n row)))
set_option maxHeartbeats 4000000 in
set_option maxRecDepth 100000 in
theorem ctX8_shooterNow (l : Launch) (D : va_G) (ac cs : Nat → Nat) (q : Nat → Nat) (th : Th) (row : MRow) (un : Un) (kp : Kp) (mt : Mt) (ps : Ps) (bx : Bx) (mo : Mo) (su : Su) (wy : Wy) (wa : Wa) (od : Od) (py : Py) (ju : Ju) (pl : Pl) (rs : Rs) (res : Int32) (hf : M_shooterNow row mo = some res) : Met l yX8_shooterNow (cWW yX8_shooterNow cX8_shooterNow 1 (some .int)) { frames := 1, cells := 0, slots := 0, locals := 20 } (zR D ac cs [.ref (q 0)] (moW ac q th row un kp mt ps bx mo su wy wa od py ju pl rs)) (vp_Si (fun r => r = res)) 0 0 (fun _ => False) := by
  refine Met.ofW (cc := cX8_shooterNow) (maxL := 1) (ret := (some .int)) (by decide) rfl ?_
  intro p e s m args below meth c s₁ B hml hv
  obtain ⟨rfl, hP, hKX, hC⟩ := hv
  have hx := B.exec
  have hb := B.bytes
  have hr := B.returns
  have hts := atoms_spec (ws := cWW yX8_shooterNow cX8_shooterNow 1 (some .int)) B.pre
  have htw : ∀ w ∈ WW, w.before _ s = true := fun w h => hts w (List.mem_cons_of_mem _ h)
  have hown : s.vm.findClass RX8 = some m.cls := findClass_of_methodNamed B.named
  have hlocks := B.notSynchronized
  clear hts B
  have hS : va_S (fun _ => False) s.heap s.heap [] := va_S.rf
  have hl := lv_entry ([.ref (q 0)]) (n := 1) (Nat.le_of_ble_eq_true rfl)
  rw [lg_entry_eq]
  generalize (lg_sl ([.ref (q 0)]) ++ List.replicate (1 - (lg_sl ([.ref (q 0)])).length) Slot.unset).toArray = ls at hl ⊢
  have hl : lv_has ls 1 [(0, .ref (q 0))] := hl
  unfold M_shooterNow at hf
  show W p l e ({ frames := 1, cells := 0, slots := 0, locals := 20 } : Room) s m _ below meth c s.heap [] 0 0 _ (F0 m 0 ls [])
  refine lv_aload_n hx hb dX8_shooterNow_0 rfl (lv_at hl 0 rfl) ?_
  refine va_get (D := D) (ci := 8) (v := .int (mo_kicks mo)) (C := RX8) (T := TX8) (N := 41) hx hb htw WW_wsX80 hown hKX.1 hP 0 rfl rfl 19 (Nat.le_of_ble_eq_true rfl) (htw _ mF_RX8_202) (fun _ h9 => h9) rfl dX8_shooterNow_1 ?_
  refine lv_iconst (v := 2) hx hb dX8_shooterNow_4 rfl ?_
  refine lv_idiv hx hb dX8_shooterNow_5 (by decide) ?_
  refine lv_aload_n hx hb dX8_shooterNow_6 rfl (lv_at hl 0 rfl) ?_
  refine zc_RVi (As := []) (rest := [.int ((mo_kicks mo) / 2)]) hx hb hml hown htw (ctX8_n l D ac cs q th row un kp mt ps bx mo su wy wa od py ju pl rs    _ rfl) (g_V mM_RX8_190 mI_yX8_n mS_RX8_yX8_n_yX8_n mN_RX8 mC_yX8_n) rfl (hd_yX8_n) ⟨rfl, rfl⟩ ⟨(Nat.le_of_ble_eq_true rfl), (Nat.le_of_ble_eq_true rfl)⟩ hKX hC hS hP 8 rfl rfl rfl hl.1 rfl (Nat.le_of_ble_eq_true rfl) ⟨Nat.zero_le _, Nat.zero_le _⟩ dX8_shooterNow_7 ?_
  obtain ⟨g1, hf⟩ := z_gd_u hf
  refine zv_irem hx hb dX8_shooterNow_10 (z_nz_u g1) ?_
  exact zr_Ri hx hb hr hlocks (Option.some.inj hf) dX8_shooterNow_11

theorem hd_yX8_held : hdY yX8_held 1 := by decide +kernel
def M_held (a1 : Int32) : Int32 := if 0 ≤ a1 then (if a1 ≤ 6 then a1 else 6) else 0
set_option maxHeartbeats 4000000 in
set_option maxRecDepth 100000 in
theorem ctX8_held (l : Launch) (D : va_G) (ac cs : Nat → Nat) (a1 : Int32) (res : Int32) (hf : M_held a1 = res) : Met l yX8_held (cWW yX8_held cX8_held 1 (some .int)) { frames := 0, cells := 0, slots := 0, locals := 0 } (zR D ac cs [.int a1] ([])) (vp_Si (fun r => r = res)) 0 0 (fun _ => False) := by
  refine Met.ofW (cc := cX8_held) (maxL := 1) (ret := (some .int)) (by decide) rfl ?_
  intro p e s m args below meth c s₁ B hml hv
  obtain ⟨rfl, hP, hKX, hC⟩ := hv
  have hx := B.exec
  have hb := B.bytes
  have hr := B.returns
  have hts := atoms_spec (ws := cWW yX8_held cX8_held 1 (some .int)) B.pre
  have htw : ∀ w ∈ WW, w.before _ s = true := fun w h => hts w (List.mem_cons_of_mem _ h)
  have hown : s.vm.findClass RX8 = some m.cls := findClass_of_methodNamed B.named
  have hlocks := B.notSynchronized
  clear hts B
  have hS : va_S (fun _ => False) s.heap s.heap [] := va_S.rf
  have hl := lv_entry ([.int a1]) (n := 1) (Nat.le_of_ble_eq_true rfl)
  rw [lg_entry_eq]
  generalize (lg_sl ([.int a1]) ++ List.replicate (1 - (lg_sl ([.int a1])).length) Slot.unset).toArray = ls at hl ⊢
  have hl : lv_has ls 1 [(0, .int a1)] := hl
  unfold M_held at hf
  show W p l e ({ frames := 0, cells := 0, slots := 0, locals := 0 } : Room) s m _ below meth c s.heap [] 0 0 _ (F0 m 0 ls [])
  refine lv_iload_n hx hb dX8_held_0 rfl (lv_at hl 0 rfl) ?_
  refine lv_if_ge (tgt := 8) hx hb dX8_held_1 (by decide) (fun c1 => ?_) (fun c1 => ?_)
  · have hf := z_p c1 hf
    refine lv_iload_n hx hb dX8_held_8 rfl (lv_at hl 0 rfl) ?_
    refine lv_bipush (v := 6) hx hb dX8_held_9 rfl ?_
    refine lv_icmp_le (tgt := 19) hx hb dX8_held_11 (by decide) (fun c2 => ?_) (fun c2 => ?_)
    · have hf := z_p c2 hf
      refine lv_iload_n hx hb dX8_held_19 rfl (lv_at hl 0 rfl) ?_
      exact zr_Ri hx hb hr hlocks hf dX8_held_20
    · have hf := z_n c2 hf
      refine lv_bipush (v := 6) hx hb dX8_held_14 rfl ?_
      refine lv_goto (tgt := 20) hx hb dX8_held_16 (by decide) ?_
      exact zr_Ri hx hb hr hlocks hf dX8_held_20
  · have hf := z_n c1 hf
    refine lv_iconst (v := 0) hx hb dX8_held_4 rfl ?_
    refine lv_goto (tgt := 20) hx hb dX8_held_5 (by decide) ?_
    exact zr_Ri hx hb hr hlocks hf dX8_held_20

theorem hd_yX8_chanceOf : hdY yX8_chanceOf 3 := by decide +kernel
def M_chanceOf (row : MRow) (bx : Bx) (a1 : Int32) (a2 : Int32) (a3 : Int32) : Option (Int32) := z_gd (z_in ((5 * a1) + a2) 10) (z_let ((bx_skill bx) ((5 * a1) + a2).toNatClampNeg) (fun x2 : Int32 => z_jn (fun v3 : Int32 => some (M_held v3)) (fun k4 => if 0 ≤ a3 then (if a3 ≤ 0 then (k4 x2) else (z_gd (z_in (6 + a1) 78) (k4 (x2 + (row (6 + a1).toNatClampNeg))))) else (z_gd (z_in (4 + a1) 78) (k4 (x2 + (row (4 + a1).toNatClampNeg)))))))
set_option maxHeartbeats 4000000 in
set_option maxRecDepth 100000 in
theorem ctX8_chanceOf (l : Launch) (D : va_G) (ac cs : Nat → Nat) (q : Nat → Nat) (th : Th) (row : MRow) (un : Un) (kp : Kp) (mt : Mt) (ps : Ps) (bx : Bx) (mo : Mo) (su : Su) (wy : Wy) (wa : Wa) (od : Od) (py : Py) (ju : Ju) (pl : Pl) (rs : Rs) (a1 : Int32) (a2 : Int32) (a3 : Int32) (res : Int32) (hf : M_chanceOf row bx a1 a2 a3 = some res) : Met l yX8_chanceOf (cWW yX8_chanceOf cX8_chanceOf 5 (some .int)) { frames := 1, cells := 0, slots := 0, locals := 20 } (zR D ac cs [.ref (q 0), .int a1, .int a2, .int a3] (moW ac q th row un kp mt ps bx mo su wy wa od py ju pl rs)) (vp_Si (fun r => r = res)) 0 0 (fun _ => False) := by
  refine Met.ofW (cc := cX8_chanceOf) (maxL := 5) (ret := (some .int)) (by decide) rfl ?_
  intro p e s m args below meth c s₁ B hml hv
  obtain ⟨rfl, hP, hKX, hC⟩ := hv
  have hx := B.exec
  have hb := B.bytes
  have hr := B.returns
  have hts := atoms_spec (ws := cWW yX8_chanceOf cX8_chanceOf 5 (some .int)) B.pre
  have htw : ∀ w ∈ WW, w.before _ s = true := fun w h => hts w (List.mem_cons_of_mem _ h)
  have hown : s.vm.findClass RX8 = some m.cls := findClass_of_methodNamed B.named
  have hlocks := B.notSynchronized
  clear hts B
  have hS : va_S (fun _ => False) s.heap s.heap [] := va_S.rf
  have hl := lv_entry ([.ref (q 0), .int a1, .int a2, .int a3]) (n := 5) (Nat.le_of_ble_eq_true rfl)
  rw [lg_entry_eq]
  generalize (lg_sl ([.ref (q 0), .int a1, .int a2, .int a3]) ++ List.replicate (5 - (lg_sl ([.ref (q 0), .int a1, .int a2, .int a3])).length) Slot.unset).toArray = ls at hl ⊢
  have hl : lv_has ls 5 [(0, .ref (q 0)), (1, .int a1), (2, .int a2), (3, .int a3)] := hl
  unfold M_chanceOf at hf
  show W p l e ({ frames := 1, cells := 0, slots := 0, locals := 20 } : Room) s m _ below meth c s.heap [] 0 0 _ (F0 m 0 ls [])
  refine lv_aload_n hx hb dX8_chanceOf_0 rfl (lv_at hl 0 rfl) ?_
  refine va_get (D := D) (ci := 8) (v := .ref (q 8)) (C := RX8) (T := TX8) (N := 41) hx hb htw WW_wsX80 hown hKX.1 hP 0 rfl rfl 16 (Nat.le_of_ble_eq_true rfl) (htw _ mF_RX8_35) (fun _ h9 => h9) rfl dX8_chanceOf_1 ?_
  refine lv_iconst (v := 5) hx hb dX8_chanceOf_4 rfl ?_
  refine lv_iload_n hx hb dX8_chanceOf_5 rfl (lv_at hl 1 rfl) ?_
  refine lv_imul hx hb dX8_chanceOf_6 ?_
  refine lv_iload_n hx hb dX8_chanceOf_7 rfl (lv_at hl 2 rfl) ?_
  refine lv_iadd hx hb dX8_chanceOf_8 ?_
  obtain ⟨g1, hf⟩ := z_gd_u hf
  refine va_iald hx hb hKX.1 hP 8 0 rfl rfl (z_in_u g1) dX8_chanceOf_9 ?_
  refine lv_topi (fun x2 hx2 => ?_)
  have hf := z_let_u hx2 hf
  refine lv_istore (lv' := [(4, .int x2), (0, .ref (q 0)), (1, .int a1), (2, .int a2), (3, .int a3)]) hx hb dX8_chanceOf_10 hl (Nat.le_of_ble_eq_true rfl) rfl (fun ls hl => ?_)
  refine lv_iload_n hx hb dX8_chanceOf_12 rfl (lv_at hl 4 rfl) ?_
  obtain ⟨k4, hk4, hf⟩ := z_jn_u hf
  have hj5 : ∀ (v3 : Int32), k4 v3 = some res → ∀ (ls : Array Slot), lv_has ls 5 [] → W p l e ({ frames := 1, cells := 0, slots := 0, locals := 20 } : Room) s m (([.ref (q 0), .int a1, .int a2, .int a3] : List Value).toArray) below meth c s.heap [] 0 0 (MQ below (vp_Si (fun r => r = res)) ([.ref (q 0), .int a1, .int a2, .int a3] : List Value).toArray s 0 0 (fun _ => False)) (F0 m 51 ls [.int v3]) := by
    intro v3 hf ls hl
    have hf := hk4 _ hf
    refine zc_RSi (As := [.int v3]) (rest := []) hx hb hml hown htw (ctX8_held l D ac cs   v3   _ rfl) (g_S mM_RX8_220 mT_yX8_held mN_RX8 mC_yX8_held) (hd_yX8_held) ⟨rfl, rfl⟩ ⟨(Nat.le_of_ble_eq_true rfl), (Nat.le_of_ble_eq_true rfl)⟩ hKX hC hS zP0 rfl hl.1 rfl (Nat.le_of_ble_eq_true rfl) ⟨Nat.zero_le _, Nat.zero_le _⟩ dX8_chanceOf_51 ?_
    exact zr_Ri hx hb hr hlocks (Option.some.inj hf) dX8_chanceOf_54
  refine lv_if_ge (tgt := 30) hx hb dX8_chanceOf_13 (by decide) (fun c6 => ?_) (fun c6 => ?_)
  · have hf := z_p c6 hf
    refine lv_iload_n hx hb dX8_chanceOf_30 rfl (lv_at hl 4 rfl) ?_
    refine lv_if_le (tgt := 49) hx hb dX8_chanceOf_31 (by decide) (fun c7 => ?_) (fun c7 => ?_)
    · have hf := z_p c7 hf
      refine lv_iload hx hb dX8_chanceOf_49 (lv_at hl 0 rfl) ?_
      exact hj5 x2 hf ls (lv_sub hl [] rfl)
    · have hf := z_n c7 hf
      refine lv_iload hx hb dX8_chanceOf_34 (lv_at hl 0 rfl) ?_
      refine lv_aload_n hx hb dX8_chanceOf_36 rfl (lv_at hl 1 rfl) ?_
      refine va_get (D := D) (ci := 8) (v := .ref (q 1)) (C := RX8) (T := TX8) (N := 41) hx hb htw WW_wsX80 hown hKX.1 hP 0 rfl rfl 1 (Nat.le_of_ble_eq_true rfl) (htw _ mF_RX8_9) (fun _ h9 => h9) rfl dX8_chanceOf_37 ?_
      refine lv_bipush (v := 6) hx hb dX8_chanceOf_40 rfl ?_
      refine lv_iload_n hx hb dX8_chanceOf_42 rfl (lv_at hl 2 rfl) ?_
      refine lv_iadd hx hb dX8_chanceOf_43 ?_
      obtain ⟨g8, hf⟩ := z_gd_u hf
      refine va_iald hx hb hKX.1 hP 1 0 rfl rfl (z_in_u g8) dX8_chanceOf_44 ?_
      refine lv_iadd hx hb dX8_chanceOf_45 ?_
      refine lv_goto (tgt := 51) hx hb dX8_chanceOf_46 (by decide) ?_
      exact hj5 (x2 + (row (6 + a1).toNatClampNeg)) hf ls (lv_sub hl [] rfl)
  · have hf := z_n c6 hf
    refine lv_iload hx hb dX8_chanceOf_16 (lv_at hl 0 rfl) ?_
    refine lv_aload_n hx hb dX8_chanceOf_18 rfl (lv_at hl 1 rfl) ?_
    refine va_get (D := D) (ci := 8) (v := .ref (q 1)) (C := RX8) (T := TX8) (N := 41) hx hb htw WW_wsX80 hown hKX.1 hP 0 rfl rfl 1 (Nat.le_of_ble_eq_true rfl) (htw _ mF_RX8_9) (fun _ h9 => h9) rfl dX8_chanceOf_19 ?_
    refine lv_iconst (v := 4) hx hb dX8_chanceOf_22 rfl ?_
    refine lv_iload_n hx hb dX8_chanceOf_23 rfl (lv_at hl 2 rfl) ?_
    refine lv_iadd hx hb dX8_chanceOf_24 ?_
    obtain ⟨g9, hf⟩ := z_gd_u hf
    refine va_iald hx hb hKX.1 hP 1 0 rfl rfl (z_in_u g9) dX8_chanceOf_25 ?_
    refine lv_iadd hx hb dX8_chanceOf_26 ?_
    refine lv_goto (tgt := 51) hx hb dX8_chanceOf_27 (by decide) ?_
    exact hj5 (x2 + (row (4 + a1).toNatClampNeg)) hf ls (lv_sub hl [] rfl)

theorem hd_yX8_chanceNow : hdY yX8_chanceNow 0 := by decide +kernel
def M_chanceNow (row : MRow) (bx : Bx) (mo : Mo) : Option (Int32) := z_let (M_turnNow mo) (fun x1 : Int32 => z_bd (M_shooterNow row mo) (fun r2 : Int32 => z_gd (z_in x1 2) (z_gd (z_in (1 - x1) 2) (z_bd (M_chanceOf row bx x1 r2 (((mo_goals mo) x1.toNatClampNeg) - ((mo_goals mo) (1 - x1).toNatClampNeg))) (fun r5 : Int32 => some r5)))))
set_option maxHeartbeats 4000000 in
set_option maxRecDepth 100000 in
theorem ctX8_chanceNow (l : Launch) (D : va_G) (ac cs : Nat → Nat) (q : Nat → Nat) (th : Th) (row : MRow) (un : Un) (kp : Kp) (mt : Mt) (ps : Ps) (bx : Bx) (mo : Mo) (su : Su) (wy : Wy) (wa : Wa) (od : Od) (py : Py) (ju : Ju) (pl : Pl) (rs : Rs) (res : Int32) (hf : M_chanceNow row bx mo = some res) : Met l yX8_chanceNow (cWW yX8_chanceNow cX8_chanceNow 2 (some .int)) { frames := 2, cells := 0, slots := 0, locals := 44 } (zR D ac cs [.ref (q 0)] (moW ac q th row un kp mt ps bx mo su wy wa od py ju pl rs)) (vp_Si (fun r => r = res)) 0 0 (fun _ => False) := by
  refine Met.ofW (cc := cX8_chanceNow) (maxL := 2) (ret := (some .int)) (by decide) rfl ?_
  intro p e s m args below meth c s₁ B hml hv
  obtain ⟨rfl, hP, hKX, hC⟩ := hv
  have hx := B.exec
  have hb := B.bytes
  have hr := B.returns
  have hts := atoms_spec (ws := cWW yX8_chanceNow cX8_chanceNow 2 (some .int)) B.pre
  have htw : ∀ w ∈ WW, w.before _ s = true := fun w h => hts w (List.mem_cons_of_mem _ h)
  have hown : s.vm.findClass RX8 = some m.cls := findClass_of_methodNamed B.named
  have hlocks := B.notSynchronized
  clear hts B
  have hS : va_S (fun _ => False) s.heap s.heap [] := va_S.rf
  have hl := lv_entry ([.ref (q 0)]) (n := 2) (Nat.le_of_ble_eq_true rfl)
  rw [lg_entry_eq]
  generalize (lg_sl ([.ref (q 0)]) ++ List.replicate (2 - (lg_sl ([.ref (q 0)])).length) Slot.unset).toArray = ls at hl ⊢
  have hl : lv_has ls 2 [(0, .ref (q 0))] := hl
  unfold M_chanceNow at hf
  show W p l e ({ frames := 2, cells := 0, slots := 0, locals := 44 } : Room) s m _ below meth c s.heap [] 0 0 _ (F0 m 0 ls [])
  refine lv_aload_n hx hb dX8_chanceNow_0 rfl (lv_at hl 0 rfl) ?_
  refine zc_RVi (As := []) (rest := []) hx hb hml hown htw (ctX8_turnNow l D ac cs q th row un kp mt ps bx mo su wy wa od py ju pl rs    _ rfl) (g_V mM_RX8_223 mI_yX8_turnNow mS_RX8_yX8_turnNow_yX8_turnNow mN_RX8 mC_yX8_turnNow) rfl (hd_yX8_turnNow) ⟨rfl, rfl⟩ ⟨(Nat.le_of_ble_eq_true rfl), (Nat.le_of_ble_eq_true rfl)⟩ hKX hC hS hP 8 rfl rfl rfl hl.1 rfl (Nat.le_of_ble_eq_true rfl) ⟨Nat.zero_le _, Nat.zero_le _⟩ dX8_chanceNow_1 ?_
  refine lv_topi (fun x1 hx1 => ?_)
  have hf := z_let_u hx1 hf
  refine lv_istore_n (lv' := [(1, .int x1), (0, .ref (q 0))]) hx hb dX8_chanceNow_4 rfl hl (Nat.le_of_ble_eq_true rfl) rfl (fun ls hl => ?_)
  refine lv_aload_n hx hb dX8_chanceNow_5 rfl (lv_at hl 1 rfl) ?_
  refine lv_iload_n hx hb dX8_chanceNow_6 rfl (lv_at hl 0 rfl) ?_
  refine lv_aload_n hx hb dX8_chanceNow_7 rfl (lv_at hl 1 rfl) ?_
  obtain ⟨r2, hr2, hf⟩ := z_bd_u hf
  refine zc_RVi (As := []) (rest := [.int x1, .ref (q 0)]) hx hb hml hown htw (ctX8_shooterNow l D ac cs q th row un kp mt ps bx mo su wy wa od py ju pl rs    _ hr2) (g_V mM_RX8_226 mI_yX8_shooterNow mS_RX8_yX8_shooterNow_yX8_shooterNow mN_RX8 mC_yX8_shooterNow) rfl (hd_yX8_shooterNow) ⟨rfl, rfl⟩ ⟨(Nat.le_of_ble_eq_true rfl), (Nat.le_of_ble_eq_true rfl)⟩ hKX hC hS hP 8 rfl rfl rfl hl.1 rfl (Nat.le_of_ble_eq_true rfl) ⟨Nat.zero_le _, Nat.zero_le _⟩ dX8_chanceNow_8 ?_
  refine lv_aload_n hx hb dX8_chanceNow_11 rfl (lv_at hl 1 rfl) ?_
  refine va_get (D := D) (ci := 8) (v := .ref (q 9)) (C := RX8) (T := TX8) (N := 41) hx hb htw WW_wsX80 hown hKX.1 hP 0 rfl rfl 17 (Nat.le_of_ble_eq_true rfl) (htw _ mF_RX8_38) (fun _ h9 => h9) rfl dX8_chanceNow_12 ?_
  refine lv_iload_n hx hb dX8_chanceNow_15 rfl (lv_at hl 0 rfl) ?_
  obtain ⟨g3, hf⟩ := z_gd_u hf
  refine va_iald hx hb hKX.1 hP 9 0 rfl rfl (z_in_u g3) dX8_chanceNow_16 ?_
  refine lv_aload_n hx hb dX8_chanceNow_17 rfl (lv_at hl 1 rfl) ?_
  refine va_get (D := D) (ci := 8) (v := .ref (q 9)) (C := RX8) (T := TX8) (N := 41) hx hb htw WW_wsX80 hown hKX.1 hP 0 rfl rfl 17 (Nat.le_of_ble_eq_true rfl) (htw _ mF_RX8_38) (fun _ h9 => h9) rfl dX8_chanceNow_18 ?_
  refine lv_iconst (v := 1) hx hb dX8_chanceNow_21 rfl ?_
  refine lv_iload_n hx hb dX8_chanceNow_22 rfl (lv_at hl 0 rfl) ?_
  refine lv_isub hx hb dX8_chanceNow_23 ?_
  obtain ⟨g4, hf⟩ := z_gd_u hf
  refine va_iald hx hb hKX.1 hP 9 0 rfl rfl (z_in_u g4) dX8_chanceNow_24 ?_
  refine lv_isub hx hb dX8_chanceNow_25 ?_
  obtain ⟨r5, hr5, hf⟩ := z_bd_u hf
  refine zc_RVi (As := [.int x1, .int r2, .int (((mo_goals mo) x1.toNatClampNeg) - ((mo_goals mo) (1 - x1).toNatClampNeg))]) (rest := []) hx hb hml hown htw (ctX8_chanceOf l D ac cs q th row un kp mt ps bx mo su wy wa od py ju pl rs x1 r2 (((mo_goals mo) x1.toNatClampNeg) - ((mo_goals mo) (1 - x1).toNatClampNeg))   _ hr5) (g_V mM_RX8_229 mI_yX8_chanceOf mS_RX8_yX8_chanceOf_yX8_chanceOf mN_RX8 mC_yX8_chanceOf) rfl (hd_yX8_chanceOf) ⟨rfl, rfl⟩ ⟨(Nat.le_of_ble_eq_true rfl), (Nat.le_of_ble_eq_true rfl)⟩ hKX hC hS hP 8 rfl rfl rfl hl.1 rfl (Nat.le_of_ble_eq_true rfl) ⟨Nat.zero_le _, Nat.zero_le _⟩ dX8_chanceNow_26 ?_
  exact zr_Ri hx hb hr hlocks (Option.some.inj hf) dX8_chanceNow_29

theorem hd_yX8_isCaught : hdY yX8_isCaught 1 := by decide +kernel
def M_isCaught (row : MRow) (mo : Mo) (a1 : Int32) : Option (Int32) := z_gd (z_in a1 2) (z_gd (z_in (1 - a1) 2) (z_gd (z_in (1 - a1) 2) (if (((mo_goals mo) a1.toNatClampNeg) - ((mo_goals mo) (1 - a1).toNatClampNeg)) ≤ ((M_n row) - ((mo_kicked mo) (1 - a1).toNatClampNeg)) then (some 0) else (some 1))))
set_option maxHeartbeats 4000000 in
set_option maxRecDepth 100000 in
theorem ctX8_isCaught (l : Launch) (D : va_G) (ac cs : Nat → Nat) (q : Nat → Nat) (th : Th) (row : MRow) (un : Un) (kp : Kp) (mt : Mt) (ps : Ps) (bx : Bx) (mo : Mo) (su : Su) (wy : Wy) (wa : Wa) (od : Od) (py : Py) (ju : Ju) (pl : Pl) (rs : Rs) (a1 : Int32) (res : Int32) (hf : M_isCaught row mo a1 = some res) : Met l yX8_isCaught (cWW yX8_isCaught cX8_isCaught 2 (some .boolean)) { frames := 1, cells := 0, slots := 0, locals := 20 } (zR D ac cs [.ref (q 0), .int a1] (moW ac q th row un kp mt ps bx mo su wy wa od py ju pl rs)) (vp_Si (fun r => r = res)) 0 0 (fun _ => False) := by
  refine Met.ofW (cc := cX8_isCaught) (maxL := 2) (ret := (some .boolean)) (by decide) rfl ?_
  intro p e s m args below meth c s₁ B hml hv
  obtain ⟨rfl, hP, hKX, hC⟩ := hv
  have hx := B.exec
  have hb := B.bytes
  have hr := B.returns
  have hts := atoms_spec (ws := cWW yX8_isCaught cX8_isCaught 2 (some .boolean)) B.pre
  have htw : ∀ w ∈ WW, w.before _ s = true := fun w h => hts w (List.mem_cons_of_mem _ h)
  have hown : s.vm.findClass RX8 = some m.cls := findClass_of_methodNamed B.named
  have hlocks := B.notSynchronized
  clear hts B
  have hS : va_S (fun _ => False) s.heap s.heap [] := va_S.rf
  have hl := lv_entry ([.ref (q 0), .int a1]) (n := 2) (Nat.le_of_ble_eq_true rfl)
  rw [lg_entry_eq]
  generalize (lg_sl ([.ref (q 0), .int a1]) ++ List.replicate (2 - (lg_sl ([.ref (q 0), .int a1])).length) Slot.unset).toArray = ls at hl ⊢
  have hl : lv_has ls 2 [(0, .ref (q 0)), (1, .int a1)] := hl
  unfold M_isCaught at hf
  show W p l e ({ frames := 1, cells := 0, slots := 0, locals := 20 } : Room) s m _ below meth c s.heap [] 0 0 _ (F0 m 0 ls [])
  refine lv_aload_n hx hb dX8_isCaught_0 rfl (lv_at hl 0 rfl) ?_
  refine va_get (D := D) (ci := 8) (v := .ref (q 9)) (C := RX8) (T := TX8) (N := 41) hx hb htw WW_wsX80 hown hKX.1 hP 0 rfl rfl 17 (Nat.le_of_ble_eq_true rfl) (htw _ mF_RX8_38) (fun _ h9 => h9) rfl dX8_isCaught_1 ?_
  refine lv_iload_n hx hb dX8_isCaught_4 rfl (lv_at hl 1 rfl) ?_
  obtain ⟨g1, hf⟩ := z_gd_u hf
  refine va_iald hx hb hKX.1 hP 9 0 rfl rfl (z_in_u g1) dX8_isCaught_5 ?_
  refine lv_aload_n hx hb dX8_isCaught_6 rfl (lv_at hl 0 rfl) ?_
  refine va_get (D := D) (ci := 8) (v := .ref (q 9)) (C := RX8) (T := TX8) (N := 41) hx hb htw WW_wsX80 hown hKX.1 hP 0 rfl rfl 17 (Nat.le_of_ble_eq_true rfl) (htw _ mF_RX8_38) (fun _ h9 => h9) rfl dX8_isCaught_7 ?_
  refine lv_iconst (v := 1) hx hb dX8_isCaught_10 rfl ?_
  refine lv_iload_n hx hb dX8_isCaught_11 rfl (lv_at hl 1 rfl) ?_
  refine lv_isub hx hb dX8_isCaught_12 ?_
  obtain ⟨g2, hf⟩ := z_gd_u hf
  refine va_iald hx hb hKX.1 hP 9 0 rfl rfl (z_in_u g2) dX8_isCaught_13 ?_
  refine lv_isub hx hb dX8_isCaught_14 ?_
  refine lv_aload_n hx hb dX8_isCaught_15 rfl (lv_at hl 0 rfl) ?_
  refine zc_RVi (As := []) (rest := [.int (((mo_goals mo) a1.toNatClampNeg) - ((mo_goals mo) (1 - a1).toNatClampNeg))]) hx hb hml hown htw (ctX8_n l D ac cs q th row un kp mt ps bx mo su wy wa od py ju pl rs    _ rfl) (g_V mM_RX8_190 mI_yX8_n mS_RX8_yX8_n_yX8_n mN_RX8 mC_yX8_n) rfl (hd_yX8_n) ⟨rfl, rfl⟩ ⟨(Nat.le_of_ble_eq_true rfl), (Nat.le_of_ble_eq_true rfl)⟩ hKX hC hS hP 8 rfl rfl rfl hl.1 rfl (Nat.le_of_ble_eq_true rfl) ⟨Nat.zero_le _, Nat.zero_le _⟩ dX8_isCaught_16 ?_
  refine lv_aload_n hx hb dX8_isCaught_19 rfl (lv_at hl 0 rfl) ?_
  refine va_get (D := D) (ci := 8) (v := .ref (q 10)) (C := RX8) (T := TX8) (N := 41) hx hb htw WW_wsX80 hown hKX.1 hP 0 rfl rfl 18 (Nat.le_of_ble_eq_true rfl) (htw _ mF_RX8_41) (fun _ h9 => h9) rfl dX8_isCaught_20 ?_
  refine lv_iconst (v := 1) hx hb dX8_isCaught_23 rfl ?_
  refine lv_iload_n hx hb dX8_isCaught_24 rfl (lv_at hl 1 rfl) ?_
  refine lv_isub hx hb dX8_isCaught_25 ?_
  obtain ⟨g3, hf⟩ := z_gd_u hf
  refine va_iald hx hb hKX.1 hP 10 0 rfl rfl (z_in_u g3) dX8_isCaught_26 ?_
  refine lv_isub hx hb dX8_isCaught_27 ?_
  refine lv_icmp_le (tgt := 35) hx hb dX8_isCaught_28 (by decide) (fun c4 => ?_) (fun c4 => ?_)
  · have hf := z_p c4 hf
    refine lv_iconst (v := 0) hx hb dX8_isCaught_35 rfl ?_
    exact zr_Rz hx hb hr hlocks (z_b_n z_b0) (Option.some.inj hf) dX8_isCaught_36
  · have hf := z_n c4 hf
    refine lv_iconst (v := 1) hx hb dX8_isCaught_31 rfl ?_
    refine lv_goto (tgt := 36) hx hb dX8_isCaught_32 (by decide) ?_
    exact zr_Rz hx hb hr hlocks (z_b_n z_b1) (Option.some.inj hf) dX8_isCaught_36

theorem hd_yX8_go : hdY yX8_go 1 := by decide +kernel
def M_go (F : Nat) (row : MRow) (bx : Bx) (mo : Mo) (a1 : Int32) : Option (Mo) := z_let (M_turnNow mo) (fun x1 : Int32 => z_gd (z_in x1 2) (z_let (((mo_goals mo) x1.toNatClampNeg) + a1) (fun x3 : Int32 => z_gd (z_in x1 2) (z_gd (z_in x1 2) (z_let (((mo_kicked mo) x1.toNatClampNeg) + 1) (fun x6 : Int32 => z_gd (z_in x1 2) (z_let ((mo_kicks mo) + 1) (fun x8 : Int32 => z_jn (fun v9 : Int32 => z_gd (z_b v9) (z_jn (fun v13 : Int32 => some ((upd (mo_goals mo) x1.toNatClampNeg x3), (upd (mo_kicked mo) x1.toNatClampNeg x6), x8, v13, v9)) (fun k14 => if (z_rem x8 2) = 0 then (z_bd (M_leaderOf F row bx ((upd (mo_goals mo) x1.toNatClampNeg x3), (upd (mo_kicked mo) x1.toNatClampNeg x6), x8, (mo_leader mo), v9) (x8 / 2)) (fun r17 : Int32 => k14 r17)) else (k14 (mo_leader mo))))) (fun k10 => if (2 * (M_n row)) < x8 then (z_jn (fun _ : Unit => k10 0) (fun k19 => if (z_rem x8 2) = 0 then (if ((upd (mo_goals mo) x1.toNatClampNeg x3) 0) = ((upd (mo_goals mo) x1.toNatClampNeg x3) 1) then (k19 ()) else (k10 1)) else (k19 ()))) else (z_bd (M_isCaught row ((upd (mo_goals mo) x1.toNatClampNeg x3), (upd (mo_kicked mo) x1.toNatClampNeg x6), x8, (mo_leader mo), (mo_isOver mo)) 0) (fun r23 : Int32 => z_jn (fun _ : Unit => k10 1) (fun k24 => if r23 = 0 then (z_bd (M_isCaught row ((upd (mo_goals mo) x1.toNatClampNeg x3), (upd (mo_kicked mo) x1.toNatClampNeg x6), x8, (mo_leader mo), (mo_isOver mo)) 1) (fun r27 : Int32 => if r27 = 0 then (k10 0) else (k24 ()))) else (k24 ())))))))))))))
set_option maxHeartbeats 4000000 in
set_option maxRecDepth 100000 in
theorem ctX8_go (l : Launch) (D : va_G) (ac cs : Nat → Nat) (q : Nat → Nat) (sz : Nat) (th : Th) (row : MRow) (un : Un) (kp : Kp) (mt : Mt) (ps : Ps) (bx : Bx) (mo : Mo) (su : Su) (wy : Wy) (wa : Wa) (od : Od) (py : Py) (ju : Ju) (pl : Pl) (rs : Rs) (a1 : Int32) (F : Nat) (res : Mo) (hf : M_go F row bx mo a1 = some res) : Met l yX8_go (cWW yX8_go cX8_go 3 none) { frames := 2, cells := 0, slots := 0, locals := 43 } (zM D ac cs [.ref (q 0), .int a1] (moW ac q th row un kp mt ps bx mo su wy wa od py ju pl rs) sz) (va_Qv (fun _ : Unit => True) (fun _ => zB D (va_A (moW ac q th row un kp mt ps bx mo su wy wa od py ju pl rs) sz) (moW ac q th row un kp mt ps bx res su wy wa od py ju pl rs)) (va_A (moW ac q th row un kp mt ps bx mo su wy wa od py ju pl rs) sz)) 0 0 (va_A (moW ac q th row un kp mt ps bx mo su wy wa od py ju pl rs) sz) := by
  refine Met.ofW (cc := cX8_go) (maxL := 3) (ret := none) (by decide) rfl ?_
  intro p e s m args below meth c s₁ B hml hv
  obtain ⟨rfl, hsz, hP, hKX, hD0, hC⟩ := hv
  have hx := B.exec
  have hb := B.bytes
  have hr := B.returns
  have hts := atoms_spec (ws := cWW yX8_go cX8_go 3 none) B.pre
  have htw : ∀ w ∈ WW, w.before _ s = true := fun w h => hts w (List.mem_cons_of_mem _ h)
  have hown : s.vm.findClass RX8 = some m.cls := findClass_of_methodNamed B.named
  have hlocks := B.notSynchronized
  clear hts B
  subst hsz
  have hD := hD0.self (sz := s.heap.size)
  generalize hAe : va_A (moW ac q th row un kp mt ps bx mo su wy wa od py ju pl rs) s.heap.size = A at hD hC ⊢
  have hA : ∀ q : Nat, s.heap.size ≤ q → A q := fun q h => by rw [← hAe]; exact Or.inr h
  have hS : va_S A s.heap s.heap [] := va_S.rf
  clear hD0 hAe
  have hP : va_P D vwCl (moW ac q th row un kp mt ps bx mo su wy wa od py ju pl rs) s.heap := hP
  have hl := lv_entry ([.ref (q 0), .int a1]) (n := 3) (Nat.le_of_ble_eq_true rfl)
  rw [lg_entry_eq]
  generalize (lg_sl ([.ref (q 0), .int a1]) ++ List.replicate (3 - (lg_sl ([.ref (q 0), .int a1])).length) Slot.unset).toArray = ls at hl ⊢
  have hl : lv_has ls 3 [(0, .ref (q 0)), (1, .int a1)] := hl
  unfold M_go at hf
  show W p l e ({ frames := 2, cells := 0, slots := 0, locals := 43 } : Room) s m _ below meth c s.heap [] 0 0 _ (F0 m 0 ls [])
  refine lv_aload_n hx hb dX8_go_0 rfl (lv_at hl 0 rfl) ?_
  refine zc_RVi (As := []) (rest := []) hx hb hml hown htw (ctX8_turnNow l D ac cs q th row un kp mt ps bx mo su wy wa od py ju pl rs    _ rfl) (g_V mM_RX8_223 mI_yX8_turnNow mS_RX8_yX8_turnNow_yX8_turnNow mN_RX8 mC_yX8_turnNow) rfl (hd_yX8_turnNow) ⟨rfl, rfl⟩ ⟨(Nat.le_of_ble_eq_true rfl), (Nat.le_of_ble_eq_true rfl)⟩ hKX hC hS hP 8 rfl rfl rfl hl.1 rfl (Nat.le_of_ble_eq_true rfl) ⟨Nat.zero_le _, Nat.zero_le _⟩ dX8_go_1 ?_
  refine lv_topi (fun x1 hx1 => ?_)
  have hf := z_let_u hx1 hf
  refine lv_istore_n (lv' := [(2, .int x1), (0, .ref (q 0)), (1, .int a1)]) hx hb dX8_go_4 rfl hl (Nat.le_of_ble_eq_true rfl) rfl (fun ls hl => ?_)
  refine lv_aload_n hx hb dX8_go_5 rfl (lv_at hl 1 rfl) ?_
  refine va_get (D := D) (ci := 8) (v := .ref (q 9)) (C := RX8) (T := TX8) (N := 41) hx hb htw WW_wsX80 hown hKX.1 hP 0 rfl rfl 17 (Nat.le_of_ble_eq_true rfl) (htw _ mF_RX8_38) (fun _ h9 => h9) rfl dX8_go_6 ?_
  refine lv_iload_n hx hb dX8_go_9 rfl (lv_at hl 0 rfl) ?_
  refine lv_dup2_11 hx hb dX8_go_10 rfl rfl ?_
  obtain ⟨g2, hf⟩ := z_gd_u hf
  refine va_iald hx hb hKX.1 hP 9 0 rfl rfl (z_in_u g2) dX8_go_11 ?_
  refine lv_iload_n hx hb dX8_go_12 rfl (lv_at hl 2 rfl) ?_
  refine lv_iadd hx hb dX8_go_13 ?_
  refine lv_topi (fun x3 hx3 => ?_)
  have hf := z_let_u hx3 hf
  obtain ⟨g4, hf⟩ := z_gd_u hf
  refine va_iast hx hb hKX.1 hP hD hS 9 0 rfl rfl (z_in_u g4) dX8_go_14 (fun H locs hP hD hS => ?_)
  have hP : va_P D vwCl (moW ac q th row un kp mt ps bx ((upd (mo_goals mo) x1.toNatClampNeg x3), (mo_kicked mo), (mo_kicks mo), (mo_leader mo), (mo_isOver mo)) su wy wa od py ju pl rs) H := hP
  have hD : va_D A (moW ac q th row un kp mt ps bx ((upd (mo_goals mo) x1.toNatClampNeg x3), (mo_kicked mo), (mo_kicks mo), (mo_leader mo), (mo_isOver mo)) su wy wa od py ju pl rs) := hD
  refine lv_aload_n hx hb dX8_go_15 rfl (lv_at hl 1 rfl) ?_
  refine va_get (D := D) (ci := 8) (v := .ref (q 10)) (C := RX8) (T := TX8) (N := 41) hx hb htw WW_wsX80 hown hKX.1 hP 0 rfl rfl 18 (Nat.le_of_ble_eq_true rfl) (htw _ mF_RX8_41) (fun _ h9 => h9) rfl dX8_go_16 ?_
  refine lv_iload_n hx hb dX8_go_19 rfl (lv_at hl 0 rfl) ?_
  refine lv_dup2_11 hx hb dX8_go_20 rfl rfl ?_
  obtain ⟨g5, hf⟩ := z_gd_u hf
  refine va_iald hx hb hKX.1 hP 10 0 rfl rfl (z_in_u g5) dX8_go_21 ?_
  refine lv_iconst (v := 1) hx hb dX8_go_22 rfl ?_
  refine lv_iadd hx hb dX8_go_23 ?_
  refine lv_topi (fun x6 hx6 => ?_)
  have hf := z_let_u hx6 hf
  obtain ⟨g7, hf⟩ := z_gd_u hf
  refine va_iast hx hb hKX.1 hP hD hS 10 0 rfl rfl (z_in_u g7) dX8_go_24 (fun H locs hP hD hS => ?_)
  have hP : va_P D vwCl (moW ac q th row un kp mt ps bx ((upd (mo_goals mo) x1.toNatClampNeg x3), (upd (mo_kicked mo) x1.toNatClampNeg x6), (mo_kicks mo), (mo_leader mo), (mo_isOver mo)) su wy wa od py ju pl rs) H := hP
  have hD : va_D A (moW ac q th row un kp mt ps bx ((upd (mo_goals mo) x1.toNatClampNeg x3), (upd (mo_kicked mo) x1.toNatClampNeg x6), (mo_kicks mo), (mo_leader mo), (mo_isOver mo)) su wy wa od py ju pl rs) := hD
  refine lv_aload_n hx hb dX8_go_25 rfl (lv_at hl 1 rfl) ?_
  refine lv_dup hx hb dX8_go_26 rfl ?_
  refine va_get (D := D) (ci := 8) (v := .int (mo_kicks mo)) (C := RX8) (T := TX8) (N := 41) hx hb htw WW_wsX80 hown hKX.1 hP 0 rfl rfl 19 (Nat.le_of_ble_eq_true rfl) (htw _ mF_RX8_202) (fun _ h9 => h9) rfl dX8_go_27 ?_
  refine lv_iconst (v := 1) hx hb dX8_go_30 rfl ?_
  refine lv_iadd hx hb dX8_go_31 ?_
  refine lv_topi (fun x8 hx8 => ?_)
  have hf := z_let_u hx8 hf
  refine va_put (D := D) (ci := 8) (v := .int x8) (ty := tyX8 19) (C := RX8) (T := TX8) (N := 41) hx hb htw WW_wsX80 tyX8 tyX8_ok nmX8 hown hKX.1 hP hD hS 0 rfl rfl 19 (Nat.le_of_ble_eq_true rfl) (htw _ mF_RX8_202) (fun _ h9 => h9) rfl (tyX8_ok 19 (Nat.le_of_ble_eq_true rfl)) rfl rfl (Nat.le_of_ble_eq_true rfl) dX8_go_32 (fun H locs hP hD hS => ?_)
  have hP : va_P D vwCl (moW ac q th row un kp mt ps bx ((upd (mo_goals mo) x1.toNatClampNeg x3), (upd (mo_kicked mo) x1.toNatClampNeg x6), x8, (mo_leader mo), (mo_isOver mo)) su wy wa od py ju pl rs) H := hP
  have hD : va_D A (moW ac q th row un kp mt ps bx ((upd (mo_goals mo) x1.toNatClampNeg x3), (upd (mo_kicked mo) x1.toNatClampNeg x6), x8, (mo_leader mo), (mo_isOver mo)) su wy wa od py ju pl rs) := hD
  refine lv_aload_n hx hb dX8_go_35 rfl (lv_at hl 1 rfl) ?_
  refine lv_aload_n hx hb dX8_go_36 rfl (lv_at hl 1 rfl) ?_
  refine va_get (D := D) (ci := 8) (v := .int x8) (C := RX8) (T := TX8) (N := 41) hx hb htw WW_wsX80 hown hKX.1 hP 0 rfl rfl 19 (Nat.le_of_ble_eq_true rfl) (htw _ mF_RX8_202) (fun _ h9 => h9) rfl dX8_go_37 ?_
  refine lv_iconst (v := 2) hx hb dX8_go_40 rfl ?_
  refine lv_aload_n hx hb dX8_go_41 rfl (lv_at hl 1 rfl) ?_
  refine zc_RVi (As := []) (rest := [.int 2, .int x8, .ref (q 0)]) hx hb hml hown htw (ctX8_n l D ac cs q th row un kp mt ps bx ((upd (mo_goals mo) x1.toNatClampNeg x3), (upd (mo_kicked mo) x1.toNatClampNeg x6), x8, (mo_leader mo), (mo_isOver mo)) su wy wa od py ju pl rs    _ rfl) (g_V mM_RX8_190 mI_yX8_n mS_RX8_yX8_n_yX8_n mN_RX8 mC_yX8_n) rfl (hd_yX8_n) ⟨rfl, rfl⟩ ⟨(Nat.le_of_ble_eq_true rfl), (Nat.le_of_ble_eq_true rfl)⟩ hKX hC hS hP 8 rfl rfl rfl hl.1 rfl (Nat.le_of_ble_eq_true rfl) ⟨Nat.zero_le _, Nat.zero_le _⟩ dX8_go_42 ?_
  refine lv_imul hx hb dX8_go_45 ?_
  obtain ⟨k10, hk10, hf⟩ := z_jn_u hf
  have hj11 : ∀ (v9 : Int32), k10 v9 = some res → ∀ (H : Heap) (locs : List Loc) (ls : Array Slot), va_P D vwCl (moW ac q th row un kp mt ps bx ((upd (mo_goals mo) x1.toNatClampNeg x3), (upd (mo_kicked mo) x1.toNatClampNeg x6), x8, (mo_leader mo), (mo_isOver mo)) su wy wa od py ju pl rs) H → va_D A (moW ac q th row un kp mt ps bx ((upd (mo_goals mo) x1.toNatClampNeg x3), (upd (mo_kicked mo) x1.toNatClampNeg x6), x8, (mo_leader mo), (mo_isOver mo)) su wy wa od py ju pl rs) → va_S A s.heap H locs → lv_has ls 3 [(0, .ref (q 0))] → W p l e ({ frames := 2, cells := 0, slots := 0, locals := 43 } : Room) s m (([.ref (q 0), .int a1] : List Value).toArray) below meth c H locs 0 0 (MQ below (va_Qv (fun _ : Unit => True) (fun _ => zB D A (moW ac q th row un kp mt ps bx res su wy wa od py ju pl rs)) A) ([.ref (q 0), .int a1] : List Value).toArray s 0 0 A) (F0 m 102 ls [.int v9, .ref (q 0)]) := by
    intro v9 hf H locs ls hP hD hS hl
    have hf := hk10 _ hf
    obtain ⟨g12, hf⟩ := z_gd_u hf
    refine va_put (D := D) (ci := 8) (v := .int v9) (ty := tyX8 21) (C := RX8) (T := TX8) (N := 41) hx hb htw WW_wsX80 tyX8 tyX8_ok nmX8 hown hKX.1 hP hD hS 0 rfl rfl 21 (Nat.le_of_ble_eq_true rfl) (htw _ mF_RX8_208) (fun _ h9 => h9) rfl (tyX8_ok 21 (Nat.le_of_ble_eq_true rfl)) (z_b_n g12) (z_b_f g12) (Nat.le_of_ble_eq_true rfl) dX8_go_102 (fun H locs hP hD hS => ?_)
    have hP : va_P D vwCl (moW ac q th row un kp mt ps bx ((upd (mo_goals mo) x1.toNatClampNeg x3), (upd (mo_kicked mo) x1.toNatClampNeg x6), x8, (mo_leader mo), v9) su wy wa od py ju pl rs) H := hP
    have hD : va_D A (moW ac q th row un kp mt ps bx ((upd (mo_goals mo) x1.toNatClampNeg x3), (upd (mo_kicked mo) x1.toNatClampNeg x6), x8, (mo_leader mo), v9) su wy wa od py ju pl rs) := hD
    refine lv_aload_n hx hb dX8_go_105 rfl (lv_at hl 0 rfl) ?_
    refine lv_aload_n hx hb dX8_go_106 rfl (lv_at hl 0 rfl) ?_
    refine va_get (D := D) (ci := 8) (v := .int x8) (C := RX8) (T := TX8) (N := 41) hx hb htw WW_wsX80 hown hKX.1 hP 0 rfl rfl 19 (Nat.le_of_ble_eq_true rfl) (htw _ mF_RX8_202) (fun _ h9 => h9) rfl dX8_go_107 ?_
    refine lv_iconst (v := 2) hx hb dX8_go_110 rfl ?_
    refine zv_irem hx hb dX8_go_111 (by decide) ?_
    obtain ⟨k14, hk14, hf⟩ := z_jn_u hf
    have hj15 : ∀ (v13 : Int32), k14 v13 = some res → ∀ (H : Heap) (locs : List Loc) (ls : Array Slot), va_P D vwCl (moW ac q th row un kp mt ps bx ((upd (mo_goals mo) x1.toNatClampNeg x3), (upd (mo_kicked mo) x1.toNatClampNeg x6), x8, (mo_leader mo), v9) su wy wa od py ju pl rs) H → va_D A (moW ac q th row un kp mt ps bx ((upd (mo_goals mo) x1.toNatClampNeg x3), (upd (mo_kicked mo) x1.toNatClampNeg x6), x8, (mo_leader mo), v9) su wy wa od py ju pl rs) → va_S A s.heap H locs → lv_has ls 3 [] → W p l e ({ frames := 2, cells := 0, slots := 0, locals := 43 } : Room) s m (([.ref (q 0), .int a1] : List Value).toArray) below meth c H locs 0 0 (MQ below (va_Qv (fun _ : Unit => True) (fun _ => zB D A (moW ac q th row un kp mt ps bx res su wy wa od py ju pl rs)) A) ([.ref (q 0), .int a1] : List Value).toArray s 0 0 A) (F0 m 132 ls [.int v13, .ref (q 0)]) := by
      intro v13 hf H locs ls hP hD hS hl
      have hf := hk14 _ hf
      refine va_put (D := D) (ci := 8) (v := .int v13) (ty := tyX8 20) (C := RX8) (T := TX8) (N := 41) hx hb htw WW_wsX80 tyX8 tyX8_ok nmX8 hown hKX.1 hP hD hS 0 rfl rfl 20 (Nat.le_of_ble_eq_true rfl) (htw _ mF_RX8_205) (fun _ h9 => h9) rfl (tyX8_ok 20 (Nat.le_of_ble_eq_true rfl)) rfl rfl (Nat.le_of_ble_eq_true rfl) dX8_go_132 (fun H locs hP hD hS => ?_)
      have hP : va_P D vwCl (moW ac q th row un kp mt ps bx ((upd (mo_goals mo) x1.toNatClampNeg x3), (upd (mo_kicked mo) x1.toNatClampNeg x6), x8, v13, v9) su wy wa od py ju pl rs) H := hP
      have hD : va_D A (moW ac q th row un kp mt ps bx ((upd (mo_goals mo) x1.toNatClampNeg x3), (upd (mo_kicked mo) x1.toNatClampNeg x6), x8, v13, v9) su wy wa od py ju pl rs) := hD
      obtain rfl := Option.some.inj hf
      exact zr_Mv hx hb hr hlocks hP hD hS dX8_go_135
    refine lv_if_ne (tgt := 128) hx hb dX8_go_112 (by decide) (fun c16 => ?_) (fun c16 => ?_)
    · have hf := z_n c16 hf
      refine lv_aload_n hx hb dX8_go_128 rfl (lv_at hl 0 rfl) ?_
      refine va_get (D := D) (ci := 8) (v := .int (mo_leader mo)) (C := RX8) (T := TX8) (N := 41) hx hb htw WW_wsX80 hown hKX.1 hP 0 rfl rfl 20 (Nat.le_of_ble_eq_true rfl) (htw _ mF_RX8_205) (fun _ h9 => h9) rfl dX8_go_129 ?_
      exact hj15 (mo_leader mo) hf _ _ ls  hP hD hS (lv_sub hl [] rfl)
    · have hf := z_p c16 hf
      refine lv_aload_n hx hb dX8_go_115 rfl (lv_at hl 0 rfl) ?_
      refine lv_aload_n hx hb dX8_go_116 rfl (lv_at hl 0 rfl) ?_
      refine va_get (D := D) (ci := 8) (v := .int x8) (C := RX8) (T := TX8) (N := 41) hx hb htw WW_wsX80 hown hKX.1 hP 0 rfl rfl 19 (Nat.le_of_ble_eq_true rfl) (htw _ mF_RX8_202) (fun _ h9 => h9) rfl dX8_go_117 ?_
      refine lv_iconst (v := 2) hx hb dX8_go_120 rfl ?_
      refine lv_idiv hx hb dX8_go_121 (by decide) ?_
      obtain ⟨r17, hr17, hf⟩ := z_bd_u hf
      refine zc_RVi (As := [.int (x8 / 2)]) (rest := [.ref (q 0)]) hx hb hml hown htw (ctX8_leaderOf l D ac cs q th row un kp mt ps bx ((upd (mo_goals mo) x1.toNatClampNeg x3), (upd (mo_kicked mo) x1.toNatClampNeg x6), x8, (mo_leader mo), v9) su wy wa od py ju pl rs (x8 / 2)   F _ hr17) (g_V mM_RX8_236 mI_yX8_leaderOf mS_RX8_yX8_leaderOf_yX8_leaderOf mN_RX8 mC_yX8_leaderOf) rfl (hd_yX8_leaderOf) ⟨rfl, rfl⟩ ⟨(Nat.le_of_ble_eq_true rfl), (Nat.le_of_ble_eq_true rfl)⟩ hKX hC hS hP 8 rfl rfl rfl hl.1 rfl (Nat.le_of_ble_eq_true rfl) ⟨Nat.zero_le _, Nat.zero_le _⟩ dX8_go_122 ?_
      refine lv_goto (tgt := 132) hx hb dX8_go_125 (by decide) ?_
      exact hj15 r17 hf _ _ ls  hP hD hS (lv_sub hl [] rfl)
  refine lv_icmp_gt (tgt := 73) hx hb dX8_go_46 (by decide) (fun c18 => ?_) (fun c18 => ?_)
  · have hf := z_p c18 hf
    refine lv_aload_n hx hb dX8_go_73 rfl (lv_at hl 1 rfl) ?_
    refine va_get (D := D) (ci := 8) (v := .int x8) (C := RX8) (T := TX8) (N := 41) hx hb htw WW_wsX80 hown hKX.1 hP 0 rfl rfl 19 (Nat.le_of_ble_eq_true rfl) (htw _ mF_RX8_202) (fun _ h9 => h9) rfl dX8_go_74 ?_
    refine lv_iconst (v := 2) hx hb dX8_go_77 rfl ?_
    refine zv_irem hx hb dX8_go_78 (by decide) ?_
    obtain ⟨k19, hk19, hf⟩ := z_jn_u hf
    have hj20 : k19 () = some res → ∀ (H : Heap) (locs : List Loc) (ls : Array Slot), va_P D vwCl (moW ac q th row un kp mt ps bx ((upd (mo_goals mo) x1.toNatClampNeg x3), (upd (mo_kicked mo) x1.toNatClampNeg x6), x8, (mo_leader mo), (mo_isOver mo)) su wy wa od py ju pl rs) H → va_D A (moW ac q th row un kp mt ps bx ((upd (mo_goals mo) x1.toNatClampNeg x3), (upd (mo_kicked mo) x1.toNatClampNeg x6), x8, (mo_leader mo), (mo_isOver mo)) su wy wa od py ju pl rs) → va_S A s.heap H locs → lv_has ls 3 [(0, .ref (q 0))] → W p l e ({ frames := 2, cells := 0, slots := 0, locals := 43 } : Room) s m (([.ref (q 0), .int a1] : List Value).toArray) below meth c H locs 0 0 (MQ below (va_Qv (fun _ : Unit => True) (fun _ => zB D A (moW ac q th row un kp mt ps bx res su wy wa od py ju pl rs)) A) ([.ref (q 0), .int a1] : List Value).toArray s 0 0 A) (F0 m 101 ls [.ref (q 0)]) := by
      intro hf H locs ls hP hD hS hl
      have hf := hk19 _ hf
      refine lv_iconst (v := 0) hx hb dX8_go_101 rfl ?_
      exact hj11 0 hf _ _ ls  hP hD hS (lv_sub hl [0] rfl)
    refine lv_if_ne (tgt := 101) hx hb dX8_go_79 (by decide) (fun c21 => ?_) (fun c21 => ?_)
    · have hf := z_n c21 hf
      exact hj20  hf _ _ ls  hP hD hS (lv_sub hl [1] rfl)
    · have hf := z_p c21 hf
      refine lv_aload_n hx hb dX8_go_82 rfl (lv_at hl 1 rfl) ?_
      refine va_get (D := D) (ci := 8) (v := .ref (q 9)) (C := RX8) (T := TX8) (N := 41) hx hb htw WW_wsX80 hown hKX.1 hP 0 rfl rfl 17 (Nat.le_of_ble_eq_true rfl) (htw _ mF_RX8_38) (fun _ h9 => h9) rfl dX8_go_83 ?_
      refine lv_iconst (v := 0) hx hb dX8_go_86 rfl ?_
      refine zv_iald_k hx hb hKX.1 hP 9 0 rfl rfl 0 rfl (z_in_u (by decide +kernel)) dX8_go_87 ?_
      refine lv_aload_n hx hb dX8_go_88 rfl (lv_at hl 1 rfl) ?_
      refine va_get (D := D) (ci := 8) (v := .ref (q 9)) (C := RX8) (T := TX8) (N := 41) hx hb htw WW_wsX80 hown hKX.1 hP 0 rfl rfl 17 (Nat.le_of_ble_eq_true rfl) (htw _ mF_RX8_38) (fun _ h9 => h9) rfl dX8_go_89 ?_
      refine lv_iconst (v := 1) hx hb dX8_go_92 rfl ?_
      refine zv_iald_k hx hb hKX.1 hP 9 0 rfl rfl 1 rfl (z_in_u (by decide +kernel)) dX8_go_93 ?_
      refine lv_icmp_eq (tgt := 101) hx hb dX8_go_94 (by decide) (fun c22 => ?_) (fun c22 => ?_)
      · have hf := z_p c22 hf
        exact hj20  hf _ _ ls  hP hD hS (lv_sub hl [1] rfl)
      · have hf := z_n c22 hf
        refine lv_iconst (v := 1) hx hb dX8_go_97 rfl ?_
        refine lv_goto (tgt := 102) hx hb dX8_go_98 (by decide) ?_
        exact hj11 1 hf _ _ ls  hP hD hS (lv_sub hl [1] rfl)
  · have hf := z_n c18 hf
    refine lv_aload_n hx hb dX8_go_49 rfl (lv_at hl 1 rfl) ?_
    refine lv_iconst (v := 0) hx hb dX8_go_50 rfl ?_
    obtain ⟨r23, hr23, hf⟩ := z_bd_u hf
    refine zc_RVi (As := [.int 0]) (rest := [.ref (q 0)]) hx hb hml hown htw (ctX8_isCaught l D ac cs q th row un kp mt ps bx ((upd (mo_goals mo) x1.toNatClampNeg x3), (upd (mo_kicked mo) x1.toNatClampNeg x6), x8, (mo_leader mo), (mo_isOver mo)) su wy wa od py ju pl rs 0   _ hr23) (g_V mM_RX8_233 mI_yX8_isCaught mS_RX8_yX8_isCaught_yX8_isCaught mN_RX8 mC_yX8_isCaught) rfl (hd_yX8_isCaught) ⟨rfl, rfl⟩ ⟨(Nat.le_of_ble_eq_true rfl), (Nat.le_of_ble_eq_true rfl)⟩ hKX hC hS hP 8 rfl rfl rfl hl.1 rfl (Nat.le_of_ble_eq_true rfl) ⟨Nat.zero_le _, Nat.zero_le _⟩ dX8_go_51 ?_
    obtain ⟨k24, hk24, hf⟩ := z_jn_u hf
    have hj25 : k24 () = some res → ∀ (H : Heap) (locs : List Loc) (ls : Array Slot), va_P D vwCl (moW ac q th row un kp mt ps bx ((upd (mo_goals mo) x1.toNatClampNeg x3), (upd (mo_kicked mo) x1.toNatClampNeg x6), x8, (mo_leader mo), (mo_isOver mo)) su wy wa od py ju pl rs) H → va_D A (moW ac q th row un kp mt ps bx ((upd (mo_goals mo) x1.toNatClampNeg x3), (upd (mo_kicked mo) x1.toNatClampNeg x6), x8, (mo_leader mo), (mo_isOver mo)) su wy wa od py ju pl rs) → va_S A s.heap H locs → lv_has ls 3 [(0, .ref (q 0))] → W p l e ({ frames := 2, cells := 0, slots := 0, locals := 43 } : Room) s m (([.ref (q 0), .int a1] : List Value).toArray) below meth c H locs 0 0 (MQ below (va_Qv (fun _ : Unit => True) (fun _ => zB D A (moW ac q th row un kp mt ps bx res su wy wa od py ju pl rs)) A) ([.ref (q 0), .int a1] : List Value).toArray s 0 0 A) (F0 m 65 ls [.ref (q 0)]) := by
      intro hf H locs ls hP hD hS hl
      have hf := hk24 _ hf
      refine lv_iconst (v := 1) hx hb dX8_go_65 rfl ?_
      refine lv_goto (tgt := 102) hx hb dX8_go_66 (by decide) ?_
      exact hj11 1 hf _ _ ls  hP hD hS (lv_sub hl [0] rfl)
    refine lv_if_ne (tgt := 65) hx hb dX8_go_54 (by decide) (fun c26 => ?_) (fun c26 => ?_)
    · have hf := z_n c26 hf
      exact hj25  hf _ _ ls  hP hD hS (lv_sub hl [1] rfl)
    · have hf := z_p c26 hf
      refine lv_aload_n hx hb dX8_go_57 rfl (lv_at hl 1 rfl) ?_
      refine lv_iconst (v := 1) hx hb dX8_go_58 rfl ?_
      obtain ⟨r27, hr27, hf⟩ := z_bd_u hf
      refine zc_RVi (As := [.int 1]) (rest := [.ref (q 0)]) hx hb hml hown htw (ctX8_isCaught l D ac cs q th row un kp mt ps bx ((upd (mo_goals mo) x1.toNatClampNeg x3), (upd (mo_kicked mo) x1.toNatClampNeg x6), x8, (mo_leader mo), (mo_isOver mo)) su wy wa od py ju pl rs 1   _ hr27) (g_V mM_RX8_233 mI_yX8_isCaught mS_RX8_yX8_isCaught_yX8_isCaught mN_RX8 mC_yX8_isCaught) rfl (hd_yX8_isCaught) ⟨rfl, rfl⟩ ⟨(Nat.le_of_ble_eq_true rfl), (Nat.le_of_ble_eq_true rfl)⟩ hKX hC hS hP 8 rfl rfl rfl hl.1 rfl (Nat.le_of_ble_eq_true rfl) ⟨Nat.zero_le _, Nat.zero_le _⟩ dX8_go_59 ?_
      refine lv_if_eq (tgt := 69) hx hb dX8_go_62 (by decide) (fun c28 => ?_) (fun c28 => ?_)
      · have hf := z_p c28 hf
        refine lv_iconst (v := 0) hx hb dX8_go_69 rfl ?_
        refine lv_goto (tgt := 102) hx hb dX8_go_70 (by decide) ?_
        exact hj11 0 hf _ _ ls  hP hD hS (lv_sub hl [1] rfl)
      · have hf := z_n c28 hf
        exact hj25  hf _ _ ls  hP hD hS (lv_sub hl [1] rfl)

theorem hd_yX8_goNow : hdY yX8_goNow 0 := by decide +kernel
def M_goNow_L6 (F : Nat) (row : MRow) (u1 : Bx × Mo) : Nat → Int32 → Mo → Option (Bx × Mo)
  | 0, _, _ => none
  | n5 + 1, x2, mo3 => if (row 3) ≤ x2 then (some (u1.1, mo3)) else (z_gd (z_in (18 + x2) 78) (z_bd (M_go F row u1.1 mo3 (row (18 + x2).toNatClampNeg)) (fun u9 : Mo => z_let (x2 + 1) (fun x10 : Int32 => M_goNow_L6 F row u1 n5 x10 u9))))
def M_goNow (F : Nat) (row : MRow) (bx : Bx) (mo : Mo) : Option (Bx × Mo) := z_bd (M_begin F row bx mo) (fun u1 : Bx × Mo => M_goNow_L6 F row u1 F 0 u1.2)
set_option maxHeartbeats 4000000 in
set_option maxRecDepth 100000 in
theorem ctX8_goNow (l : Launch) (D : va_G) (ac cs : Nat → Nat) (q : Nat → Nat) (sz : Nat) (th : Th) (row : MRow) (un : Un) (kp : Kp) (mt : Mt) (ps : Ps) (bx : Bx) (mo : Mo) (su : Su) (wy : Wy) (wa : Wa) (od : Od) (py : Py) (ju : Ju) (pl : Pl) (rs : Rs) (F : Nat) (res : Bx × Mo) (hf : M_goNow F row bx mo = some res) : Met l yX8_goNow (cWW yX8_goNow cX8_goNow 2 none) { frames := 3, cells := 0, slots := 0, locals := 65 } (zM D ac cs [.ref (q 0)] (moW ac q th row un kp mt ps bx mo su wy wa od py ju pl rs) sz) (va_Qv (fun _ : Unit => True) (fun _ => zB D (va_A (moW ac q th row un kp mt ps bx mo su wy wa od py ju pl rs) sz) (moW ac q th row un kp mt ps res.1 res.2 su wy wa od py ju pl rs)) (va_A (moW ac q th row un kp mt ps bx mo su wy wa od py ju pl rs) sz)) 0 0 (va_A (moW ac q th row un kp mt ps bx mo su wy wa od py ju pl rs) sz) := by
  refine Met.ofW (cc := cX8_goNow) (maxL := 2) (ret := none) (by decide) rfl ?_
  intro p e s m args below meth c s₁ B hml hv
  obtain ⟨rfl, hsz, hP, hKX, hD0, hC⟩ := hv
  have hx := B.exec
  have hb := B.bytes
  have hr := B.returns
  have hts := atoms_spec (ws := cWW yX8_goNow cX8_goNow 2 none) B.pre
  have htw : ∀ w ∈ WW, w.before _ s = true := fun w h => hts w (List.mem_cons_of_mem _ h)
  have hown : s.vm.findClass RX8 = some m.cls := findClass_of_methodNamed B.named
  have hlocks := B.notSynchronized
  clear hts B
  subst hsz
  have hD := hD0.self (sz := s.heap.size)
  generalize hAe : va_A (moW ac q th row un kp mt ps bx mo su wy wa od py ju pl rs) s.heap.size = A at hD hC ⊢
  have hA : ∀ q : Nat, s.heap.size ≤ q → A q := fun q h => by rw [← hAe]; exact Or.inr h
  have hS : va_S A s.heap s.heap [] := va_S.rf
  clear hD0 hAe
  have hP : va_P D vwCl (moW ac q th row un kp mt ps bx mo su wy wa od py ju pl rs) s.heap := hP
  have hl := lv_entry ([.ref (q 0)]) (n := 2) (Nat.le_of_ble_eq_true rfl)
  rw [lg_entry_eq]
  generalize (lg_sl ([.ref (q 0)]) ++ List.replicate (2 - (lg_sl ([.ref (q 0)])).length) Slot.unset).toArray = ls at hl ⊢
  have hl : lv_has ls 2 [(0, .ref (q 0))] := hl
  unfold M_goNow at hf
  show W p l e ({ frames := 3, cells := 0, slots := 0, locals := 65 } : Room) s m _ below meth c s.heap [] 0 0 _ (F0 m 0 ls [])
  refine lv_aload_n hx hb dX8_goNow_0 rfl (lv_at hl 0 rfl) ?_
  obtain ⟨u1, hu1, hf⟩ := z_bd_u hf
  refine zc_MVv (As := []) (rest := []) (wr := []) (wsc := moW ac q th row un kp mt ps bx mo su wy wa od py ju pl rs) (wsc' := moW ac q th row un kp mt ps u1.1 u1.2 su wy wa od py ju pl rs) hx hb hml hown htw (ctX8_begin l D ac cs q s.heap.size th row un kp mt ps bx mo su wy wa od py ju pl rs    F u1 hu1) (g_V mM_RX8_211 mI_yX8_begin mS_RX8_yX8_begin_yX8_begin mN_RX8 mC_yX8_begin) rfl (hd_yX8_begin) ⟨rfl, rfl⟩ ⟨(Nat.le_of_ble_eq_true rfl), (Nat.le_of_ble_eq_true rfl)⟩ hKX hC hS hA hP hD [0, 1, 2, 3, 4, 5, 6, 7, 8, 9, 10, 11, 12, 13, 14, 15, 16, 17, 18, 19, 20] [] rfl (by decide) rfl (by decide) (by decide) 8 rfl rfl rfl hl.1 rfl (Nat.le_of_ble_eq_true rfl) ⟨Nat.zero_le _, Nat.zero_le _⟩ dX8_goNow_1 (fun H locs hP hD hS => ?_)
  have hP : va_P D vwCl (moW ac q th row un kp mt ps u1.1 u1.2 su wy wa od py ju pl rs) H := hP
  have hD : va_D A (moW ac q th row un kp mt ps u1.1 u1.2 su wy wa od py ju pl rs) := hD
  refine lv_iconst (v := 0) hx hb dX8_goNow_4 rfl ?_
  refine lv_istore_n (lv' := [(1, .int 0), (0, .ref (q 0))]) hx hb dX8_goNow_5 rfl hl (Nat.le_of_ble_eq_true rfl) rfl (fun ls hl => ?_)
  have hL4 : ∀ (n5 : Nat) (x2 : Int32) (mo3 : Mo), M_goNow_L6 F row u1 n5 x2 mo3 = some res → ∀ (H : Heap) (locs : List Loc) (ls : Array Slot), va_P D vwCl (moW ac q th row un kp mt ps u1.1 mo3 su wy wa od py ju pl rs) H → va_D A (moW ac q th row un kp mt ps u1.1 mo3 su wy wa od py ju pl rs) → va_S A s.heap H locs → lv_has ls 2 [(0, .ref (q 0)), (1, .int x2)] → W p l e ({ frames := 3, cells := 0, slots := 0, locals := 65 } : Room) s m (([.ref (q 0)] : List Value).toArray) below meth c H locs 0 0 (MQ below (va_Qv (fun _ : Unit => True) (fun _ => zB D A (moW ac q th row un kp mt ps res.1 res.2 su wy wa od py ju pl rs)) A) ([.ref (q 0)] : List Value).toArray s 0 0 A) (F0 m 6 ls []) := by
    intro n5
    induction n5 with
    | zero => intro x2 mo3 hf; rw [M_goNow_L6] at hf; cases hf
    | succ n5 ih6 =>
      intro x2 mo3 hf H locs ls hP hD hS hl
      rw [M_goNow_L6] at hf
      refine lv_iload_n hx hb dX8_goNow_6 rfl (lv_at hl 1 rfl) ?_
      refine lv_aload_n hx hb dX8_goNow_7 rfl (lv_at hl 0 rfl) ?_
      refine va_get (D := D) (ci := 8) (v := .ref (q 1)) (C := RX8) (T := TX8) (N := 41) hx hb htw WW_wsX80 hown hKX.1 hP 0 rfl rfl 1 (Nat.le_of_ble_eq_true rfl) (htw _ mF_RX8_9) (fun _ h9 => h9) rfl dX8_goNow_8 ?_
      refine lv_iconst (v := 3) hx hb dX8_goNow_11 rfl ?_
      refine zv_iald_k hx hb hKX.1 hP 1 0 rfl rfl 3 rfl (z_in_u (by decide +kernel)) dX8_goNow_12 ?_
      refine lv_icmp_ge (tgt := 35) hx hb dX8_goNow_13 (by decide) (fun c7 => ?_) (fun c7 => ?_)
      · have hf := z_p c7 hf
        obtain rfl := Option.some.inj hf
        exact zr_Mv hx hb hr hlocks hP hD hS dX8_goNow_35
      · have hf := z_n c7 hf
        refine lv_aload_n hx hb dX8_goNow_16 rfl (lv_at hl 0 rfl) ?_
        refine lv_aload_n hx hb dX8_goNow_17 rfl (lv_at hl 0 rfl) ?_
        refine va_get (D := D) (ci := 8) (v := .ref (q 1)) (C := RX8) (T := TX8) (N := 41) hx hb htw WW_wsX80 hown hKX.1 hP 0 rfl rfl 1 (Nat.le_of_ble_eq_true rfl) (htw _ mF_RX8_9) (fun _ h9 => h9) rfl dX8_goNow_18 ?_
        refine lv_bipush (v := 18) hx hb dX8_goNow_21 rfl ?_
        refine lv_iload_n hx hb dX8_goNow_23 rfl (lv_at hl 1 rfl) ?_
        refine lv_iadd hx hb dX8_goNow_24 ?_
        obtain ⟨g8, hf⟩ := z_gd_u hf
        refine va_iald hx hb hKX.1 hP 1 0 rfl rfl (z_in_u g8) dX8_goNow_25 ?_
        obtain ⟨u9, hu9, hf⟩ := z_bd_u hf
        refine zc_MVv (As := [.int (row (18 + x2).toNatClampNeg)]) (rest := []) (wr := []) (wsc := moW ac q th row un kp mt ps u1.1 mo3 su wy wa od py ju pl rs) (wsc' := moW ac q th row un kp mt ps u1.1 u9 su wy wa od py ju pl rs) hx hb hml hown htw (ctX8_go l D ac cs q H.size th row un kp mt ps u1.1 mo3 su wy wa od py ju pl rs (row (18 + x2).toNatClampNeg)   F u9 hu9) (g_V mM_RX8_214 mI_yX8_go mS_RX8_yX8_go_yX8_go mN_RX8 mC_yX8_go) rfl (hd_yX8_go) ⟨rfl, rfl⟩ ⟨(Nat.le_of_ble_eq_true rfl), (Nat.le_of_ble_eq_true rfl)⟩ hKX hC hS hA hP hD [0, 1, 2, 3, 4, 5, 6, 7, 8, 9, 10, 11, 12, 13, 14, 15, 16, 17, 18, 19, 20] [] rfl (by decide) rfl (by decide) (by decide) 8 rfl rfl rfl hl.1 rfl (Nat.le_of_ble_eq_true rfl) ⟨Nat.zero_le _, Nat.zero_le _⟩ dX8_goNow_26 (fun H locs hP hD hS => ?_)
        have hP : va_P D vwCl (moW ac q th row un kp mt ps u1.1 u9 su wy wa od py ju pl rs) H := hP
        have hD : va_D A (moW ac q th row un kp mt ps u1.1 u9 su wy wa od py ju pl rs) := hD
        obtain ⟨x10, hx10⟩ : ∃ y : Int32, y = (x2 + 1) := ⟨_, rfl⟩
        have hf := z_let_u hx10 hf
        refine lv_iinc (v := x10) (lv' := [(1, .int x10), (0, .ref (q 0))]) hx hb dX8_goNow_29 hl (k := 1) rfl (by rw [hx10]; rfl) (Nat.le_of_ble_eq_true rfl) rfl (fun ls hl => ?_)
        refine lv_goto (tgt := 6) hx hb dX8_goNow_32 (by decide) ?_
        exact ih6 x10 u9 hf _ _ ls  hP hD hS (lv_sub hl [1, 0] rfl)
  refine hL4  F 0 u1.2 hf _ _ ls  hP hD hS (lv_sub hl [1, 0] rfl)

theorem hd_yX8_ahead : hdY yX8_ahead 0 := by decide +kernel
def M_ahead (mo : Mo) : Int32 := if ((mo_goals mo) 0) ≤ ((mo_goals mo) 1) then (if ((mo_goals mo) 1) ≤ ((mo_goals mo) 0) then (-1) else 1) else 0
set_option maxHeartbeats 4000000 in
set_option maxRecDepth 100000 in
theorem ctX8_ahead (l : Launch) (D : va_G) (ac cs : Nat → Nat) (q : Nat → Nat) (th : Th) (row : MRow) (un : Un) (kp : Kp) (mt : Mt) (ps : Ps) (bx : Bx) (mo : Mo) (su : Su) (wy : Wy) (wa : Wa) (od : Od) (py : Py) (ju : Ju) (pl : Pl) (rs : Rs) (res : Int32) (hf : M_ahead mo = res) : Met l yX8_ahead (cWW yX8_ahead cX8_ahead 1 (some .int)) { frames := 0, cells := 0, slots := 0, locals := 0 } (zR D ac cs [.ref (q 0)] (moW ac q th row un kp mt ps bx mo su wy wa od py ju pl rs)) (vp_Si (fun r => r = res)) 0 0 (fun _ => False) := by
  refine Met.ofW (cc := cX8_ahead) (maxL := 1) (ret := (some .int)) (by decide) rfl ?_
  intro p e s m args below meth c s₁ B hml hv
  obtain ⟨rfl, hP, hKX, hC⟩ := hv
  have hx := B.exec
  have hb := B.bytes
  have hr := B.returns
  have hts := atoms_spec (ws := cWW yX8_ahead cX8_ahead 1 (some .int)) B.pre
  have htw : ∀ w ∈ WW, w.before _ s = true := fun w h => hts w (List.mem_cons_of_mem _ h)
  have hown : s.vm.findClass RX8 = some m.cls := findClass_of_methodNamed B.named
  have hlocks := B.notSynchronized
  clear hts B
  have hS : va_S (fun _ => False) s.heap s.heap [] := va_S.rf
  have hl := lv_entry ([.ref (q 0)]) (n := 1) (Nat.le_of_ble_eq_true rfl)
  rw [lg_entry_eq]
  generalize (lg_sl ([.ref (q 0)]) ++ List.replicate (1 - (lg_sl ([.ref (q 0)])).length) Slot.unset).toArray = ls at hl ⊢
  have hl : lv_has ls 1 [(0, .ref (q 0))] := hl
  unfold M_ahead at hf
  show W p l e ({ frames := 0, cells := 0, slots := 0, locals := 0 } : Room) s m _ below meth c s.heap [] 0 0 _ (F0 m 0 ls [])
  refine lv_aload_n hx hb dX8_ahead_0 rfl (lv_at hl 0 rfl) ?_
  refine va_get (D := D) (ci := 8) (v := .ref (q 9)) (C := RX8) (T := TX8) (N := 41) hx hb htw WW_wsX80 hown hKX.1 hP 0 rfl rfl 17 (Nat.le_of_ble_eq_true rfl) (htw _ mF_RX8_38) (fun _ h9 => h9) rfl dX8_ahead_1 ?_
  refine lv_iconst (v := 0) hx hb dX8_ahead_4 rfl ?_
  refine zv_iald_k hx hb hKX.1 hP 9 0 rfl rfl 0 rfl (z_in_u (by decide +kernel)) dX8_ahead_5 ?_
  refine lv_aload_n hx hb dX8_ahead_6 rfl (lv_at hl 0 rfl) ?_
  refine va_get (D := D) (ci := 8) (v := .ref (q 9)) (C := RX8) (T := TX8) (N := 41) hx hb htw WW_wsX80 hown hKX.1 hP 0 rfl rfl 17 (Nat.le_of_ble_eq_true rfl) (htw _ mF_RX8_38) (fun _ h9 => h9) rfl dX8_ahead_7 ?_
  refine lv_iconst (v := 1) hx hb dX8_ahead_10 rfl ?_
  refine zv_iald_k hx hb hKX.1 hP 9 0 rfl rfl 1 rfl (z_in_u (by decide +kernel)) dX8_ahead_11 ?_
  refine lv_icmp_le (tgt := 19) hx hb dX8_ahead_12 (by decide) (fun c1 => ?_) (fun c1 => ?_)
  · have hf := z_p c1 hf
    refine lv_aload_n hx hb dX8_ahead_19 rfl (lv_at hl 0 rfl) ?_
    refine va_get (D := D) (ci := 8) (v := .ref (q 9)) (C := RX8) (T := TX8) (N := 41) hx hb htw WW_wsX80 hown hKX.1 hP 0 rfl rfl 17 (Nat.le_of_ble_eq_true rfl) (htw _ mF_RX8_38) (fun _ h9 => h9) rfl dX8_ahead_20 ?_
    refine lv_iconst (v := 1) hx hb dX8_ahead_23 rfl ?_
    refine zv_iald_k hx hb hKX.1 hP 9 0 rfl rfl 1 rfl (z_in_u (by decide +kernel)) dX8_ahead_24 ?_
    refine lv_aload_n hx hb dX8_ahead_25 rfl (lv_at hl 0 rfl) ?_
    refine va_get (D := D) (ci := 8) (v := .ref (q 9)) (C := RX8) (T := TX8) (N := 41) hx hb htw WW_wsX80 hown hKX.1 hP 0 rfl rfl 17 (Nat.le_of_ble_eq_true rfl) (htw _ mF_RX8_38) (fun _ h9 => h9) rfl dX8_ahead_26 ?_
    refine lv_iconst (v := 0) hx hb dX8_ahead_29 rfl ?_
    refine zv_iald_k hx hb hKX.1 hP 9 0 rfl rfl 0 rfl (z_in_u (by decide +kernel)) dX8_ahead_30 ?_
    refine lv_icmp_le (tgt := 38) hx hb dX8_ahead_31 (by decide) (fun c2 => ?_) (fun c2 => ?_)
    · have hf := z_p c2 hf
      refine lv_iconst (v := (-1)) hx hb dX8_ahead_38 rfl ?_
      exact zr_Ri hx hb hr hlocks hf dX8_ahead_39
    · have hf := z_n c2 hf
      refine lv_iconst (v := 1) hx hb dX8_ahead_34 rfl ?_
      refine lv_goto (tgt := 39) hx hb dX8_ahead_35 (by decide) ?_
      exact zr_Ri hx hb hr hlocks hf dX8_ahead_39
  · have hf := z_n c1 hf
    refine lv_iconst (v := 0) hx hb dX8_ahead_15 rfl ?_
    refine lv_goto (tgt := 39) hx hb dX8_ahead_16 (by decide) ?_
    exact zr_Ri hx hb hr hlocks hf dX8_ahead_39

theorem hd_yX8_roundWays : hdY yX8_roundWays 2 := by decide +kernel
def M_roundWays (row : MRow) (bx : Bx) (a1 : Int32) (a2 : Int32) : Option (Int32) := z_bd (M_chanceOf row bx (bx_byFirst bx) a1 0) (fun r1 : Int32 => z_bd (M_chanceOf row bx (1 - (bx_byFirst bx)) a1 (-1)) (fun r2 : Int32 => z_bd (M_chanceOf row bx (1 - (bx_byFirst bx)) a1 0) (fun r3 : Int32 => z_let (r1 * (6 - r2)) (fun x4 : Int32 => z_let ((6 - r1) * r3) (fun x5 : Int32 => if a2 = (-1) then (some ((36 - x4) - x5)) else (if a2 = (bx_byFirst bx) then (some x4) else (some x5)))))))
set_option maxHeartbeats 4000000 in
set_option maxRecDepth 100000 in
theorem ctX8_roundWays (l : Launch) (D : va_G) (ac cs : Nat → Nat) (q : Nat → Nat) (th : Th) (row : MRow) (un : Un) (kp : Kp) (mt : Mt) (ps : Ps) (bx : Bx) (mo : Mo) (su : Su) (wy : Wy) (wa : Wa) (od : Od) (py : Py) (ju : Ju) (pl : Pl) (rs : Rs) (a1 : Int32) (a2 : Int32) (res : Int32) (hf : M_roundWays row bx a1 a2 = some res) : Met l yX8_roundWays (cWW yX8_roundWays cX8_roundWays 8 (some .int)) { frames := 2, cells := 0, slots := 0, locals := 44 } (zR D ac cs [.ref (q 0), .int a1, .int a2] (moW ac q th row un kp mt ps bx mo su wy wa od py ju pl rs)) (vp_Si (fun r => r = res)) 0 0 (fun _ => False) := by
  refine Met.ofW (cc := cX8_roundWays) (maxL := 8) (ret := (some .int)) (by decide) rfl ?_
  intro p e s m args below meth c s₁ B hml hv
  obtain ⟨rfl, hP, hKX, hC⟩ := hv
  have hx := B.exec
  have hb := B.bytes
  have hr := B.returns
  have hts := atoms_spec (ws := cWW yX8_roundWays cX8_roundWays 8 (some .int)) B.pre
  have htw : ∀ w ∈ WW, w.before _ s = true := fun w h => hts w (List.mem_cons_of_mem _ h)
  have hown : s.vm.findClass RX8 = some m.cls := findClass_of_methodNamed B.named
  have hlocks := B.notSynchronized
  clear hts B
  have hS : va_S (fun _ => False) s.heap s.heap [] := va_S.rf
  have hl := lv_entry ([.ref (q 0), .int a1, .int a2]) (n := 8) (Nat.le_of_ble_eq_true rfl)
  rw [lg_entry_eq]
  generalize (lg_sl ([.ref (q 0), .int a1, .int a2]) ++ List.replicate (8 - (lg_sl ([.ref (q 0), .int a1, .int a2])).length) Slot.unset).toArray = ls at hl ⊢
  have hl : lv_has ls 8 [(0, .ref (q 0)), (1, .int a1), (2, .int a2)] := hl
  unfold M_roundWays at hf
  show W p l e ({ frames := 2, cells := 0, slots := 0, locals := 44 } : Room) s m _ below meth c s.heap [] 0 0 _ (F0 m 0 ls [])
  refine lv_aload_n hx hb dX8_roundWays_0 rfl (lv_at hl 0 rfl) ?_
  refine lv_aload_n hx hb dX8_roundWays_1 rfl (lv_at hl 0 rfl) ?_
  refine va_get (D := D) (ci := 8) (v := .int (bx_byFirst bx)) (C := RX8) (T := TX8) (N := 41) hx hb htw WW_wsX80 hown hKX.1 hP 0 rfl rfl 15 (Nat.le_of_ble_eq_true rfl) (htw _ mF_RX8_196) (fun _ h9 => h9) rfl dX8_roundWays_2 ?_
  refine lv_iload_n hx hb dX8_roundWays_5 rfl (lv_at hl 1 rfl) ?_
  refine lv_iconst (v := 0) hx hb dX8_roundWays_6 rfl ?_
  obtain ⟨r1, hr1, hf⟩ := z_bd_u hf
  refine zc_RVi (As := [.int (bx_byFirst bx), .int a1, .int 0]) (rest := []) hx hb hml hown htw (ctX8_chanceOf l D ac cs q th row un kp mt ps bx mo su wy wa od py ju pl rs (bx_byFirst bx) a1 0   _ hr1) (g_V mM_RX8_229 mI_yX8_chanceOf mS_RX8_yX8_chanceOf_yX8_chanceOf mN_RX8 mC_yX8_chanceOf) rfl (hd_yX8_chanceOf) ⟨rfl, rfl⟩ ⟨(Nat.le_of_ble_eq_true rfl), (Nat.le_of_ble_eq_true rfl)⟩ hKX hC hS hP 8 rfl rfl rfl hl.1 rfl (Nat.le_of_ble_eq_true rfl) ⟨Nat.zero_le _, Nat.zero_le _⟩ dX8_roundWays_7 ?_
  refine lv_istore_n (lv' := [(3, .int r1), (0, .ref (q 0)), (1, .int a1), (2, .int a2)]) hx hb dX8_roundWays_10 rfl hl (Nat.le_of_ble_eq_true rfl) rfl (fun ls hl => ?_)
  refine lv_aload_n hx hb dX8_roundWays_11 rfl (lv_at hl 1 rfl) ?_
  refine lv_iconst (v := 1) hx hb dX8_roundWays_12 rfl ?_
  refine lv_aload_n hx hb dX8_roundWays_13 rfl (lv_at hl 1 rfl) ?_
  refine va_get (D := D) (ci := 8) (v := .int (bx_byFirst bx)) (C := RX8) (T := TX8) (N := 41) hx hb htw WW_wsX80 hown hKX.1 hP 0 rfl rfl 15 (Nat.le_of_ble_eq_true rfl) (htw _ mF_RX8_196) (fun _ h9 => h9) rfl dX8_roundWays_14 ?_
  refine lv_isub hx hb dX8_roundWays_17 ?_
  refine lv_iload_n hx hb dX8_roundWays_18 rfl (lv_at hl 2 rfl) ?_
  refine lv_iconst (v := (-1)) hx hb dX8_roundWays_19 rfl ?_
  obtain ⟨r2, hr2, hf⟩ := z_bd_u hf
  refine zc_RVi (As := [.int (1 - (bx_byFirst bx)), .int a1, .int (-1)]) (rest := []) hx hb hml hown htw (ctX8_chanceOf l D ac cs q th row un kp mt ps bx mo su wy wa od py ju pl rs (1 - (bx_byFirst bx)) a1 (-1)   _ hr2) (g_V mM_RX8_229 mI_yX8_chanceOf mS_RX8_yX8_chanceOf_yX8_chanceOf mN_RX8 mC_yX8_chanceOf) rfl (hd_yX8_chanceOf) ⟨rfl, rfl⟩ ⟨(Nat.le_of_ble_eq_true rfl), (Nat.le_of_ble_eq_true rfl)⟩ hKX hC hS hP 8 rfl rfl rfl hl.1 rfl (Nat.le_of_ble_eq_true rfl) ⟨Nat.zero_le _, Nat.zero_le _⟩ dX8_roundWays_20 ?_
  refine lv_istore (lv' := [(4, .int r2), (3, .int r1), (0, .ref (q 0)), (1, .int a1), (2, .int a2)]) hx hb dX8_roundWays_23 hl (Nat.le_of_ble_eq_true rfl) rfl (fun ls hl => ?_)
  refine lv_aload_n hx hb dX8_roundWays_25 rfl (lv_at hl 2 rfl) ?_
  refine lv_iconst (v := 1) hx hb dX8_roundWays_26 rfl ?_
  refine lv_aload_n hx hb dX8_roundWays_27 rfl (lv_at hl 2 rfl) ?_
  refine va_get (D := D) (ci := 8) (v := .int (bx_byFirst bx)) (C := RX8) (T := TX8) (N := 41) hx hb htw WW_wsX80 hown hKX.1 hP 0 rfl rfl 15 (Nat.le_of_ble_eq_true rfl) (htw _ mF_RX8_196) (fun _ h9 => h9) rfl dX8_roundWays_28 ?_
  refine lv_isub hx hb dX8_roundWays_31 ?_
  refine lv_iload_n hx hb dX8_roundWays_32 rfl (lv_at hl 3 rfl) ?_
  refine lv_iconst (v := 0) hx hb dX8_roundWays_33 rfl ?_
  obtain ⟨r3, hr3, hf⟩ := z_bd_u hf
  refine zc_RVi (As := [.int (1 - (bx_byFirst bx)), .int a1, .int 0]) (rest := []) hx hb hml hown htw (ctX8_chanceOf l D ac cs q th row un kp mt ps bx mo su wy wa od py ju pl rs (1 - (bx_byFirst bx)) a1 0   _ hr3) (g_V mM_RX8_229 mI_yX8_chanceOf mS_RX8_yX8_chanceOf_yX8_chanceOf mN_RX8 mC_yX8_chanceOf) rfl (hd_yX8_chanceOf) ⟨rfl, rfl⟩ ⟨(Nat.le_of_ble_eq_true rfl), (Nat.le_of_ble_eq_true rfl)⟩ hKX hC hS hP 8 rfl rfl rfl hl.1 rfl (Nat.le_of_ble_eq_true rfl) ⟨Nat.zero_le _, Nat.zero_le _⟩ dX8_roundWays_34 ?_
  refine lv_istore (lv' := [(5, .int r3), (4, .int r2), (3, .int r1), (0, .ref (q 0)), (1, .int a1), (2, .int a2)]) hx hb dX8_roundWays_37 hl (Nat.le_of_ble_eq_true rfl) rfl (fun ls hl => ?_)
  refine lv_iload_n hx hb dX8_roundWays_39 rfl (lv_at hl 2 rfl) ?_
  refine lv_bipush (v := 6) hx hb dX8_roundWays_40 rfl ?_
  refine lv_iload hx hb dX8_roundWays_42 (lv_at hl 1 rfl) ?_
  refine lv_isub hx hb dX8_roundWays_44 ?_
  refine lv_imul hx hb dX8_roundWays_45 ?_
  refine lv_topi (fun x4 hx4 => ?_)
  have hf := z_let_u hx4 hf
  refine lv_istore (lv' := [(6, .int x4), (5, .int r3), (4, .int r2), (3, .int r1), (0, .ref (q 0)), (1, .int a1), (2, .int a2)]) hx hb dX8_roundWays_46 hl (Nat.le_of_ble_eq_true rfl) rfl (fun ls hl => ?_)
  refine lv_bipush (v := 6) hx hb dX8_roundWays_48 rfl ?_
  refine lv_iload_n hx hb dX8_roundWays_50 rfl (lv_at hl 3 rfl) ?_
  refine lv_isub hx hb dX8_roundWays_51 ?_
  refine lv_iload hx hb dX8_roundWays_52 (lv_at hl 1 rfl) ?_
  refine lv_imul hx hb dX8_roundWays_54 ?_
  refine lv_topi (fun x5 hx5 => ?_)
  have hf := z_let_u hx5 hf
  refine lv_istore (lv' := [(7, .int x5), (6, .int x4), (5, .int r3), (4, .int r2), (3, .int r1), (0, .ref (q 0)), (1, .int a1), (2, .int a2)]) hx hb dX8_roundWays_55 hl (Nat.le_of_ble_eq_true rfl) rfl (fun ls hl => ?_)
  refine lv_iload_n hx hb dX8_roundWays_57 rfl (lv_at hl 7 rfl) ?_
  refine lv_iconst (v := (-1)) hx hb dX8_roundWays_58 rfl ?_
  refine lv_icmp_ne (tgt := 73) hx hb dX8_roundWays_59 (by decide) (fun c6 => ?_) (fun c6 => ?_)
  · have hf := z_n c6 hf
    refine lv_iload_n hx hb dX8_roundWays_73 rfl (lv_at hl 7 rfl) ?_
    refine lv_aload_n hx hb dX8_roundWays_74 rfl (lv_at hl 5 rfl) ?_
    refine va_get (D := D) (ci := 8) (v := .int (bx_byFirst bx)) (C := RX8) (T := TX8) (N := 41) hx hb htw WW_wsX80 hown hKX.1 hP 0 rfl rfl 15 (Nat.le_of_ble_eq_true rfl) (htw _ mF_RX8_196) (fun _ h9 => h9) rfl dX8_roundWays_75 ?_
    refine lv_icmp_ne (tgt := 86) hx hb dX8_roundWays_78 (by decide) (fun c7 => ?_) (fun c7 => ?_)
    · have hf := z_n c7 hf
      refine lv_iload hx hb dX8_roundWays_86 (lv_at hl 0 rfl) ?_
      exact zr_Ri hx hb hr hlocks (Option.some.inj hf) dX8_roundWays_88
    · have hf := z_p c7 hf
      refine lv_iload hx hb dX8_roundWays_81 (lv_at hl 1 rfl) ?_
      refine lv_goto (tgt := 88) hx hb dX8_roundWays_83 (by decide) ?_
      exact zr_Ri hx hb hr hlocks (Option.some.inj hf) dX8_roundWays_88
  · have hf := z_p c6 hf
    refine lv_bipush (v := 36) hx hb dX8_roundWays_62 rfl ?_
    refine lv_iload hx hb dX8_roundWays_64 (lv_at hl 1 rfl) ?_
    refine lv_isub hx hb dX8_roundWays_66 ?_
    refine lv_iload hx hb dX8_roundWays_67 (lv_at hl 0 rfl) ?_
    refine lv_isub hx hb dX8_roundWays_69 ?_
    refine lv_goto (tgt := 88) hx hb dX8_roundWays_70 (by decide) ?_
    exact zr_Ri hx hb hr hlocks (Option.some.inj hf) dX8_roundWays_88

theorem hd_yX8_laySudden : hdY yX8_laySudden 0 := by decide +kernel
def M_laySudden_L13 (row : MRow) (bx : Bx) (x1 : Int32) (kx8 : Int64 → Int64 → Option (Su)) : Nat → Int64 → Int64 → Int32 → Option (Su)
  | 0, _, _, _ => none
  | n6 + 1, x2, x3, x4 => if x1 ≤ x4 then (kx8 x2 x3) else (z_let (x2 * 36) (fun x12 : Int64 => z_bd (M_roundWays row bx x4 (-1)) (fun r13 : Int32 => z_let (x3 * r13.toInt64) (fun x14 : Int64 => z_let (x4 + 1) (fun x15 : Int32 => M_laySudden_L13 row bx x1 kx8 n6 x12 x14 x15)))))
def M_laySudden_L93 (row : MRow) (bx : Bx) (x1 : Int32) (x20 : Int32) (x26 : Int32) (kx41 : Int64 → Option (Su)) : Nat → Int64 → Int64 → Int64 → Int32 → Option (Su)
  | 0, _, _, _, _ => none
  | n39 + 1, x34, x35, x36, x37 => if x1 ≤ x37 then (kx41 x34) else (z_gd (z_nz x1) (z_let (z_rem (x26 + x37) x1) (fun x45 : Int32 => z_let (x36 / 36) (fun x46 : Int64 => z_bd (M_roundWays row bx x45 x20) (fun r47 : Int32 => z_let (x34 + ((x35 * r47.toInt64) * x46)) (fun x48 : Int64 => z_bd (M_roundWays row bx x45 (-1)) (fun r49 : Int32 => z_let (x35 * r49.toInt64) (fun x50 : Int64 => z_let (x37 + 1) (fun x51 : Int32 => M_laySudden_L93 row bx x1 x20 x26 kx41 n39 x48 x50 x46 x51)))))))))
def M_laySudden_L75 (F : Nat) (row : MRow) (bx : Bx) (x1 : Int32) (x9 : Int64) (x10 : Int64) (x20 : Int32) (kx31 : Su → Option (Su)) : Nat → Int32 → Su → Option (Su)
  | 0, _, _ => none
  | n29 + 1, x26, su27 => if x1 ≤ x26 then (kx31 su27) else (M_laySudden_L93 row bx x1 x20 x26 (fun (x42 : Int64) => z_let (if (lg_cmp x9 x10) = 0 then 0 else x42) (fun v52 : Int64 => z_gd (z_in ((5 * x20) + x26) 10) (z_let (x26 + 1) (fun x57 : Int32 => M_laySudden_L75 F row bx x1 x9 x10 x20 kx31 n29 x57 ((su_lower su27), (vp_updL (su_sudden su27) ((5 * x20) + x26).toNatClampNeg v52)))))) F 0 1 x9 0)
def M_laySudden_L66 (F : Nat) (row : MRow) (bx : Bx) (x1 : Int32) (x9 : Int64) (x10 : Int64) : Nat → Int32 → Su → Option (Su)
  | 0, _, _ => none
  | n23 + 1, x20, su21 => if 2 ≤ x20 then (some su21) else (M_laySudden_L75 F row bx x1 x9 x10 x20 (fun (su32 : Su) => z_let (x20 + 1) (fun x58 : Int32 => M_laySudden_L66 F row bx x1 x9 x10 n23 x58 su32)) F 0 su21)
def M_laySudden (F : Nat) (row : MRow) (bx : Bx) (su : Su) : Option (Su) := z_let (M_n row) (fun x1 : Int32 => M_laySudden_L13 row bx x1 (fun (x9 : Int64) (x10 : Int64) => z_let (if (lg_cmp x9 x10) = 0 then 1 else (x9 - x10)) (fun v16 : Int64 => M_laySudden_L66 F row bx x1 x9 x10 F 0 (v16, (su_sudden su)))) F 1 1 0)
set_option maxHeartbeats 4000000 in
set_option maxRecDepth 100000 in
theorem ctX8_laySudden (l : Launch) (D : va_G) (ac cs : Nat → Nat) (q : Nat → Nat) (sz : Nat) (th : Th) (row : MRow) (un : Un) (kp : Kp) (mt : Mt) (ps : Ps) (bx : Bx) (mo : Mo) (su : Su) (wy : Wy) (wa : Wa) (od : Od) (py : Py) (ju : Ju) (pl : Pl) (rs : Rs) (F : Nat) (res : Su) (hf : M_laySudden F row bx su = some res) : Met l yX8_laySudden (cWW yX8_laySudden cX8_laySudden 16 none) { frames := 3, cells := 0, slots := 0, locals := 71 } (zM D ac cs [.ref (q 0)] (moW ac q th row un kp mt ps bx mo su wy wa od py ju pl rs) sz) (va_Qv (fun _ : Unit => True) (fun _ => zB D (va_A (moW ac q th row un kp mt ps bx mo su wy wa od py ju pl rs) sz) (moW ac q th row un kp mt ps bx mo res wy wa od py ju pl rs)) (va_A (moW ac q th row un kp mt ps bx mo su wy wa od py ju pl rs) sz)) 0 0 (va_A (moW ac q th row un kp mt ps bx mo su wy wa od py ju pl rs) sz) := by
  refine Met.ofW (cc := cX8_laySudden) (maxL := 16) (ret := none) (by decide) rfl ?_
  intro p e s m args below meth c s₁ B hml hv
  obtain ⟨rfl, hsz, hP, hKX, hD0, hC⟩ := hv
  have hx := B.exec
  have hb := B.bytes
  have hr := B.returns
  have hts := atoms_spec (ws := cWW yX8_laySudden cX8_laySudden 16 none) B.pre
  have htw : ∀ w ∈ WW, w.before _ s = true := fun w h => hts w (List.mem_cons_of_mem _ h)
  have hown : s.vm.findClass RX8 = some m.cls := findClass_of_methodNamed B.named
  have hlocks := B.notSynchronized
  clear hts B
  subst hsz
  have hD := hD0.self (sz := s.heap.size)
  generalize hAe : va_A (moW ac q th row un kp mt ps bx mo su wy wa od py ju pl rs) s.heap.size = A at hD hC ⊢
  have hA : ∀ q : Nat, s.heap.size ≤ q → A q := fun q h => by rw [← hAe]; exact Or.inr h
  have hS : va_S A s.heap s.heap [] := va_S.rf
  clear hD0 hAe
  have hP : va_P D vwCl (moW ac q th row un kp mt ps bx mo su wy wa od py ju pl rs) s.heap := hP
  have hl := lv_entry ([.ref (q 0)]) (n := 16) (Nat.le_of_ble_eq_true rfl)
  rw [lg_entry_eq]
  generalize (lg_sl ([.ref (q 0)]) ++ List.replicate (16 - (lg_sl ([.ref (q 0)])).length) Slot.unset).toArray = ls at hl ⊢
  have hl : lv_has ls 16 [(0, .ref (q 0))] := hl
  unfold M_laySudden at hf
  show W p l e ({ frames := 3, cells := 0, slots := 0, locals := 71 } : Room) s m _ below meth c s.heap [] 0 0 _ (F0 m 0 ls [])
  refine lv_aload_n hx hb dX8_laySudden_0 rfl (lv_at hl 0 rfl) ?_
  refine zc_RVi (As := []) (rest := []) hx hb hml hown htw (ctX8_n l D ac cs q th row un kp mt ps bx mo su wy wa od py ju pl rs    _ rfl) (g_V mM_RX8_190 mI_yX8_n mS_RX8_yX8_n_yX8_n mN_RX8 mC_yX8_n) rfl (hd_yX8_n) ⟨rfl, rfl⟩ ⟨(Nat.le_of_ble_eq_true rfl), (Nat.le_of_ble_eq_true rfl)⟩ hKX hC hS hP 8 rfl rfl rfl hl.1 rfl (Nat.le_of_ble_eq_true rfl) ⟨Nat.zero_le _, Nat.zero_le _⟩ dX8_laySudden_1 ?_
  refine lv_topi (fun x1 hx1 => ?_)
  have hf := z_let_u hx1 hf
  refine lv_istore_n (lv' := [(1, .int x1), (0, .ref (q 0))]) hx hb dX8_laySudden_4 rfl hl (Nat.le_of_ble_eq_true rfl) rfl (fun ls hl => ?_)
  refine lv_lconst (v := 1) hx hb dX8_laySudden_5 rfl ?_
  refine lv_lstore_n (lv' := [(2, .long 1), (1, .int x1), (0, .ref (q 0))]) hx hb dX8_laySudden_6 rfl hl (Nat.le_of_ble_eq_true rfl) rfl (fun ls hl => ?_)
  refine lv_lconst (v := 1) hx hb dX8_laySudden_7 rfl ?_
  refine lv_lstore (lv' := [(4, .long 1), (2, .long 1), (1, .int x1), (0, .ref (q 0))]) hx hb dX8_laySudden_8 hl (Nat.le_of_ble_eq_true rfl) rfl (fun ls hl => ?_)
  refine lv_iconst (v := 0) hx hb dX8_laySudden_10 rfl ?_
  refine lv_istore (lv' := [(6, .int 0), (4, .long 1), (2, .long 1), (1, .int x1), (0, .ref (q 0))]) hx hb dX8_laySudden_11 hl (Nat.le_of_ble_eq_true rfl) rfl (fun ls hl => ?_)
  have hL5 : ∀ (kx8 : Int64 → Int64 → Option (Su)) (hkx8 : ∀ (x9 : Int64) (x10 : Int64), kx8 x9 x10 = some res → ∀ (H : Heap) (locs : List Loc) (ls : Array Slot), va_P D vwCl (moW ac q th row un kp mt ps bx mo su wy wa od py ju pl rs) H → va_D A (moW ac q th row un kp mt ps bx mo su wy wa od py ju pl rs) → va_S A s.heap H locs → lv_has ls 16 [(0, .ref (q 0)), (1, .int x1), (2, .long x9), (4, .long x10)] → W p l e ({ frames := 3, cells := 0, slots := 0, locals := 71 } : Room) s m (([.ref (q 0)] : List Value).toArray) below meth c H locs 0 0 (MQ below (va_Qv (fun _ : Unit => True) (fun _ => zB D A (moW ac q th row un kp mt ps bx mo res wy wa od py ju pl rs)) A) ([.ref (q 0)] : List Value).toArray s 0 0 A) (F0 m 44 ls [])) (n6 : Nat) (x2 : Int64) (x3 : Int64) (x4 : Int32), M_laySudden_L13 row bx x1 kx8 n6 x2 x3 x4 = some res → ∀ (H : Heap) (locs : List Loc) (ls : Array Slot), va_P D vwCl (moW ac q th row un kp mt ps bx mo su wy wa od py ju pl rs) H → va_D A (moW ac q th row un kp mt ps bx mo su wy wa od py ju pl rs) → va_S A s.heap H locs → lv_has ls 16 [(0, .ref (q 0)), (1, .int x1), (2, .long x2), (4, .long x3), (6, .int x4)] → W p l e ({ frames := 3, cells := 0, slots := 0, locals := 71 } : Room) s m (([.ref (q 0)] : List Value).toArray) below meth c H locs 0 0 (MQ below (va_Qv (fun _ : Unit => True) (fun _ => zB D A (moW ac q th row un kp mt ps bx mo res wy wa od py ju pl rs)) A) ([.ref (q 0)] : List Value).toArray s 0 0 A) (F0 m 13 ls []) := by
    intro kx8 hkx8 n6
    induction n6 with
    | zero => intro x2 x3 x4 hf; rw [M_laySudden_L13] at hf; cases hf
    | succ n6 ih7 =>
      intro x2 x3 x4 hf H locs ls hP hD hS hl
      rw [M_laySudden_L13] at hf
      refine lv_iload hx hb dX8_laySudden_13 (lv_at hl 4 rfl) ?_
      refine lv_iload_n hx hb dX8_laySudden_15 rfl (lv_at hl 1 rfl) ?_
      refine lv_icmp_ge (tgt := 44) hx hb dX8_laySudden_16 (by decide) (fun c11 => ?_) (fun c11 => ?_)
      · have hf := z_p c11 hf
        exact hkx8 x2 x3 hf _ _ ls  hP hD hS (lv_sub hl [0, 1, 2, 3] rfl)
      · have hf := z_n c11 hf
        refine lv_lload_n hx hb dX8_laySudden_19 rfl (lv_at hl 2 rfl) ?_
        refine lv_ldc2 (v := 36) hx hb hown (htw _ mG_RX8_239) dX8_laySudden_20 ?_
        refine lv_lmul hx hb dX8_laySudden_23 ?_
        refine lv_topl (fun x12 hx12 => ?_)
        have hf := z_let_u hx12 hf
        refine lv_lstore_n (lv' := [(2, .long x12), (0, .ref (q 0)), (1, .int x1), (4, .long x3), (6, .int x4)]) hx hb dX8_laySudden_24 rfl hl (Nat.le_of_ble_eq_true rfl) rfl (fun ls hl => ?_)
        refine lv_lload hx hb dX8_laySudden_25 (lv_at hl 3 rfl) ?_
        refine lv_aload_n hx hb dX8_laySudden_27 rfl (lv_at hl 1 rfl) ?_
        refine lv_iload hx hb dX8_laySudden_28 (lv_at hl 4 rfl) ?_
        refine lv_iconst (v := (-1)) hx hb dX8_laySudden_30 rfl ?_
        obtain ⟨r13, hr13, hf⟩ := z_bd_u hf
        refine zc_RVi (As := [.int x4, .int (-1)]) (rest := [.long x3]) hx hb hml hown htw (ctX8_roundWays l D ac cs q th row un kp mt ps bx mo su wy wa od py ju pl rs x4 (-1)   _ hr13) (g_V mM_RX8_241 mI_yX8_roundWays mS_RX8_yX8_roundWays_yX8_roundWays mN_RX8 mC_yX8_roundWays) rfl (hd_yX8_roundWays) ⟨rfl, rfl⟩ ⟨(Nat.le_of_ble_eq_true rfl), (Nat.le_of_ble_eq_true rfl)⟩ hKX hC hS hP 8 rfl rfl rfl hl.1 rfl (Nat.le_of_ble_eq_true rfl) ⟨Nat.zero_le _, Nat.zero_le _⟩ dX8_laySudden_31 ?_
        refine lv_i2l hx hb dX8_laySudden_34 rfl ?_
        refine lv_lmul hx hb dX8_laySudden_35 ?_
        refine lv_topl (fun x14 hx14 => ?_)
        have hf := z_let_u hx14 hf
        refine lv_lstore (lv' := [(4, .long x14), (2, .long x12), (0, .ref (q 0)), (1, .int x1), (6, .int x4)]) hx hb dX8_laySudden_36 hl (Nat.le_of_ble_eq_true rfl) rfl (fun ls hl => ?_)
        obtain ⟨x15, hx15⟩ : ∃ y : Int32, y = (x4 + 1) := ⟨_, rfl⟩
        have hf := z_let_u hx15 hf
        refine lv_iinc (v := x15) (lv' := [(6, .int x15), (4, .long x14), (2, .long x12), (0, .ref (q 0)), (1, .int x1)]) hx hb dX8_laySudden_38 hl (k := 4) rfl (by rw [hx15]; rfl) (Nat.le_of_ble_eq_true rfl) rfl (fun ls hl => ?_)
        refine lv_goto (tgt := 13) hx hb dX8_laySudden_41 (by decide) ?_
        exact ih7 x12 x14 x15 hf _ _ ls  hP hD hS (lv_sub hl [3, 4, 2, 1, 0] rfl)
  refine hL5 _ ?_ F 1 1 0 hf _ _ ls  hP hD hS (lv_sub hl [4, 3, 2, 1, 0] rfl)
  intro x9 x10 hf H locs ls hP hD hS hl
  refine lv_aload_n hx hb dX8_laySudden_44 rfl (lv_at hl 0 rfl) ?_
  refine lv_lload_n hx hb dX8_laySudden_45 rfl (lv_at hl 2 rfl) ?_
  refine lv_lload hx hb dX8_laySudden_46 (lv_at hl 3 rfl) ?_
  refine W.lcmp hx hb dX8_laySudden_48 ?_
  have hj18 : ∀ (v16 : Int64), v16 = (if (lg_cmp x9 x10) = 0 then 1 else (x9 - x10)) → ∀ (H : Heap) (locs : List Loc) (ls : Array Slot), va_P D vwCl (moW ac q th row un kp mt ps bx mo su wy wa od py ju pl rs) H → va_D A (moW ac q th row un kp mt ps bx mo su wy wa od py ju pl rs) → va_S A s.heap H locs → lv_has ls 16 [(0, .ref (q 0)), (1, .int x1), (2, .long x9), (4, .long x10)] → W p l e ({ frames := 3, cells := 0, slots := 0, locals := 71 } : Room) s m (([.ref (q 0)] : List Value).toArray) below meth c H locs 0 0 (MQ below (va_Qv (fun _ : Unit => True) (fun _ => zB D A (moW ac q th row un kp mt ps bx mo res wy wa od py ju pl rs)) A) ([.ref (q 0)] : List Value).toArray s 0 0 A) (F0 m 60 ls [.long v16, .ref (q 0)]) := by
    intro v16 hv16 H locs ls hP hD hS hl
    have hf := z_let_u hv16 hf
    refine va_put (D := D) (ci := 8) (v := .long v16) (ty := tyX8 22) (C := RX8) (T := TX8) (N := 41) hx hb htw WW_wsX80 tyX8 tyX8_ok nmX8 hown hKX.1 hP hD hS 0 rfl rfl 22 (Nat.le_of_ble_eq_true rfl) (htw _ mF_RX8_245) (fun _ h9 => h9) rfl (tyX8_ok 22 (Nat.le_of_ble_eq_true rfl)) rfl rfl (Nat.le_of_ble_eq_true rfl) dX8_laySudden_60 (fun H locs hP hD hS => ?_)
    have hP : va_P D vwCl (moW ac q th row un kp mt ps bx mo (v16, (su_sudden su)) wy wa od py ju pl rs) H := hP
    have hD : va_D A (moW ac q th row un kp mt ps bx mo (v16, (su_sudden su)) wy wa od py ju pl rs) := hD
    refine lv_iconst (v := 0) hx hb dX8_laySudden_63 rfl ?_
    refine lv_istore (lv' := [(6, .int 0), (0, .ref (q 0)), (1, .int x1), (2, .long x9), (4, .long x10)]) hx hb dX8_laySudden_64 hl (Nat.le_of_ble_eq_true rfl) rfl (fun ls hl => ?_)
    have hL22 : ∀ (n23 : Nat) (x20 : Int32) (su21 : Su), M_laySudden_L66 F row bx x1 x9 x10 n23 x20 su21 = some res → ∀ (H : Heap) (locs : List Loc) (ls : Array Slot), va_P D vwCl (moW ac q th row un kp mt ps bx mo su21 wy wa od py ju pl rs) H → va_D A (moW ac q th row un kp mt ps bx mo su21 wy wa od py ju pl rs) → va_S A s.heap H locs → lv_has ls 16 [(0, .ref (q 0)), (1, .int x1), (2, .long x9), (4, .long x10), (6, .int x20)] → W p l e ({ frames := 3, cells := 0, slots := 0, locals := 71 } : Room) s m (([.ref (q 0)] : List Value).toArray) below meth c H locs 0 0 (MQ below (va_Qv (fun _ : Unit => True) (fun _ => zB D A (moW ac q th row un kp mt ps bx mo res wy wa od py ju pl rs)) A) ([.ref (q 0)] : List Value).toArray s 0 0 A) (F0 m 66 ls []) := by
      intro n23
      induction n23 with
      | zero => intro x20 su21 hf; rw [M_laySudden_L66] at hf; cases hf
      | succ n23 ih24 =>
        intro x20 su21 hf H locs ls hP hD hS hl
        rw [M_laySudden_L66] at hf
        refine lv_iload hx hb dX8_laySudden_66 (lv_at hl 4 rfl) ?_
        refine lv_iconst (v := 2) hx hb dX8_laySudden_68 rfl ?_
        refine lv_icmp_ge (tgt := 192) hx hb dX8_laySudden_69 (by decide) (fun c25 => ?_) (fun c25 => ?_)
        · have hf := z_p c25 hf
          obtain rfl := Option.some.inj hf
          exact zr_Mv hx hb hr hlocks hP hD hS dX8_laySudden_192
        · have hf := z_n c25 hf
          refine lv_iconst (v := 0) hx hb dX8_laySudden_72 rfl ?_
          refine lv_istore (lv' := [(7, .int 0), (0, .ref (q 0)), (1, .int x1), (2, .long x9), (4, .long x10), (6, .int x20)]) hx hb dX8_laySudden_73 hl (Nat.le_of_ble_eq_true rfl) rfl (fun ls hl => ?_)
          have hL28 : ∀ (kx31 : Su → Option (Su)) (hkx31 : ∀ (su32 : Su), kx31 su32 = some res → ∀ (H : Heap) (locs : List Loc) (ls : Array Slot), va_P D vwCl (moW ac q th row un kp mt ps bx mo su32 wy wa od py ju pl rs) H → va_D A (moW ac q th row un kp mt ps bx mo su32 wy wa od py ju pl rs) → va_S A s.heap H locs → lv_has ls 16 [(0, .ref (q 0)), (1, .int x1), (2, .long x9), (4, .long x10), (6, .int x20)] → W p l e ({ frames := 3, cells := 0, slots := 0, locals := 71 } : Room) s m (([.ref (q 0)] : List Value).toArray) below meth c H locs 0 0 (MQ below (va_Qv (fun _ : Unit => True) (fun _ => zB D A (moW ac q th row un kp mt ps bx mo res wy wa od py ju pl rs)) A) ([.ref (q 0)] : List Value).toArray s 0 0 A) (F0 m 186 ls [])) (n29 : Nat) (x26 : Int32) (su27 : Su), M_laySudden_L75 F row bx x1 x9 x10 x20 kx31 n29 x26 su27 = some res → ∀ (H : Heap) (locs : List Loc) (ls : Array Slot), va_P D vwCl (moW ac q th row un kp mt ps bx mo su27 wy wa od py ju pl rs) H → va_D A (moW ac q th row un kp mt ps bx mo su27 wy wa od py ju pl rs) → va_S A s.heap H locs → lv_has ls 16 [(0, .ref (q 0)), (1, .int x1), (2, .long x9), (4, .long x10), (6, .int x20), (7, .int x26)] → W p l e ({ frames := 3, cells := 0, slots := 0, locals := 71 } : Room) s m (([.ref (q 0)] : List Value).toArray) below meth c H locs 0 0 (MQ below (va_Qv (fun _ : Unit => True) (fun _ => zB D A (moW ac q th row un kp mt ps bx mo res wy wa od py ju pl rs)) A) ([.ref (q 0)] : List Value).toArray s 0 0 A) (F0 m 75 ls []) := by
            intro kx31 hkx31 n29
            induction n29 with
            | zero => intro x26 su27 hf; rw [M_laySudden_L75] at hf; cases hf
            | succ n29 ih30 =>
              intro x26 su27 hf H locs ls hP hD hS hl
              rw [M_laySudden_L75] at hf
              refine lv_iload hx hb dX8_laySudden_75 (lv_at hl 5 rfl) ?_
              refine lv_iload_n hx hb dX8_laySudden_77 rfl (lv_at hl 1 rfl) ?_
              refine lv_icmp_ge (tgt := 186) hx hb dX8_laySudden_78 (by decide) (fun c33 => ?_) (fun c33 => ?_)
              · have hf := z_p c33 hf
                exact hkx31 su27 hf _ _ ls  hP hD hS (lv_sub hl [0, 1, 2, 3, 4] rfl)
              · have hf := z_n c33 hf
                refine lv_lconst (v := 0) hx hb dX8_laySudden_81 rfl ?_
                refine lv_lstore (lv' := [(8, .long 0), (0, .ref (q 0)), (1, .int x1), (2, .long x9), (4, .long x10), (6, .int x20), (7, .int x26)]) hx hb dX8_laySudden_82 hl (Nat.le_of_ble_eq_true rfl) rfl (fun ls hl => ?_)
                refine lv_lconst (v := 1) hx hb dX8_laySudden_84 rfl ?_
                refine lv_lstore (lv' := [(10, .long 1), (8, .long 0), (0, .ref (q 0)), (1, .int x1), (2, .long x9), (4, .long x10), (6, .int x20), (7, .int x26)]) hx hb dX8_laySudden_85 hl (Nat.le_of_ble_eq_true rfl) rfl (fun ls hl => ?_)
                refine lv_lload_n hx hb dX8_laySudden_87 rfl (lv_at hl 4 rfl) ?_
                refine lv_lstore (lv' := [(12, .long x9), (10, .long 1), (8, .long 0), (0, .ref (q 0)), (1, .int x1), (2, .long x9), (4, .long x10), (6, .int x20), (7, .int x26)]) hx hb dX8_laySudden_88 hl (Nat.le_of_ble_eq_true rfl) rfl (fun ls hl => ?_)
                refine lv_iconst (v := 0) hx hb dX8_laySudden_90 rfl ?_
                refine lv_istore (lv' := [(14, .int 0), (12, .long x9), (10, .long 1), (8, .long 0), (0, .ref (q 0)), (1, .int x1), (2, .long x9), (4, .long x10), (6, .int x20), (7, .int x26)]) hx hb dX8_laySudden_91 hl (Nat.le_of_ble_eq_true rfl) rfl (fun ls hl => ?_)
                have hL38 : ∀ (kx41 : Int64 → Option (Su)) (hkx41 : ∀ (x42 : Int64), kx41 x42 = some res → ∀ (H : Heap) (locs : List Loc) (ls : Array Slot), va_P D vwCl (moW ac q th row un kp mt ps bx mo su27 wy wa od py ju pl rs) H → va_D A (moW ac q th row un kp mt ps bx mo su27 wy wa od py ju pl rs) → va_S A s.heap H locs → lv_has ls 16 [(0, .ref (q 0)), (1, .int x1), (2, .long x9), (4, .long x10), (6, .int x20), (7, .int x26), (8, .long x42)] → W p l e ({ frames := 3, cells := 0, slots := 0, locals := 71 } : Room) s m (([.ref (q 0)] : List Value).toArray) below meth c H locs 0 0 (MQ below (va_Qv (fun _ : Unit => True) (fun _ => zB D A (moW ac q th row un kp mt ps bx mo res wy wa od py ju pl rs)) A) ([.ref (q 0)] : List Value).toArray s 0 0 A) (F0 m 155 ls [])) (n39 : Nat) (x34 : Int64) (x35 : Int64) (x36 : Int64) (x37 : Int32), M_laySudden_L93 row bx x1 x20 x26 kx41 n39 x34 x35 x36 x37 = some res → ∀ (H : Heap) (locs : List Loc) (ls : Array Slot), va_P D vwCl (moW ac q th row un kp mt ps bx mo su27 wy wa od py ju pl rs) H → va_D A (moW ac q th row un kp mt ps bx mo su27 wy wa od py ju pl rs) → va_S A s.heap H locs → lv_has ls 16 [(0, .ref (q 0)), (1, .int x1), (2, .long x9), (4, .long x10), (6, .int x20), (7, .int x26), (8, .long x34), (10, .long x35), (12, .long x36), (14, .int x37)] → W p l e ({ frames := 3, cells := 0, slots := 0, locals := 71 } : Room) s m (([.ref (q 0)] : List Value).toArray) below meth c H locs 0 0 (MQ below (va_Qv (fun _ : Unit => True) (fun _ => zB D A (moW ac q th row un kp mt ps bx mo res wy wa od py ju pl rs)) A) ([.ref (q 0)] : List Value).toArray s 0 0 A) (F0 m 93 ls []) := by
                  intro kx41 hkx41 n39
                  induction n39 with
                  | zero => intro x34 x35 x36 x37 hf; rw [M_laySudden_L93] at hf; cases hf
                  | succ n39 ih40 =>
                    intro x34 x35 x36 x37 hf H locs ls hP hD hS hl
                    rw [M_laySudden_L93] at hf
                    refine lv_iload hx hb dX8_laySudden_93 (lv_at hl 9 rfl) ?_
                    refine lv_iload_n hx hb dX8_laySudden_95 rfl (lv_at hl 1 rfl) ?_
                    refine lv_icmp_ge (tgt := 155) hx hb dX8_laySudden_96 (by decide) (fun c43 => ?_) (fun c43 => ?_)
                    · have hf := z_p c43 hf
                      exact hkx41 x34 hf _ _ ls  hP hD hS (lv_sub hl [0, 1, 2, 3, 4, 5, 6] rfl)
                    · have hf := z_n c43 hf
                      refine lv_iload hx hb dX8_laySudden_99 (lv_at hl 5 rfl) ?_
                      refine lv_iload hx hb dX8_laySudden_101 (lv_at hl 9 rfl) ?_
                      refine lv_iadd hx hb dX8_laySudden_103 ?_
                      refine lv_iload_n hx hb dX8_laySudden_104 rfl (lv_at hl 1 rfl) ?_
                      obtain ⟨g44, hf⟩ := z_gd_u hf
                      refine zv_irem hx hb dX8_laySudden_105 (z_nz_u g44) ?_
                      refine lv_topi (fun x45 hx45 => ?_)
                      have hf := z_let_u hx45 hf
                      refine lv_istore (lv' := [(15, .int x45), (0, .ref (q 0)), (1, .int x1), (2, .long x9), (4, .long x10), (6, .int x20), (7, .int x26), (8, .long x34), (10, .long x35), (12, .long x36), (14, .int x37)]) hx hb dX8_laySudden_106 hl (Nat.le_of_ble_eq_true rfl) rfl (fun ls hl => ?_)
                      refine lv_lload hx hb dX8_laySudden_108 (lv_at hl 9 rfl) ?_
                      refine lv_ldc2 (v := 36) hx hb hown (htw _ mG_RX8_239) dX8_laySudden_110 ?_
                      refine lv_ldiv hx hb dX8_laySudden_113 (by decide) ?_
                      refine lv_topl (fun x46 hx46 => ?_)
                      have hf := z_let_u hx46 hf
                      refine lv_lstore (lv' := [(12, .long x46), (15, .int x45), (0, .ref (q 0)), (1, .int x1), (2, .long x9), (4, .long x10), (6, .int x20), (7, .int x26), (8, .long x34), (10, .long x35), (14, .int x37)]) hx hb dX8_laySudden_114 hl (Nat.le_of_ble_eq_true rfl) rfl (fun ls hl => ?_)
                      refine lv_lload hx hb dX8_laySudden_116 (lv_at hl 8 rfl) ?_
                      refine lv_lload hx hb dX8_laySudden_118 (lv_at hl 9 rfl) ?_
                      refine lv_aload_n hx hb dX8_laySudden_120 rfl (lv_at hl 2 rfl) ?_
                      refine lv_iload hx hb dX8_laySudden_121 (lv_at hl 1 rfl) ?_
                      refine lv_iload hx hb dX8_laySudden_123 (lv_at hl 6 rfl) ?_
                      obtain ⟨r47, hr47, hf⟩ := z_bd_u hf
                      refine zc_RVi (As := [.int x45, .int x20]) (rest := [.long x35, .long x34]) hx hb hml hown htw (ctX8_roundWays l D ac cs q th row un kp mt ps bx mo su27 wy wa od py ju pl rs x45 x20   _ hr47) (g_V mM_RX8_241 mI_yX8_roundWays mS_RX8_yX8_roundWays_yX8_roundWays mN_RX8 mC_yX8_roundWays) rfl (hd_yX8_roundWays) ⟨rfl, rfl⟩ ⟨(Nat.le_of_ble_eq_true rfl), (Nat.le_of_ble_eq_true rfl)⟩ hKX hC hS hP 8 rfl rfl rfl hl.1 rfl (Nat.le_of_ble_eq_true rfl) ⟨Nat.zero_le _, Nat.zero_le _⟩ dX8_laySudden_125 ?_
                      refine lv_i2l hx hb dX8_laySudden_128 rfl ?_
                      refine lv_lmul hx hb dX8_laySudden_129 ?_
                      refine lv_lload hx hb dX8_laySudden_130 (lv_at hl 0 rfl) ?_
                      refine lv_lmul hx hb dX8_laySudden_132 ?_
                      refine lv_ladd hx hb dX8_laySudden_133 ?_
                      refine lv_topl (fun x48 hx48 => ?_)
                      have hf := z_let_u hx48 hf
                      refine lv_lstore (lv' := [(8, .long x48), (12, .long x46), (15, .int x45), (0, .ref (q 0)), (1, .int x1), (2, .long x9), (4, .long x10), (6, .int x20), (7, .int x26), (10, .long x35), (14, .int x37)]) hx hb dX8_laySudden_134 hl (Nat.le_of_ble_eq_true rfl) rfl (fun ls hl => ?_)
                      refine lv_lload hx hb dX8_laySudden_136 (lv_at hl 9 rfl) ?_
                      refine lv_aload_n hx hb dX8_laySudden_138 rfl (lv_at hl 3 rfl) ?_
                      refine lv_iload hx hb dX8_laySudden_139 (lv_at hl 2 rfl) ?_
                      refine lv_iconst (v := (-1)) hx hb dX8_laySudden_141 rfl ?_
                      obtain ⟨r49, hr49, hf⟩ := z_bd_u hf
                      refine zc_RVi (As := [.int x45, .int (-1)]) (rest := [.long x35]) hx hb hml hown htw (ctX8_roundWays l D ac cs q th row un kp mt ps bx mo su27 wy wa od py ju pl rs x45 (-1)   _ hr49) (g_V mM_RX8_241 mI_yX8_roundWays mS_RX8_yX8_roundWays_yX8_roundWays mN_RX8 mC_yX8_roundWays) rfl (hd_yX8_roundWays) ⟨rfl, rfl⟩ ⟨(Nat.le_of_ble_eq_true rfl), (Nat.le_of_ble_eq_true rfl)⟩ hKX hC hS hP 8 rfl rfl rfl hl.1 rfl (Nat.le_of_ble_eq_true rfl) ⟨Nat.zero_le _, Nat.zero_le _⟩ dX8_laySudden_142 ?_
                      refine lv_i2l hx hb dX8_laySudden_145 rfl ?_
                      refine lv_lmul hx hb dX8_laySudden_146 ?_
                      refine lv_topl (fun x50 hx50 => ?_)
                      have hf := z_let_u hx50 hf
                      refine lv_lstore (lv' := [(10, .long x50), (8, .long x48), (12, .long x46), (15, .int x45), (0, .ref (q 0)), (1, .int x1), (2, .long x9), (4, .long x10), (6, .int x20), (7, .int x26), (14, .int x37)]) hx hb dX8_laySudden_147 hl (Nat.le_of_ble_eq_true rfl) rfl (fun ls hl => ?_)
                      obtain ⟨x51, hx51⟩ : ∃ y : Int32, y = (x37 + 1) := ⟨_, rfl⟩
                      have hf := z_let_u hx51 hf
                      refine lv_iinc (v := x51) (lv' := [(14, .int x51), (10, .long x50), (8, .long x48), (12, .long x46), (15, .int x45), (0, .ref (q 0)), (1, .int x1), (2, .long x9), (4, .long x10), (6, .int x20), (7, .int x26)]) hx hb dX8_laySudden_149 hl (k := 10) rfl (by rw [hx51]; rfl) (Nat.le_of_ble_eq_true rfl) rfl (fun ls hl => ?_)
                      refine lv_goto (tgt := 93) hx hb dX8_laySudden_152 (by decide) ?_
                      exact ih40 x48 x50 x46 x51 hf _ _ ls  hP hD hS (lv_sub hl [5, 6, 7, 8, 9, 10, 2, 1, 3, 0] rfl)
                refine hL38 _ ?_ F 0 1 x9 0 hf _ _ ls  hP hD hS (lv_sub hl [4, 5, 6, 7, 8, 9, 3, 2, 1, 0] rfl)
                intro x42 hf H locs ls hP hD hS hl
                refine lv_aload_n hx hb dX8_laySudden_155 rfl (lv_at hl 0 rfl) ?_
                refine va_get (D := D) (ci := 8) (v := .ref (q 11)) (C := RX8) (T := TX8) (N := 41) hx hb htw WW_wsX80 hown hKX.1 hP 0 rfl rfl 23 (Nat.le_of_ble_eq_true rfl) (htw _ mF_RX8_44) (fun _ h9 => h9) rfl dX8_laySudden_156 ?_
                refine lv_iconst (v := 5) hx hb dX8_laySudden_159 rfl ?_
                refine lv_iload hx hb dX8_laySudden_160 (lv_at hl 4 rfl) ?_
                refine lv_imul hx hb dX8_laySudden_162 ?_
                refine lv_iload hx hb dX8_laySudden_163 (lv_at hl 5 rfl) ?_
                refine lv_iadd hx hb dX8_laySudden_165 ?_
                refine lv_lload_n hx hb dX8_laySudden_166 rfl (lv_at hl 2 rfl) ?_
                refine lv_lload hx hb dX8_laySudden_167 (lv_at hl 3 rfl) ?_
                refine W.lcmp hx hb dX8_laySudden_169 ?_
                have hj54 : ∀ (v52 : Int64), v52 = (if (lg_cmp x9 x10) = 0 then 0 else x42) → ∀ (H : Heap) (locs : List Loc) (ls : Array Slot), va_P D vwCl (moW ac q th row un kp mt ps bx mo su27 wy wa od py ju pl rs) H → va_D A (moW ac q th row un kp mt ps bx mo su27 wy wa od py ju pl rs) → va_S A s.heap H locs → lv_has ls 16 [(0, .ref (q 0)), (1, .int x1), (2, .long x9), (4, .long x10), (6, .int x20), (7, .int x26)] → W p l e ({ frames := 3, cells := 0, slots := 0, locals := 71 } : Room) s m (([.ref (q 0)] : List Value).toArray) below meth c H locs 0 0 (MQ below (va_Qv (fun _ : Unit => True) (fun _ => zB D A (moW ac q th row un kp mt ps bx mo res wy wa od py ju pl rs)) A) ([.ref (q 0)] : List Value).toArray s 0 0 A) (F0 m 179 ls [.long v52, .int ((5 * x20) + x26), .ref (q 11)]) := by
                  intro v52 hv52 H locs ls hP hD hS hl
                  have hf := z_let_u hv52 hf
                  obtain ⟨g56, hf⟩ := z_gd_u hf
                  refine va_last hx hb hKX.1 hP hD hS 11 1 rfl rfl (z_in_u g56) dX8_laySudden_179 (fun H locs hP hD hS => ?_)
                  have hP : va_P D vwCl (moW ac q th row un kp mt ps bx mo ((su_lower su27), (vp_updL (su_sudden su27) ((5 * x20) + x26).toNatClampNeg v52)) wy wa od py ju pl rs) H := hP
                  have hD : va_D A (moW ac q th row un kp mt ps bx mo ((su_lower su27), (vp_updL (su_sudden su27) ((5 * x20) + x26).toNatClampNeg v52)) wy wa od py ju pl rs) := hD
                  obtain ⟨x57, hx57⟩ : ∃ y : Int32, y = (x26 + 1) := ⟨_, rfl⟩
                  have hf := z_let_u hx57 hf
                  refine lv_iinc (v := x57) (lv' := [(7, .int x57), (0, .ref (q 0)), (1, .int x1), (2, .long x9), (4, .long x10), (6, .int x20)]) hx hb dX8_laySudden_180 hl (k := 5) rfl (by rw [hx57]; rfl) (Nat.le_of_ble_eq_true rfl) rfl (fun ls hl => ?_)
                  refine lv_goto (tgt := 75) hx hb dX8_laySudden_183 (by decide) ?_
                  exact ih30 x57 ((su_lower su27), (vp_updL (su_sudden su27) ((5 * x20) + x26).toNatClampNeg v52)) hf _ _ ls  hP hD hS (lv_sub hl [1, 2, 3, 4, 5, 0] rfl)
                refine lv_if_ne (tgt := 177) hx hb dX8_laySudden_170 (by decide) (fun c55 => ?_) (fun c55 => ?_)
                · skip
                  refine lv_lload hx hb dX8_laySudden_177 (lv_at hl 6 rfl) ?_
                  exact hj54 x42 (if_neg c55).symm _ _ ls hP hD hS (lv_sub hl [0, 1, 2, 3, 4, 5] rfl)
                · skip
                  refine lv_lconst (v := 0) hx hb dX8_laySudden_173 rfl ?_
                  refine lv_goto (tgt := 179) hx hb dX8_laySudden_174 (by decide) ?_
                  exact hj54 0 (if_pos c55).symm _ _ ls hP hD hS (lv_sub hl [0, 1, 2, 3, 4, 5] rfl)
          refine hL28 _ ?_ F 0 su21 hf _ _ ls  hP hD hS (lv_sub hl [1, 2, 3, 4, 5, 0] rfl)
          intro su32 hf H locs ls hP hD hS hl
          obtain ⟨x58, hx58⟩ : ∃ y : Int32, y = (x20 + 1) := ⟨_, rfl⟩
          have hf := z_let_u hx58 hf
          refine lv_iinc (v := x58) (lv' := [(6, .int x58), (0, .ref (q 0)), (1, .int x1), (2, .long x9), (4, .long x10)]) hx hb dX8_laySudden_186 hl (k := 4) rfl (by rw [hx58]; rfl) (Nat.le_of_ble_eq_true rfl) rfl (fun ls hl => ?_)
          refine lv_goto (tgt := 66) hx hb dX8_laySudden_189 (by decide) ?_
          exact ih24 x58 su32 hf _ _ ls  hP hD hS (lv_sub hl [1, 2, 3, 4, 0] rfl)
    refine hL22  F 0 (v16, (su_sudden su)) hf _ _ ls  hP hD hS (lv_sub hl [1, 2, 3, 4, 0] rfl)
  refine lv_if_ne (tgt := 56) hx hb dX8_laySudden_49 (by decide) (fun c19 => ?_) (fun c19 => ?_)
  · skip
    refine lv_lload_n hx hb dX8_laySudden_56 rfl (lv_at hl 2 rfl) ?_
    refine lv_lload hx hb dX8_laySudden_57 (lv_at hl 3 rfl) ?_
    refine lv_lsub hx hb dX8_laySudden_59 ?_
    exact hj18 (x9 - x10) (if_neg c19).symm _ _ ls hP hD hS (lv_sub hl [0, 1, 2, 3] rfl)
  · skip
    refine lv_lconst (v := 1) hx hb dX8_laySudden_52 rfl ?_
    refine lv_goto (tgt := 60) hx hb dX8_laySudden_53 (by decide) ?_
    exact hj18 1 (if_pos c19).symm _ _ ls hP hD hS (lv_sub hl [0, 1, 2, 3] rfl)

theorem hd_yX8_keepMoment : hdY yX8_keepMoment 0 := by decide +kernel
def M_keepMoment (mo : Mo) (wa : Wa) : Option (Wa) := z_let ((mo_goals mo) 0) (fun x1 : Int32 => z_let ((mo_goals mo) 1) (fun x2 : Int32 => z_let ((mo_kicked mo) 0) (fun x3 : Int32 => z_let ((mo_kicked mo) 1) (fun x4 : Int32 => z_let (mo_kicks mo) (fun x5 : Int32 => z_let (mo_leader mo) (fun x6 : Int32 => z_let (mo_isOver mo) (fun x7 : Int32 => z_gd (z_b x7) (some ((upd (upd (upd (upd (upd (upd (wa_was wa) 0 x1) 1 x2) 2 x3) 3 x4) 4 x5) 5 x6), x7)))))))))
set_option maxHeartbeats 4000000 in
set_option maxRecDepth 100000 in
theorem ctX8_keepMoment (l : Launch) (D : va_G) (ac cs : Nat → Nat) (q : Nat → Nat) (sz : Nat) (th : Th) (row : MRow) (un : Un) (kp : Kp) (mt : Mt) (ps : Ps) (bx : Bx) (mo : Mo) (su : Su) (wy : Wy) (wa : Wa) (od : Od) (py : Py) (ju : Ju) (pl : Pl) (rs : Rs) (res : Wa) (hf : M_keepMoment mo wa = some res) : Met l yX8_keepMoment (cWW yX8_keepMoment cX8_keepMoment 1 none) { frames := 0, cells := 0, slots := 0, locals := 0 } (zM D ac cs [.ref (q 0)] (moW ac q th row un kp mt ps bx mo su wy wa od py ju pl rs) sz) (va_Qv (fun _ : Unit => True) (fun _ => zB D (va_A (moW ac q th row un kp mt ps bx mo su wy wa od py ju pl rs) sz) (moW ac q th row un kp mt ps bx mo su wy res od py ju pl rs)) (va_A (moW ac q th row un kp mt ps bx mo su wy wa od py ju pl rs) sz)) 0 0 (va_A (moW ac q th row un kp mt ps bx mo su wy wa od py ju pl rs) sz) := by
  refine Met.ofW (cc := cX8_keepMoment) (maxL := 1) (ret := none) (by decide) rfl ?_
  intro p e s m args below meth c s₁ B hml hv
  obtain ⟨rfl, hsz, hP, hKX, hD0, hC⟩ := hv
  have hx := B.exec
  have hb := B.bytes
  have hr := B.returns
  have hts := atoms_spec (ws := cWW yX8_keepMoment cX8_keepMoment 1 none) B.pre
  have htw : ∀ w ∈ WW, w.before _ s = true := fun w h => hts w (List.mem_cons_of_mem _ h)
  have hown : s.vm.findClass RX8 = some m.cls := findClass_of_methodNamed B.named
  have hlocks := B.notSynchronized
  clear hts B
  subst hsz
  have hD := hD0.self (sz := s.heap.size)
  generalize hAe : va_A (moW ac q th row un kp mt ps bx mo su wy wa od py ju pl rs) s.heap.size = A at hD hC ⊢
  have hA : ∀ q : Nat, s.heap.size ≤ q → A q := fun q h => by rw [← hAe]; exact Or.inr h
  have hS : va_S A s.heap s.heap [] := va_S.rf
  clear hD0 hAe
  have hP : va_P D vwCl (moW ac q th row un kp mt ps bx mo su wy wa od py ju pl rs) s.heap := hP
  have hl := lv_entry ([.ref (q 0)]) (n := 1) (Nat.le_of_ble_eq_true rfl)
  rw [lg_entry_eq]
  generalize (lg_sl ([.ref (q 0)]) ++ List.replicate (1 - (lg_sl ([.ref (q 0)])).length) Slot.unset).toArray = ls at hl ⊢
  have hl : lv_has ls 1 [(0, .ref (q 0))] := hl
  unfold M_keepMoment at hf
  show W p l e ({ frames := 0, cells := 0, slots := 0, locals := 0 } : Room) s m _ below meth c s.heap [] 0 0 _ (F0 m 0 ls [])
  refine lv_aload_n hx hb dX8_keepMoment_0 rfl (lv_at hl 0 rfl) ?_
  refine va_get (D := D) (ci := 8) (v := .ref (q 15)) (C := RX8) (T := TX8) (N := 41) hx hb htw WW_wsX80 hown hKX.1 hP 0 rfl rfl 29 (Nat.le_of_ble_eq_true rfl) (htw _ mF_RX8_57) (fun _ h9 => h9) rfl dX8_keepMoment_1 ?_
  refine lv_iconst (v := 0) hx hb dX8_keepMoment_4 rfl ?_
  refine lv_aload_n hx hb dX8_keepMoment_5 rfl (lv_at hl 0 rfl) ?_
  refine va_get (D := D) (ci := 8) (v := .ref (q 9)) (C := RX8) (T := TX8) (N := 41) hx hb htw WW_wsX80 hown hKX.1 hP 0 rfl rfl 17 (Nat.le_of_ble_eq_true rfl) (htw _ mF_RX8_38) (fun _ h9 => h9) rfl dX8_keepMoment_6 ?_
  refine lv_iconst (v := 0) hx hb dX8_keepMoment_9 rfl ?_
  refine zv_iald_k hx hb hKX.1 hP 9 0 rfl rfl 0 rfl (z_in_u (by decide +kernel)) dX8_keepMoment_10 ?_
  refine lv_topi (fun x1 hx1 => ?_)
  have hf := z_let_u hx1 hf
  refine zv_iast_k hx hb hKX.1 hP hD hS 15 0 rfl rfl 0 rfl (z_in_u (by decide +kernel)) dX8_keepMoment_11 (fun H locs hP hD hS => ?_)
  have hP : va_P D vwCl (moW ac q th row un kp mt ps bx mo su wy ((upd (wa_was wa) 0 x1), (wa_wasOver wa)) od py ju pl rs) H := hP
  have hD : va_D A (moW ac q th row un kp mt ps bx mo su wy ((upd (wa_was wa) 0 x1), (wa_wasOver wa)) od py ju pl rs) := hD
  refine lv_aload_n hx hb dX8_keepMoment_12 rfl (lv_at hl 0 rfl) ?_
  refine va_get (D := D) (ci := 8) (v := .ref (q 15)) (C := RX8) (T := TX8) (N := 41) hx hb htw WW_wsX80 hown hKX.1 hP 0 rfl rfl 29 (Nat.le_of_ble_eq_true rfl) (htw _ mF_RX8_57) (fun _ h9 => h9) rfl dX8_keepMoment_13 ?_
  refine lv_iconst (v := 1) hx hb dX8_keepMoment_16 rfl ?_
  refine lv_aload_n hx hb dX8_keepMoment_17 rfl (lv_at hl 0 rfl) ?_
  refine va_get (D := D) (ci := 8) (v := .ref (q 9)) (C := RX8) (T := TX8) (N := 41) hx hb htw WW_wsX80 hown hKX.1 hP 0 rfl rfl 17 (Nat.le_of_ble_eq_true rfl) (htw _ mF_RX8_38) (fun _ h9 => h9) rfl dX8_keepMoment_18 ?_
  refine lv_iconst (v := 1) hx hb dX8_keepMoment_21 rfl ?_
  refine zv_iald_k hx hb hKX.1 hP 9 0 rfl rfl 1 rfl (z_in_u (by decide +kernel)) dX8_keepMoment_22 ?_
  refine lv_topi (fun x2 hx2 => ?_)
  have hf := z_let_u hx2 hf
  refine zv_iast_k hx hb hKX.1 hP hD hS 15 0 rfl rfl 1 rfl (z_in_u (by decide +kernel)) dX8_keepMoment_23 (fun H locs hP hD hS => ?_)
  have hP : va_P D vwCl (moW ac q th row un kp mt ps bx mo su wy ((upd (upd (wa_was wa) 0 x1) 1 x2), (wa_wasOver wa)) od py ju pl rs) H := hP
  have hD : va_D A (moW ac q th row un kp mt ps bx mo su wy ((upd (upd (wa_was wa) 0 x1) 1 x2), (wa_wasOver wa)) od py ju pl rs) := hD
  refine lv_aload_n hx hb dX8_keepMoment_24 rfl (lv_at hl 0 rfl) ?_
  refine va_get (D := D) (ci := 8) (v := .ref (q 15)) (C := RX8) (T := TX8) (N := 41) hx hb htw WW_wsX80 hown hKX.1 hP 0 rfl rfl 29 (Nat.le_of_ble_eq_true rfl) (htw _ mF_RX8_57) (fun _ h9 => h9) rfl dX8_keepMoment_25 ?_
  refine lv_iconst (v := 2) hx hb dX8_keepMoment_28 rfl ?_
  refine lv_aload_n hx hb dX8_keepMoment_29 rfl (lv_at hl 0 rfl) ?_
  refine va_get (D := D) (ci := 8) (v := .ref (q 10)) (C := RX8) (T := TX8) (N := 41) hx hb htw WW_wsX80 hown hKX.1 hP 0 rfl rfl 18 (Nat.le_of_ble_eq_true rfl) (htw _ mF_RX8_41) (fun _ h9 => h9) rfl dX8_keepMoment_30 ?_
  refine lv_iconst (v := 0) hx hb dX8_keepMoment_33 rfl ?_
  refine zv_iald_k hx hb hKX.1 hP 10 0 rfl rfl 0 rfl (z_in_u (by decide +kernel)) dX8_keepMoment_34 ?_
  refine lv_topi (fun x3 hx3 => ?_)
  have hf := z_let_u hx3 hf
  refine zv_iast_k hx hb hKX.1 hP hD hS 15 0 rfl rfl 2 rfl (z_in_u (by decide +kernel)) dX8_keepMoment_35 (fun H locs hP hD hS => ?_)
  have hP : va_P D vwCl (moW ac q th row un kp mt ps bx mo su wy ((upd (upd (upd (wa_was wa) 0 x1) 1 x2) 2 x3), (wa_wasOver wa)) od py ju pl rs) H := hP
  have hD : va_D A (moW ac q th row un kp mt ps bx mo su wy ((upd (upd (upd (wa_was wa) 0 x1) 1 x2) 2 x3), (wa_wasOver wa)) od py ju pl rs) := hD
  refine lv_aload_n hx hb dX8_keepMoment_36 rfl (lv_at hl 0 rfl) ?_
  refine va_get (D := D) (ci := 8) (v := .ref (q 15)) (C := RX8) (T := TX8) (N := 41) hx hb htw WW_wsX80 hown hKX.1 hP 0 rfl rfl 29 (Nat.le_of_ble_eq_true rfl) (htw _ mF_RX8_57) (fun _ h9 => h9) rfl dX8_keepMoment_37 ?_
  refine lv_iconst (v := 3) hx hb dX8_keepMoment_40 rfl ?_
  refine lv_aload_n hx hb dX8_keepMoment_41 rfl (lv_at hl 0 rfl) ?_
  refine va_get (D := D) (ci := 8) (v := .ref (q 10)) (C := RX8) (T := TX8) (N := 41) hx hb htw WW_wsX80 hown hKX.1 hP 0 rfl rfl 18 (Nat.le_of_ble_eq_true rfl) (htw _ mF_RX8_41) (fun _ h9 => h9) rfl dX8_keepMoment_42 ?_
  refine lv_iconst (v := 1) hx hb dX8_keepMoment_45 rfl ?_
  refine zv_iald_k hx hb hKX.1 hP 10 0 rfl rfl 1 rfl (z_in_u (by decide +kernel)) dX8_keepMoment_46 ?_
  refine lv_topi (fun x4 hx4 => ?_)
  have hf := z_let_u hx4 hf
  refine zv_iast_k hx hb hKX.1 hP hD hS 15 0 rfl rfl 3 rfl (z_in_u (by decide +kernel)) dX8_keepMoment_47 (fun H locs hP hD hS => ?_)
  have hP : va_P D vwCl (moW ac q th row un kp mt ps bx mo su wy ((upd (upd (upd (upd (wa_was wa) 0 x1) 1 x2) 2 x3) 3 x4), (wa_wasOver wa)) od py ju pl rs) H := hP
  have hD : va_D A (moW ac q th row un kp mt ps bx mo su wy ((upd (upd (upd (upd (wa_was wa) 0 x1) 1 x2) 2 x3) 3 x4), (wa_wasOver wa)) od py ju pl rs) := hD
  refine lv_aload_n hx hb dX8_keepMoment_48 rfl (lv_at hl 0 rfl) ?_
  refine va_get (D := D) (ci := 8) (v := .ref (q 15)) (C := RX8) (T := TX8) (N := 41) hx hb htw WW_wsX80 hown hKX.1 hP 0 rfl rfl 29 (Nat.le_of_ble_eq_true rfl) (htw _ mF_RX8_57) (fun _ h9 => h9) rfl dX8_keepMoment_49 ?_
  refine lv_iconst (v := 4) hx hb dX8_keepMoment_52 rfl ?_
  refine lv_aload_n hx hb dX8_keepMoment_53 rfl (lv_at hl 0 rfl) ?_
  refine va_get (D := D) (ci := 8) (v := .int (mo_kicks mo)) (C := RX8) (T := TX8) (N := 41) hx hb htw WW_wsX80 hown hKX.1 hP 0 rfl rfl 19 (Nat.le_of_ble_eq_true rfl) (htw _ mF_RX8_202) (fun _ h9 => h9) rfl dX8_keepMoment_54 ?_
  refine lv_topi (fun x5 hx5 => ?_)
  have hf := z_let_u hx5 hf
  refine zv_iast_k hx hb hKX.1 hP hD hS 15 0 rfl rfl 4 rfl (z_in_u (by decide +kernel)) dX8_keepMoment_57 (fun H locs hP hD hS => ?_)
  have hP : va_P D vwCl (moW ac q th row un kp mt ps bx mo su wy ((upd (upd (upd (upd (upd (wa_was wa) 0 x1) 1 x2) 2 x3) 3 x4) 4 x5), (wa_wasOver wa)) od py ju pl rs) H := hP
  have hD : va_D A (moW ac q th row un kp mt ps bx mo su wy ((upd (upd (upd (upd (upd (wa_was wa) 0 x1) 1 x2) 2 x3) 3 x4) 4 x5), (wa_wasOver wa)) od py ju pl rs) := hD
  refine lv_aload_n hx hb dX8_keepMoment_58 rfl (lv_at hl 0 rfl) ?_
  refine va_get (D := D) (ci := 8) (v := .ref (q 15)) (C := RX8) (T := TX8) (N := 41) hx hb htw WW_wsX80 hown hKX.1 hP 0 rfl rfl 29 (Nat.le_of_ble_eq_true rfl) (htw _ mF_RX8_57) (fun _ h9 => h9) rfl dX8_keepMoment_59 ?_
  refine lv_iconst (v := 5) hx hb dX8_keepMoment_62 rfl ?_
  refine lv_aload_n hx hb dX8_keepMoment_63 rfl (lv_at hl 0 rfl) ?_
  refine va_get (D := D) (ci := 8) (v := .int (mo_leader mo)) (C := RX8) (T := TX8) (N := 41) hx hb htw WW_wsX80 hown hKX.1 hP 0 rfl rfl 20 (Nat.le_of_ble_eq_true rfl) (htw _ mF_RX8_205) (fun _ h9 => h9) rfl dX8_keepMoment_64 ?_
  refine lv_topi (fun x6 hx6 => ?_)
  have hf := z_let_u hx6 hf
  refine zv_iast_k hx hb hKX.1 hP hD hS 15 0 rfl rfl 5 rfl (z_in_u (by decide +kernel)) dX8_keepMoment_67 (fun H locs hP hD hS => ?_)
  have hP : va_P D vwCl (moW ac q th row un kp mt ps bx mo su wy ((upd (upd (upd (upd (upd (upd (wa_was wa) 0 x1) 1 x2) 2 x3) 3 x4) 4 x5) 5 x6), (wa_wasOver wa)) od py ju pl rs) H := hP
  have hD : va_D A (moW ac q th row un kp mt ps bx mo su wy ((upd (upd (upd (upd (upd (upd (wa_was wa) 0 x1) 1 x2) 2 x3) 3 x4) 4 x5) 5 x6), (wa_wasOver wa)) od py ju pl rs) := hD
  refine lv_aload_n hx hb dX8_keepMoment_68 rfl (lv_at hl 0 rfl) ?_
  refine lv_aload_n hx hb dX8_keepMoment_69 rfl (lv_at hl 0 rfl) ?_
  refine va_get (D := D) (ci := 8) (v := .int (mo_isOver mo)) (C := RX8) (T := TX8) (N := 41) hx hb htw WW_wsX80 hown hKX.1 hP 0 rfl rfl 21 (Nat.le_of_ble_eq_true rfl) (htw _ mF_RX8_208) (fun _ h9 => h9) rfl dX8_keepMoment_70 ?_
  refine lv_topi (fun x7 hx7 => ?_)
  have hf := z_let_u hx7 hf
  obtain ⟨g8, hf⟩ := z_gd_u hf
  refine va_put (D := D) (ci := 8) (v := .int x7) (ty := tyX8 30) (C := RX8) (T := TX8) (N := 41) hx hb htw WW_wsX80 tyX8 tyX8_ok nmX8 hown hKX.1 hP hD hS 0 rfl rfl 30 (Nat.le_of_ble_eq_true rfl) (htw _ mF_RX8_249) (fun _ h9 => h9) rfl (tyX8_ok 30 (Nat.le_of_ble_eq_true rfl)) (z_b_n g8) (z_b_f g8) (Nat.le_of_ble_eq_true rfl) dX8_keepMoment_73 (fun H locs hP hD hS => ?_)
  have hP : va_P D vwCl (moW ac q th row un kp mt ps bx mo su wy ((upd (upd (upd (upd (upd (upd (wa_was wa) 0 x1) 1 x2) 2 x3) 3 x4) 4 x5) 5 x6), x7) od py ju pl rs) H := hP
  have hD : va_D A (moW ac q th row un kp mt ps bx mo su wy ((upd (upd (upd (upd (upd (upd (wa_was wa) 0 x1) 1 x2) 2 x3) 3 x4) 4 x5) 5 x6), x7) od py ju pl rs) := hD
  obtain rfl := Option.some.inj hf
  exact zr_Mv hx hb hr hlocks hP hD hS dX8_keepMoment_76

theorem hd_yX8_bringMoment : hdY yX8_bringMoment 0 := by decide +kernel
def M_bringMoment (mo : Mo) (wa : Wa) : Option (Mo) := z_let ((wa_was wa) 0) (fun x1 : Int32 => z_let ((wa_was wa) 1) (fun x2 : Int32 => z_let ((wa_was wa) 2) (fun x3 : Int32 => z_let ((wa_was wa) 3) (fun x4 : Int32 => z_let ((wa_was wa) 4) (fun x5 : Int32 => z_let ((wa_was wa) 5) (fun x6 : Int32 => z_let (wa_wasOver wa) (fun x7 : Int32 => z_gd (z_b x7) (some ((upd (upd (mo_goals mo) 0 x1) 1 x2), (upd (upd (mo_kicked mo) 0 x3) 1 x4), x5, x6, x7)))))))))
set_option maxHeartbeats 4000000 in
set_option maxRecDepth 100000 in
theorem ctX8_bringMoment (l : Launch) (D : va_G) (ac cs : Nat → Nat) (q : Nat → Nat) (sz : Nat) (th : Th) (row : MRow) (un : Un) (kp : Kp) (mt : Mt) (ps : Ps) (bx : Bx) (mo : Mo) (su : Su) (wy : Wy) (wa : Wa) (od : Od) (py : Py) (ju : Ju) (pl : Pl) (rs : Rs) (res : Mo) (hf : M_bringMoment mo wa = some res) : Met l yX8_bringMoment (cWW yX8_bringMoment cX8_bringMoment 1 none) { frames := 0, cells := 0, slots := 0, locals := 0 } (zM D ac cs [.ref (q 0)] (moW ac q th row un kp mt ps bx mo su wy wa od py ju pl rs) sz) (va_Qv (fun _ : Unit => True) (fun _ => zB D (va_A (moW ac q th row un kp mt ps bx mo su wy wa od py ju pl rs) sz) (moW ac q th row un kp mt ps bx res su wy wa od py ju pl rs)) (va_A (moW ac q th row un kp mt ps bx mo su wy wa od py ju pl rs) sz)) 0 0 (va_A (moW ac q th row un kp mt ps bx mo su wy wa od py ju pl rs) sz) := by
  refine Met.ofW (cc := cX8_bringMoment) (maxL := 1) (ret := none) (by decide) rfl ?_
  intro p e s m args below meth c s₁ B hml hv
  obtain ⟨rfl, hsz, hP, hKX, hD0, hC⟩ := hv
  have hx := B.exec
  have hb := B.bytes
  have hr := B.returns
  have hts := atoms_spec (ws := cWW yX8_bringMoment cX8_bringMoment 1 none) B.pre
  have htw : ∀ w ∈ WW, w.before _ s = true := fun w h => hts w (List.mem_cons_of_mem _ h)
  have hown : s.vm.findClass RX8 = some m.cls := findClass_of_methodNamed B.named
  have hlocks := B.notSynchronized
  clear hts B
  subst hsz
  have hD := hD0.self (sz := s.heap.size)
  generalize hAe : va_A (moW ac q th row un kp mt ps bx mo su wy wa od py ju pl rs) s.heap.size = A at hD hC ⊢
  have hA : ∀ q : Nat, s.heap.size ≤ q → A q := fun q h => by rw [← hAe]; exact Or.inr h
  have hS : va_S A s.heap s.heap [] := va_S.rf
  clear hD0 hAe
  have hP : va_P D vwCl (moW ac q th row un kp mt ps bx mo su wy wa od py ju pl rs) s.heap := hP
  have hl := lv_entry ([.ref (q 0)]) (n := 1) (Nat.le_of_ble_eq_true rfl)
  rw [lg_entry_eq]
  generalize (lg_sl ([.ref (q 0)]) ++ List.replicate (1 - (lg_sl ([.ref (q 0)])).length) Slot.unset).toArray = ls at hl ⊢
  have hl : lv_has ls 1 [(0, .ref (q 0))] := hl
  unfold M_bringMoment at hf
  show W p l e ({ frames := 0, cells := 0, slots := 0, locals := 0 } : Room) s m _ below meth c s.heap [] 0 0 _ (F0 m 0 ls [])
  refine lv_aload_n hx hb dX8_bringMoment_0 rfl (lv_at hl 0 rfl) ?_
  refine va_get (D := D) (ci := 8) (v := .ref (q 9)) (C := RX8) (T := TX8) (N := 41) hx hb htw WW_wsX80 hown hKX.1 hP 0 rfl rfl 17 (Nat.le_of_ble_eq_true rfl) (htw _ mF_RX8_38) (fun _ h9 => h9) rfl dX8_bringMoment_1 ?_
  refine lv_iconst (v := 0) hx hb dX8_bringMoment_4 rfl ?_
  refine lv_aload_n hx hb dX8_bringMoment_5 rfl (lv_at hl 0 rfl) ?_
  refine va_get (D := D) (ci := 8) (v := .ref (q 15)) (C := RX8) (T := TX8) (N := 41) hx hb htw WW_wsX80 hown hKX.1 hP 0 rfl rfl 29 (Nat.le_of_ble_eq_true rfl) (htw _ mF_RX8_57) (fun _ h9 => h9) rfl dX8_bringMoment_6 ?_
  refine lv_iconst (v := 0) hx hb dX8_bringMoment_9 rfl ?_
  refine zv_iald_k hx hb hKX.1 hP 15 0 rfl rfl 0 rfl (z_in_u (by decide +kernel)) dX8_bringMoment_10 ?_
  refine lv_topi (fun x1 hx1 => ?_)
  have hf := z_let_u hx1 hf
  refine zv_iast_k hx hb hKX.1 hP hD hS 9 0 rfl rfl 0 rfl (z_in_u (by decide +kernel)) dX8_bringMoment_11 (fun H locs hP hD hS => ?_)
  have hP : va_P D vwCl (moW ac q th row un kp mt ps bx ((upd (mo_goals mo) 0 x1), (mo_kicked mo), (mo_kicks mo), (mo_leader mo), (mo_isOver mo)) su wy wa od py ju pl rs) H := hP
  have hD : va_D A (moW ac q th row un kp mt ps bx ((upd (mo_goals mo) 0 x1), (mo_kicked mo), (mo_kicks mo), (mo_leader mo), (mo_isOver mo)) su wy wa od py ju pl rs) := hD
  refine lv_aload_n hx hb dX8_bringMoment_12 rfl (lv_at hl 0 rfl) ?_
  refine va_get (D := D) (ci := 8) (v := .ref (q 9)) (C := RX8) (T := TX8) (N := 41) hx hb htw WW_wsX80 hown hKX.1 hP 0 rfl rfl 17 (Nat.le_of_ble_eq_true rfl) (htw _ mF_RX8_38) (fun _ h9 => h9) rfl dX8_bringMoment_13 ?_
  refine lv_iconst (v := 1) hx hb dX8_bringMoment_16 rfl ?_
  refine lv_aload_n hx hb dX8_bringMoment_17 rfl (lv_at hl 0 rfl) ?_
  refine va_get (D := D) (ci := 8) (v := .ref (q 15)) (C := RX8) (T := TX8) (N := 41) hx hb htw WW_wsX80 hown hKX.1 hP 0 rfl rfl 29 (Nat.le_of_ble_eq_true rfl) (htw _ mF_RX8_57) (fun _ h9 => h9) rfl dX8_bringMoment_18 ?_
  refine lv_iconst (v := 1) hx hb dX8_bringMoment_21 rfl ?_
  refine zv_iald_k hx hb hKX.1 hP 15 0 rfl rfl 1 rfl (z_in_u (by decide +kernel)) dX8_bringMoment_22 ?_
  refine lv_topi (fun x2 hx2 => ?_)
  have hf := z_let_u hx2 hf
  refine zv_iast_k hx hb hKX.1 hP hD hS 9 0 rfl rfl 1 rfl (z_in_u (by decide +kernel)) dX8_bringMoment_23 (fun H locs hP hD hS => ?_)
  have hP : va_P D vwCl (moW ac q th row un kp mt ps bx ((upd (upd (mo_goals mo) 0 x1) 1 x2), (mo_kicked mo), (mo_kicks mo), (mo_leader mo), (mo_isOver mo)) su wy wa od py ju pl rs) H := hP
  have hD : va_D A (moW ac q th row un kp mt ps bx ((upd (upd (mo_goals mo) 0 x1) 1 x2), (mo_kicked mo), (mo_kicks mo), (mo_leader mo), (mo_isOver mo)) su wy wa od py ju pl rs) := hD
  refine lv_aload_n hx hb dX8_bringMoment_24 rfl (lv_at hl 0 rfl) ?_
  refine va_get (D := D) (ci := 8) (v := .ref (q 10)) (C := RX8) (T := TX8) (N := 41) hx hb htw WW_wsX80 hown hKX.1 hP 0 rfl rfl 18 (Nat.le_of_ble_eq_true rfl) (htw _ mF_RX8_41) (fun _ h9 => h9) rfl dX8_bringMoment_25 ?_
  refine lv_iconst (v := 0) hx hb dX8_bringMoment_28 rfl ?_
  refine lv_aload_n hx hb dX8_bringMoment_29 rfl (lv_at hl 0 rfl) ?_
  refine va_get (D := D) (ci := 8) (v := .ref (q 15)) (C := RX8) (T := TX8) (N := 41) hx hb htw WW_wsX80 hown hKX.1 hP 0 rfl rfl 29 (Nat.le_of_ble_eq_true rfl) (htw _ mF_RX8_57) (fun _ h9 => h9) rfl dX8_bringMoment_30 ?_
  refine lv_iconst (v := 2) hx hb dX8_bringMoment_33 rfl ?_
  refine zv_iald_k hx hb hKX.1 hP 15 0 rfl rfl 2 rfl (z_in_u (by decide +kernel)) dX8_bringMoment_34 ?_
  refine lv_topi (fun x3 hx3 => ?_)
  have hf := z_let_u hx3 hf
  refine zv_iast_k hx hb hKX.1 hP hD hS 10 0 rfl rfl 0 rfl (z_in_u (by decide +kernel)) dX8_bringMoment_35 (fun H locs hP hD hS => ?_)
  have hP : va_P D vwCl (moW ac q th row un kp mt ps bx ((upd (upd (mo_goals mo) 0 x1) 1 x2), (upd (mo_kicked mo) 0 x3), (mo_kicks mo), (mo_leader mo), (mo_isOver mo)) su wy wa od py ju pl rs) H := hP
  have hD : va_D A (moW ac q th row un kp mt ps bx ((upd (upd (mo_goals mo) 0 x1) 1 x2), (upd (mo_kicked mo) 0 x3), (mo_kicks mo), (mo_leader mo), (mo_isOver mo)) su wy wa od py ju pl rs) := hD
  refine lv_aload_n hx hb dX8_bringMoment_36 rfl (lv_at hl 0 rfl) ?_
  refine va_get (D := D) (ci := 8) (v := .ref (q 10)) (C := RX8) (T := TX8) (N := 41) hx hb htw WW_wsX80 hown hKX.1 hP 0 rfl rfl 18 (Nat.le_of_ble_eq_true rfl) (htw _ mF_RX8_41) (fun _ h9 => h9) rfl dX8_bringMoment_37 ?_
  refine lv_iconst (v := 1) hx hb dX8_bringMoment_40 rfl ?_
  refine lv_aload_n hx hb dX8_bringMoment_41 rfl (lv_at hl 0 rfl) ?_
  refine va_get (D := D) (ci := 8) (v := .ref (q 15)) (C := RX8) (T := TX8) (N := 41) hx hb htw WW_wsX80 hown hKX.1 hP 0 rfl rfl 29 (Nat.le_of_ble_eq_true rfl) (htw _ mF_RX8_57) (fun _ h9 => h9) rfl dX8_bringMoment_42 ?_
  refine lv_iconst (v := 3) hx hb dX8_bringMoment_45 rfl ?_
  refine zv_iald_k hx hb hKX.1 hP 15 0 rfl rfl 3 rfl (z_in_u (by decide +kernel)) dX8_bringMoment_46 ?_
  refine lv_topi (fun x4 hx4 => ?_)
  have hf := z_let_u hx4 hf
  refine zv_iast_k hx hb hKX.1 hP hD hS 10 0 rfl rfl 1 rfl (z_in_u (by decide +kernel)) dX8_bringMoment_47 (fun H locs hP hD hS => ?_)
  have hP : va_P D vwCl (moW ac q th row un kp mt ps bx ((upd (upd (mo_goals mo) 0 x1) 1 x2), (upd (upd (mo_kicked mo) 0 x3) 1 x4), (mo_kicks mo), (mo_leader mo), (mo_isOver mo)) su wy wa od py ju pl rs) H := hP
  have hD : va_D A (moW ac q th row un kp mt ps bx ((upd (upd (mo_goals mo) 0 x1) 1 x2), (upd (upd (mo_kicked mo) 0 x3) 1 x4), (mo_kicks mo), (mo_leader mo), (mo_isOver mo)) su wy wa od py ju pl rs) := hD
  refine lv_aload_n hx hb dX8_bringMoment_48 rfl (lv_at hl 0 rfl) ?_
  refine lv_aload_n hx hb dX8_bringMoment_49 rfl (lv_at hl 0 rfl) ?_
  refine va_get (D := D) (ci := 8) (v := .ref (q 15)) (C := RX8) (T := TX8) (N := 41) hx hb htw WW_wsX80 hown hKX.1 hP 0 rfl rfl 29 (Nat.le_of_ble_eq_true rfl) (htw _ mF_RX8_57) (fun _ h9 => h9) rfl dX8_bringMoment_50 ?_
  refine lv_iconst (v := 4) hx hb dX8_bringMoment_53 rfl ?_
  refine zv_iald_k hx hb hKX.1 hP 15 0 rfl rfl 4 rfl (z_in_u (by decide +kernel)) dX8_bringMoment_54 ?_
  refine lv_topi (fun x5 hx5 => ?_)
  have hf := z_let_u hx5 hf
  refine va_put (D := D) (ci := 8) (v := .int x5) (ty := tyX8 19) (C := RX8) (T := TX8) (N := 41) hx hb htw WW_wsX80 tyX8 tyX8_ok nmX8 hown hKX.1 hP hD hS 0 rfl rfl 19 (Nat.le_of_ble_eq_true rfl) (htw _ mF_RX8_202) (fun _ h9 => h9) rfl (tyX8_ok 19 (Nat.le_of_ble_eq_true rfl)) rfl rfl (Nat.le_of_ble_eq_true rfl) dX8_bringMoment_55 (fun H locs hP hD hS => ?_)
  have hP : va_P D vwCl (moW ac q th row un kp mt ps bx ((upd (upd (mo_goals mo) 0 x1) 1 x2), (upd (upd (mo_kicked mo) 0 x3) 1 x4), x5, (mo_leader mo), (mo_isOver mo)) su wy wa od py ju pl rs) H := hP
  have hD : va_D A (moW ac q th row un kp mt ps bx ((upd (upd (mo_goals mo) 0 x1) 1 x2), (upd (upd (mo_kicked mo) 0 x3) 1 x4), x5, (mo_leader mo), (mo_isOver mo)) su wy wa od py ju pl rs) := hD
  refine lv_aload_n hx hb dX8_bringMoment_58 rfl (lv_at hl 0 rfl) ?_
  refine lv_aload_n hx hb dX8_bringMoment_59 rfl (lv_at hl 0 rfl) ?_
  refine va_get (D := D) (ci := 8) (v := .ref (q 15)) (C := RX8) (T := TX8) (N := 41) hx hb htw WW_wsX80 hown hKX.1 hP 0 rfl rfl 29 (Nat.le_of_ble_eq_true rfl) (htw _ mF_RX8_57) (fun _ h9 => h9) rfl dX8_bringMoment_60 ?_
  refine lv_iconst (v := 5) hx hb dX8_bringMoment_63 rfl ?_
  refine zv_iald_k hx hb hKX.1 hP 15 0 rfl rfl 5 rfl (z_in_u (by decide +kernel)) dX8_bringMoment_64 ?_
  refine lv_topi (fun x6 hx6 => ?_)
  have hf := z_let_u hx6 hf
  refine va_put (D := D) (ci := 8) (v := .int x6) (ty := tyX8 20) (C := RX8) (T := TX8) (N := 41) hx hb htw WW_wsX80 tyX8 tyX8_ok nmX8 hown hKX.1 hP hD hS 0 rfl rfl 20 (Nat.le_of_ble_eq_true rfl) (htw _ mF_RX8_205) (fun _ h9 => h9) rfl (tyX8_ok 20 (Nat.le_of_ble_eq_true rfl)) rfl rfl (Nat.le_of_ble_eq_true rfl) dX8_bringMoment_65 (fun H locs hP hD hS => ?_)
  have hP : va_P D vwCl (moW ac q th row un kp mt ps bx ((upd (upd (mo_goals mo) 0 x1) 1 x2), (upd (upd (mo_kicked mo) 0 x3) 1 x4), x5, x6, (mo_isOver mo)) su wy wa od py ju pl rs) H := hP
  have hD : va_D A (moW ac q th row un kp mt ps bx ((upd (upd (mo_goals mo) 0 x1) 1 x2), (upd (upd (mo_kicked mo) 0 x3) 1 x4), x5, x6, (mo_isOver mo)) su wy wa od py ju pl rs) := hD
  refine lv_aload_n hx hb dX8_bringMoment_68 rfl (lv_at hl 0 rfl) ?_
  refine lv_aload_n hx hb dX8_bringMoment_69 rfl (lv_at hl 0 rfl) ?_
  refine va_get (D := D) (ci := 8) (v := .int (wa_wasOver wa)) (C := RX8) (T := TX8) (N := 41) hx hb htw WW_wsX80 hown hKX.1 hP 0 rfl rfl 30 (Nat.le_of_ble_eq_true rfl) (htw _ mF_RX8_249) (fun _ h9 => h9) rfl dX8_bringMoment_70 ?_
  refine lv_topi (fun x7 hx7 => ?_)
  have hf := z_let_u hx7 hf
  obtain ⟨g8, hf⟩ := z_gd_u hf
  refine va_put (D := D) (ci := 8) (v := .int x7) (ty := tyX8 21) (C := RX8) (T := TX8) (N := 41) hx hb htw WW_wsX80 tyX8 tyX8_ok nmX8 hown hKX.1 hP hD hS 0 rfl rfl 21 (Nat.le_of_ble_eq_true rfl) (htw _ mF_RX8_208) (fun _ h9 => h9) rfl (tyX8_ok 21 (Nat.le_of_ble_eq_true rfl)) (z_b_n g8) (z_b_f g8) (Nat.le_of_ble_eq_true rfl) dX8_bringMoment_73 (fun H locs hP hD hS => ?_)
  have hP : va_P D vwCl (moW ac q th row un kp mt ps bx ((upd (upd (mo_goals mo) 0 x1) 1 x2), (upd (upd (mo_kicked mo) 0 x3) 1 x4), x5, x6, x7) su wy wa od py ju pl rs) H := hP
  have hD : va_D A (moW ac q th row un kp mt ps bx ((upd (upd (mo_goals mo) 0 x1) 1 x2), (upd (upd (mo_kicked mo) 0 x3) 1 x4), x5, x6, x7) su wy wa od py ju pl rs) := hD
  obtain rfl := Option.some.inj hf
  exact zr_Mv hx hb hr hlocks hP hD hS dX8_bringMoment_76

theorem hd_yX8_sixes : hdY yX8_sixes 1 := by decide +kernel
def M_sixes_L4 (a1 : Int32) : Nat → Int64 → Int32 → Option (Int64)
  | 0, _, _ => none
  | n4 + 1, x1, x2 => if a1 ≤ x2 then (some x1) else (z_let (x1 * 6) (fun x7 : Int64 => z_let (x2 + 1) (fun x8 : Int32 => M_sixes_L4 a1 n4 x7 x8)))
def M_sixes (F : Nat) (a1 : Int32) : Option (Int64) := M_sixes_L4 a1 F 1 0
set_option maxHeartbeats 4000000 in
set_option maxRecDepth 100000 in
theorem ctX8_sixes (l : Launch) (D : va_G) (ac cs : Nat → Nat) (a1 : Int32) (F : Nat) (res : Int64) (hf : M_sixes F a1 = some res) : Met l yX8_sixes (cWW yX8_sixes cX8_sixes 4 (some .long)) { frames := 0, cells := 0, slots := 0, locals := 0 } (zR D ac cs [.int a1] ([])) (vp_Sl (fun r => r = res)) 0 0 (fun _ => False) := by
  refine Met.ofW (cc := cX8_sixes) (maxL := 4) (ret := (some .long)) (by decide) rfl ?_
  intro p e s m args below meth c s₁ B hml hv
  obtain ⟨rfl, hP, hKX, hC⟩ := hv
  have hx := B.exec
  have hb := B.bytes
  have hr := B.returns
  have hts := atoms_spec (ws := cWW yX8_sixes cX8_sixes 4 (some .long)) B.pre
  have htw : ∀ w ∈ WW, w.before _ s = true := fun w h => hts w (List.mem_cons_of_mem _ h)
  have hown : s.vm.findClass RX8 = some m.cls := findClass_of_methodNamed B.named
  have hlocks := B.notSynchronized
  clear hts B
  have hS : va_S (fun _ => False) s.heap s.heap [] := va_S.rf
  have hl := lv_entry ([.int a1]) (n := 4) (Nat.le_of_ble_eq_true rfl)
  rw [lg_entry_eq]
  generalize (lg_sl ([.int a1]) ++ List.replicate (4 - (lg_sl ([.int a1])).length) Slot.unset).toArray = ls at hl ⊢
  have hl : lv_has ls 4 [(0, .int a1)] := hl
  unfold M_sixes at hf
  show W p l e ({ frames := 0, cells := 0, slots := 0, locals := 0 } : Room) s m _ below meth c s.heap [] 0 0 _ (F0 m 0 ls [])
  refine lv_lconst (v := 1) hx hb dX8_sixes_0 rfl ?_
  refine lv_lstore_n (lv' := [(1, .long 1), (0, .int a1)]) hx hb dX8_sixes_1 rfl hl (Nat.le_of_ble_eq_true rfl) rfl (fun ls hl => ?_)
  refine lv_iconst (v := 0) hx hb dX8_sixes_2 rfl ?_
  refine lv_istore_n (lv' := [(3, .int 0), (1, .long 1), (0, .int a1)]) hx hb dX8_sixes_3 rfl hl (Nat.le_of_ble_eq_true rfl) rfl (fun ls hl => ?_)
  have hL3 : ∀ (n4 : Nat) (x1 : Int64) (x2 : Int32), M_sixes_L4 a1 n4 x1 x2 = some res → ∀ (ls : Array Slot), lv_has ls 4 [(0, .int a1), (1, .long x1), (3, .int x2)] → W p l e ({ frames := 0, cells := 0, slots := 0, locals := 0 } : Room) s m (([.int a1] : List Value).toArray) below meth c s.heap [] 0 0 (MQ below (vp_Sl (fun r => r = res)) ([.int a1] : List Value).toArray s 0 0 (fun _ => False)) (F0 m 4 ls []) := by
    intro n4
    induction n4 with
    | zero => intro x1 x2 hf; rw [M_sixes_L4] at hf; cases hf
    | succ n4 ih5 =>
      intro x1 x2 hf ls hl
      rw [M_sixes_L4] at hf
      refine lv_iload_n hx hb dX8_sixes_4 rfl (lv_at hl 2 rfl) ?_
      refine lv_iload_n hx hb dX8_sixes_5 rfl (lv_at hl 0 rfl) ?_
      refine lv_icmp_ge (tgt := 21) hx hb dX8_sixes_6 (by decide) (fun c6 => ?_) (fun c6 => ?_)
      · have hf := z_p c6 hf
        refine lv_lload_n hx hb dX8_sixes_21 rfl (lv_at hl 1 rfl) ?_
        exact zr_Rl hx hb hr hlocks (Option.some.inj hf) dX8_sixes_22
      · have hf := z_n c6 hf
        refine lv_lload_n hx hb dX8_sixes_9 rfl (lv_at hl 1 rfl) ?_
        refine lv_ldc2 (v := 6) hx hb hown (htw _ mG_RX8_252) dX8_sixes_10 ?_
        refine lv_lmul hx hb dX8_sixes_13 ?_
        refine lv_topl (fun x7 hx7 => ?_)
        have hf := z_let_u hx7 hf
        refine lv_lstore_n (lv' := [(1, .long x7), (0, .int a1), (3, .int x2)]) hx hb dX8_sixes_14 rfl hl (Nat.le_of_ble_eq_true rfl) rfl (fun ls hl => ?_)
        obtain ⟨x8, hx8⟩ : ∃ y : Int32, y = (x2 + 1) := ⟨_, rfl⟩
        have hf := z_let_u hx8 hf
        refine lv_iinc (v := x8) (lv' := [(3, .int x8), (1, .long x7), (0, .int a1)]) hx hb dX8_sixes_15 hl (k := 2) rfl (by rw [hx8]; rfl) (Nat.le_of_ble_eq_true rfl) rfl (fun ls hl => ?_)
        refine lv_goto (tgt := 4) hx hb dX8_sixes_18 (by decide) ?_
        exact ih5 x7 x8 hf ls (lv_sub hl [2, 1, 0] rfl)
  refine hL3  F 1 0 hf ls (lv_sub hl [2, 1, 0] rfl)

theorem hd_yX8_goWay : hdY yX8_goWay 2 := by decide +kernel
def M_goWay_L9 (F : Nat) (row : MRow) (bx : Bx) (a1 : Int32) (a2 : Int32) (kx8 : Int64 → Int32 → Mo → Option (Mo × Wy)) : Nat → Int64 → Int32 → Mo → Option (Mo × Wy)
  | 0, _, _, _ => none
  | n6 + 1, x2, x3, mo4 => if a2 ≤ x3 then (kx8 x2 x3 mo4) else (if (mo_isOver mo4) = 0 then (z_bd (M_chanceNow row bx mo4) (fun r14 : Int32 => z_let ((a1 >>> (x3 &&& 31)) &&& 1) (fun x15 : Int32 => z_let (if x15 = 1 then r14.toInt64 else ((6 - r14).toInt64)) (fun v16 : Int64 => z_let (x2 * v16) (fun x20 : Int64 => z_bd (M_go F row bx mo4 x15) (fun u21 : Mo => z_let (x3 + 1) (fun x22 : Int32 => M_goWay_L9 F row bx a1 a2 kx8 n6 x20 x22 u21))))))) else (kx8 x2 x3 mo4))
def M_goWay (F : Nat) (row : MRow) (bx : Bx) (mo : Mo) (wy : Wy) (wa : Wa) (a1 : Int32) (a2 : Int32) : Option (Mo × Wy) := z_bd (M_bringMoment mo wa) (fun u1 : Mo => M_goWay_L9 F row bx a1 a2 (fun (x9 : Int64) (x10 : Int32) (mo11 : Mo) => if (a1 >>> (x10 &&& 31)) = 0 then (z_bd (M_sixes F (a2 - x10)) (fun r24 : Int64 => z_let (x9 * r24) (fun x25 : Int64 => z_jn (fun wy26 : Wy => z_gd (z_in ((6 * ((mo_goals mo11) 0)) + ((mo_goals mo11) 1)) 36) (z_let (((wy_scoreWays wy26) ((6 * ((mo_goals mo11) 0)) + ((mo_goals mo11) 1)).toNatClampNeg) + x25) (fun x30 : Int64 => z_gd (z_in ((6 * ((mo_goals mo11) 0)) + ((mo_goals mo11) 1)) 36) (some (mo11, ((wy_winWays wy26), (wy_alikeWays wy26), (wy_leftWays wy26), (wy_endWays wy26), (vp_updL (wy_scoreWays wy26) ((6 * ((mo_goals mo11) 0)) + ((mo_goals mo11) 1)).toNatClampNeg x30))))))) (fun k27 => if (mo_isOver mo11) = 0 then (z_let ((wy_alikeWays wy) + x25) (fun x33 : Int64 => z_let (((wy_endWays wy) 0) + x25) (fun x34 : Int64 => k27 ((wy_winWays wy), x33, (wy_leftWays wy), (vp_updL (wy_endWays wy) 0 x34), (wy_scoreWays wy))))) else (z_gd (z_in (M_ahead mo11) 2) (z_let (((wy_winWays wy) (M_ahead mo11).toNatClampNeg) + x25) (fun x36 : Int64 => z_gd (z_in (M_ahead mo11) 2) (z_gd (z_in (mo_kicks mo11) 11) (z_let (((wy_endWays wy) (mo_kicks mo11).toNatClampNeg) + x25) (fun x39 : Int64 => z_gd (z_in (mo_kicks mo11) 11) (k27 ((vp_updL (wy_winWays wy) (M_ahead mo11).toNatClampNeg x36), (wy_alikeWays wy), (wy_leftWays wy), (vp_updL (wy_endWays wy) (mo_kicks mo11).toNatClampNeg x39), (wy_scoreWays wy))))))))))))) else (some (mo11, wy))) F 1 0 u1)
set_option maxHeartbeats 4000000 in
set_option maxRecDepth 100000 in
theorem ctX8_goWay (l : Launch) (D : va_G) (ac cs : Nat → Nat) (q : Nat → Nat) (sz : Nat) (th : Th) (row : MRow) (un : Un) (kp : Kp) (mt : Mt) (ps : Ps) (bx : Bx) (mo : Mo) (su : Su) (wy : Wy) (wa : Wa) (od : Od) (py : Py) (ju : Ju) (pl : Pl) (rs : Rs) (a1 : Int32) (a2 : Int32) (F : Nat) (res : Mo × Wy) (hf : M_goWay F row bx mo wy wa a1 a2 = some res) : Met l yX8_goWay (cWW yX8_goWay cX8_goWay 8 none) { frames := 3, cells := 0, slots := 0, locals := 65 } (zM D ac cs [.ref (q 0), .int a1, .int a2] (moW ac q th row un kp mt ps bx mo su wy wa od py ju pl rs) sz) (va_Qv (fun _ : Unit => True) (fun _ => zB D (va_A (moW ac q th row un kp mt ps bx mo su wy wa od py ju pl rs) sz) (moW ac q th row un kp mt ps bx res.1 su res.2 wa od py ju pl rs)) (va_A (moW ac q th row un kp mt ps bx mo su wy wa od py ju pl rs) sz)) 0 0 (va_A (moW ac q th row un kp mt ps bx mo su wy wa od py ju pl rs) sz) := by
  refine Met.ofW (cc := cX8_goWay) (maxL := 8) (ret := none) (by decide) rfl ?_
  intro p e s m args below meth c s₁ B hml hv
  obtain ⟨rfl, hsz, hP, hKX, hD0, hC⟩ := hv
  have hx := B.exec
  have hb := B.bytes
  have hr := B.returns
  have hts := atoms_spec (ws := cWW yX8_goWay cX8_goWay 8 none) B.pre
  have htw : ∀ w ∈ WW, w.before _ s = true := fun w h => hts w (List.mem_cons_of_mem _ h)
  have hown : s.vm.findClass RX8 = some m.cls := findClass_of_methodNamed B.named
  have hlocks := B.notSynchronized
  clear hts B
  subst hsz
  have hD := hD0.self (sz := s.heap.size)
  generalize hAe : va_A (moW ac q th row un kp mt ps bx mo su wy wa od py ju pl rs) s.heap.size = A at hD hC ⊢
  have hA : ∀ q : Nat, s.heap.size ≤ q → A q := fun q h => by rw [← hAe]; exact Or.inr h
  have hS : va_S A s.heap s.heap [] := va_S.rf
  clear hD0 hAe
  have hP : va_P D vwCl (moW ac q th row un kp mt ps bx mo su wy wa od py ju pl rs) s.heap := hP
  have hl := lv_entry ([.ref (q 0), .int a1, .int a2]) (n := 8) (Nat.le_of_ble_eq_true rfl)
  rw [lg_entry_eq]
  generalize (lg_sl ([.ref (q 0), .int a1, .int a2]) ++ List.replicate (8 - (lg_sl ([.ref (q 0), .int a1, .int a2])).length) Slot.unset).toArray = ls at hl ⊢
  have hl : lv_has ls 8 [(0, .ref (q 0)), (1, .int a1), (2, .int a2)] := hl
  unfold M_goWay at hf
  show W p l e ({ frames := 3, cells := 0, slots := 0, locals := 65 } : Room) s m _ below meth c s.heap [] 0 0 _ (F0 m 0 ls [])
  refine lv_aload_n hx hb dX8_goWay_0 rfl (lv_at hl 0 rfl) ?_
  obtain ⟨u1, hu1, hf⟩ := z_bd_u hf
  refine zc_MVv (As := []) (rest := []) (wr := []) (wsc := moW ac q th row un kp mt ps bx mo su wy wa od py ju pl rs) (wsc' := moW ac q th row un kp mt ps bx u1 su wy wa od py ju pl rs) hx hb hml hown htw (ctX8_bringMoment l D ac cs q s.heap.size th row un kp mt ps bx mo su wy wa od py ju pl rs    u1 hu1) (g_V mM_RX8_254 mI_yX8_bringMoment mS_RX8_yX8_bringMoment_yX8_bringMoment mN_RX8 mC_yX8_bringMoment) rfl (hd_yX8_bringMoment) ⟨rfl, rfl⟩ ⟨(Nat.le_of_ble_eq_true rfl), (Nat.le_of_ble_eq_true rfl)⟩ hKX hC hS hA hP hD [0, 1, 2, 3, 4, 5, 6, 7, 8, 9, 10, 11, 12, 13, 14, 15, 16, 17, 18, 19, 20] [] rfl (by decide) rfl (by decide) (by decide) 8 rfl rfl rfl hl.1 rfl (Nat.le_of_ble_eq_true rfl) ⟨Nat.zero_le _, Nat.zero_le _⟩ dX8_goWay_1 (fun H locs hP hD hS => ?_)
  have hP : va_P D vwCl (moW ac q th row un kp mt ps bx u1 su wy wa od py ju pl rs) H := hP
  have hD : va_D A (moW ac q th row un kp mt ps bx u1 su wy wa od py ju pl rs) := hD
  refine lv_lconst (v := 1) hx hb dX8_goWay_4 rfl ?_
  refine lv_lstore_n (lv' := [(3, .long 1), (0, .ref (q 0)), (1, .int a1), (2, .int a2)]) hx hb dX8_goWay_5 rfl hl (Nat.le_of_ble_eq_true rfl) rfl (fun ls hl => ?_)
  refine lv_iconst (v := 0) hx hb dX8_goWay_6 rfl ?_
  refine lv_istore (lv' := [(5, .int 0), (3, .long 1), (0, .ref (q 0)), (1, .int a1), (2, .int a2)]) hx hb dX8_goWay_7 hl (Nat.le_of_ble_eq_true rfl) rfl (fun ls hl => ?_)
  have hL5 : ∀ (kx8 : Int64 → Int32 → Mo → Option (Mo × Wy)) (hkx8 : ∀ (x9 : Int64) (x10 : Int32) (mo11 : Mo), kx8 x9 x10 mo11 = some res → ∀ (H : Heap) (locs : List Loc) (ls : Array Slot), va_P D vwCl (moW ac q th row un kp mt ps bx mo11 su wy wa od py ju pl rs) H → va_D A (moW ac q th row un kp mt ps bx mo11 su wy wa od py ju pl rs) → va_S A s.heap H locs → lv_has ls 8 [(0, .ref (q 0)), (1, .int a1), (2, .int a2), (3, .long x9), (5, .int x10)] → W p l e ({ frames := 3, cells := 0, slots := 0, locals := 65 } : Room) s m (([.ref (q 0), .int a1, .int a2] : List Value).toArray) below meth c H locs 0 0 (MQ below (va_Qv (fun _ : Unit => True) (fun _ => zB D A (moW ac q th row un kp mt ps bx res.1 su res.2 wa od py ju pl rs)) A) ([.ref (q 0), .int a1, .int a2] : List Value).toArray s 0 0 A) (F0 m 69 ls [])) (n6 : Nat) (x2 : Int64) (x3 : Int32) (mo4 : Mo), M_goWay_L9 F row bx a1 a2 kx8 n6 x2 x3 mo4 = some res → ∀ (H : Heap) (locs : List Loc) (ls : Array Slot), va_P D vwCl (moW ac q th row un kp mt ps bx mo4 su wy wa od py ju pl rs) H → va_D A (moW ac q th row un kp mt ps bx mo4 su wy wa od py ju pl rs) → va_S A s.heap H locs → lv_has ls 8 [(0, .ref (q 0)), (1, .int a1), (2, .int a2), (3, .long x2), (5, .int x3)] → W p l e ({ frames := 3, cells := 0, slots := 0, locals := 65 } : Room) s m (([.ref (q 0), .int a1, .int a2] : List Value).toArray) below meth c H locs 0 0 (MQ below (va_Qv (fun _ : Unit => True) (fun _ => zB D A (moW ac q th row un kp mt ps bx res.1 su res.2 wa od py ju pl rs)) A) ([.ref (q 0), .int a1, .int a2] : List Value).toArray s 0 0 A) (F0 m 9 ls []) := by
    intro kx8 hkx8 n6
    induction n6 with
    | zero => intro x2 x3 mo4 hf; rw [M_goWay_L9] at hf; cases hf
    | succ n6 ih7 =>
      intro x2 x3 mo4 hf H locs ls hP hD hS hl
      rw [M_goWay_L9] at hf
      refine lv_iload hx hb dX8_goWay_9 (lv_at hl 4 rfl) ?_
      refine lv_iload_n hx hb dX8_goWay_11 rfl (lv_at hl 2 rfl) ?_
      refine lv_icmp_ge (tgt := 69) hx hb dX8_goWay_12 (by decide) (fun c12 => ?_) (fun c12 => ?_)
      · have hf := z_p c12 hf
        exact hkx8 x2 x3 mo4 hf _ _ ls  hP hD hS (lv_sub hl [0, 1, 2, 3, 4] rfl)
      · have hf := z_n c12 hf
        refine lv_aload_n hx hb dX8_goWay_15 rfl (lv_at hl 0 rfl) ?_
        refine va_get (D := D) (ci := 8) (v := .int (mo_isOver mo4)) (C := RX8) (T := TX8) (N := 41) hx hb htw WW_wsX80 hown hKX.1 hP 0 rfl rfl 21 (Nat.le_of_ble_eq_true rfl) (htw _ mF_RX8_208) (fun _ h9 => h9) rfl dX8_goWay_16 ?_
        refine lv_if_ne (tgt := 69) hx hb dX8_goWay_19 (by decide) (fun c13 => ?_) (fun c13 => ?_)
        · have hf := z_n c13 hf
          exact hkx8 x2 x3 mo4 hf _ _ ls  hP hD hS (lv_sub hl [0, 1, 2, 3, 4] rfl)
        · have hf := z_p c13 hf
          refine lv_aload_n hx hb dX8_goWay_22 rfl (lv_at hl 0 rfl) ?_
          obtain ⟨r14, hr14, hf⟩ := z_bd_u hf
          refine zc_RVi (As := []) (rest := []) hx hb hml hown htw (ctX8_chanceNow l D ac cs q th row un kp mt ps bx mo4 su wy wa od py ju pl rs    _ hr14) (g_V mM_RX8_257 mI_yX8_chanceNow mS_RX8_yX8_chanceNow_yX8_chanceNow mN_RX8 mC_yX8_chanceNow) rfl (hd_yX8_chanceNow) ⟨rfl, rfl⟩ ⟨(Nat.le_of_ble_eq_true rfl), (Nat.le_of_ble_eq_true rfl)⟩ hKX hC hS hP 8 rfl rfl rfl hl.1 rfl (Nat.le_of_ble_eq_true rfl) ⟨Nat.zero_le _, Nat.zero_le _⟩ dX8_goWay_23 ?_
          refine lv_istore (lv' := [(6, .int r14), (0, .ref (q 0)), (1, .int a1), (2, .int a2), (3, .long x2), (5, .int x3)]) hx hb dX8_goWay_26 hl (Nat.le_of_ble_eq_true rfl) rfl (fun ls hl => ?_)
          refine lv_iload_n hx hb dX8_goWay_28 rfl (lv_at hl 2 rfl) ?_
          refine lv_iload hx hb dX8_goWay_29 (lv_at hl 5 rfl) ?_
          refine lv_ishr hx hb dX8_goWay_31 ?_
          refine lv_iconst (v := 1) hx hb dX8_goWay_32 rfl ?_
          refine lv_iand hx hb dX8_goWay_33 ?_
          refine lv_topi (fun x15 hx15 => ?_)
          have hf := z_let_u hx15 hf
          refine lv_istore (lv' := [(7, .int x15), (6, .int r14), (0, .ref (q 0)), (1, .int a1), (2, .int a2), (3, .long x2), (5, .int x3)]) hx hb dX8_goWay_34 hl (Nat.le_of_ble_eq_true rfl) rfl (fun ls hl => ?_)
          refine lv_lload_n hx hb dX8_goWay_36 rfl (lv_at hl 5 rfl) ?_
          refine lv_iload hx hb dX8_goWay_37 (lv_at hl 0 rfl) ?_
          refine lv_iconst (v := 1) hx hb dX8_goWay_39 rfl ?_
          have hj18 : ∀ (v16 : Int64), v16 = (if x15 = 1 then r14.toInt64 else ((6 - r14).toInt64)) → ∀ (H : Heap) (locs : List Loc) (ls : Array Slot), va_P D vwCl (moW ac q th row un kp mt ps bx mo4 su wy wa od py ju pl rs) H → va_D A (moW ac q th row un kp mt ps bx mo4 su wy wa od py ju pl rs) → va_S A s.heap H locs → lv_has ls 8 [(0, .ref (q 0)), (1, .int a1), (2, .int a2), (5, .int x3), (7, .int x15)] → W p l e ({ frames := 3, cells := 0, slots := 0, locals := 65 } : Room) s m (([.ref (q 0), .int a1, .int a2] : List Value).toArray) below meth c H locs 0 0 (MQ below (va_Qv (fun _ : Unit => True) (fun _ => zB D A (moW ac q th row un kp mt ps bx res.1 su res.2 wa od py ju pl rs)) A) ([.ref (q 0), .int a1, .int a2] : List Value).toArray s 0 0 A) (F0 m 55 ls [.long v16, .long x2]) := by
            intro v16 hv16 H locs ls hP hD hS hl
            have hf := z_let_u hv16 hf
            refine lv_lmul hx hb dX8_goWay_55 ?_
            refine lv_topl (fun x20 hx20 => ?_)
            have hf := z_let_u hx20 hf
            refine lv_lstore_n (lv' := [(3, .long x20), (0, .ref (q 0)), (1, .int a1), (2, .int a2), (5, .int x3), (7, .int x15)]) hx hb dX8_goWay_56 rfl hl (Nat.le_of_ble_eq_true rfl) rfl (fun ls hl => ?_)
            refine lv_aload_n hx hb dX8_goWay_57 rfl (lv_at hl 1 rfl) ?_
            refine lv_iload hx hb dX8_goWay_58 (lv_at hl 5 rfl) ?_
            obtain ⟨u21, hu21, hf⟩ := z_bd_u hf
            refine zc_MVv (As := [.int x15]) (rest := []) (wr := []) (wsc := moW ac q th row un kp mt ps bx mo4 su wy wa od py ju pl rs) (wsc' := moW ac q th row un kp mt ps bx u21 su wy wa od py ju pl rs) hx hb hml hown htw (ctX8_go l D ac cs q H.size th row un kp mt ps bx mo4 su wy wa od py ju pl rs x15   F u21 hu21) (g_V mM_RX8_214 mI_yX8_go mS_RX8_yX8_go_yX8_go mN_RX8 mC_yX8_go) rfl (hd_yX8_go) ⟨rfl, rfl⟩ ⟨(Nat.le_of_ble_eq_true rfl), (Nat.le_of_ble_eq_true rfl)⟩ hKX hC hS hA hP hD [0, 1, 2, 3, 4, 5, 6, 7, 8, 9, 10, 11, 12, 13, 14, 15, 16, 17, 18, 19, 20] [] rfl (by decide) rfl (by decide) (by decide) 8 rfl rfl rfl hl.1 rfl (Nat.le_of_ble_eq_true rfl) ⟨Nat.zero_le _, Nat.zero_le _⟩ dX8_goWay_60 (fun H locs hP hD hS => ?_)
            have hP : va_P D vwCl (moW ac q th row un kp mt ps bx u21 su wy wa od py ju pl rs) H := hP
            have hD : va_D A (moW ac q th row un kp mt ps bx u21 su wy wa od py ju pl rs) := hD
            obtain ⟨x22, hx22⟩ : ∃ y : Int32, y = (x3 + 1) := ⟨_, rfl⟩
            have hf := z_let_u hx22 hf
            refine lv_iinc (v := x22) (lv' := [(5, .int x22), (3, .long x20), (0, .ref (q 0)), (1, .int a1), (2, .int a2), (7, .int x15)]) hx hb dX8_goWay_63 hl (k := 4) rfl (by rw [hx22]; rfl) (Nat.le_of_ble_eq_true rfl) rfl (fun ls hl => ?_)
            refine lv_goto (tgt := 9) hx hb dX8_goWay_66 (by decide) ?_
            exact ih7 x20 x22 u21 hf _ _ ls  hP hD hS (lv_sub hl [2, 3, 4, 1, 0] rfl)
          refine lv_icmp_ne (tgt := 49) hx hb dX8_goWay_40 (by decide) (fun c19 => ?_) (fun c19 => ?_)
          · skip
            refine lv_bipush (v := 6) hx hb dX8_goWay_49 rfl ?_
            refine lv_iload hx hb dX8_goWay_51 (lv_at hl 1 rfl) ?_
            refine lv_isub hx hb dX8_goWay_53 ?_
            refine lv_i2l hx hb dX8_goWay_54 rfl ?_
            exact hj18 ((6 - r14).toInt64) (if_neg c19).symm _ _ ls hP hD hS (lv_sub hl [2, 3, 4, 6, 0] rfl)
          · skip
            refine lv_iload hx hb dX8_goWay_43 (lv_at hl 1 rfl) ?_
            refine lv_i2l hx hb dX8_goWay_45 rfl ?_
            refine lv_goto (tgt := 55) hx hb dX8_goWay_46 (by decide) ?_
            exact hj18 r14.toInt64 (if_pos c19).symm _ _ ls hP hD hS (lv_sub hl [2, 3, 4, 6, 0] rfl)
  refine hL5 _ ?_ F 1 0 u1 hf _ _ ls  hP hD hS (lv_sub hl [2, 3, 4, 1, 0] rfl)
  intro x9 x10 mo11 hf H locs ls hP hD hS hl
  refine lv_iload_n hx hb dX8_goWay_69 rfl (lv_at hl 1 rfl) ?_
  refine lv_iload hx hb dX8_goWay_70 (lv_at hl 4 rfl) ?_
  refine lv_ishr hx hb dX8_goWay_72 ?_
  refine lv_if_eq (tgt := 77) hx hb dX8_goWay_73 (by decide) (fun c23 => ?_) (fun c23 => ?_)
  · have hf := z_p c23 hf
    refine lv_lload_n hx hb dX8_goWay_77 rfl (lv_at hl 3 rfl) ?_
    refine lv_iload_n hx hb dX8_goWay_78 rfl (lv_at hl 2 rfl) ?_
    refine lv_iload hx hb dX8_goWay_79 (lv_at hl 4 rfl) ?_
    refine lv_isub hx hb dX8_goWay_81 ?_
    obtain ⟨r24, hr24, hf⟩ := z_bd_u hf
    refine zc_RSl (As := [.int (a2 - x10)]) (rest := [.long x9]) hx hb hml hown htw (ctX8_sixes l D ac cs   (a2 - x10)   F _ hr24) (g_S mM_RX8_260 mT_yX8_sixes mN_RX8 mC_yX8_sixes) (hd_yX8_sixes) ⟨rfl, rfl⟩ ⟨(Nat.le_of_ble_eq_true rfl), (Nat.le_of_ble_eq_true rfl)⟩ hKX hC hS zP0 rfl hl.1 rfl (Nat.le_of_ble_eq_true rfl) ⟨Nat.zero_le _, Nat.zero_le _⟩ dX8_goWay_82 ?_
    refine lv_lmul hx hb dX8_goWay_85 ?_
    refine lv_topl (fun x25 hx25 => ?_)
    have hf := z_let_u hx25 hf
    refine lv_lstore_n (lv' := [(3, .long x25), (0, .ref (q 0)), (1, .int a1), (2, .int a2), (5, .int x10)]) hx hb dX8_goWay_86 rfl hl (Nat.le_of_ble_eq_true rfl) rfl (fun ls hl => ?_)
    refine lv_aload_n hx hb dX8_goWay_87 rfl (lv_at hl 1 rfl) ?_
    refine va_get (D := D) (ci := 8) (v := .int (mo_isOver mo11)) (C := RX8) (T := TX8) (N := 41) hx hb htw WW_wsX80 hown hKX.1 hP 0 rfl rfl 21 (Nat.le_of_ble_eq_true rfl) (htw _ mF_RX8_208) (fun _ h9 => h9) rfl dX8_goWay_88 ?_
    obtain ⟨k27, hk27, hf⟩ := z_jn_u hf
    have hj28 : ∀ (wy26 : Wy), k27 wy26 = some res → ∀ (H : Heap) (locs : List Loc) (ls : Array Slot), va_P D vwCl (moW ac q th row un kp mt ps bx mo11 su wy26 wa od py ju pl rs) H → va_D A (moW ac q th row un kp mt ps bx mo11 su wy26 wa od py ju pl rs) → va_S A s.heap H locs → lv_has ls 8 [(0, .ref (q 0)), (3, .long x25)] → W p l e ({ frames := 3, cells := 0, slots := 0, locals := 65 } : Room) s m (([.ref (q 0), .int a1, .int a2] : List Value).toArray) below meth c H locs 0 0 (MQ below (va_Qv (fun _ : Unit => True) (fun _ => zB D A (moW ac q th row un kp mt ps bx res.1 su res.2 wa od py ju pl rs)) A) ([.ref (q 0), .int a1, .int a2] : List Value).toArray s 0 0 A) (F0 m 143 ls []) := by
      intro wy26 hf H locs ls hP hD hS hl
      have hf := hk27 _ hf
      refine lv_aload_n hx hb dX8_goWay_143 rfl (lv_at hl 0 rfl) ?_
      refine va_get (D := D) (ci := 8) (v := .ref (q 14)) (C := RX8) (T := TX8) (N := 41) hx hb htw WW_wsX80 hown hKX.1 hP 0 rfl rfl 28 (Nat.le_of_ble_eq_true rfl) (htw _ mF_RX8_54) (fun _ h9 => h9) rfl dX8_goWay_144 ?_
      refine lv_bipush (v := 6) hx hb dX8_goWay_147 rfl ?_
      refine lv_aload_n hx hb dX8_goWay_149 rfl (lv_at hl 0 rfl) ?_
      refine va_get (D := D) (ci := 8) (v := .ref (q 9)) (C := RX8) (T := TX8) (N := 41) hx hb htw WW_wsX80 hown hKX.1 hP 0 rfl rfl 17 (Nat.le_of_ble_eq_true rfl) (htw _ mF_RX8_38) (fun _ h9 => h9) rfl dX8_goWay_150 ?_
      refine lv_iconst (v := 0) hx hb dX8_goWay_153 rfl ?_
      refine zv_iald_k hx hb hKX.1 hP 9 0 rfl rfl 0 rfl (z_in_u (by decide +kernel)) dX8_goWay_154 ?_
      refine lv_imul hx hb dX8_goWay_155 ?_
      refine lv_aload_n hx hb dX8_goWay_156 rfl (lv_at hl 0 rfl) ?_
      refine va_get (D := D) (ci := 8) (v := .ref (q 9)) (C := RX8) (T := TX8) (N := 41) hx hb htw WW_wsX80 hown hKX.1 hP 0 rfl rfl 17 (Nat.le_of_ble_eq_true rfl) (htw _ mF_RX8_38) (fun _ h9 => h9) rfl dX8_goWay_157 ?_
      refine lv_iconst (v := 1) hx hb dX8_goWay_160 rfl ?_
      refine zv_iald_k hx hb hKX.1 hP 9 0 rfl rfl 1 rfl (z_in_u (by decide +kernel)) dX8_goWay_161 ?_
      refine lv_iadd hx hb dX8_goWay_162 ?_
      refine lv_dup2_11 hx hb dX8_goWay_163 rfl rfl ?_
      obtain ⟨g29, hf⟩ := z_gd_u hf
      refine va_lald hx hb hKX.1 hP 14 1 rfl rfl (z_in_u g29) dX8_goWay_164 ?_
      refine lv_lload_n hx hb dX8_goWay_165 rfl (lv_at hl 1 rfl) ?_
      refine lv_ladd hx hb dX8_goWay_166 ?_
      refine lv_topl (fun x30 hx30 => ?_)
      have hf := z_let_u hx30 hf
      obtain ⟨g31, hf⟩ := z_gd_u hf
      refine va_last hx hb hKX.1 hP hD hS 14 1 rfl rfl (z_in_u g31) dX8_goWay_167 (fun H locs hP hD hS => ?_)
      have hP : va_P D vwCl (moW ac q th row un kp mt ps bx mo11 su ((wy_winWays wy26), (wy_alikeWays wy26), (wy_leftWays wy26), (wy_endWays wy26), (vp_updL (wy_scoreWays wy26) ((6 * ((mo_goals mo11) 0)) + ((mo_goals mo11) 1)).toNatClampNeg x30)) wa od py ju pl rs) H := hP
      have hD : va_D A (moW ac q th row un kp mt ps bx mo11 su ((wy_winWays wy26), (wy_alikeWays wy26), (wy_leftWays wy26), (wy_endWays wy26), (vp_updL (wy_scoreWays wy26) ((6 * ((mo_goals mo11) 0)) + ((mo_goals mo11) 1)).toNatClampNeg x30)) wa od py ju pl rs) := hD
      obtain rfl := Option.some.inj hf
      exact zr_Mv hx hb hr hlocks hP hD hS dX8_goWay_168
    refine lv_if_eq (tgt := 123) hx hb dX8_goWay_91 (by decide) (fun c32 => ?_) (fun c32 => ?_)
    · have hf := z_p c32 hf
      refine lv_aload_n hx hb dX8_goWay_123 rfl (lv_at hl 1 rfl) ?_
      refine lv_dup hx hb dX8_goWay_124 rfl ?_
      refine va_get (D := D) (ci := 8) (v := .long (wy_alikeWays wy)) (C := RX8) (T := TX8) (N := 41) hx hb htw WW_wsX80 hown hKX.1 hP 0 rfl rfl 25 (Nat.le_of_ble_eq_true rfl) (htw _ mF_RX8_266) (fun _ h9 => h9) rfl dX8_goWay_125 ?_
      refine lv_lload_n hx hb dX8_goWay_128 rfl (lv_at hl 0 rfl) ?_
      refine lv_ladd hx hb dX8_goWay_129 ?_
      refine lv_topl (fun x33 hx33 => ?_)
      have hf := z_let_u hx33 hf
      refine va_put (D := D) (ci := 8) (v := .long x33) (ty := tyX8 25) (C := RX8) (T := TX8) (N := 41) hx hb htw WW_wsX80 tyX8 tyX8_ok nmX8 hown hKX.1 hP hD hS 0 rfl rfl 25 (Nat.le_of_ble_eq_true rfl) (htw _ mF_RX8_266) (fun _ h9 => h9) rfl (tyX8_ok 25 (Nat.le_of_ble_eq_true rfl)) rfl rfl (Nat.le_of_ble_eq_true rfl) dX8_goWay_130 (fun H locs hP hD hS => ?_)
      have hP : va_P D vwCl (moW ac q th row un kp mt ps bx mo11 su ((wy_winWays wy), x33, (wy_leftWays wy), (wy_endWays wy), (wy_scoreWays wy)) wa od py ju pl rs) H := hP
      have hD : va_D A (moW ac q th row un kp mt ps bx mo11 su ((wy_winWays wy), x33, (wy_leftWays wy), (wy_endWays wy), (wy_scoreWays wy)) wa od py ju pl rs) := hD
      refine lv_aload_n hx hb dX8_goWay_133 rfl (lv_at hl 1 rfl) ?_
      refine va_get (D := D) (ci := 8) (v := .ref (q 13)) (C := RX8) (T := TX8) (N := 41) hx hb htw WW_wsX80 hown hKX.1 hP 0 rfl rfl 27 (Nat.le_of_ble_eq_true rfl) (htw _ mF_RX8_51) (fun _ h9 => h9) rfl dX8_goWay_134 ?_
      refine lv_iconst (v := 0) hx hb dX8_goWay_137 rfl ?_
      refine lv_dup2_11 hx hb dX8_goWay_138 rfl rfl ?_
      refine zv_lald_k hx hb hKX.1 hP 13 1 rfl rfl 0 rfl (z_in_u (by decide +kernel)) dX8_goWay_139 ?_
      refine lv_lload_n hx hb dX8_goWay_140 rfl (lv_at hl 0 rfl) ?_
      refine lv_ladd hx hb dX8_goWay_141 ?_
      refine lv_topl (fun x34 hx34 => ?_)
      have hf := z_let_u hx34 hf
      refine zv_last_k hx hb hKX.1 hP hD hS 13 1 rfl rfl 0 rfl (z_in_u (by decide +kernel)) dX8_goWay_142 (fun H locs hP hD hS => ?_)
      have hP : va_P D vwCl (moW ac q th row un kp mt ps bx mo11 su ((wy_winWays wy), x33, (wy_leftWays wy), (vp_updL (wy_endWays wy) 0 x34), (wy_scoreWays wy)) wa od py ju pl rs) H := hP
      have hD : va_D A (moW ac q th row un kp mt ps bx mo11 su ((wy_winWays wy), x33, (wy_leftWays wy), (vp_updL (wy_endWays wy) 0 x34), (wy_scoreWays wy)) wa od py ju pl rs) := hD
      exact hj28 ((wy_winWays wy), x33, (wy_leftWays wy), (vp_updL (wy_endWays wy) 0 x34), (wy_scoreWays wy)) hf _ _ ls  hP hD hS (lv_sub hl [1, 0] rfl)
    · have hf := z_n c32 hf
      refine lv_aload_n hx hb dX8_goWay_94 rfl (lv_at hl 1 rfl) ?_
      refine va_get (D := D) (ci := 8) (v := .ref (q 12)) (C := RX8) (T := TX8) (N := 41) hx hb htw WW_wsX80 hown hKX.1 hP 0 rfl rfl 24 (Nat.le_of_ble_eq_true rfl) (htw _ mF_RX8_48) (fun _ h9 => h9) rfl dX8_goWay_95 ?_
      refine lv_aload_n hx hb dX8_goWay_98 rfl (lv_at hl 1 rfl) ?_
      refine zc_RVi (As := []) (rest := [.ref (q 12)]) hx hb hml hown htw (ctX8_ahead l D ac cs q th row un kp mt ps bx mo11 su wy wa od py ju pl rs    _ rfl) (g_V mM_RX8_264 mI_yX8_ahead mS_RX8_yX8_ahead_yX8_ahead mN_RX8 mC_yX8_ahead) rfl (hd_yX8_ahead) ⟨rfl, rfl⟩ ⟨(Nat.le_of_ble_eq_true rfl), (Nat.le_of_ble_eq_true rfl)⟩ hKX hC hS hP 8 rfl rfl rfl hl.1 rfl (Nat.le_of_ble_eq_true rfl) ⟨Nat.zero_le _, Nat.zero_le _⟩ dX8_goWay_99 ?_
      refine lv_dup2_11 hx hb dX8_goWay_102 rfl rfl ?_
      obtain ⟨g35, hf⟩ := z_gd_u hf
      refine va_lald hx hb hKX.1 hP 12 1 rfl rfl (z_in_u g35) dX8_goWay_103 ?_
      refine lv_lload_n hx hb dX8_goWay_104 rfl (lv_at hl 0 rfl) ?_
      refine lv_ladd hx hb dX8_goWay_105 ?_
      refine lv_topl (fun x36 hx36 => ?_)
      have hf := z_let_u hx36 hf
      obtain ⟨g37, hf⟩ := z_gd_u hf
      refine va_last hx hb hKX.1 hP hD hS 12 1 rfl rfl (z_in_u g37) dX8_goWay_106 (fun H locs hP hD hS => ?_)
      have hP : va_P D vwCl (moW ac q th row un kp mt ps bx mo11 su ((vp_updL (wy_winWays wy) (M_ahead mo11).toNatClampNeg x36), (wy_alikeWays wy), (wy_leftWays wy), (wy_endWays wy), (wy_scoreWays wy)) wa od py ju pl rs) H := hP
      have hD : va_D A (moW ac q th row un kp mt ps bx mo11 su ((vp_updL (wy_winWays wy) (M_ahead mo11).toNatClampNeg x36), (wy_alikeWays wy), (wy_leftWays wy), (wy_endWays wy), (wy_scoreWays wy)) wa od py ju pl rs) := hD
      refine lv_aload_n hx hb dX8_goWay_107 rfl (lv_at hl 1 rfl) ?_
      refine va_get (D := D) (ci := 8) (v := .ref (q 13)) (C := RX8) (T := TX8) (N := 41) hx hb htw WW_wsX80 hown hKX.1 hP 0 rfl rfl 27 (Nat.le_of_ble_eq_true rfl) (htw _ mF_RX8_51) (fun _ h9 => h9) rfl dX8_goWay_108 ?_
      refine lv_aload_n hx hb dX8_goWay_111 rfl (lv_at hl 1 rfl) ?_
      refine va_get (D := D) (ci := 8) (v := .int (mo_kicks mo11)) (C := RX8) (T := TX8) (N := 41) hx hb htw WW_wsX80 hown hKX.1 hP 0 rfl rfl 19 (Nat.le_of_ble_eq_true rfl) (htw _ mF_RX8_202) (fun _ h9 => h9) rfl dX8_goWay_112 ?_
      refine lv_dup2_11 hx hb dX8_goWay_115 rfl rfl ?_
      obtain ⟨g38, hf⟩ := z_gd_u hf
      refine va_lald hx hb hKX.1 hP 13 1 rfl rfl (z_in_u g38) dX8_goWay_116 ?_
      refine lv_lload_n hx hb dX8_goWay_117 rfl (lv_at hl 0 rfl) ?_
      refine lv_ladd hx hb dX8_goWay_118 ?_
      refine lv_topl (fun x39 hx39 => ?_)
      have hf := z_let_u hx39 hf
      obtain ⟨g40, hf⟩ := z_gd_u hf
      refine va_last hx hb hKX.1 hP hD hS 13 1 rfl rfl (z_in_u g40) dX8_goWay_119 (fun H locs hP hD hS => ?_)
      have hP : va_P D vwCl (moW ac q th row un kp mt ps bx mo11 su ((vp_updL (wy_winWays wy) (M_ahead mo11).toNatClampNeg x36), (wy_alikeWays wy), (wy_leftWays wy), (vp_updL (wy_endWays wy) (mo_kicks mo11).toNatClampNeg x39), (wy_scoreWays wy)) wa od py ju pl rs) H := hP
      have hD : va_D A (moW ac q th row un kp mt ps bx mo11 su ((vp_updL (wy_winWays wy) (M_ahead mo11).toNatClampNeg x36), (wy_alikeWays wy), (wy_leftWays wy), (vp_updL (wy_endWays wy) (mo_kicks mo11).toNatClampNeg x39), (wy_scoreWays wy)) wa od py ju pl rs) := hD
      refine lv_goto (tgt := 143) hx hb dX8_goWay_120 (by decide) ?_
      exact hj28 ((vp_updL (wy_winWays wy) (M_ahead mo11).toNatClampNeg x36), (wy_alikeWays wy), (wy_leftWays wy), (vp_updL (wy_endWays wy) (mo_kicks mo11).toNatClampNeg x39), (wy_scoreWays wy)) hf _ _ ls  hP hD hS (lv_sub hl [1, 0] rfl)
  · have hf := z_n c23 hf
    obtain rfl := Option.some.inj hf
    exact zr_Mv hx hb hr hlocks hP hD hS dX8_goWay_76

theorem hd_yX8_layWays : hdY yX8_layWays 0 := by decide +kernel
def M_layWays_L37 (kx8 : Wy → Option (Mo × Wy × Wa)) : Nat → Int32 → Wy → Option (Mo × Wy × Wa)
  | 0, _, _ => none
  | n6 + 1, x3, wy4 => if 11 ≤ x3 then (kx8 wy4) else (z_gd (z_in x3 11) (z_let (x3 + 1) (fun x12 : Int32 => M_layWays_L37 kx8 n6 x12 ((wy_winWays wy4), (wy_alikeWays wy4), (wy_leftWays wy4), (vp_updL (wy_endWays wy4) x3.toNatClampNeg 0), (wy_scoreWays wy4)))))
def M_layWays_L58 (kx18 : Wy → Option (Mo × Wy × Wa)) : Nat → Int32 → Wy → Option (Mo × Wy × Wa)
  | 0, _, _ => none
  | n16 + 1, x13, wy14 => if 36 ≤ x13 then (kx18 wy14) else (z_gd (z_in x13 36) (z_let (x13 + 1) (fun x22 : Int32 => M_layWays_L58 kx18 n16 x22 ((wy_winWays wy14), (wy_alikeWays wy14), (wy_leftWays wy14), (wy_endWays wy14), (vp_updL (wy_scoreWays wy14) x13.toNatClampNeg 0)))))
def M_layWays_L79 (F : Nat) (row : MRow) (bx : Bx) (u1 : Wa) (x2 : Int32) (kx29 : Mo → Wy → Option (Mo × Wy × Wa)) : Nat → Int32 → Mo → Wy → Option (Mo × Wy × Wa)
  | 0, _, _, _ => none
  | n27 + 1, x23, mo24, wy25 => if (1 <<< (x2 &&& 31)) ≤ x23 then (kx29 mo24 wy25) else (z_bd (M_goWay F row bx mo24 wy25 u1 x23 x2) (fun u33 : Mo × Wy => z_let (x23 + 1) (fun x34 : Int32 => M_layWays_L79 F row bx u1 x2 kx29 n27 x34 u33.1 u33.2)))
def M_layWays (F : Nat) (row : MRow) (bx : Bx) (mo : Mo) (wy : Wy) (wa : Wa) : Option (Mo × Wy × Wa) := z_bd (M_keepMoment mo wa) (fun u1 : Wa => z_let ((2 * (M_n row)) - (mo_kicks mo)) (fun x2 : Int32 => M_layWays_L37 (fun (wy9 : Wy) => M_layWays_L58 (fun (wy19 : Wy) => M_layWays_L79 F row bx u1 x2 (fun (mo30 : Mo) (wy31 : Wy) => z_bd (M_sixes F x2) (fun r35 : Int64 => z_bd (M_bringMoment mo30 u1) (fun u36 : Mo => some (u36, ((wy_winWays wy31), (wy_alikeWays wy31), r35, (wy_endWays wy31), (wy_scoreWays wy31)), u1)))) F 0 mo wy19) F 0 wy9) F 0 ((vp_updL (vp_updL (wy_winWays wy) 0 0) 1 0), 0, (wy_leftWays wy), (wy_endWays wy), (wy_scoreWays wy))))
set_option maxHeartbeats 4000000 in
set_option maxRecDepth 100000 in
theorem ctX8_layWays (l : Launch) (D : va_G) (ac cs : Nat → Nat) (q : Nat → Nat) (sz : Nat) (th : Th) (row : MRow) (un : Un) (kp : Kp) (mt : Mt) (ps : Ps) (bx : Bx) (mo : Mo) (su : Su) (wy : Wy) (wa : Wa) (od : Od) (py : Py) (ju : Ju) (pl : Pl) (rs : Rs) (F : Nat) (res : Mo × Wy × Wa) (hf : M_layWays F row bx mo wy wa = some res) : Met l yX8_layWays (cWW yX8_layWays cX8_layWays 3 none) { frames := 4, cells := 0, slots := 0, locals := 92 } (zM D ac cs [.ref (q 0)] (moW ac q th row un kp mt ps bx mo su wy wa od py ju pl rs) sz) (va_Qv (fun _ : Unit => True) (fun _ => zB D (va_A (moW ac q th row un kp mt ps bx mo su wy wa od py ju pl rs) sz) (moW ac q th row un kp mt ps bx res.1 su res.2.1 res.2.2 od py ju pl rs)) (va_A (moW ac q th row un kp mt ps bx mo su wy wa od py ju pl rs) sz)) 0 0 (va_A (moW ac q th row un kp mt ps bx mo su wy wa od py ju pl rs) sz) := by
  refine Met.ofW (cc := cX8_layWays) (maxL := 3) (ret := none) (by decide) rfl ?_
  intro p e s m args below meth c s₁ B hml hv
  obtain ⟨rfl, hsz, hP, hKX, hD0, hC⟩ := hv
  have hx := B.exec
  have hb := B.bytes
  have hr := B.returns
  have hts := atoms_spec (ws := cWW yX8_layWays cX8_layWays 3 none) B.pre
  have htw : ∀ w ∈ WW, w.before _ s = true := fun w h => hts w (List.mem_cons_of_mem _ h)
  have hown : s.vm.findClass RX8 = some m.cls := findClass_of_methodNamed B.named
  have hlocks := B.notSynchronized
  clear hts B
  subst hsz
  have hD := hD0.self (sz := s.heap.size)
  generalize hAe : va_A (moW ac q th row un kp mt ps bx mo su wy wa od py ju pl rs) s.heap.size = A at hD hC ⊢
  have hA : ∀ q : Nat, s.heap.size ≤ q → A q := fun q h => by rw [← hAe]; exact Or.inr h
  have hS : va_S A s.heap s.heap [] := va_S.rf
  clear hD0 hAe
  have hP : va_P D vwCl (moW ac q th row un kp mt ps bx mo su wy wa od py ju pl rs) s.heap := hP
  have hl := lv_entry ([.ref (q 0)]) (n := 3) (Nat.le_of_ble_eq_true rfl)
  rw [lg_entry_eq]
  generalize (lg_sl ([.ref (q 0)]) ++ List.replicate (3 - (lg_sl ([.ref (q 0)])).length) Slot.unset).toArray = ls at hl ⊢
  have hl : lv_has ls 3 [(0, .ref (q 0))] := hl
  unfold M_layWays at hf
  show W p l e ({ frames := 4, cells := 0, slots := 0, locals := 92 } : Room) s m _ below meth c s.heap [] 0 0 _ (F0 m 0 ls [])
  refine lv_aload_n hx hb dX8_layWays_0 rfl (lv_at hl 0 rfl) ?_
  obtain ⟨u1, hu1, hf⟩ := z_bd_u hf
  refine zc_MVv (As := []) (rest := []) (wr := []) (wsc := moW ac q th row un kp mt ps bx mo su wy wa od py ju pl rs) (wsc' := moW ac q th row un kp mt ps bx mo su wy u1 od py ju pl rs) hx hb hml hown htw (ctX8_keepMoment l D ac cs q s.heap.size th row un kp mt ps bx mo su wy wa od py ju pl rs    u1 hu1) (g_V mM_RX8_269 mI_yX8_keepMoment mS_RX8_yX8_keepMoment_yX8_keepMoment mN_RX8 mC_yX8_keepMoment) rfl (hd_yX8_keepMoment) ⟨rfl, rfl⟩ ⟨(Nat.le_of_ble_eq_true rfl), (Nat.le_of_ble_eq_true rfl)⟩ hKX hC hS hA hP hD [0, 1, 2, 3, 4, 5, 6, 7, 8, 9, 10, 11, 12, 13, 14, 15, 16, 17, 18, 19, 20] [] rfl (by decide) rfl (by decide) (by decide) 8 rfl rfl rfl hl.1 rfl (Nat.le_of_ble_eq_true rfl) ⟨Nat.zero_le _, Nat.zero_le _⟩ dX8_layWays_1 (fun H locs hP hD hS => ?_)
  have hP : va_P D vwCl (moW ac q th row un kp mt ps bx mo su wy u1 od py ju pl rs) H := hP
  have hD : va_D A (moW ac q th row un kp mt ps bx mo su wy u1 od py ju pl rs) := hD
  refine lv_iconst (v := 2) hx hb dX8_layWays_4 rfl ?_
  refine lv_aload_n hx hb dX8_layWays_5 rfl (lv_at hl 0 rfl) ?_
  refine zc_RVi (As := []) (rest := [.int 2]) hx hb hml hown htw (ctX8_n l D ac cs q th row un kp mt ps bx mo su wy u1 od py ju pl rs    _ rfl) (g_V mM_RX8_190 mI_yX8_n mS_RX8_yX8_n_yX8_n mN_RX8 mC_yX8_n) rfl (hd_yX8_n) ⟨rfl, rfl⟩ ⟨(Nat.le_of_ble_eq_true rfl), (Nat.le_of_ble_eq_true rfl)⟩ hKX hC hS hP 8 rfl rfl rfl hl.1 rfl (Nat.le_of_ble_eq_true rfl) ⟨Nat.zero_le _, Nat.zero_le _⟩ dX8_layWays_6 ?_
  refine lv_imul hx hb dX8_layWays_9 ?_
  refine lv_aload_n hx hb dX8_layWays_10 rfl (lv_at hl 0 rfl) ?_
  refine va_get (D := D) (ci := 8) (v := .int (mo_kicks mo)) (C := RX8) (T := TX8) (N := 41) hx hb htw WW_wsX80 hown hKX.1 hP 0 rfl rfl 19 (Nat.le_of_ble_eq_true rfl) (htw _ mF_RX8_202) (fun _ h9 => h9) rfl dX8_layWays_11 ?_
  refine lv_isub hx hb dX8_layWays_14 ?_
  refine lv_topi (fun x2 hx2 => ?_)
  have hf := z_let_u hx2 hf
  refine lv_istore_n (lv' := [(1, .int x2), (0, .ref (q 0))]) hx hb dX8_layWays_15 rfl hl (Nat.le_of_ble_eq_true rfl) rfl (fun ls hl => ?_)
  refine lv_aload_n hx hb dX8_layWays_16 rfl (lv_at hl 1 rfl) ?_
  refine va_get (D := D) (ci := 8) (v := .ref (q 12)) (C := RX8) (T := TX8) (N := 41) hx hb htw WW_wsX80 hown hKX.1 hP 0 rfl rfl 24 (Nat.le_of_ble_eq_true rfl) (htw _ mF_RX8_48) (fun _ h9 => h9) rfl dX8_layWays_17 ?_
  refine lv_iconst (v := 0) hx hb dX8_layWays_20 rfl ?_
  refine lv_lconst (v := 0) hx hb dX8_layWays_21 rfl ?_
  refine zv_last_k hx hb hKX.1 hP hD hS 12 1 rfl rfl 0 rfl (z_in_u (by decide +kernel)) dX8_layWays_22 (fun H locs hP hD hS => ?_)
  have hP : va_P D vwCl (moW ac q th row un kp mt ps bx mo su ((vp_updL (wy_winWays wy) 0 0), (wy_alikeWays wy), (wy_leftWays wy), (wy_endWays wy), (wy_scoreWays wy)) u1 od py ju pl rs) H := hP
  have hD : va_D A (moW ac q th row un kp mt ps bx mo su ((vp_updL (wy_winWays wy) 0 0), (wy_alikeWays wy), (wy_leftWays wy), (wy_endWays wy), (wy_scoreWays wy)) u1 od py ju pl rs) := hD
  refine lv_aload_n hx hb dX8_layWays_23 rfl (lv_at hl 1 rfl) ?_
  refine va_get (D := D) (ci := 8) (v := .ref (q 12)) (C := RX8) (T := TX8) (N := 41) hx hb htw WW_wsX80 hown hKX.1 hP 0 rfl rfl 24 (Nat.le_of_ble_eq_true rfl) (htw _ mF_RX8_48) (fun _ h9 => h9) rfl dX8_layWays_24 ?_
  refine lv_iconst (v := 1) hx hb dX8_layWays_27 rfl ?_
  refine lv_lconst (v := 0) hx hb dX8_layWays_28 rfl ?_
  refine zv_last_k hx hb hKX.1 hP hD hS 12 1 rfl rfl 1 rfl (z_in_u (by decide +kernel)) dX8_layWays_29 (fun H locs hP hD hS => ?_)
  have hP : va_P D vwCl (moW ac q th row un kp mt ps bx mo su ((vp_updL (vp_updL (wy_winWays wy) 0 0) 1 0), (wy_alikeWays wy), (wy_leftWays wy), (wy_endWays wy), (wy_scoreWays wy)) u1 od py ju pl rs) H := hP
  have hD : va_D A (moW ac q th row un kp mt ps bx mo su ((vp_updL (vp_updL (wy_winWays wy) 0 0) 1 0), (wy_alikeWays wy), (wy_leftWays wy), (wy_endWays wy), (wy_scoreWays wy)) u1 od py ju pl rs) := hD
  refine lv_aload_n hx hb dX8_layWays_30 rfl (lv_at hl 1 rfl) ?_
  refine lv_lconst (v := 0) hx hb dX8_layWays_31 rfl ?_
  refine va_put (D := D) (ci := 8) (v := .long 0) (ty := tyX8 25) (C := RX8) (T := TX8) (N := 41) hx hb htw WW_wsX80 tyX8 tyX8_ok nmX8 hown hKX.1 hP hD hS 0 rfl rfl 25 (Nat.le_of_ble_eq_true rfl) (htw _ mF_RX8_266) (fun _ h9 => h9) rfl (tyX8_ok 25 (Nat.le_of_ble_eq_true rfl)) rfl rfl (Nat.le_of_ble_eq_true rfl) dX8_layWays_32 (fun H locs hP hD hS => ?_)
  have hP : va_P D vwCl (moW ac q th row un kp mt ps bx mo su ((vp_updL (vp_updL (wy_winWays wy) 0 0) 1 0), 0, (wy_leftWays wy), (wy_endWays wy), (wy_scoreWays wy)) u1 od py ju pl rs) H := hP
  have hD : va_D A (moW ac q th row un kp mt ps bx mo su ((vp_updL (vp_updL (wy_winWays wy) 0 0) 1 0), 0, (wy_leftWays wy), (wy_endWays wy), (wy_scoreWays wy)) u1 od py ju pl rs) := hD
  refine lv_iconst (v := 0) hx hb dX8_layWays_35 rfl ?_
  refine lv_istore_n (lv' := [(2, .int 0), (1, .int x2), (0, .ref (q 0))]) hx hb dX8_layWays_36 rfl hl (Nat.le_of_ble_eq_true rfl) rfl (fun ls hl => ?_)
  have hL5 : ∀ (kx8 : Wy → Option (Mo × Wy × Wa)) (hkx8 : ∀ (wy9 : Wy), kx8 wy9 = some res → ∀ (H : Heap) (locs : List Loc) (ls : Array Slot), va_P D vwCl (moW ac q th row un kp mt ps bx mo su wy9 u1 od py ju pl rs) H → va_D A (moW ac q th row un kp mt ps bx mo su wy9 u1 od py ju pl rs) → va_S A s.heap H locs → lv_has ls 3 [(0, .ref (q 0)), (1, .int x2)] → W p l e ({ frames := 4, cells := 0, slots := 0, locals := 92 } : Room) s m (([.ref (q 0)] : List Value).toArray) below meth c H locs 0 0 (MQ below (va_Qv (fun _ : Unit => True) (fun _ => zB D A (moW ac q th row un kp mt ps bx res.1 su res.2.1 res.2.2 od py ju pl rs)) A) ([.ref (q 0)] : List Value).toArray s 0 0 A) (F0 m 56 ls [])) (n6 : Nat) (x3 : Int32) (wy4 : Wy), M_layWays_L37 kx8 n6 x3 wy4 = some res → ∀ (H : Heap) (locs : List Loc) (ls : Array Slot), va_P D vwCl (moW ac q th row un kp mt ps bx mo su wy4 u1 od py ju pl rs) H → va_D A (moW ac q th row un kp mt ps bx mo su wy4 u1 od py ju pl rs) → va_S A s.heap H locs → lv_has ls 3 [(0, .ref (q 0)), (1, .int x2), (2, .int x3)] → W p l e ({ frames := 4, cells := 0, slots := 0, locals := 92 } : Room) s m (([.ref (q 0)] : List Value).toArray) below meth c H locs 0 0 (MQ below (va_Qv (fun _ : Unit => True) (fun _ => zB D A (moW ac q th row un kp mt ps bx res.1 su res.2.1 res.2.2 od py ju pl rs)) A) ([.ref (q 0)] : List Value).toArray s 0 0 A) (F0 m 37 ls []) := by
    intro kx8 hkx8 n6
    induction n6 with
    | zero => intro x3 wy4 hf; rw [M_layWays_L37] at hf; cases hf
    | succ n6 ih7 =>
      intro x3 wy4 hf H locs ls hP hD hS hl
      rw [M_layWays_L37] at hf
      refine lv_iload_n hx hb dX8_layWays_37 rfl (lv_at hl 2 rfl) ?_
      refine lv_bipush (v := 11) hx hb dX8_layWays_38 rfl ?_
      refine lv_icmp_ge (tgt := 56) hx hb dX8_layWays_40 (by decide) (fun c10 => ?_) (fun c10 => ?_)
      · have hf := z_p c10 hf
        exact hkx8 wy4 hf _ _ ls  hP hD hS (lv_sub hl [0, 1] rfl)
      · have hf := z_n c10 hf
        refine lv_aload_n hx hb dX8_layWays_43 rfl (lv_at hl 0 rfl) ?_
        refine va_get (D := D) (ci := 8) (v := .ref (q 13)) (C := RX8) (T := TX8) (N := 41) hx hb htw WW_wsX80 hown hKX.1 hP 0 rfl rfl 27 (Nat.le_of_ble_eq_true rfl) (htw _ mF_RX8_51) (fun _ h9 => h9) rfl dX8_layWays_44 ?_
        refine lv_iload_n hx hb dX8_layWays_47 rfl (lv_at hl 2 rfl) ?_
        refine lv_lconst (v := 0) hx hb dX8_layWays_48 rfl ?_
        obtain ⟨g11, hf⟩ := z_gd_u hf
        refine va_last hx hb hKX.1 hP hD hS 13 1 rfl rfl (z_in_u g11) dX8_layWays_49 (fun H locs hP hD hS => ?_)
        have hP : va_P D vwCl (moW ac q th row un kp mt ps bx mo su ((wy_winWays wy4), (wy_alikeWays wy4), (wy_leftWays wy4), (vp_updL (wy_endWays wy4) x3.toNatClampNeg 0), (wy_scoreWays wy4)) u1 od py ju pl rs) H := hP
        have hD : va_D A (moW ac q th row un kp mt ps bx mo su ((wy_winWays wy4), (wy_alikeWays wy4), (wy_leftWays wy4), (vp_updL (wy_endWays wy4) x3.toNatClampNeg 0), (wy_scoreWays wy4)) u1 od py ju pl rs) := hD
        obtain ⟨x12, hx12⟩ : ∃ y : Int32, y = (x3 + 1) := ⟨_, rfl⟩
        have hf := z_let_u hx12 hf
        refine lv_iinc (v := x12) (lv' := [(2, .int x12), (0, .ref (q 0)), (1, .int x2)]) hx hb dX8_layWays_50 hl (k := 2) rfl (by rw [hx12]; rfl) (Nat.le_of_ble_eq_true rfl) rfl (fun ls hl => ?_)
        refine lv_goto (tgt := 37) hx hb dX8_layWays_53 (by decide) ?_
        exact ih7 x12 ((wy_winWays wy4), (wy_alikeWays wy4), (wy_leftWays wy4), (vp_updL (wy_endWays wy4) x3.toNatClampNeg 0), (wy_scoreWays wy4)) hf _ _ ls  hP hD hS (lv_sub hl [1, 2, 0] rfl)
  refine hL5 _ ?_ F 0 ((vp_updL (vp_updL (wy_winWays wy) 0 0) 1 0), 0, (wy_leftWays wy), (wy_endWays wy), (wy_scoreWays wy)) hf _ _ ls  hP hD hS (lv_sub hl [2, 1, 0] rfl)
  intro wy9 hf H locs ls hP hD hS hl
  refine lv_iconst (v := 0) hx hb dX8_layWays_56 rfl ?_
  refine lv_istore_n (lv' := [(2, .int 0), (0, .ref (q 0)), (1, .int x2)]) hx hb dX8_layWays_57 rfl hl (Nat.le_of_ble_eq_true rfl) rfl (fun ls hl => ?_)
  have hL15 : ∀ (kx18 : Wy → Option (Mo × Wy × Wa)) (hkx18 : ∀ (wy19 : Wy), kx18 wy19 = some res → ∀ (H : Heap) (locs : List Loc) (ls : Array Slot), va_P D vwCl (moW ac q th row un kp mt ps bx mo su wy19 u1 od py ju pl rs) H → va_D A (moW ac q th row un kp mt ps bx mo su wy19 u1 od py ju pl rs) → va_S A s.heap H locs → lv_has ls 3 [(0, .ref (q 0)), (1, .int x2)] → W p l e ({ frames := 4, cells := 0, slots := 0, locals := 92 } : Room) s m (([.ref (q 0)] : List Value).toArray) below meth c H locs 0 0 (MQ below (va_Qv (fun _ : Unit => True) (fun _ => zB D A (moW ac q th row un kp mt ps bx res.1 su res.2.1 res.2.2 od py ju pl rs)) A) ([.ref (q 0)] : List Value).toArray s 0 0 A) (F0 m 77 ls [])) (n16 : Nat) (x13 : Int32) (wy14 : Wy), M_layWays_L58 kx18 n16 x13 wy14 = some res → ∀ (H : Heap) (locs : List Loc) (ls : Array Slot), va_P D vwCl (moW ac q th row un kp mt ps bx mo su wy14 u1 od py ju pl rs) H → va_D A (moW ac q th row un kp mt ps bx mo su wy14 u1 od py ju pl rs) → va_S A s.heap H locs → lv_has ls 3 [(0, .ref (q 0)), (1, .int x2), (2, .int x13)] → W p l e ({ frames := 4, cells := 0, slots := 0, locals := 92 } : Room) s m (([.ref (q 0)] : List Value).toArray) below meth c H locs 0 0 (MQ below (va_Qv (fun _ : Unit => True) (fun _ => zB D A (moW ac q th row un kp mt ps bx res.1 su res.2.1 res.2.2 od py ju pl rs)) A) ([.ref (q 0)] : List Value).toArray s 0 0 A) (F0 m 58 ls []) := by
    intro kx18 hkx18 n16
    induction n16 with
    | zero => intro x13 wy14 hf; rw [M_layWays_L58] at hf; cases hf
    | succ n16 ih17 =>
      intro x13 wy14 hf H locs ls hP hD hS hl
      rw [M_layWays_L58] at hf
      refine lv_iload_n hx hb dX8_layWays_58 rfl (lv_at hl 2 rfl) ?_
      refine lv_bipush (v := 36) hx hb dX8_layWays_59 rfl ?_
      refine lv_icmp_ge (tgt := 77) hx hb dX8_layWays_61 (by decide) (fun c20 => ?_) (fun c20 => ?_)
      · have hf := z_p c20 hf
        exact hkx18 wy14 hf _ _ ls  hP hD hS (lv_sub hl [0, 1] rfl)
      · have hf := z_n c20 hf
        refine lv_aload_n hx hb dX8_layWays_64 rfl (lv_at hl 0 rfl) ?_
        refine va_get (D := D) (ci := 8) (v := .ref (q 14)) (C := RX8) (T := TX8) (N := 41) hx hb htw WW_wsX80 hown hKX.1 hP 0 rfl rfl 28 (Nat.le_of_ble_eq_true rfl) (htw _ mF_RX8_54) (fun _ h9 => h9) rfl dX8_layWays_65 ?_
        refine lv_iload_n hx hb dX8_layWays_68 rfl (lv_at hl 2 rfl) ?_
        refine lv_lconst (v := 0) hx hb dX8_layWays_69 rfl ?_
        obtain ⟨g21, hf⟩ := z_gd_u hf
        refine va_last hx hb hKX.1 hP hD hS 14 1 rfl rfl (z_in_u g21) dX8_layWays_70 (fun H locs hP hD hS => ?_)
        have hP : va_P D vwCl (moW ac q th row un kp mt ps bx mo su ((wy_winWays wy14), (wy_alikeWays wy14), (wy_leftWays wy14), (wy_endWays wy14), (vp_updL (wy_scoreWays wy14) x13.toNatClampNeg 0)) u1 od py ju pl rs) H := hP
        have hD : va_D A (moW ac q th row un kp mt ps bx mo su ((wy_winWays wy14), (wy_alikeWays wy14), (wy_leftWays wy14), (wy_endWays wy14), (vp_updL (wy_scoreWays wy14) x13.toNatClampNeg 0)) u1 od py ju pl rs) := hD
        obtain ⟨x22, hx22⟩ : ∃ y : Int32, y = (x13 + 1) := ⟨_, rfl⟩
        have hf := z_let_u hx22 hf
        refine lv_iinc (v := x22) (lv' := [(2, .int x22), (0, .ref (q 0)), (1, .int x2)]) hx hb dX8_layWays_71 hl (k := 2) rfl (by rw [hx22]; rfl) (Nat.le_of_ble_eq_true rfl) rfl (fun ls hl => ?_)
        refine lv_goto (tgt := 58) hx hb dX8_layWays_74 (by decide) ?_
        exact ih17 x22 ((wy_winWays wy14), (wy_alikeWays wy14), (wy_leftWays wy14), (wy_endWays wy14), (vp_updL (wy_scoreWays wy14) x13.toNatClampNeg 0)) hf _ _ ls  hP hD hS (lv_sub hl [1, 2, 0] rfl)
  refine hL15 _ ?_ F 0 wy9 hf _ _ ls  hP hD hS (lv_sub hl [1, 2, 0] rfl)
  intro wy19 hf H locs ls hP hD hS hl
  refine lv_iconst (v := 0) hx hb dX8_layWays_77 rfl ?_
  refine lv_istore_n (lv' := [(2, .int 0), (0, .ref (q 0)), (1, .int x2)]) hx hb dX8_layWays_78 rfl hl (Nat.le_of_ble_eq_true rfl) rfl (fun ls hl => ?_)
  have hL26 : ∀ (kx29 : Mo → Wy → Option (Mo × Wy × Wa)) (hkx29 : ∀ (mo30 : Mo) (wy31 : Wy), kx29 mo30 wy31 = some res → ∀ (H : Heap) (locs : List Loc) (ls : Array Slot), va_P D vwCl (moW ac q th row un kp mt ps bx mo30 su wy31 u1 od py ju pl rs) H → va_D A (moW ac q th row un kp mt ps bx mo30 su wy31 u1 od py ju pl rs) → va_S A s.heap H locs → lv_has ls 3 [(0, .ref (q 0)), (1, .int x2)] → W p l e ({ frames := 4, cells := 0, slots := 0, locals := 92 } : Room) s m (([.ref (q 0)] : List Value).toArray) below meth c H locs 0 0 (MQ below (va_Qv (fun _ : Unit => True) (fun _ => zB D A (moW ac q th row un kp mt ps bx res.1 su res.2.1 res.2.2 od py ju pl rs)) A) ([.ref (q 0)] : List Value).toArray s 0 0 A) (F0 m 98 ls [])) (n27 : Nat) (x23 : Int32) (mo24 : Mo) (wy25 : Wy), M_layWays_L79 F row bx u1 x2 kx29 n27 x23 mo24 wy25 = some res → ∀ (H : Heap) (locs : List Loc) (ls : Array Slot), va_P D vwCl (moW ac q th row un kp mt ps bx mo24 su wy25 u1 od py ju pl rs) H → va_D A (moW ac q th row un kp mt ps bx mo24 su wy25 u1 od py ju pl rs) → va_S A s.heap H locs → lv_has ls 3 [(0, .ref (q 0)), (1, .int x2), (2, .int x23)] → W p l e ({ frames := 4, cells := 0, slots := 0, locals := 92 } : Room) s m (([.ref (q 0)] : List Value).toArray) below meth c H locs 0 0 (MQ below (va_Qv (fun _ : Unit => True) (fun _ => zB D A (moW ac q th row un kp mt ps bx res.1 su res.2.1 res.2.2 od py ju pl rs)) A) ([.ref (q 0)] : List Value).toArray s 0 0 A) (F0 m 79 ls []) := by
    intro kx29 hkx29 n27
    induction n27 with
    | zero => intro x23 mo24 wy25 hf; rw [M_layWays_L79] at hf; cases hf
    | succ n27 ih28 =>
      intro x23 mo24 wy25 hf H locs ls hP hD hS hl
      rw [M_layWays_L79] at hf
      refine lv_iload_n hx hb dX8_layWays_79 rfl (lv_at hl 2 rfl) ?_
      refine lv_iconst (v := 1) hx hb dX8_layWays_80 rfl ?_
      refine lv_iload_n hx hb dX8_layWays_81 rfl (lv_at hl 1 rfl) ?_
      refine lv_ishl hx hb dX8_layWays_82 ?_
      refine lv_icmp_ge (tgt := 98) hx hb dX8_layWays_83 (by decide) (fun c32 => ?_) (fun c32 => ?_)
      · have hf := z_p c32 hf
        exact hkx29 mo24 wy25 hf _ _ ls  hP hD hS (lv_sub hl [0, 1] rfl)
      · have hf := z_n c32 hf
        refine lv_aload_n hx hb dX8_layWays_86 rfl (lv_at hl 0 rfl) ?_
        refine lv_iload_n hx hb dX8_layWays_87 rfl (lv_at hl 2 rfl) ?_
        refine lv_iload_n hx hb dX8_layWays_88 rfl (lv_at hl 1 rfl) ?_
        obtain ⟨u33, hu33, hf⟩ := z_bd_u hf
        refine zc_MVv (As := [.int x23, .int x2]) (rest := []) (wr := []) (wsc := moW ac q th row un kp mt ps bx mo24 su wy25 u1 od py ju pl rs) (wsc' := moW ac q th row un kp mt ps bx u33.1 su u33.2 u1 od py ju pl rs) hx hb hml hown htw (ctX8_goWay l D ac cs q H.size th row un kp mt ps bx mo24 su wy25 u1 od py ju pl rs x23 x2   F u33 hu33) (g_V mM_RX8_272 mI_yX8_goWay mS_RX8_yX8_goWay_yX8_goWay mN_RX8 mC_yX8_goWay) rfl (hd_yX8_goWay) ⟨rfl, rfl⟩ ⟨(Nat.le_of_ble_eq_true rfl), (Nat.le_of_ble_eq_true rfl)⟩ hKX hC hS hA hP hD [0, 1, 2, 3, 4, 5, 6, 7, 8, 9, 10, 11, 12, 13, 14, 15, 16, 17, 18, 19, 20] [] rfl (by decide) rfl (by decide) (by decide) 8 rfl rfl rfl hl.1 rfl (Nat.le_of_ble_eq_true rfl) ⟨Nat.zero_le _, Nat.zero_le _⟩ dX8_layWays_89 (fun H locs hP hD hS => ?_)
        have hP : va_P D vwCl (moW ac q th row un kp mt ps bx u33.1 su u33.2 u1 od py ju pl rs) H := hP
        have hD : va_D A (moW ac q th row un kp mt ps bx u33.1 su u33.2 u1 od py ju pl rs) := hD
        obtain ⟨x34, hx34⟩ : ∃ y : Int32, y = (x23 + 1) := ⟨_, rfl⟩
        have hf := z_let_u hx34 hf
        refine lv_iinc (v := x34) (lv' := [(2, .int x34), (0, .ref (q 0)), (1, .int x2)]) hx hb dX8_layWays_92 hl (k := 2) rfl (by rw [hx34]; rfl) (Nat.le_of_ble_eq_true rfl) rfl (fun ls hl => ?_)
        refine lv_goto (tgt := 79) hx hb dX8_layWays_95 (by decide) ?_
        exact ih28 x34 u33.1 u33.2 hf _ _ ls  hP hD hS (lv_sub hl [1, 2, 0] rfl)
  refine hL26 _ ?_ F 0 mo wy19 hf _ _ ls  hP hD hS (lv_sub hl [1, 2, 0] rfl)
  intro mo30 wy31 hf H locs ls hP hD hS hl
  refine lv_aload_n hx hb dX8_layWays_98 rfl (lv_at hl 0 rfl) ?_
  refine lv_iload_n hx hb dX8_layWays_99 rfl (lv_at hl 1 rfl) ?_
  obtain ⟨r35, hr35, hf⟩ := z_bd_u hf
  refine zc_RSl (As := [.int x2]) (rest := [.ref (q 0)]) hx hb hml hown htw (ctX8_sixes l D ac cs   x2   F _ hr35) (g_S mM_RX8_260 mT_yX8_sixes mN_RX8 mC_yX8_sixes) (hd_yX8_sixes) ⟨rfl, rfl⟩ ⟨(Nat.le_of_ble_eq_true rfl), (Nat.le_of_ble_eq_true rfl)⟩ hKX hC hS zP0 rfl hl.1 rfl (Nat.le_of_ble_eq_true rfl) ⟨Nat.zero_le _, Nat.zero_le _⟩ dX8_layWays_100 ?_
  refine va_put (D := D) (ci := 8) (v := .long r35) (ty := tyX8 26) (C := RX8) (T := TX8) (N := 41) hx hb htw WW_wsX80 tyX8 tyX8_ok nmX8 hown hKX.1 hP hD hS 0 rfl rfl 26 (Nat.le_of_ble_eq_true rfl) (htw _ mF_RX8_275) (fun _ h9 => h9) rfl (tyX8_ok 26 (Nat.le_of_ble_eq_true rfl)) rfl rfl (Nat.le_of_ble_eq_true rfl) dX8_layWays_103 (fun H locs hP hD hS => ?_)
  have hP : va_P D vwCl (moW ac q th row un kp mt ps bx mo30 su ((wy_winWays wy31), (wy_alikeWays wy31), r35, (wy_endWays wy31), (wy_scoreWays wy31)) u1 od py ju pl rs) H := hP
  have hD : va_D A (moW ac q th row un kp mt ps bx mo30 su ((wy_winWays wy31), (wy_alikeWays wy31), r35, (wy_endWays wy31), (wy_scoreWays wy31)) u1 od py ju pl rs) := hD
  refine lv_aload_n hx hb dX8_layWays_106 rfl (lv_at hl 0 rfl) ?_
  obtain ⟨u36, hu36, hf⟩ := z_bd_u hf
  refine zc_MVv (As := []) (rest := []) (wr := []) (wsc := moW ac q th row un kp mt ps bx mo30 su ((wy_winWays wy31), (wy_alikeWays wy31), r35, (wy_endWays wy31), (wy_scoreWays wy31)) u1 od py ju pl rs) (wsc' := moW ac q th row un kp mt ps bx u36 su ((wy_winWays wy31), (wy_alikeWays wy31), r35, (wy_endWays wy31), (wy_scoreWays wy31)) u1 od py ju pl rs) hx hb hml hown htw (ctX8_bringMoment l D ac cs q H.size th row un kp mt ps bx mo30 su ((wy_winWays wy31), (wy_alikeWays wy31), r35, (wy_endWays wy31), (wy_scoreWays wy31)) u1 od py ju pl rs    u36 hu36) (g_V mM_RX8_254 mI_yX8_bringMoment mS_RX8_yX8_bringMoment_yX8_bringMoment mN_RX8 mC_yX8_bringMoment) rfl (hd_yX8_bringMoment) ⟨rfl, rfl⟩ ⟨(Nat.le_of_ble_eq_true rfl), (Nat.le_of_ble_eq_true rfl)⟩ hKX hC hS hA hP hD [0, 1, 2, 3, 4, 5, 6, 7, 8, 9, 10, 11, 12, 13, 14, 15, 16, 17, 18, 19, 20] [] rfl (by decide) rfl (by decide) (by decide) 8 rfl rfl rfl hl.1 rfl (Nat.le_of_ble_eq_true rfl) ⟨Nat.zero_le _, Nat.zero_le _⟩ dX8_layWays_107 (fun H locs hP hD hS => ?_)
  have hP : va_P D vwCl (moW ac q th row un kp mt ps bx u36 su ((wy_winWays wy31), (wy_alikeWays wy31), r35, (wy_endWays wy31), (wy_scoreWays wy31)) u1 od py ju pl rs) H := hP
  have hD : va_D A (moW ac q th row un kp mt ps bx u36 su ((wy_winWays wy31), (wy_alikeWays wy31), r35, (wy_endWays wy31), (wy_scoreWays wy31)) u1 od py ju pl rs) := hD
  obtain rfl := Option.some.inj hf
  exact zr_Mv hx hb hr hlocks hP hD hS dX8_layWays_110

theorem hd_yX8_layOdds : hdY yX8_layOdds 1 := by decide +kernel
def M_layOdds (F : Nat) (row : MRow) (bx : Bx) (mo : Mo) (su : Su) (wy : Wy) (wa : Wa) (a1 : Int32) : Option (Mo × Su × Wy × Wa × Od) := if (mo_isOver mo) = 0 then (z_bd (M_laySudden F row bx su) (fun u2 : Su => z_let (M_n row) (fun x3 : Int32 => if (2 * x3) ≤ (mo_kicks mo) then (if (z_rem (mo_kicks mo) 2) = 0 then (z_gd (z_nz x3) (z_gd (z_in ((5 * a1) + (z_rem ((mo_kicks mo) / 2) x3)) 10) (z_let ((su_sudden u2) ((5 * a1) + (z_rem ((mo_kicks mo) / 2) x3)).toNatClampNeg) (fun x30 : Int64 => z_let (su_lower u2) (fun x31 : Int64 => some (mo, u2, wy, wa, (x30, x31))))))) else (z_gd (z_nz x3) (z_gd (z_in ((5 * a1) + (z_rem (((mo_kicks mo) / 2) + 1) x3)) 10) (z_let ((su_sudden u2) ((5 * a1) + (z_rem (((mo_kicks mo) / 2) + 1) x3)).toNatClampNeg) (fun x8 : Int64 => z_bd (M_chanceNow row bx mo) (fun r9 : Int32 => z_let (if ((mo_goals mo) 0) = ((mo_goals mo) 1) then 0 else 1) (fun v10 : Int32 => z_let (if v10 = 0 then (1 - (bx_byFirst bx)) else (bx_byFirst bx)) (fun v14 : Int32 => z_let (if v10 = 0 then (6 - r9) else r9) (fun v18 : Int32 => z_let (if v14 = a1 then (((6 - v18).toInt64) * (su_lower u2)) else 0) (fun v22 : Int64 => z_let ((v18.toInt64 * x8) + v22) (fun x26 : Int64 => z_let (6 * (su_lower u2)) (fun x27 : Int64 => some (mo, u2, wy, wa, (x26, x27)))))))))))))) else (z_bd (M_layWays F row bx mo wy wa) (fun u32 : Mo × Wy × Wa => z_gd (z_in a1 2) (z_gd (z_in (5 * a1) 10) (z_let ((((wy_winWays u32.2.1) a1.toNatClampNeg) * (su_lower u2)) + ((wy_alikeWays u32.2.1) * ((su_sudden u2) (5 * a1).toNatClampNeg))) (fun x35 : Int64 => z_let ((wy_leftWays u32.2.1) * (su_lower u2)) (fun x36 : Int64 => some (u32.1, u2, u32.2.1, u32.2.2, (x35, x36))))))))))) else (z_let (if M_ahead mo = a1 then 1 else 0) (fun v37 : Int64 => some (mo, su, wy, wa, (v37, 1))))
set_option maxHeartbeats 4000000 in
set_option maxRecDepth 100000 in
theorem ctX8_layOdds (l : Launch) (D : va_G) (ac cs : Nat → Nat) (q : Nat → Nat) (sz : Nat) (th : Th) (row : MRow) (un : Un) (kp : Kp) (mt : Mt) (ps : Ps) (bx : Bx) (mo : Mo) (su : Su) (wy : Wy) (wa : Wa) (od : Od) (py : Py) (ju : Ju) (pl : Pl) (rs : Rs) (a1 : Int32) (F : Nat) (res : Mo × Su × Wy × Wa × Od) (hf : M_layOdds F row bx mo su wy wa a1 = some res) : Met l yX8_layOdds (cWW yX8_layOdds cX8_layOdds 9 none) { frames := 5, cells := 0, slots := 0, locals := 114 } (zM D ac cs [.ref (q 0), .int a1] (moW ac q th row un kp mt ps bx mo su wy wa od py ju pl rs) sz) (va_Qv (fun _ : Unit => True) (fun _ => zB D (va_A (moW ac q th row un kp mt ps bx mo su wy wa od py ju pl rs) sz) (moW ac q th row un kp mt ps bx res.1 res.2.1 res.2.2.1 res.2.2.2.1 res.2.2.2.2 py ju pl rs)) (va_A (moW ac q th row un kp mt ps bx mo su wy wa od py ju pl rs) sz)) 0 0 (va_A (moW ac q th row un kp mt ps bx mo su wy wa od py ju pl rs) sz) := by
  refine Met.ofW (cc := cX8_layOdds) (maxL := 9) (ret := none) (by decide) rfl ?_
  intro p e s m args below meth c s₁ B hml hv
  obtain ⟨rfl, hsz, hP, hKX, hD0, hC⟩ := hv
  have hx := B.exec
  have hb := B.bytes
  have hr := B.returns
  have hts := atoms_spec (ws := cWW yX8_layOdds cX8_layOdds 9 none) B.pre
  have htw : ∀ w ∈ WW, w.before _ s = true := fun w h => hts w (List.mem_cons_of_mem _ h)
  have hown : s.vm.findClass RX8 = some m.cls := findClass_of_methodNamed B.named
  have hlocks := B.notSynchronized
  clear hts B
  subst hsz
  have hD := hD0.self (sz := s.heap.size)
  generalize hAe : va_A (moW ac q th row un kp mt ps bx mo su wy wa od py ju pl rs) s.heap.size = A at hD hC ⊢
  have hA : ∀ q : Nat, s.heap.size ≤ q → A q := fun q h => by rw [← hAe]; exact Or.inr h
  have hS : va_S A s.heap s.heap [] := va_S.rf
  clear hD0 hAe
  have hP : va_P D vwCl (moW ac q th row un kp mt ps bx mo su wy wa od py ju pl rs) s.heap := hP
  have hl := lv_entry ([.ref (q 0), .int a1]) (n := 9) (Nat.le_of_ble_eq_true rfl)
  rw [lg_entry_eq]
  generalize (lg_sl ([.ref (q 0), .int a1]) ++ List.replicate (9 - (lg_sl ([.ref (q 0), .int a1])).length) Slot.unset).toArray = ls at hl ⊢
  have hl : lv_has ls 9 [(0, .ref (q 0)), (1, .int a1)] := hl
  unfold M_layOdds at hf
  show W p l e ({ frames := 5, cells := 0, slots := 0, locals := 114 } : Room) s m _ below meth c s.heap [] 0 0 _ (F0 m 0 ls [])
  refine lv_aload_n hx hb dX8_layOdds_0 rfl (lv_at hl 0 rfl) ?_
  refine va_get (D := D) (ci := 8) (v := .int (mo_isOver mo)) (C := RX8) (T := TX8) (N := 41) hx hb htw WW_wsX80 hown hKX.1 hP 0 rfl rfl 21 (Nat.le_of_ble_eq_true rfl) (htw _ mF_RX8_208) (fun _ h9 => h9) rfl dX8_layOdds_1 ?_
  refine lv_if_eq (tgt := 30) hx hb dX8_layOdds_4 (by decide) (fun c1 => ?_) (fun c1 => ?_)
  · have hf := z_p c1 hf
    refine lv_aload_n hx hb dX8_layOdds_30 rfl (lv_at hl 0 rfl) ?_
    obtain ⟨u2, hu2, hf⟩ := z_bd_u hf
    refine zc_MVv (As := []) (rest := []) (wr := []) (wsc := moW ac q th row un kp mt ps bx mo su wy wa od py ju pl rs) (wsc' := moW ac q th row un kp mt ps bx mo u2 wy wa od py ju pl rs) hx hb hml hown htw (ctX8_laySudden l D ac cs q s.heap.size th row un kp mt ps bx mo su wy wa od py ju pl rs    F u2 hu2) (g_V mM_RX8_284 mI_yX8_laySudden mS_RX8_yX8_laySudden_yX8_laySudden mN_RX8 mC_yX8_laySudden) rfl (hd_yX8_laySudden) ⟨rfl, rfl⟩ ⟨(Nat.le_of_ble_eq_true rfl), (Nat.le_of_ble_eq_true rfl)⟩ hKX hC hS hA hP hD [0, 1, 2, 3, 4, 5, 6, 7, 8, 9, 10, 11, 12, 13, 14, 15, 16, 17, 18, 19, 20] [] rfl (by decide) rfl (by decide) (by decide) 8 rfl rfl rfl hl.1 rfl (Nat.le_of_ble_eq_true rfl) ⟨Nat.zero_le _, Nat.zero_le _⟩ dX8_layOdds_31 (fun H locs hP hD hS => ?_)
    have hP : va_P D vwCl (moW ac q th row un kp mt ps bx mo u2 wy wa od py ju pl rs) H := hP
    have hD : va_D A (moW ac q th row un kp mt ps bx mo u2 wy wa od py ju pl rs) := hD
    refine lv_aload_n hx hb dX8_layOdds_34 rfl (lv_at hl 0 rfl) ?_
    refine zc_RVi (As := []) (rest := []) hx hb hml hown htw (ctX8_n l D ac cs q th row un kp mt ps bx mo u2 wy wa od py ju pl rs    _ rfl) (g_V mM_RX8_190 mI_yX8_n mS_RX8_yX8_n_yX8_n mN_RX8 mC_yX8_n) rfl (hd_yX8_n) ⟨rfl, rfl⟩ ⟨(Nat.le_of_ble_eq_true rfl), (Nat.le_of_ble_eq_true rfl)⟩ hKX hC hS hP 8 rfl rfl rfl hl.1 rfl (Nat.le_of_ble_eq_true rfl) ⟨Nat.zero_le _, Nat.zero_le _⟩ dX8_layOdds_35 ?_
    refine lv_topi (fun x3 hx3 => ?_)
    have hf := z_let_u hx3 hf
    refine lv_istore_n (lv' := [(2, .int x3), (0, .ref (q 0)), (1, .int a1)]) hx hb dX8_layOdds_38 rfl hl (Nat.le_of_ble_eq_true rfl) rfl (fun ls hl => ?_)
    refine lv_aload_n hx hb dX8_layOdds_39 rfl (lv_at hl 1 rfl) ?_
    refine va_get (D := D) (ci := 8) (v := .int (mo_kicks mo)) (C := RX8) (T := TX8) (N := 41) hx hb htw WW_wsX80 hown hKX.1 hP 0 rfl rfl 19 (Nat.le_of_ble_eq_true rfl) (htw _ mF_RX8_202) (fun _ h9 => h9) rfl dX8_layOdds_40 ?_
    refine lv_iconst (v := 2) hx hb dX8_layOdds_43 rfl ?_
    refine lv_iload_n hx hb dX8_layOdds_44 rfl (lv_at hl 0 rfl) ?_
    refine lv_imul hx hb dX8_layOdds_45 ?_
    refine lv_icmp_ge (tgt := 98) hx hb dX8_layOdds_46 (by decide) (fun c4 => ?_) (fun c4 => ?_)
    · have hf := z_p c4 hf
      refine lv_aload_n hx hb dX8_layOdds_98 rfl (lv_at hl 1 rfl) ?_
      refine va_get (D := D) (ci := 8) (v := .int (mo_kicks mo)) (C := RX8) (T := TX8) (N := 41) hx hb htw WW_wsX80 hown hKX.1 hP 0 rfl rfl 19 (Nat.le_of_ble_eq_true rfl) (htw _ mF_RX8_202) (fun _ h9 => h9) rfl dX8_layOdds_99 ?_
      refine lv_iconst (v := 2) hx hb dX8_layOdds_102 rfl ?_
      refine zv_irem hx hb dX8_layOdds_103 (by decide) ?_
      refine lv_if_ne (tgt := 139) hx hb dX8_layOdds_104 (by decide) (fun c5 => ?_) (fun c5 => ?_)
      · have hf := z_n c5 hf
        refine lv_aload_n hx hb dX8_layOdds_139 rfl (lv_at hl 1 rfl) ?_
        refine va_get (D := D) (ci := 8) (v := .ref (q 11)) (C := RX8) (T := TX8) (N := 41) hx hb htw WW_wsX80 hown hKX.1 hP 0 rfl rfl 23 (Nat.le_of_ble_eq_true rfl) (htw _ mF_RX8_44) (fun _ h9 => h9) rfl dX8_layOdds_140 ?_
        refine lv_iconst (v := 5) hx hb dX8_layOdds_143 rfl ?_
        refine lv_iload_n hx hb dX8_layOdds_144 rfl (lv_at hl 2 rfl) ?_
        refine lv_imul hx hb dX8_layOdds_145 ?_
        refine lv_aload_n hx hb dX8_layOdds_146 rfl (lv_at hl 1 rfl) ?_
        refine va_get (D := D) (ci := 8) (v := .int (mo_kicks mo)) (C := RX8) (T := TX8) (N := 41) hx hb htw WW_wsX80 hown hKX.1 hP 0 rfl rfl 19 (Nat.le_of_ble_eq_true rfl) (htw _ mF_RX8_202) (fun _ h9 => h9) rfl dX8_layOdds_147 ?_
        refine lv_iconst (v := 2) hx hb dX8_layOdds_150 rfl ?_
        refine lv_idiv hx hb dX8_layOdds_151 (by decide) ?_
        refine lv_iconst (v := 1) hx hb dX8_layOdds_152 rfl ?_
        refine lv_iadd hx hb dX8_layOdds_153 ?_
        refine lv_iload_n hx hb dX8_layOdds_154 rfl (lv_at hl 0 rfl) ?_
        obtain ⟨g6, hf⟩ := z_gd_u hf
        refine zv_irem hx hb dX8_layOdds_155 (z_nz_u g6) ?_
        refine lv_iadd hx hb dX8_layOdds_156 ?_
        obtain ⟨g7, hf⟩ := z_gd_u hf
        refine va_lald hx hb hKX.1 hP 11 1 rfl rfl (z_in_u g7) dX8_layOdds_157 ?_
        refine lv_topl (fun x8 hx8 => ?_)
        have hf := z_let_u hx8 hf
        refine lv_lstore_n (lv' := [(3, .long x8), (2, .int x3), (0, .ref (q 0)), (1, .int a1)]) hx hb dX8_layOdds_158 rfl hl (Nat.le_of_ble_eq_true rfl) rfl (fun ls hl => ?_)
        refine lv_aload_n hx hb dX8_layOdds_159 rfl (lv_at hl 2 rfl) ?_
        obtain ⟨r9, hr9, hf⟩ := z_bd_u hf
        refine zc_RVi (As := []) (rest := []) hx hb hml hown htw (ctX8_chanceNow l D ac cs q th row un kp mt ps bx mo u2 wy wa od py ju pl rs    _ hr9) (g_V mM_RX8_257 mI_yX8_chanceNow mS_RX8_yX8_chanceNow_yX8_chanceNow mN_RX8 mC_yX8_chanceNow) rfl (hd_yX8_chanceNow) ⟨rfl, rfl⟩ ⟨(Nat.le_of_ble_eq_true rfl), (Nat.le_of_ble_eq_true rfl)⟩ hKX hC hS hP 8 rfl rfl rfl hl.1 rfl (Nat.le_of_ble_eq_true rfl) ⟨Nat.zero_le _, Nat.zero_le _⟩ dX8_layOdds_160 ?_
        refine lv_istore (lv' := [(5, .int r9), (3, .long x8), (2, .int x3), (0, .ref (q 0)), (1, .int a1)]) hx hb dX8_layOdds_163 hl (Nat.le_of_ble_eq_true rfl) rfl (fun ls hl => ?_)
        refine lv_aload_n hx hb dX8_layOdds_165 rfl (lv_at hl 3 rfl) ?_
        refine va_get (D := D) (ci := 8) (v := .ref (q 9)) (C := RX8) (T := TX8) (N := 41) hx hb htw WW_wsX80 hown hKX.1 hP 0 rfl rfl 17 (Nat.le_of_ble_eq_true rfl) (htw _ mF_RX8_38) (fun _ h9 => h9) rfl dX8_layOdds_166 ?_
        refine lv_iconst (v := 0) hx hb dX8_layOdds_169 rfl ?_
        refine zv_iald_k hx hb hKX.1 hP 9 0 rfl rfl 0 rfl (z_in_u (by decide +kernel)) dX8_layOdds_170 ?_
        refine lv_aload_n hx hb dX8_layOdds_171 rfl (lv_at hl 3 rfl) ?_
        refine va_get (D := D) (ci := 8) (v := .ref (q 9)) (C := RX8) (T := TX8) (N := 41) hx hb htw WW_wsX80 hown hKX.1 hP 0 rfl rfl 17 (Nat.le_of_ble_eq_true rfl) (htw _ mF_RX8_38) (fun _ h9 => h9) rfl dX8_layOdds_172 ?_
        refine lv_iconst (v := 1) hx hb dX8_layOdds_175 rfl ?_
        refine zv_iald_k hx hb hKX.1 hP 9 0 rfl rfl 1 rfl (z_in_u (by decide +kernel)) dX8_layOdds_176 ?_
        have hj12 : ∀ (v10 : Int32), v10 = (if ((mo_goals mo) 0) = ((mo_goals mo) 1) then 0 else 1) → z_b v10 = true → ∀ (H : Heap) (locs : List Loc) (ls : Array Slot), va_P D vwCl (moW ac q th row un kp mt ps bx mo u2 wy wa od py ju pl rs) H → va_D A (moW ac q th row un kp mt ps bx mo u2 wy wa od py ju pl rs) → va_S A s.heap H locs → lv_has ls 9 [(0, .ref (q 0)), (1, .int a1), (3, .long x8), (5, .int r9)] → W p l e ({ frames := 5, cells := 0, slots := 0, locals := 114 } : Room) s m (([.ref (q 0), .int a1] : List Value).toArray) below meth c H locs 0 0 (MQ below (va_Qv (fun _ : Unit => True) (fun _ => zB D A (moW ac q th row un kp mt ps bx res.1 res.2.1 res.2.2.1 res.2.2.2.1 res.2.2.2.2 py ju pl rs)) A) ([.ref (q 0), .int a1] : List Value).toArray s 0 0 A) (F0 m 185 ls [.int v10]) := by
          intro v10 hv10 bv10 H locs ls hP hD hS hl
          have hf := z_let_u hv10 hf
          refine lv_istore (lv' := [(6, .int v10), (0, .ref (q 0)), (1, .int a1), (3, .long x8), (5, .int r9)]) hx hb dX8_layOdds_185 hl (Nat.le_of_ble_eq_true rfl) rfl (fun ls hl => ?_)
          refine lv_iload hx hb dX8_layOdds_187 (lv_at hl 0 rfl) ?_
          have hj16 : ∀ (v14 : Int32), v14 = (if v10 = 0 then (1 - (bx_byFirst bx)) else (bx_byFirst bx)) → ∀ (H : Heap) (locs : List Loc) (ls : Array Slot), va_P D vwCl (moW ac q th row un kp mt ps bx mo u2 wy wa od py ju pl rs) H → va_D A (moW ac q th row un kp mt ps bx mo u2 wy wa od py ju pl rs) → va_S A s.heap H locs → lv_has ls 9 [(0, .ref (q 0)), (1, .int a1), (3, .long x8), (5, .int r9), (6, .int v10)] → W p l e ({ frames := 5, cells := 0, slots := 0, locals := 114 } : Room) s m (([.ref (q 0), .int a1] : List Value).toArray) below meth c H locs 0 0 (MQ below (va_Qv (fun _ : Unit => True) (fun _ => zB D A (moW ac q th row un kp mt ps bx res.1 res.2.1 res.2.2.1 res.2.2.2.1 res.2.2.2.2 py ju pl rs)) A) ([.ref (q 0), .int a1] : List Value).toArray s 0 0 A) (F0 m 205 ls [.int v14]) := by
            intro v14 hv14 H locs ls hP hD hS hl
            have hf := z_let_u hv14 hf
            refine lv_istore (lv' := [(7, .int v14), (0, .ref (q 0)), (1, .int a1), (3, .long x8), (5, .int r9), (6, .int v10)]) hx hb dX8_layOdds_205 hl (Nat.le_of_ble_eq_true rfl) rfl (fun ls hl => ?_)
            refine lv_iload hx hb dX8_layOdds_207 (lv_at hl 5 rfl) ?_
            have hj20 : ∀ (v18 : Int32), v18 = (if v10 = 0 then (6 - r9) else r9) → ∀ (H : Heap) (locs : List Loc) (ls : Array Slot), va_P D vwCl (moW ac q th row un kp mt ps bx mo u2 wy wa od py ju pl rs) H → va_D A (moW ac q th row un kp mt ps bx mo u2 wy wa od py ju pl rs) → va_S A s.heap H locs → lv_has ls 9 [(0, .ref (q 0)), (1, .int a1), (3, .long x8), (7, .int v14)] → W p l e ({ frames := 5, cells := 0, slots := 0, locals := 114 } : Room) s m (([.ref (q 0), .int a1] : List Value).toArray) below meth c H locs 0 0 (MQ below (va_Qv (fun _ : Unit => True) (fun _ => zB D A (moW ac q th row un kp mt ps bx res.1 res.2.1 res.2.2.1 res.2.2.2.1 res.2.2.2.2 py ju pl rs)) A) ([.ref (q 0), .int a1] : List Value).toArray s 0 0 A) (F0 m 222 ls [.int v18]) := by
              intro v18 hv18 H locs ls hP hD hS hl
              have hf := z_let_u hv18 hf
              refine lv_istore (lv' := [(8, .int v18), (0, .ref (q 0)), (1, .int a1), (3, .long x8), (7, .int v14)]) hx hb dX8_layOdds_222 hl (Nat.le_of_ble_eq_true rfl) rfl (fun ls hl => ?_)
              refine lv_aload_n hx hb dX8_layOdds_224 rfl (lv_at hl 1 rfl) ?_
              refine lv_iload hx hb dX8_layOdds_225 (lv_at hl 0 rfl) ?_
              refine lv_i2l hx hb dX8_layOdds_227 rfl ?_
              refine lv_lload_n hx hb dX8_layOdds_228 rfl (lv_at hl 3 rfl) ?_
              refine lv_lmul hx hb dX8_layOdds_229 ?_
              refine lv_iload hx hb dX8_layOdds_230 (lv_at hl 4 rfl) ?_
              refine lv_iload_n hx hb dX8_layOdds_232 rfl (lv_at hl 2 rfl) ?_
              have hj24 : ∀ (v22 : Int64), v22 = (if v14 = a1 then (((6 - v18).toInt64) * (su_lower u2)) else 0) → ∀ (H : Heap) (locs : List Loc) (ls : Array Slot), va_P D vwCl (moW ac q th row un kp mt ps bx mo u2 wy wa od py ju pl rs) H → va_D A (moW ac q th row un kp mt ps bx mo u2 wy wa od py ju pl rs) → va_S A s.heap H locs → lv_has ls 9 [(0, .ref (q 0))] → W p l e ({ frames := 5, cells := 0, slots := 0, locals := 114 } : Room) s m (([.ref (q 0), .int a1] : List Value).toArray) below meth c H locs 0 0 (MQ below (va_Qv (fun _ : Unit => True) (fun _ => zB D A (moW ac q th row un kp mt ps bx res.1 res.2.1 res.2.2.1 res.2.2.2.1 res.2.2.2.2 py ju pl rs)) A) ([.ref (q 0), .int a1] : List Value).toArray s 0 0 A) (F0 m 251 ls [.long v22, .long (v18.toInt64 * x8), .ref (q 0)]) := by
                intro v22 hv22 H locs ls hP hD hS hl
                have hf := z_let_u hv22 hf
                refine lv_ladd hx hb dX8_layOdds_251 ?_
                refine lv_topl (fun x26 hx26 => ?_)
                have hf := z_let_u hx26 hf
                refine va_put (D := D) (ci := 8) (v := .long x26) (ty := tyX8 31) (C := RX8) (T := TX8) (N := 41) hx hb htw WW_wsX80 tyX8 tyX8_ok nmX8 hown hKX.1 hP hD hS 0 rfl rfl 31 (Nat.le_of_ble_eq_true rfl) (htw _ mF_RX8_278) (fun _ h9 => h9) rfl (tyX8_ok 31 (Nat.le_of_ble_eq_true rfl)) rfl rfl (Nat.le_of_ble_eq_true rfl) dX8_layOdds_252 (fun H locs hP hD hS => ?_)
                have hP : va_P D vwCl (moW ac q th row un kp mt ps bx mo u2 wy wa (x26, (od_under od)) py ju pl rs) H := hP
                have hD : va_D A (moW ac q th row un kp mt ps bx mo u2 wy wa (x26, (od_under od)) py ju pl rs) := hD
                refine lv_aload_n hx hb dX8_layOdds_255 rfl (lv_at hl 0 rfl) ?_
                refine lv_ldc2 (v := 6) hx hb hown (htw _ mG_RX8_252) dX8_layOdds_256 ?_
                refine lv_aload_n hx hb dX8_layOdds_259 rfl (lv_at hl 0 rfl) ?_
                refine va_get (D := D) (ci := 8) (v := .long (su_lower u2)) (C := RX8) (T := TX8) (N := 41) hx hb htw WW_wsX80 hown hKX.1 hP 0 rfl rfl 22 (Nat.le_of_ble_eq_true rfl) (htw _ mF_RX8_245) (fun _ h9 => h9) rfl dX8_layOdds_260 ?_
                refine lv_lmul hx hb dX8_layOdds_263 ?_
                refine lv_topl (fun x27 hx27 => ?_)
                have hf := z_let_u hx27 hf
                refine va_put (D := D) (ci := 8) (v := .long x27) (ty := tyX8 32) (C := RX8) (T := TX8) (N := 41) hx hb htw WW_wsX80 tyX8 tyX8_ok nmX8 hown hKX.1 hP hD hS 0 rfl rfl 32 (Nat.le_of_ble_eq_true rfl) (htw _ mF_RX8_281) (fun _ h9 => h9) rfl (tyX8_ok 32 (Nat.le_of_ble_eq_true rfl)) rfl rfl (Nat.le_of_ble_eq_true rfl) dX8_layOdds_264 (fun H locs hP hD hS => ?_)
                have hP : va_P D vwCl (moW ac q th row un kp mt ps bx mo u2 wy wa (x26, x27) py ju pl rs) H := hP
                have hD : va_D A (moW ac q th row un kp mt ps bx mo u2 wy wa (x26, x27) py ju pl rs) := hD
                obtain rfl := Option.some.inj hf
                exact zr_Mv hx hb hr hlocks hP hD hS dX8_layOdds_267
              refine lv_icmp_ne (tgt := 250) hx hb dX8_layOdds_233 (by decide) (fun c25 => ?_) (fun c25 => ?_)
              · skip
                refine lv_lconst (v := 0) hx hb dX8_layOdds_250 rfl ?_
                exact hj24 0 (if_neg c25).symm _ _ ls hP hD hS (lv_sub hl [1] rfl)
              · skip
                refine lv_bipush (v := 6) hx hb dX8_layOdds_236 rfl ?_
                refine lv_iload hx hb dX8_layOdds_238 (lv_at hl 0 rfl) ?_
                refine lv_isub hx hb dX8_layOdds_240 ?_
                refine lv_i2l hx hb dX8_layOdds_241 rfl ?_
                refine lv_aload_n hx hb dX8_layOdds_242 rfl (lv_at hl 1 rfl) ?_
                refine va_get (D := D) (ci := 8) (v := .long (su_lower u2)) (C := RX8) (T := TX8) (N := 41) hx hb htw WW_wsX80 hown hKX.1 hP 0 rfl rfl 22 (Nat.le_of_ble_eq_true rfl) (htw _ mF_RX8_245) (fun _ h9 => h9) rfl dX8_layOdds_243 ?_
                refine lv_lmul hx hb dX8_layOdds_246 ?_
                refine lv_goto (tgt := 251) hx hb dX8_layOdds_247 (by decide) ?_
                exact hj24 (((6 - v18).toInt64) * (su_lower u2)) (if_pos c25).symm _ _ ls hP hD hS (lv_sub hl [1] rfl)
            refine lv_if_eq (tgt := 217) hx hb dX8_layOdds_209 (by decide) (fun c21 => ?_) (fun c21 => ?_)
            · skip
              refine lv_bipush (v := 6) hx hb dX8_layOdds_217 rfl ?_
              refine lv_iload hx hb dX8_layOdds_219 (lv_at hl 4 rfl) ?_
              refine lv_isub hx hb dX8_layOdds_221 ?_
              exact hj20 (6 - r9) (if_pos c21).symm _ _ ls hP hD hS (lv_sub hl [1, 2, 3, 0] rfl)
            · skip
              refine lv_iload hx hb dX8_layOdds_212 (lv_at hl 4 rfl) ?_
              refine lv_goto (tgt := 222) hx hb dX8_layOdds_214 (by decide) ?_
              exact hj20 r9 (if_neg c21).symm _ _ ls hP hD hS (lv_sub hl [1, 2, 3, 0] rfl)
          refine lv_if_eq (tgt := 199) hx hb dX8_layOdds_189 (by decide) (fun c17 => ?_) (fun c17 => ?_)
          · skip
            refine lv_iconst (v := 1) hx hb dX8_layOdds_199 rfl ?_
            refine lv_aload_n hx hb dX8_layOdds_200 rfl (lv_at hl 1 rfl) ?_
            refine va_get (D := D) (ci := 8) (v := .int (bx_byFirst bx)) (C := RX8) (T := TX8) (N := 41) hx hb htw WW_wsX80 hown hKX.1 hP 0 rfl rfl 15 (Nat.le_of_ble_eq_true rfl) (htw _ mF_RX8_196) (fun _ h9 => h9) rfl dX8_layOdds_201 ?_
            refine lv_isub hx hb dX8_layOdds_204 ?_
            exact hj16 (1 - (bx_byFirst bx)) (if_pos c17).symm _ _ ls hP hD hS (lv_sub hl [1, 2, 3, 4, 0] rfl)
          · skip
            refine lv_aload_n hx hb dX8_layOdds_192 rfl (lv_at hl 1 rfl) ?_
            refine va_get (D := D) (ci := 8) (v := .int (bx_byFirst bx)) (C := RX8) (T := TX8) (N := 41) hx hb htw WW_wsX80 hown hKX.1 hP 0 rfl rfl 15 (Nat.le_of_ble_eq_true rfl) (htw _ mF_RX8_196) (fun _ h9 => h9) rfl dX8_layOdds_193 ?_
            refine lv_goto (tgt := 205) hx hb dX8_layOdds_196 (by decide) ?_
            exact hj16 (bx_byFirst bx) (if_neg c17).symm _ _ ls hP hD hS (lv_sub hl [1, 2, 3, 4, 0] rfl)
        refine lv_icmp_eq (tgt := 184) hx hb dX8_layOdds_177 (by decide) (fun c13 => ?_) (fun c13 => ?_)
        · skip
          refine lv_iconst (v := 0) hx hb dX8_layOdds_184 rfl ?_
          exact hj12 0 (if_pos c13).symm z_b0 _ _ ls hP hD hS (lv_sub hl [3, 4, 1, 0] rfl)
        · skip
          refine lv_iconst (v := 1) hx hb dX8_layOdds_180 rfl ?_
          refine lv_goto (tgt := 185) hx hb dX8_layOdds_181 (by decide) ?_
          exact hj12 1 (if_neg c13).symm z_b1 _ _ ls hP hD hS (lv_sub hl [3, 4, 1, 0] rfl)
      · have hf := z_p c5 hf
        refine lv_aload_n hx hb dX8_layOdds_107 rfl (lv_at hl 1 rfl) ?_
        refine lv_aload_n hx hb dX8_layOdds_108 rfl (lv_at hl 1 rfl) ?_
        refine va_get (D := D) (ci := 8) (v := .ref (q 11)) (C := RX8) (T := TX8) (N := 41) hx hb htw WW_wsX80 hown hKX.1 hP 0 rfl rfl 23 (Nat.le_of_ble_eq_true rfl) (htw _ mF_RX8_44) (fun _ h9 => h9) rfl dX8_layOdds_109 ?_
        refine lv_iconst (v := 5) hx hb dX8_layOdds_112 rfl ?_
        refine lv_iload_n hx hb dX8_layOdds_113 rfl (lv_at hl 2 rfl) ?_
        refine lv_imul hx hb dX8_layOdds_114 ?_
        refine lv_aload_n hx hb dX8_layOdds_115 rfl (lv_at hl 1 rfl) ?_
        refine va_get (D := D) (ci := 8) (v := .int (mo_kicks mo)) (C := RX8) (T := TX8) (N := 41) hx hb htw WW_wsX80 hown hKX.1 hP 0 rfl rfl 19 (Nat.le_of_ble_eq_true rfl) (htw _ mF_RX8_202) (fun _ h9 => h9) rfl dX8_layOdds_116 ?_
        refine lv_iconst (v := 2) hx hb dX8_layOdds_119 rfl ?_
        refine lv_idiv hx hb dX8_layOdds_120 (by decide) ?_
        refine lv_iload_n hx hb dX8_layOdds_121 rfl (lv_at hl 0 rfl) ?_
        obtain ⟨g28, hf⟩ := z_gd_u hf
        refine zv_irem hx hb dX8_layOdds_122 (z_nz_u g28) ?_
        refine lv_iadd hx hb dX8_layOdds_123 ?_
        obtain ⟨g29, hf⟩ := z_gd_u hf
        refine va_lald hx hb hKX.1 hP 11 1 rfl rfl (z_in_u g29) dX8_layOdds_124 ?_
        refine lv_topl (fun x30 hx30 => ?_)
        have hf := z_let_u hx30 hf
        refine va_put (D := D) (ci := 8) (v := .long x30) (ty := tyX8 31) (C := RX8) (T := TX8) (N := 41) hx hb htw WW_wsX80 tyX8 tyX8_ok nmX8 hown hKX.1 hP hD hS 0 rfl rfl 31 (Nat.le_of_ble_eq_true rfl) (htw _ mF_RX8_278) (fun _ h9 => h9) rfl (tyX8_ok 31 (Nat.le_of_ble_eq_true rfl)) rfl rfl (Nat.le_of_ble_eq_true rfl) dX8_layOdds_125 (fun H locs hP hD hS => ?_)
        have hP : va_P D vwCl (moW ac q th row un kp mt ps bx mo u2 wy wa (x30, (od_under od)) py ju pl rs) H := hP
        have hD : va_D A (moW ac q th row un kp mt ps bx mo u2 wy wa (x30, (od_under od)) py ju pl rs) := hD
        refine lv_aload_n hx hb dX8_layOdds_128 rfl (lv_at hl 1 rfl) ?_
        refine lv_aload_n hx hb dX8_layOdds_129 rfl (lv_at hl 1 rfl) ?_
        refine va_get (D := D) (ci := 8) (v := .long (su_lower u2)) (C := RX8) (T := TX8) (N := 41) hx hb htw WW_wsX80 hown hKX.1 hP 0 rfl rfl 22 (Nat.le_of_ble_eq_true rfl) (htw _ mF_RX8_245) (fun _ h9 => h9) rfl dX8_layOdds_130 ?_
        refine lv_topl (fun x31 hx31 => ?_)
        have hf := z_let_u hx31 hf
        refine va_put (D := D) (ci := 8) (v := .long x31) (ty := tyX8 32) (C := RX8) (T := TX8) (N := 41) hx hb htw WW_wsX80 tyX8 tyX8_ok nmX8 hown hKX.1 hP hD hS 0 rfl rfl 32 (Nat.le_of_ble_eq_true rfl) (htw _ mF_RX8_281) (fun _ h9 => h9) rfl (tyX8_ok 32 (Nat.le_of_ble_eq_true rfl)) rfl rfl (Nat.le_of_ble_eq_true rfl) dX8_layOdds_133 (fun H locs hP hD hS => ?_)
        have hP : va_P D vwCl (moW ac q th row un kp mt ps bx mo u2 wy wa (x30, x31) py ju pl rs) H := hP
        have hD : va_D A (moW ac q th row un kp mt ps bx mo u2 wy wa (x30, x31) py ju pl rs) := hD
        refine lv_goto (tgt := 267) hx hb dX8_layOdds_136 (by decide) ?_
        obtain rfl := Option.some.inj hf
        exact zr_Mv hx hb hr hlocks hP hD hS dX8_layOdds_267
    · have hf := z_n c4 hf
      refine lv_aload_n hx hb dX8_layOdds_49 rfl (lv_at hl 1 rfl) ?_
      obtain ⟨u32, hu32, hf⟩ := z_bd_u hf
      refine zc_MVv (As := []) (rest := []) (wr := []) (wsc := moW ac q th row un kp mt ps bx mo u2 wy wa od py ju pl rs) (wsc' := moW ac q th row un kp mt ps bx u32.1 u2 u32.2.1 u32.2.2 od py ju pl rs) hx hb hml hown htw (ctX8_layWays l D ac cs q H.size th row un kp mt ps bx mo u2 wy wa od py ju pl rs    F u32 hu32) (g_V mM_RX8_287 mI_yX8_layWays mS_RX8_yX8_layWays_yX8_layWays mN_RX8 mC_yX8_layWays) rfl (hd_yX8_layWays) ⟨rfl, rfl⟩ ⟨(Nat.le_of_ble_eq_true rfl), (Nat.le_of_ble_eq_true rfl)⟩ hKX hC hS hA hP hD [0, 1, 2, 3, 4, 5, 6, 7, 8, 9, 10, 11, 12, 13, 14, 15, 16, 17, 18, 19, 20] [] rfl (by decide) rfl (by decide) (by decide) 8 rfl rfl rfl hl.1 rfl (Nat.le_of_ble_eq_true rfl) ⟨Nat.zero_le _, Nat.zero_le _⟩ dX8_layOdds_50 (fun H locs hP hD hS => ?_)
      have hP : va_P D vwCl (moW ac q th row un kp mt ps bx u32.1 u2 u32.2.1 u32.2.2 od py ju pl rs) H := hP
      have hD : va_D A (moW ac q th row un kp mt ps bx u32.1 u2 u32.2.1 u32.2.2 od py ju pl rs) := hD
      refine lv_aload_n hx hb dX8_layOdds_53 rfl (lv_at hl 1 rfl) ?_
      refine lv_aload_n hx hb dX8_layOdds_54 rfl (lv_at hl 1 rfl) ?_
      refine va_get (D := D) (ci := 8) (v := .ref (q 12)) (C := RX8) (T := TX8) (N := 41) hx hb htw WW_wsX80 hown hKX.1 hP 0 rfl rfl 24 (Nat.le_of_ble_eq_true rfl) (htw _ mF_RX8_48) (fun _ h9 => h9) rfl dX8_layOdds_55 ?_
      refine lv_iload_n hx hb dX8_layOdds_58 rfl (lv_at hl 2 rfl) ?_
      obtain ⟨g33, hf⟩ := z_gd_u hf
      refine va_lald hx hb hKX.1 hP 12 1 rfl rfl (z_in_u g33) dX8_layOdds_59 ?_
      refine lv_aload_n hx hb dX8_layOdds_60 rfl (lv_at hl 1 rfl) ?_
      refine va_get (D := D) (ci := 8) (v := .long (su_lower u2)) (C := RX8) (T := TX8) (N := 41) hx hb htw WW_wsX80 hown hKX.1 hP 0 rfl rfl 22 (Nat.le_of_ble_eq_true rfl) (htw _ mF_RX8_245) (fun _ h9 => h9) rfl dX8_layOdds_61 ?_
      refine lv_lmul hx hb dX8_layOdds_64 ?_
      refine lv_aload_n hx hb dX8_layOdds_65 rfl (lv_at hl 1 rfl) ?_
      refine va_get (D := D) (ci := 8) (v := .long (wy_alikeWays u32.2.1)) (C := RX8) (T := TX8) (N := 41) hx hb htw WW_wsX80 hown hKX.1 hP 0 rfl rfl 25 (Nat.le_of_ble_eq_true rfl) (htw _ mF_RX8_266) (fun _ h9 => h9) rfl dX8_layOdds_66 ?_
      refine lv_aload_n hx hb dX8_layOdds_69 rfl (lv_at hl 1 rfl) ?_
      refine va_get (D := D) (ci := 8) (v := .ref (q 11)) (C := RX8) (T := TX8) (N := 41) hx hb htw WW_wsX80 hown hKX.1 hP 0 rfl rfl 23 (Nat.le_of_ble_eq_true rfl) (htw _ mF_RX8_44) (fun _ h9 => h9) rfl dX8_layOdds_70 ?_
      refine lv_iconst (v := 5) hx hb dX8_layOdds_73 rfl ?_
      refine lv_iload_n hx hb dX8_layOdds_74 rfl (lv_at hl 2 rfl) ?_
      refine lv_imul hx hb dX8_layOdds_75 ?_
      obtain ⟨g34, hf⟩ := z_gd_u hf
      refine va_lald hx hb hKX.1 hP 11 1 rfl rfl (z_in_u g34) dX8_layOdds_76 ?_
      refine lv_lmul hx hb dX8_layOdds_77 ?_
      refine lv_ladd hx hb dX8_layOdds_78 ?_
      refine lv_topl (fun x35 hx35 => ?_)
      have hf := z_let_u hx35 hf
      refine va_put (D := D) (ci := 8) (v := .long x35) (ty := tyX8 31) (C := RX8) (T := TX8) (N := 41) hx hb htw WW_wsX80 tyX8 tyX8_ok nmX8 hown hKX.1 hP hD hS 0 rfl rfl 31 (Nat.le_of_ble_eq_true rfl) (htw _ mF_RX8_278) (fun _ h9 => h9) rfl (tyX8_ok 31 (Nat.le_of_ble_eq_true rfl)) rfl rfl (Nat.le_of_ble_eq_true rfl) dX8_layOdds_79 (fun H locs hP hD hS => ?_)
      have hP : va_P D vwCl (moW ac q th row un kp mt ps bx u32.1 u2 u32.2.1 u32.2.2 (x35, (od_under od)) py ju pl rs) H := hP
      have hD : va_D A (moW ac q th row un kp mt ps bx u32.1 u2 u32.2.1 u32.2.2 (x35, (od_under od)) py ju pl rs) := hD
      refine lv_aload_n hx hb dX8_layOdds_82 rfl (lv_at hl 1 rfl) ?_
      refine lv_aload_n hx hb dX8_layOdds_83 rfl (lv_at hl 1 rfl) ?_
      refine va_get (D := D) (ci := 8) (v := .long (wy_leftWays u32.2.1)) (C := RX8) (T := TX8) (N := 41) hx hb htw WW_wsX80 hown hKX.1 hP 0 rfl rfl 26 (Nat.le_of_ble_eq_true rfl) (htw _ mF_RX8_275) (fun _ h9 => h9) rfl dX8_layOdds_84 ?_
      refine lv_aload_n hx hb dX8_layOdds_87 rfl (lv_at hl 1 rfl) ?_
      refine va_get (D := D) (ci := 8) (v := .long (su_lower u2)) (C := RX8) (T := TX8) (N := 41) hx hb htw WW_wsX80 hown hKX.1 hP 0 rfl rfl 22 (Nat.le_of_ble_eq_true rfl) (htw _ mF_RX8_245) (fun _ h9 => h9) rfl dX8_layOdds_88 ?_
      refine lv_lmul hx hb dX8_layOdds_91 ?_
      refine lv_topl (fun x36 hx36 => ?_)
      have hf := z_let_u hx36 hf
      refine va_put (D := D) (ci := 8) (v := .long x36) (ty := tyX8 32) (C := RX8) (T := TX8) (N := 41) hx hb htw WW_wsX80 tyX8 tyX8_ok nmX8 hown hKX.1 hP hD hS 0 rfl rfl 32 (Nat.le_of_ble_eq_true rfl) (htw _ mF_RX8_281) (fun _ h9 => h9) rfl (tyX8_ok 32 (Nat.le_of_ble_eq_true rfl)) rfl rfl (Nat.le_of_ble_eq_true rfl) dX8_layOdds_92 (fun H locs hP hD hS => ?_)
      have hP : va_P D vwCl (moW ac q th row un kp mt ps bx u32.1 u2 u32.2.1 u32.2.2 (x35, x36) py ju pl rs) H := hP
      have hD : va_D A (moW ac q th row un kp mt ps bx u32.1 u2 u32.2.1 u32.2.2 (x35, x36) py ju pl rs) := hD
      refine lv_goto (tgt := 267) hx hb dX8_layOdds_95 (by decide) ?_
      obtain rfl := Option.some.inj hf
      exact zr_Mv hx hb hr hlocks hP hD hS dX8_layOdds_267
  · have hf := z_n c1 hf
    refine lv_aload_n hx hb dX8_layOdds_7 rfl (lv_at hl 0 rfl) ?_
    refine lv_aload_n hx hb dX8_layOdds_8 rfl (lv_at hl 0 rfl) ?_
    refine zc_RVi (As := []) (rest := [.ref (q 0)]) hx hb hml hown htw (ctX8_ahead l D ac cs q th row un kp mt ps bx mo su wy wa od py ju pl rs    _ rfl) (g_V mM_RX8_264 mI_yX8_ahead mS_RX8_yX8_ahead_yX8_ahead mN_RX8 mC_yX8_ahead) rfl (hd_yX8_ahead) ⟨rfl, rfl⟩ ⟨(Nat.le_of_ble_eq_true rfl), (Nat.le_of_ble_eq_true rfl)⟩ hKX hC hS hP 8 rfl rfl rfl hl.1 rfl (Nat.le_of_ble_eq_true rfl) ⟨Nat.zero_le _, Nat.zero_le _⟩ dX8_layOdds_9 ?_
    refine lv_iload_n hx hb dX8_layOdds_12 rfl (lv_at hl 1 rfl) ?_
    have hj39 : ∀ (v37 : Int64), v37 = (if M_ahead mo = a1 then 1 else 0) → ∀ (H : Heap) (locs : List Loc) (ls : Array Slot), va_P D vwCl (moW ac q th row un kp mt ps bx mo su wy wa od py ju pl rs) H → va_D A (moW ac q th row un kp mt ps bx mo su wy wa od py ju pl rs) → va_S A s.heap H locs → lv_has ls 9 [(0, .ref (q 0))] → W p l e ({ frames := 5, cells := 0, slots := 0, locals := 114 } : Room) s m (([.ref (q 0), .int a1] : List Value).toArray) below meth c H locs 0 0 (MQ below (va_Qv (fun _ : Unit => True) (fun _ => zB D A (moW ac q th row un kp mt ps bx res.1 res.2.1 res.2.2.1 res.2.2.2.1 res.2.2.2.2 py ju pl rs)) A) ([.ref (q 0), .int a1] : List Value).toArray s 0 0 A) (F0 m 21 ls [.long v37, .ref (q 0)]) := by
      intro v37 hv37 H locs ls hP hD hS hl
      have hf := z_let_u hv37 hf
      refine va_put (D := D) (ci := 8) (v := .long v37) (ty := tyX8 31) (C := RX8) (T := TX8) (N := 41) hx hb htw WW_wsX80 tyX8 tyX8_ok nmX8 hown hKX.1 hP hD hS 0 rfl rfl 31 (Nat.le_of_ble_eq_true rfl) (htw _ mF_RX8_278) (fun _ h9 => h9) rfl (tyX8_ok 31 (Nat.le_of_ble_eq_true rfl)) rfl rfl (Nat.le_of_ble_eq_true rfl) dX8_layOdds_21 (fun H locs hP hD hS => ?_)
      have hP : va_P D vwCl (moW ac q th row un kp mt ps bx mo su wy wa (v37, (od_under od)) py ju pl rs) H := hP
      have hD : va_D A (moW ac q th row un kp mt ps bx mo su wy wa (v37, (od_under od)) py ju pl rs) := hD
      refine lv_aload_n hx hb dX8_layOdds_24 rfl (lv_at hl 0 rfl) ?_
      refine lv_lconst (v := 1) hx hb dX8_layOdds_25 rfl ?_
      refine va_put (D := D) (ci := 8) (v := .long 1) (ty := tyX8 32) (C := RX8) (T := TX8) (N := 41) hx hb htw WW_wsX80 tyX8 tyX8_ok nmX8 hown hKX.1 hP hD hS 0 rfl rfl 32 (Nat.le_of_ble_eq_true rfl) (htw _ mF_RX8_281) (fun _ h9 => h9) rfl (tyX8_ok 32 (Nat.le_of_ble_eq_true rfl)) rfl rfl (Nat.le_of_ble_eq_true rfl) dX8_layOdds_26 (fun H locs hP hD hS => ?_)
      have hP : va_P D vwCl (moW ac q th row un kp mt ps bx mo su wy wa (v37, 1) py ju pl rs) H := hP
      have hD : va_D A (moW ac q th row un kp mt ps bx mo su wy wa (v37, 1) py ju pl rs) := hD
      obtain rfl := Option.some.inj hf
      exact zr_Mv hx hb hr hlocks hP hD hS dX8_layOdds_29
    refine lv_icmp_ne (tgt := 20) hx hb dX8_layOdds_13 (by decide) (fun c40 => ?_) (fun c40 => ?_)
    · skip
      refine lv_lconst (v := 0) hx hb dX8_layOdds_20 rfl ?_
      exact hj39 0 (if_neg c40).symm _ _ ls hP hD hS (lv_sub hl [0] rfl)
    · skip
      refine lv_lconst (v := 1) hx hb dX8_layOdds_16 rfl ?_
      refine lv_goto (tgt := 21) hx hb dX8_layOdds_17 (by decide) ?_
      exact hj39 1 (if_pos c40).symm _ _ ls hP hD hS (lv_sub hl [0] rfl)

theorem hd_yX8_common : hdY yX8_common 2 := by decide +kernel
def M_common_L17 : Nat → Int64 → Int64 → Option (Int64)
  | 0, _, _ => none
  | n8 + 1, x5, x6 => if (lg_cmp x6 0) = 0 then (some x5) else (z_gd (z_nzl x6) (z_let (z_reml x5 x6) (fun x12 : Int64 => M_common_L17 n8 x6 x12)))
def M_common (F : Nat) (a1 : Int64) (a2 : Int64) : Option (Int64) := z_let (if 0 ≤ (lg_cmp a1 0) then a1 else (-a1)) (fun v1 : Int64 => M_common_L17  F v1 a2)
set_option maxHeartbeats 4000000 in
set_option maxRecDepth 100000 in
theorem ctX8_common (l : Launch) (D : va_G) (ac cs : Nat → Nat) (a1 : Int64) (a2 : Int64) (F : Nat) (res : Int64) (hf : M_common F a1 a2 = some res) : Met l yX8_common (cWW yX8_common cX8_common 10 (some .long)) { frames := 0, cells := 0, slots := 0, locals := 0 } (zR D ac cs [.long a1, .long a2] ([])) (vp_Sl (fun r => r = res)) 0 0 (fun _ => False) := by
  refine Met.ofW (cc := cX8_common) (maxL := 10) (ret := (some .long)) (by decide) rfl ?_
  intro p e s m args below meth c s₁ B hml hv
  obtain ⟨rfl, hP, hKX, hC⟩ := hv
  have hx := B.exec
  have hb := B.bytes
  have hr := B.returns
  have hts := atoms_spec (ws := cWW yX8_common cX8_common 10 (some .long)) B.pre
  have htw : ∀ w ∈ WW, w.before _ s = true := fun w h => hts w (List.mem_cons_of_mem _ h)
  have hown : s.vm.findClass RX8 = some m.cls := findClass_of_methodNamed B.named
  have hlocks := B.notSynchronized
  clear hts B
  have hS : va_S (fun _ => False) s.heap s.heap [] := va_S.rf
  have hl := lv_entry ([.long a1, .long a2]) (n := 10) (Nat.le_of_ble_eq_true rfl)
  rw [lg_entry_eq]
  generalize (lg_sl ([.long a1, .long a2]) ++ List.replicate (10 - (lg_sl ([.long a1, .long a2])).length) Slot.unset).toArray = ls at hl ⊢
  have hl : lv_has ls 10 [(0, .long a1), (2, .long a2)] := hl
  unfold M_common at hf
  show W p l e ({ frames := 0, cells := 0, slots := 0, locals := 0 } : Room) s m _ below meth c s.heap [] 0 0 _ (F0 m 0 ls [])
  refine lv_lload_n hx hb dX8_common_0 rfl (lv_at hl 0 rfl) ?_
  refine lv_lconst (v := 0) hx hb dX8_common_1 rfl ?_
  refine W.lcmp hx hb dX8_common_2 ?_
  have hj3 : ∀ (v1 : Int64), v1 = (if 0 ≤ (lg_cmp a1 0) then a1 else (-a1)) → ∀ (ls : Array Slot), lv_has ls 10 [(2, .long a2)] → W p l e ({ frames := 0, cells := 0, slots := 0, locals := 0 } : Room) s m (([.long a1, .long a2] : List Value).toArray) below meth c s.heap [] 0 0 (MQ below (vp_Sl (fun r => r = res)) ([.long a1, .long a2] : List Value).toArray s 0 0 (fun _ => False)) (F0 m 12 ls [.long v1]) := by
    intro v1 hv1 ls hl
    have hf := z_let_u hv1 hf
    refine lv_lstore (lv' := [(4, .long v1), (2, .long a2)]) hx hb dX8_common_12 hl (Nat.le_of_ble_eq_true rfl) rfl (fun ls hl => ?_)
    refine lv_lload_n hx hb dX8_common_14 rfl (lv_at hl 1 rfl) ?_
    refine lv_lstore (lv' := [(6, .long a2), (4, .long v1), (2, .long a2)]) hx hb dX8_common_15 hl (Nat.le_of_ble_eq_true rfl) rfl (fun ls hl => ?_)
    have hL7 : ∀ (n8 : Nat) (x5 : Int64) (x6 : Int64), M_common_L17 n8 x5 x6 = some res → ∀ (ls : Array Slot), lv_has ls 10 [(4, .long x5), (6, .long x6)] → W p l e ({ frames := 0, cells := 0, slots := 0, locals := 0 } : Room) s m (([.long a1, .long a2] : List Value).toArray) below meth c s.heap [] 0 0 (MQ below (vp_Sl (fun r => r = res)) ([.long a1, .long a2] : List Value).toArray s 0 0 (fun _ => False)) (F0 m 17 ls []) := by
      intro n8
      induction n8 with
      | zero => intro x5 x6 hf; rw [M_common_L17] at hf; cases hf
      | succ n8 ih9 =>
        intro x5 x6 hf ls hl
        rw [M_common_L17] at hf
        refine lv_lload hx hb dX8_common_17 (lv_at hl 1 rfl) ?_
        refine lv_lconst (v := 0) hx hb dX8_common_19 rfl ?_
        refine W.lcmp hx hb dX8_common_20 ?_
        refine lv_if_eq (tgt := 42) hx hb dX8_common_21 (by decide) (fun c10 => ?_) (fun c10 => ?_)
        · have hf := z_p c10 hf
          refine lv_lload hx hb dX8_common_42 (lv_at hl 0 rfl) ?_
          exact zr_Rl hx hb hr hlocks (Option.some.inj hf) dX8_common_44
        · have hf := z_n c10 hf
          refine lv_lload hx hb dX8_common_24 (lv_at hl 0 rfl) ?_
          refine lv_lload hx hb dX8_common_26 (lv_at hl 1 rfl) ?_
          obtain ⟨g11, hf⟩ := z_gd_u hf
          refine zv_lrem hx hb dX8_common_28 (z_nzl_u g11) ?_
          refine lv_topl (fun x12 hx12 => ?_)
          have hf := z_let_u hx12 hf
          refine lv_lstore (lv' := [(8, .long x12), (4, .long x5), (6, .long x6)]) hx hb dX8_common_29 hl (Nat.le_of_ble_eq_true rfl) rfl (fun ls hl => ?_)
          refine lv_lload hx hb dX8_common_31 (lv_at hl 2 rfl) ?_
          refine lv_lstore (lv' := [(4, .long x6), (8, .long x12), (6, .long x6)]) hx hb dX8_common_33 hl (Nat.le_of_ble_eq_true rfl) rfl (fun ls hl => ?_)
          refine lv_lload hx hb dX8_common_35 (lv_at hl 1 rfl) ?_
          refine lv_lstore (lv' := [(6, .long x12), (4, .long x6), (8, .long x12)]) hx hb dX8_common_37 hl (Nat.le_of_ble_eq_true rfl) rfl (fun ls hl => ?_)
          refine lv_goto (tgt := 17) hx hb dX8_common_39 (by decide) ?_
          exact ih9 x6 x12 hf ls (lv_sub hl [1, 0] rfl)
    refine hL7  F v1 a2 hf ls (lv_sub hl [1, 0] rfl)
  refine lv_if_ge (tgt := 11) hx hb dX8_common_3 (by decide) (fun c4 => ?_) (fun c4 => ?_)
  · skip
    refine lv_lload_n hx hb dX8_common_11 rfl (lv_at hl 0 rfl) ?_
    exact hj3 a1 (if_pos c4).symm ls (lv_sub hl [1] rfl)
  · skip
    refine lv_lload_n hx hb dX8_common_6 rfl (lv_at hl 0 rfl) ?_
    refine lv_lneg hx hb dX8_common_7 ?_
    refine lv_goto (tgt := 12) hx hb dX8_common_8 (by decide) ?_
    exact hj3 (-a1) (if_neg c4).symm ls (lv_sub hl [1] rfl)

theorem hd_yX8_told : hdY yX8_told 3 := by decide +kernel
def M_told (F : Nat) (a1 : Int64) (a2 : Int64) (a3 : Int32) : Option (Int64) := z_bd (M_common F a1 a2) (fun r1 : Int64 => if a3 = 0 then (z_gd (z_nzl r1) (some (a1 / r1))) else (z_gd (z_nzl r1) (some (a2 / r1))))
set_option maxHeartbeats 4000000 in
set_option maxRecDepth 100000 in
theorem ctX8_told (l : Launch) (D : va_G) (ac cs : Nat → Nat) (a1 : Int64) (a2 : Int64) (a3 : Int32) (F : Nat) (res : Int64) (hf : M_told F a1 a2 a3 = some res) : Met l yX8_told (cWW yX8_told cX8_told 7 (some .long)) { frames := 1, cells := 0, slots := 0, locals := 29 } (zR D ac cs [.long a1, .long a2, .int a3] ([])) (vp_Sl (fun r => r = res)) 0 0 (fun _ => False) := by
  refine Met.ofW (cc := cX8_told) (maxL := 7) (ret := (some .long)) (by decide) rfl ?_
  intro p e s m args below meth c s₁ B hml hv
  obtain ⟨rfl, hP, hKX, hC⟩ := hv
  have hx := B.exec
  have hb := B.bytes
  have hr := B.returns
  have hts := atoms_spec (ws := cWW yX8_told cX8_told 7 (some .long)) B.pre
  have htw : ∀ w ∈ WW, w.before _ s = true := fun w h => hts w (List.mem_cons_of_mem _ h)
  have hown : s.vm.findClass RX8 = some m.cls := findClass_of_methodNamed B.named
  have hlocks := B.notSynchronized
  clear hts B
  have hS : va_S (fun _ => False) s.heap s.heap [] := va_S.rf
  have hl := lv_entry ([.long a1, .long a2, .int a3]) (n := 7) (Nat.le_of_ble_eq_true rfl)
  rw [lg_entry_eq]
  generalize (lg_sl ([.long a1, .long a2, .int a3]) ++ List.replicate (7 - (lg_sl ([.long a1, .long a2, .int a3])).length) Slot.unset).toArray = ls at hl ⊢
  have hl : lv_has ls 7 [(0, .long a1), (2, .long a2), (4, .int a3)] := hl
  unfold M_told at hf
  show W p l e ({ frames := 1, cells := 0, slots := 0, locals := 29 } : Room) s m _ below meth c s.heap [] 0 0 _ (F0 m 0 ls [])
  refine lv_lload_n hx hb dX8_told_0 rfl (lv_at hl 0 rfl) ?_
  refine lv_lload_n hx hb dX8_told_1 rfl (lv_at hl 1 rfl) ?_
  obtain ⟨r1, hr1, hf⟩ := z_bd_u hf
  refine zc_RSl (As := [.long a1, .long a2]) (rest := []) hx hb hml hown htw (ctX8_common l D ac cs   a1 a2   F _ hr1) (g_S mM_RX8_290 mT_yX8_common mN_RX8 mC_yX8_common) (hd_yX8_common) ⟨rfl, rfl⟩ ⟨(Nat.le_of_ble_eq_true rfl), (Nat.le_of_ble_eq_true rfl)⟩ hKX hC hS zP0 rfl hl.1 rfl (Nat.le_of_ble_eq_true rfl) ⟨Nat.zero_le _, Nat.zero_le _⟩ dX8_told_2 ?_
  refine lv_lstore (lv' := [(5, .long r1), (0, .long a1), (2, .long a2), (4, .int a3)]) hx hb dX8_told_5 hl (Nat.le_of_ble_eq_true rfl) rfl (fun ls hl => ?_)
  refine lv_iload hx hb dX8_told_7 (lv_at hl 3 rfl) ?_
  refine lv_if_ne (tgt := 19) hx hb dX8_told_9 (by decide) (fun c2 => ?_) (fun c2 => ?_)
  · have hf := z_n c2 hf
    refine lv_lload_n hx hb dX8_told_19 rfl (lv_at hl 2 rfl) ?_
    refine lv_lload hx hb dX8_told_20 (lv_at hl 0 rfl) ?_
    obtain ⟨g3, hf⟩ := z_gd_u hf
    refine lv_ldiv hx hb dX8_told_22 (z_nzl_u g3) ?_
    exact zr_Rl hx hb hr hlocks (Option.some.inj hf) dX8_told_23
  · have hf := z_p c2 hf
    refine lv_lload_n hx hb dX8_told_12 rfl (lv_at hl 1 rfl) ?_
    refine lv_lload hx hb dX8_told_13 (lv_at hl 0 rfl) ?_
    obtain ⟨g4, hf⟩ := z_gd_u hf
    refine lv_ldiv hx hb dX8_told_15 (z_nzl_u g4) ?_
    refine lv_goto (tgt := 23) hx hb dX8_told_16 (by decide) ?_
    exact zr_Rl hx hb hr hlocks (Option.some.inj hf) dX8_told_23

theorem hd_yX8_against : hdY yX8_against 4 := by decide +kernel
def M_against_L17 (kx9 : Int32 → Int64 → Int64 → Option (Int32)) (kx10 : Int32 → Int64 → Int64 → Option (Int32)) : Nat → Int64 → Int64 → Int64 → Int64 → Int32 → Option (Int32)
  | 0, _, _, _, _, _ => none
  | n7 + 1, x1, x2, x3, x4, x5 => z_gd (z_nzl x2) (z_let (x1 / x2) (fun x18 : Int64 => z_gd (z_nzl x4) (z_let (x3 / x4) (fun x20 : Int64 => if (lg_cmp x18 x20) = 0 then (z_gd (z_nzl x2) (z_let (z_reml x1 x2) (fun x23 : Int64 => z_gd (z_nzl x4) (z_let (z_reml x3 x4) (fun x25 : Int64 => if (lg_cmp x23 0) = 0 then (kx10 x5 x23 x25) else (if (lg_cmp x25 0) = 0 then (kx10 x5 x23 x25) else (z_let (-x5) (fun x28 : Int32 => M_against_L17 kx9 kx10 n7 x2 x23 x4 x25 x28)))))))) else (kx9 x5 x18 x20)))))
def M_against (F : Nat) (a1 : Int64) (a2 : Int64) (a3 : Int64) (a4 : Int64) : Option (Int32) := M_against_L17 (fun (x11 : Int32) (x12 : Int64) (x13 : Int64) => if 0 ≤ (lg_cmp x12 x13) then (some x11) else (some (-x11))) (fun (x14 : Int32) (x15 : Int64) (x16 : Int64) => if (lg_cmp x15 x16) = 0 then (some 0) else (if (lg_cmp x15 0) = 0 then (some (-x14)) else (some x14))) F a1 a2 a3 a4 1
set_option maxHeartbeats 4000000 in
set_option maxRecDepth 100000 in
theorem ctX8_against (l : Launch) (D : va_G) (ac cs : Nat → Nat) (a1 : Int64) (a2 : Int64) (a3 : Int64) (a4 : Int64) (F : Nat) (res : Int32) (hf : M_against F a1 a2 a3 a4 = some res) : Met l yX8_against (cWW yX8_against cX8_against 25 (some .int)) { frames := 0, cells := 0, slots := 0, locals := 0 } (zR D ac cs [.long a1, .long a2, .long a3, .long a4] ([])) (vp_Si (fun r => r = res)) 0 0 (fun _ => False) := by
  refine Met.ofW (cc := cX8_against) (maxL := 25) (ret := (some .int)) (by decide) rfl ?_
  intro p e s m args below meth c s₁ B hml hv
  obtain ⟨rfl, hP, hKX, hC⟩ := hv
  have hx := B.exec
  have hb := B.bytes
  have hr := B.returns
  have hts := atoms_spec (ws := cWW yX8_against cX8_against 25 (some .int)) B.pre
  have htw : ∀ w ∈ WW, w.before _ s = true := fun w h => hts w (List.mem_cons_of_mem _ h)
  have hown : s.vm.findClass RX8 = some m.cls := findClass_of_methodNamed B.named
  have hlocks := B.notSynchronized
  clear hts B
  have hS : va_S (fun _ => False) s.heap s.heap [] := va_S.rf
  have hl := lv_entry ([.long a1, .long a2, .long a3, .long a4]) (n := 25) (Nat.le_of_ble_eq_true rfl)
  rw [lg_entry_eq]
  generalize (lg_sl ([.long a1, .long a2, .long a3, .long a4]) ++ List.replicate (25 - (lg_sl ([.long a1, .long a2, .long a3, .long a4])).length) Slot.unset).toArray = ls at hl ⊢
  have hl : lv_has ls 25 [(0, .long a1), (2, .long a2), (4, .long a3), (6, .long a4)] := hl
  unfold M_against at hf
  show W p l e ({ frames := 0, cells := 0, slots := 0, locals := 0 } : Room) s m _ below meth c s.heap [] 0 0 _ (F0 m 0 ls [])
  refine lv_lload_n hx hb dX8_against_0 rfl (lv_at hl 0 rfl) ?_
  refine lv_lstore (lv' := [(8, .long a1), (0, .long a1), (2, .long a2), (4, .long a3), (6, .long a4)]) hx hb dX8_against_1 hl (Nat.le_of_ble_eq_true rfl) rfl (fun ls hl => ?_)
  refine lv_lload_n hx hb dX8_against_3 rfl (lv_at hl 2 rfl) ?_
  refine lv_lstore (lv' := [(10, .long a2), (8, .long a1), (0, .long a1), (2, .long a2), (4, .long a3), (6, .long a4)]) hx hb dX8_against_4 hl (Nat.le_of_ble_eq_true rfl) rfl (fun ls hl => ?_)
  refine lv_lload hx hb dX8_against_6 (lv_at hl 4 rfl) ?_
  refine lv_lstore (lv' := [(12, .long a3), (10, .long a2), (8, .long a1), (0, .long a1), (2, .long a2), (4, .long a3), (6, .long a4)]) hx hb dX8_against_8 hl (Nat.le_of_ble_eq_true rfl) rfl (fun ls hl => ?_)
  refine lv_lload hx hb dX8_against_10 (lv_at hl 6 rfl) ?_
  refine lv_lstore (lv' := [(14, .long a4), (12, .long a3), (10, .long a2), (8, .long a1), (0, .long a1), (2, .long a2), (4, .long a3), (6, .long a4)]) hx hb dX8_against_12 hl (Nat.le_of_ble_eq_true rfl) rfl (fun ls hl => ?_)
  refine lv_iconst (v := 1) hx hb dX8_against_14 rfl ?_
  refine lv_istore (lv' := [(16, .int 1), (14, .long a4), (12, .long a3), (10, .long a2), (8, .long a1), (0, .long a1), (2, .long a2), (4, .long a3), (6, .long a4)]) hx hb dX8_against_15 hl (Nat.le_of_ble_eq_true rfl) rfl (fun ls hl => ?_)
  have hL6 : ∀ (kx9 : Int32 → Int64 → Int64 → Option (Int32)) (kx10 : Int32 → Int64 → Int64 → Option (Int32)) (hkx9 : ∀ (x11 : Int32) (x12 : Int64) (x13 : Int64), kx9 x11 x12 x13 = some res → ∀ (ls : Array Slot), lv_has ls 25 [(16, .int x11), (17, .long x12), (19, .long x13)] → W p l e ({ frames := 0, cells := 0, slots := 0, locals := 0 } : Room) s m (([.long a1, .long a2, .long a3, .long a4] : List Value).toArray) below meth c s.heap [] 0 0 (MQ below (vp_Si (fun r => r = res)) ([.long a1, .long a2, .long a3, .long a4] : List Value).toArray s 0 0 (fun _ => False)) (F0 m 39 ls [])) (hkx10 : ∀ (x14 : Int32) (x15 : Int64) (x16 : Int64), kx10 x14 x15 x16 = some res → ∀ (ls : Array Slot), lv_has ls 25 [(16, .int x14), (21, .long x15), (23, .long x16)] → W p l e ({ frames := 0, cells := 0, slots := 0, locals := 0 } : Room) s m (([.long a1, .long a2, .long a3, .long a4] : List Value).toArray) below meth c s.heap [] 0 0 (MQ below (vp_Si (fun r => r = res)) ([.long a1, .long a2, .long a3, .long a4] : List Value).toArray s 0 0 (fun _ => False)) (F0 m 84 ls [])) (n7 : Nat) (x1 : Int64) (x2 : Int64) (x3 : Int64) (x4 : Int64) (x5 : Int32), M_against_L17 kx9 kx10 n7 x1 x2 x3 x4 x5 = some res → ∀ (ls : Array Slot), lv_has ls 25 [(8, .long x1), (10, .long x2), (12, .long x3), (14, .long x4), (16, .int x5)] → W p l e ({ frames := 0, cells := 0, slots := 0, locals := 0 } : Room) s m (([.long a1, .long a2, .long a3, .long a4] : List Value).toArray) below meth c s.heap [] 0 0 (MQ below (vp_Si (fun r => r = res)) ([.long a1, .long a2, .long a3, .long a4] : List Value).toArray s 0 0 (fun _ => False)) (F0 m 17 ls []) := by
    intro kx9 kx10 hkx9 hkx10 n7
    induction n7 with
    | zero => intro x1 x2 x3 x4 x5 hf; rw [M_against_L17] at hf; cases hf
    | succ n7 ih8 =>
      intro x1 x2 x3 x4 x5 hf ls hl
      rw [M_against_L17] at hf
      refine lv_lload hx hb dX8_against_17 (lv_at hl 0 rfl) ?_
      refine lv_lload hx hb dX8_against_19 (lv_at hl 1 rfl) ?_
      obtain ⟨g17, hf⟩ := z_gd_u hf
      refine lv_ldiv hx hb dX8_against_21 (z_nzl_u g17) ?_
      refine lv_topl (fun x18 hx18 => ?_)
      have hf := z_let_u hx18 hf
      refine lv_lstore (lv' := [(17, .long x18), (8, .long x1), (10, .long x2), (12, .long x3), (14, .long x4), (16, .int x5)]) hx hb dX8_against_22 hl (Nat.le_of_ble_eq_true rfl) rfl (fun ls hl => ?_)
      refine lv_lload hx hb dX8_against_24 (lv_at hl 3 rfl) ?_
      refine lv_lload hx hb dX8_against_26 (lv_at hl 4 rfl) ?_
      obtain ⟨g19, hf⟩ := z_gd_u hf
      refine lv_ldiv hx hb dX8_against_28 (z_nzl_u g19) ?_
      refine lv_topl (fun x20 hx20 => ?_)
      have hf := z_let_u hx20 hf
      refine lv_lstore (lv' := [(19, .long x20), (17, .long x18), (8, .long x1), (10, .long x2), (12, .long x3), (14, .long x4), (16, .int x5)]) hx hb dX8_against_29 hl (Nat.le_of_ble_eq_true rfl) rfl (fun ls hl => ?_)
      refine lv_lload hx hb dX8_against_31 (lv_at hl 1 rfl) ?_
      refine lv_lload hx hb dX8_against_33 (lv_at hl 0 rfl) ?_
      refine W.lcmp hx hb dX8_against_35 ?_
      refine lv_if_eq (tgt := 56) hx hb dX8_against_36 (by decide) (fun c21 => ?_) (fun c21 => ?_)
      · have hf := z_p c21 hf
        refine lv_lload hx hb dX8_against_56 (lv_at hl 2 rfl) ?_
        refine lv_lload hx hb dX8_against_58 (lv_at hl 3 rfl) ?_
        obtain ⟨g22, hf⟩ := z_gd_u hf
        refine zv_lrem hx hb dX8_against_60 (z_nzl_u g22) ?_
        refine lv_topl (fun x23 hx23 => ?_)
        have hf := z_let_u hx23 hf
        refine lv_lstore (lv' := [(21, .long x23), (19, .long x20), (17, .long x18), (8, .long x1), (10, .long x2), (12, .long x3), (14, .long x4), (16, .int x5)]) hx hb dX8_against_61 hl (Nat.le_of_ble_eq_true rfl) rfl (fun ls hl => ?_)
        refine lv_lload hx hb dX8_against_63 (lv_at hl 5 rfl) ?_
        refine lv_lload hx hb dX8_against_65 (lv_at hl 6 rfl) ?_
        obtain ⟨g24, hf⟩ := z_gd_u hf
        refine zv_lrem hx hb dX8_against_67 (z_nzl_u g24) ?_
        refine lv_topl (fun x25 hx25 => ?_)
        have hf := z_let_u hx25 hf
        refine lv_lstore (lv' := [(23, .long x25), (21, .long x23), (19, .long x20), (17, .long x18), (8, .long x1), (10, .long x2), (12, .long x3), (14, .long x4), (16, .int x5)]) hx hb dX8_against_68 hl (Nat.le_of_ble_eq_true rfl) rfl (fun ls hl => ?_)
        refine lv_lload hx hb dX8_against_70 (lv_at hl 1 rfl) ?_
        refine lv_lconst (v := 0) hx hb dX8_against_72 rfl ?_
        refine W.lcmp hx hb dX8_against_73 ?_
        refine lv_if_eq (tgt := 84) hx hb dX8_against_74 (by decide) (fun c26 => ?_) (fun c26 => ?_)
        · have hf := z_p c26 hf
          exact hkx10 x5 x23 x25 hf ls (lv_sub hl [8, 1, 0] rfl)
        · have hf := z_n c26 hf
          refine lv_lload hx hb dX8_against_77 (lv_at hl 0 rfl) ?_
          refine lv_lconst (v := 0) hx hb dX8_against_79 rfl ?_
          refine W.lcmp hx hb dX8_against_80 ?_
          refine lv_if_ne (tgt := 112) hx hb dX8_against_81 (by decide) (fun c27 => ?_) (fun c27 => ?_)
          · have hf := z_n c27 hf
            refine lv_lload hx hb dX8_against_112 (lv_at hl 5 rfl) ?_
            refine lv_lstore (lv' := [(8, .long x2), (23, .long x25), (21, .long x23), (19, .long x20), (17, .long x18), (10, .long x2), (12, .long x3), (14, .long x4), (16, .int x5)]) hx hb dX8_against_114 hl (Nat.le_of_ble_eq_true rfl) rfl (fun ls hl => ?_)
            refine lv_lload hx hb dX8_against_116 (lv_at hl 2 rfl) ?_
            refine lv_lstore (lv' := [(10, .long x23), (8, .long x2), (23, .long x25), (21, .long x23), (19, .long x20), (17, .long x18), (12, .long x3), (14, .long x4), (16, .int x5)]) hx hb dX8_against_118 hl (Nat.le_of_ble_eq_true rfl) rfl (fun ls hl => ?_)
            refine lv_lload hx hb dX8_against_120 (lv_at hl 7 rfl) ?_
            refine lv_lstore (lv' := [(12, .long x4), (10, .long x23), (8, .long x2), (23, .long x25), (21, .long x23), (19, .long x20), (17, .long x18), (14, .long x4), (16, .int x5)]) hx hb dX8_against_122 hl (Nat.le_of_ble_eq_true rfl) rfl (fun ls hl => ?_)
            refine lv_lload hx hb dX8_against_124 (lv_at hl 3 rfl) ?_
            refine lv_lstore (lv' := [(14, .long x25), (12, .long x4), (10, .long x23), (8, .long x2), (23, .long x25), (21, .long x23), (19, .long x20), (17, .long x18), (16, .int x5)]) hx hb dX8_against_126 hl (Nat.le_of_ble_eq_true rfl) rfl (fun ls hl => ?_)
            refine lv_iload hx hb dX8_against_128 (lv_at hl 8 rfl) ?_
            refine lv_ineg hx hb dX8_against_130 ?_
            refine lv_topi (fun x28 hx28 => ?_)
            have hf := z_let_u hx28 hf
            refine lv_istore (lv' := [(16, .int x28), (14, .long x25), (12, .long x4), (10, .long x23), (8, .long x2), (23, .long x25), (21, .long x23), (19, .long x20), (17, .long x18)]) hx hb dX8_against_131 hl (Nat.le_of_ble_eq_true rfl) rfl (fun ls hl => ?_)
            refine lv_goto (tgt := 17) hx hb dX8_against_133 (by decide) ?_
            exact ih8 x2 x23 x4 x25 x28 hf ls (lv_sub hl [4, 3, 2, 1, 0] rfl)
          · have hf := z_p c27 hf
            exact hkx10 x5 x23 x25 hf ls (lv_sub hl [8, 1, 0] rfl)
      · have hf := z_n c21 hf
        exact hkx9 x5 x18 x20 hf ls (lv_sub hl [6, 1, 0] rfl)
  refine hL6 _ _ ?_ ?_ F a1 a2 a3 a4 1 hf ls (lv_sub hl [4, 3, 2, 1, 0] rfl)
  · intro x11 x12 x13 hf ls hl
    refine lv_lload hx hb dX8_against_39 (lv_at hl 1 rfl) ?_
    refine lv_lload hx hb dX8_against_41 (lv_at hl 2 rfl) ?_
    refine W.lcmp hx hb dX8_against_43 ?_
    refine lv_if_ge (tgt := 53) hx hb dX8_against_44 (by decide) (fun c29 => ?_) (fun c29 => ?_)
    · have hf := z_p c29 hf
      refine lv_iload hx hb dX8_against_53 (lv_at hl 0 rfl) ?_
      exact zr_Ri hx hb hr hlocks (Option.some.inj hf) dX8_against_55
    · have hf := z_n c29 hf
      refine lv_iload hx hb dX8_against_47 (lv_at hl 0 rfl) ?_
      refine lv_ineg hx hb dX8_against_49 ?_
      refine lv_goto (tgt := 55) hx hb dX8_against_50 (by decide) ?_
      exact zr_Ri hx hb hr hlocks (Option.some.inj hf) dX8_against_55
  · intro x14 x15 x16 hf ls hl
    refine lv_lload hx hb dX8_against_84 (lv_at hl 1 rfl) ?_
    refine lv_lload hx hb dX8_against_86 (lv_at hl 2 rfl) ?_
    refine W.lcmp hx hb dX8_against_88 ?_
    refine lv_if_ne (tgt := 96) hx hb dX8_against_89 (by decide) (fun c30 => ?_) (fun c30 => ?_)
    · have hf := z_n c30 hf
      refine lv_lload hx hb dX8_against_96 (lv_at hl 1 rfl) ?_
      refine lv_lconst (v := 0) hx hb dX8_against_98 rfl ?_
      refine W.lcmp hx hb dX8_against_99 ?_
      refine lv_if_ne (tgt := 109) hx hb dX8_against_100 (by decide) (fun c31 => ?_) (fun c31 => ?_)
      · have hf := z_n c31 hf
        refine lv_iload hx hb dX8_against_109 (lv_at hl 0 rfl) ?_
        exact zr_Ri hx hb hr hlocks (Option.some.inj hf) dX8_against_111
      · have hf := z_p c31 hf
        refine lv_iload hx hb dX8_against_103 (lv_at hl 0 rfl) ?_
        refine lv_ineg hx hb dX8_against_105 ?_
        refine lv_goto (tgt := 111) hx hb dX8_against_106 (by decide) ?_
        exact zr_Ri hx hb hr hlocks (Option.some.inj hf) dX8_against_111
    · have hf := z_p c30 hf
      refine lv_iconst (v := 0) hx hb dX8_against_92 rfl ?_
      refine lv_goto (tgt := 111) hx hb dX8_against_93 (by decide) ?_
      exact zr_Ri hx hb hr hlocks (Option.some.inj hf) dX8_against_111

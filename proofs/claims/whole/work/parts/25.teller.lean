theorem hd_yX6_firstBut : hdY yX6_firstBut 1 := by decide +kernel
def Tx_firstBut_L2 (F : Nat) (tx : Tx) (i0 : Nat) : Nat → Int32 → Option (Int32)
  | 0, _ => none
  | n3 + 1, x1 => if (tx_length tx) ≤ x1 then (some (-1)) else (z_bd (Str_indexOf_0f7a4 F i0 (Tx_at tx x1)) (fun r6 : Int32 => if 0 ≤ r6 then (z_let (x1 + 1) (fun x8 : Int32 => Tx_firstBut_L2 F tx i0 n3 x8)) else (some x1)))
def Tx_firstBut (F : Nat) (tx : Tx) (i0 : Nat) : Option (Int32) := Tx_firstBut_L2 F tx i0 F 0
set_option maxHeartbeats 4000000 in
set_option maxRecDepth 100000 in
theorem ctX6_firstBut (l : Launch) (D : va_G) (ac cs : Nat → Nat) (q : Nat → Nat) (tx : Tx) (i0 : Nat) (hi0 : i0 < 10) (F : Nat) (res : Int32) (hf : Tx_firstBut F tx i0 = some res) : Met l yX6_firstBut (cWW yX6_firstBut cX6_firstBut 3 (some .int)) { frames := 4, cells := 0, slots := 0, locals := 91 } (zR D ac cs [.ref (q 0), .ref (cs (10 + i0))] (txW ac q tx)) (vp_Si (fun r => r = res)) 0 0 (fun _ => False) := by
  refine Met.ofW (cc := cX6_firstBut) (maxL := 3) (ret := (some .int)) (by decide) rfl ?_
  intro p e s m args below meth c s₁ B hml hv
  obtain ⟨rfl, hP, hKX, hC⟩ := hv
  have hx := B.exec
  have hb := B.bytes
  have hr := B.returns
  have hts := atoms_spec (ws := cWW yX6_firstBut cX6_firstBut 3 (some .int)) B.pre
  have htw : ∀ w ∈ WW, w.before _ s = true := fun w h => hts w (List.mem_cons_of_mem _ h)
  have hown : s.vm.findClass RX6 = some m.cls := findClass_of_methodNamed B.named
  have hlocks := B.notSynchronized
  clear hts B
  have hS : va_S (fun _ => False) s.heap s.heap [] := va_S.rf
  have hl := lv_entry ([.ref (q 0), .ref (cs (10 + i0))]) (n := 3) (Nat.le_of_ble_eq_true rfl)
  rw [lg_entry_eq]
  generalize (lg_sl ([.ref (q 0), .ref (cs (10 + i0))]) ++ List.replicate (3 - (lg_sl ([.ref (q 0), .ref (cs (10 + i0))])).length) Slot.unset).toArray = ls at hl ⊢
  have hl : lv_has ls 3 [(0, .ref (q 0)), (1, .ref (cs (10 + i0)))] := hl
  unfold Tx_firstBut at hf
  show W p l e ({ frames := 4, cells := 0, slots := 0, locals := 91 } : Room) s m _ below meth c s.heap [] 0 0 _ (F0 m 0 ls [])
  refine lv_iconst (v := 0) hx hb dX6_firstBut_0 rfl ?_
  refine lv_istore_n (lv' := [(2, .int 0), (0, .ref (q 0)), (1, .ref (cs (10 + i0)))]) hx hb dX6_firstBut_1 rfl hl (Nat.le_of_ble_eq_true rfl) rfl (fun ls hl => ?_)
  have hL2 : ∀ (n3 : Nat) (x1 : Int32), Tx_firstBut_L2 F tx i0 n3 x1 = some res → ∀ (ls : Array Slot), lv_has ls 3 [(0, .ref (q 0)), (1, .ref (cs (10 + i0))), (2, .int x1)] → W p l e ({ frames := 4, cells := 0, slots := 0, locals := 91 } : Room) s m (([.ref (q 0), .ref (cs (10 + i0))] : List Value).toArray) below meth c s.heap [] 0 0 (MQ below (vp_Si (fun r => r = res)) ([.ref (q 0), .ref (cs (10 + i0))] : List Value).toArray s 0 0 (fun _ => False)) (F0 m 2 ls []) := by
    intro n3
    induction n3 with
    | zero => intro x1 hf; rw [Tx_firstBut_L2] at hf; cases hf
    | succ n3 ih4 =>
      intro x1 hf ls hl
      rw [Tx_firstBut_L2] at hf
      refine lv_iload_n hx hb dX6_firstBut_2 rfl (lv_at hl 2 rfl) ?_
      refine lv_aload_n hx hb dX6_firstBut_3 rfl (lv_at hl 0 rfl) ?_
      refine va_get (D := D) (ci := 6) (v := .int (tx_length tx)) (C := RX6) (T := TX6) (N := 2) hx hb htw WW_wsX60 hown hKX.1 hP 0 rfl rfl 1 (Nat.le_of_ble_eq_true rfl) (htw _ mF_RX6_15) (fun _ h9 => h9) rfl dX6_firstBut_4 ?_
      refine lv_icmp_ge (tgt := 30) hx hb dX6_firstBut_7 (by decide) (fun c5 => ?_) (fun c5 => ?_)
      · have hf := z_p c5 hf
        refine lv_iconst (v := (-1)) hx hb dX6_firstBut_30 rfl ?_
        exact zr_Ri hx hb hr hlocks (Option.some.inj hf) dX6_firstBut_31
      · have hf := z_n c5 hf
        refine lv_aload_n hx hb dX6_firstBut_10 rfl (lv_at hl 1 rfl) ?_
        refine lv_aload_n hx hb dX6_firstBut_11 rfl (lv_at hl 0 rfl) ?_
        refine lv_iload_n hx hb dX6_firstBut_12 rfl (lv_at hl 2 rfl) ?_
        refine zc_RVi (As := [.int x1]) (rest := [.ref (cs (10 + i0))]) hx hb hml hown htw (ctX6_at l D ac cs q tx x1   _ rfl) (g_V mM_RX6_19 mI_yX6_at mS_RX6_yX6_at_yX6_at mN_RX6 mC_yX6_at) rfl (hd_yX6_at) ⟨rfl, rfl⟩ ⟨(Nat.le_of_ble_eq_true rfl), (Nat.le_of_ble_eq_true rfl)⟩ hKX hC hS hP 6 rfl rfl rfl hl.1 rfl (Nat.le_of_ble_eq_true rfl) ⟨Nat.zero_le _, Nat.zero_le _⟩ dX6_firstBut_13 ?_
        obtain ⟨r6, hr6, hf⟩ := z_bd_u hf
        refine zc_RViS (As := [.int (Tx_at tx x1)]) (rest := []) hx hb hml hown htw (ctJ0_indexOf_0f7a4 l D ac cs   i0 (Tx_at tx x1)  hi0 F _ hr6) (g_V mM_RX6_23 mI_yJ0_indexOf_0f7a4 mS_RJ0_yJ0_indexOf_0f7a4_yJ0_indexOf_0f7a4 mN_RJ0 mC_yJ0_indexOf_0f7a4) rfl (hd_yJ0_indexOf_0f7a4) ⟨rfl, rfl⟩ ⟨(Nat.le_of_ble_eq_true rfl), (Nat.le_of_ble_eq_true rfl)⟩ hKX hC hS zP0 (zrecS (i := i0) hC hi0 hS) rfl hl.1 rfl (Nat.le_of_ble_eq_true rfl) ⟨Nat.zero_le _, Nat.zero_le _⟩ dX6_firstBut_16 ?_
        refine lv_if_ge (tgt := 24) hx hb dX6_firstBut_19 (by decide) (fun c7 => ?_) (fun c7 => ?_)
        · have hf := z_p c7 hf
          obtain ⟨x8, hx8⟩ : ∃ y : Int32, y = (x1 + 1) := ⟨_, rfl⟩
          have hf := z_let_u hx8 hf
          refine lv_iinc (v := x8) (lv' := [(2, .int x8), (0, .ref (q 0)), (1, .ref (cs (10 + i0)))]) hx hb dX6_firstBut_24 hl (k := 2) rfl (by rw [hx8]; rfl) (Nat.le_of_ble_eq_true rfl) rfl (fun ls hl => ?_)
          refine lv_goto (tgt := 2) hx hb dX6_firstBut_27 (by decide) ?_
          exact ih4 x8 hf ls (lv_sub hl [1, 2, 0] rfl)
        · have hf := z_n c7 hf
          refine lv_iload_n hx hb dX6_firstBut_22 rfl (lv_at hl 2 rfl) ?_
          exact zr_Ri hx hb hr hlocks (Option.some.inj hf) dX6_firstBut_23
  refine hL2  F 0 hf ls (lv_sub hl [1, 2, 0] rfl)

theorem hd_yX5_isLetter : hdY yX5_isLetter 1 := by decide +kernel
def Te_isLetter (a1 : Int32) : Int32 := if a1 < 97 then 0 else (if 122 < a1 then 0 else 1)
set_option maxHeartbeats 4000000 in
set_option maxRecDepth 100000 in
theorem ctX5_isLetter (l : Launch) (D : va_G) (ac cs : Nat → Nat) (a1 : Int32) (res : Int32) (hf : Te_isLetter a1 = res) : Met l yX5_isLetter (cWW yX5_isLetter cX5_isLetter 1 (some .boolean)) { frames := 0, cells := 0, slots := 0, locals := 0 } (zR D ac cs [.int a1] ([])) (vp_Si (fun r => r = res)) 0 0 (fun _ => False) := by
  refine Met.ofW (cc := cX5_isLetter) (maxL := 1) (ret := (some .boolean)) (by decide) rfl ?_
  intro p e s m args below meth c s₁ B hml hv
  obtain ⟨rfl, hP, hKX, hC⟩ := hv
  have hx := B.exec
  have hb := B.bytes
  have hr := B.returns
  have hts := atoms_spec (ws := cWW yX5_isLetter cX5_isLetter 1 (some .boolean)) B.pre
  have htw : ∀ w ∈ WW, w.before _ s = true := fun w h => hts w (List.mem_cons_of_mem _ h)
  have hown : s.vm.findClass RX5 = some m.cls := findClass_of_methodNamed B.named
  have hlocks := B.notSynchronized
  clear hts B
  have hS : va_S (fun _ => False) s.heap s.heap [] := va_S.rf
  have hl := lv_entry ([.int a1]) (n := 1) (Nat.le_of_ble_eq_true rfl)
  rw [lg_entry_eq]
  generalize (lg_sl ([.int a1]) ++ List.replicate (1 - (lg_sl ([.int a1])).length) Slot.unset).toArray = ls at hl ⊢
  have hl : lv_has ls 1 [(0, .int a1)] := hl
  unfold Te_isLetter at hf
  show W p l e ({ frames := 0, cells := 0, slots := 0, locals := 0 } : Room) s m _ below meth c s.heap [] 0 0 _ (F0 m 0 ls [])
  refine lv_iload_n hx hb dX5_isLetter_0 rfl (lv_at hl 0 rfl) ?_
  refine lv_bipush (v := 97) hx hb dX5_isLetter_1 rfl ?_
  refine lv_icmp_lt (tgt := 16) hx hb dX5_isLetter_3 (by decide) (fun c1 => ?_) (fun c1 => ?_)
  · have hf := z_p c1 hf
    refine lv_iconst (v := 0) hx hb dX5_isLetter_16 rfl ?_
    exact zr_Rz hx hb hr hlocks (z_b_n z_b0) hf dX5_isLetter_17
  · have hf := z_n c1 hf
    refine lv_iload_n hx hb dX5_isLetter_6 rfl (lv_at hl 0 rfl) ?_
    refine lv_bipush (v := 122) hx hb dX5_isLetter_7 rfl ?_
    refine lv_icmp_gt (tgt := 16) hx hb dX5_isLetter_9 (by decide) (fun c2 => ?_) (fun c2 => ?_)
    · have hf := z_p c2 hf
      refine lv_iconst (v := 0) hx hb dX5_isLetter_16 rfl ?_
      exact zr_Rz hx hb hr hlocks (z_b_n z_b0) hf dX5_isLetter_17
    · have hf := z_n c2 hf
      refine lv_iconst (v := 1) hx hb dX5_isLetter_12 rfl ?_
      refine lv_goto (tgt := 17) hx hb dX5_isLetter_13 (by decide) ?_
      exact zr_Rz hx hb hr hlocks (z_b_n z_b1) hf dX5_isLetter_17
theorem b_Te_isLetter (a1 : Int32) : z_b (Te_isLetter a1) = true := by
  unfold Te_isLetter
  (repeat' (first | split | (unfold z_let; dsimp only) | (unfold z_jn; dsimp only))) <;> first | decide +kernel

theorem hd_yX5_advance : hdY yX5_advance 0 := by decide +kernel
def Te_advance_L8 (tx : Tx) (kx6 : Te → Option (Te)) : Nat → Te → Option (Te)
  | 0, _ => none
  | n4 + 1, te2 => if (tx_length tx) ≤ (te_start te2) then (kx6 te2) else (if Tx_at tx (te_start te2) = 32 then (z_let ((te_start te2) + 1) (fun x10 : Int32 => Te_advance_L8 tx kx6 n4 ((te_counts te2), x10, (te_stop te2), (te_told te2)))) else (kx6 te2))
def Te_advance_L59 (tx : Tx) (kx16 : Te → Option (Te)) : Nat → Te → Option (Te)
  | 0, _ => none
  | n14 + 1, te12 => if (tx_length tx) ≤ (te_stop te12) then (kx16 te12) else (if Te_isLetter (Tx_at tx (te_stop te12)) = 0 then (kx16 te12) else (z_let ((te_stop te12) + 1) (fun x20 : Int32 => Te_advance_L59 tx kx16 n14 ((te_counts te12), (te_start te12), x20, (te_told te12)))))
def Te_advance (F : Nat) (te : Te) (tx : Tx) : Option (Te) := z_let (te_stop te) (fun x1 : Int32 => Te_advance_L8 tx (fun (te7 : Te) => z_let (te_start te7) (fun x11 : Int32 => Te_advance_L59 tx (fun (te17 : Te) => if (te_stop te17) = (te_start te17) then (if (tx_length tx) ≤ (te_stop te17) then (some te17) else (z_let ((te_stop te17) + 1) (fun x23 : Int32 => some ((te_counts te17), (te_start te17), x23, (te_told te17))))) else (some te17)) F ((te_counts te7), (te_start te7), x11, (te_told te7)))) F ((te_counts te), x1, (te_stop te), (te_told te)))
set_option maxHeartbeats 4000000 in
set_option maxRecDepth 100000 in
theorem ctX5_advance (l : Launch) (D : va_G) (ac cs : Nat → Nat) (q : Nat → Nat) (qt : Nat → Nat) (qs : Nat → Nat) (sz : Nat) (te : Te) (tx : Tx) (sh : Sh) (F : Nat) (res : Te) (hf : Te_advance F te tx = some res) : Met l yX5_advance (cWW yX5_advance cX5_advance 1 none) { frames := 1, cells := 0, slots := 0, locals := 21 } (zM D ac cs [.ref (q 0)] (teW ac q qt qs te ++ (txW ac qt tx ++ (shW ac qs sh))) sz) (va_Qv (fun _ : Unit => True) (fun _ => zB D (va_A (teW ac q qt qs te ++ (txW ac qt tx ++ (shW ac qs sh))) sz) (teW ac q qt qs res ++ (txW ac qt tx ++ (shW ac qs sh)))) (va_A (teW ac q qt qs te ++ (txW ac qt tx ++ (shW ac qs sh))) sz)) 0 0 (va_A (teW ac q qt qs te ++ (txW ac qt tx ++ (shW ac qs sh))) sz) := by
  refine Met.ofW (cc := cX5_advance) (maxL := 1) (ret := none) (by decide) rfl ?_
  intro p e s m args below meth c s₁ B hml hv
  obtain ⟨rfl, hsz, hP, hKX, hD0, hC⟩ := hv
  have hx := B.exec
  have hb := B.bytes
  have hr := B.returns
  have hts := atoms_spec (ws := cWW yX5_advance cX5_advance 1 none) B.pre
  have htw : ∀ w ∈ WW, w.before _ s = true := fun w h => hts w (List.mem_cons_of_mem _ h)
  have hown : s.vm.findClass RX5 = some m.cls := findClass_of_methodNamed B.named
  have hlocks := B.notSynchronized
  clear hts B
  subst hsz
  have hD := hD0.self (sz := s.heap.size)
  generalize hAe : va_A (teW ac q qt qs te ++ (txW ac qt tx ++ (shW ac qs sh))) s.heap.size = A at hD hC ⊢
  have hA : ∀ q : Nat, s.heap.size ≤ q → A q := fun q h => by rw [← hAe]; exact Or.inr h
  have hS : va_S A s.heap s.heap [] := va_S.rf
  clear hD0 hAe
  have hP : va_P D vwCl (teW ac q qt qs te ++ (txW ac qt tx ++ (shW ac qs sh))) s.heap := hP
  have hl := lv_entry ([.ref (q 0)]) (n := 1) (Nat.le_of_ble_eq_true rfl)
  rw [lg_entry_eq]
  generalize (lg_sl ([.ref (q 0)]) ++ List.replicate (1 - (lg_sl ([.ref (q 0)])).length) Slot.unset).toArray = ls at hl ⊢
  have hl : lv_has ls 1 [(0, .ref (q 0))] := hl
  unfold Te_advance at hf
  show W p l e ({ frames := 1, cells := 0, slots := 0, locals := 21 } : Room) s m _ below meth c s.heap [] 0 0 _ (F0 m 0 ls [])
  refine lv_aload_n hx hb dX5_advance_0 rfl (lv_at hl 0 rfl) ?_
  refine lv_aload_n hx hb dX5_advance_1 rfl (lv_at hl 0 rfl) ?_
  refine va_get (D := D) (ci := 5) (v := .int (te_stop te)) (C := RX5) (T := TX5) (N := 6) hx hb htw WW_wsX50 hown hKX.1 hP 0 rfl rfl 4 (Nat.le_of_ble_eq_true rfl) (htw _ mF_RX5_36) (fun _ h9 => h9) rfl dX5_advance_2 ?_
  refine lv_topi (fun x1 hx1 => ?_)
  have hf := z_let_u hx1 hf
  refine va_put (D := D) (ci := 5) (v := .int x1) (ty := tyX5 3) (C := RX5) (T := TX5) (N := 6) hx hb htw WW_wsX50 tyX5 tyX5_ok nmX5 hown hKX.1 hP hD hS 0 rfl rfl 3 (Nat.le_of_ble_eq_true rfl) (htw _ mF_RX5_46) (fun _ h9 => h9) rfl (tyX5_ok 3 (Nat.le_of_ble_eq_true rfl)) rfl rfl (Nat.le_of_ble_eq_true rfl) dX5_advance_5 (fun H locs hP hD hS => ?_)
  have hP : va_P D vwCl (teW ac q qt qs ((te_counts te), x1, (te_stop te), (te_told te)) ++ (txW ac qt tx ++ (shW ac qs sh))) H := hP
  have hD : va_D A (teW ac q qt qs ((te_counts te), x1, (te_stop te), (te_told te)) ++ (txW ac qt tx ++ (shW ac qs sh))) := hD
  have hL3 : ∀ (kx6 : Te → Option (Te)) (hkx6 : ∀ (te7 : Te), kx6 te7 = some res → ∀ (H : Heap) (locs : List Loc) (ls : Array Slot), va_P D vwCl (teW ac q qt qs te7 ++ (txW ac qt tx ++ (shW ac qs sh))) H → va_D A (teW ac q qt qs te7 ++ (txW ac qt tx ++ (shW ac qs sh))) → va_S A s.heap H locs → lv_has ls 1 [(0, .ref (q 0))] → W p l e ({ frames := 1, cells := 0, slots := 0, locals := 21 } : Room) s m (([.ref (q 0)] : List Value).toArray) below meth c H locs 0 0 (MQ below (va_Qv (fun _ : Unit => True) (fun _ => zB D A (teW ac q qt qs res ++ (txW ac qt tx ++ (shW ac qs sh)))) A) ([.ref (q 0)] : List Value).toArray s 0 0 A) (F0 m 51 ls [])) (n4 : Nat) (te2 : Te), Te_advance_L8 tx kx6 n4 te2 = some res → ∀ (H : Heap) (locs : List Loc) (ls : Array Slot), va_P D vwCl (teW ac q qt qs te2 ++ (txW ac qt tx ++ (shW ac qs sh))) H → va_D A (teW ac q qt qs te2 ++ (txW ac qt tx ++ (shW ac qs sh))) → va_S A s.heap H locs → lv_has ls 1 [(0, .ref (q 0))] → W p l e ({ frames := 1, cells := 0, slots := 0, locals := 21 } : Room) s m (([.ref (q 0)] : List Value).toArray) below meth c H locs 0 0 (MQ below (va_Qv (fun _ : Unit => True) (fun _ => zB D A (teW ac q qt qs res ++ (txW ac qt tx ++ (shW ac qs sh)))) A) ([.ref (q 0)] : List Value).toArray s 0 0 A) (F0 m 8 ls []) := by
    intro kx6 hkx6 n4
    induction n4 with
    | zero => intro te2 hf; rw [Te_advance_L8] at hf; cases hf
    | succ n4 ih5 =>
      intro te2 hf H locs ls hP hD hS hl
      rw [Te_advance_L8] at hf
      refine lv_aload_n hx hb dX5_advance_8 rfl (lv_at hl 0 rfl) ?_
      refine va_get (D := D) (ci := 5) (v := .int (te_start te2)) (C := RX5) (T := TX5) (N := 6) hx hb htw WW_wsX50 hown hKX.1 hP 0 rfl rfl 3 (Nat.le_of_ble_eq_true rfl) (htw _ mF_RX5_46) (fun _ h9 => h9) rfl dX5_advance_9 ?_
      refine lv_aload_n hx hb dX5_advance_12 rfl (lv_at hl 0 rfl) ?_
      refine va_get (D := D) (ci := 5) (v := .ref (qt 0)) (C := RX5) (T := TX5) (N := 6) hx hb htw WW_wsX50 hown hKX.1 hP 0 rfl rfl 0 (Nat.le_of_ble_eq_true rfl) (htw _ mF_RX5_12) (fun _ h9 => h9) rfl dX5_advance_13 ?_
      refine va_getN (D := D) (ci := 6) (v := .int (tx_length tx)) (C := RX6) (T := TX6) (N := 2) hx hb htw WW_wsX60 hown hKX.1 hP 2 rfl rfl 1 (Nat.le_of_ble_eq_true rfl) (va_Nw.use rfl (hKX.2 _ (List.mem_of_getElem? (i := 1) rfl))) (fun _ h9 => h9) rfl dX5_advance_16 ?_
      refine lv_icmp_ge (tgt := 51) hx hb dX5_advance_19 (by decide) (fun c8 => ?_) (fun c8 => ?_)
      · have hf := z_p c8 hf
        exact hkx6 te2 hf _ _ ls  hP hD hS (lv_sub hl [0] rfl)
      · have hf := z_n c8 hf
        refine lv_aload_n hx hb dX5_advance_22 rfl (lv_at hl 0 rfl) ?_
        refine va_get (D := D) (ci := 5) (v := .ref (qt 0)) (C := RX5) (T := TX5) (N := 6) hx hb htw WW_wsX50 hown hKX.1 hP 0 rfl rfl 0 (Nat.le_of_ble_eq_true rfl) (htw _ mF_RX5_12) (fun _ h9 => h9) rfl dX5_advance_23 ?_
        refine lv_aload_n hx hb dX5_advance_26 rfl (lv_at hl 0 rfl) ?_
        refine va_get (D := D) (ci := 5) (v := .int (te_start te2)) (C := RX5) (T := TX5) (N := 6) hx hb htw WW_wsX50 hown hKX.1 hP 0 rfl rfl 3 (Nat.le_of_ble_eq_true rfl) (htw _ mF_RX5_46) (fun _ h9 => h9) rfl dX5_advance_27 ?_
        refine zc_RVi (As := [.int (te_start te2)]) (rest := []) hx hb hml hown htw (ctX6_at l D ac cs qt tx (te_start te2)   _ rfl) (g_V mM_RX5_61 mI_yX6_at mS_RX6_yX6_at_yX6_at mN_RX6 mC_yX6_at) rfl (hd_yX6_at) ⟨rfl, rfl⟩ ⟨(Nat.le_of_ble_eq_true rfl), (Nat.le_of_ble_eq_true rfl)⟩ hKX hC hS (hP.sub [2, 3] rfl) 6 rfl rfl rfl hl.1 rfl (Nat.le_of_ble_eq_true rfl) ⟨Nat.zero_le _, Nat.zero_le _⟩ dX5_advance_30 ?_
        refine lv_bipush (v := 32) hx hb dX5_advance_33 rfl ?_
        refine lv_icmp_ne (tgt := 51) hx hb dX5_advance_35 (by decide) (fun c9 => ?_) (fun c9 => ?_)
        · have hf := z_n c9 hf
          exact hkx6 te2 hf _ _ ls  hP hD hS (lv_sub hl [0] rfl)
        · have hf := z_p c9 hf
          refine lv_aload_n hx hb dX5_advance_38 rfl (lv_at hl 0 rfl) ?_
          refine lv_dup hx hb dX5_advance_39 rfl ?_
          refine va_get (D := D) (ci := 5) (v := .int (te_start te2)) (C := RX5) (T := TX5) (N := 6) hx hb htw WW_wsX50 hown hKX.1 hP 0 rfl rfl 3 (Nat.le_of_ble_eq_true rfl) (htw _ mF_RX5_46) (fun _ h9 => h9) rfl dX5_advance_40 ?_
          refine lv_iconst (v := 1) hx hb dX5_advance_43 rfl ?_
          refine lv_iadd hx hb dX5_advance_44 ?_
          refine lv_topi (fun x10 hx10 => ?_)
          have hf := z_let_u hx10 hf
          refine va_put (D := D) (ci := 5) (v := .int x10) (ty := tyX5 3) (C := RX5) (T := TX5) (N := 6) hx hb htw WW_wsX50 tyX5 tyX5_ok nmX5 hown hKX.1 hP hD hS 0 rfl rfl 3 (Nat.le_of_ble_eq_true rfl) (htw _ mF_RX5_46) (fun _ h9 => h9) rfl (tyX5_ok 3 (Nat.le_of_ble_eq_true rfl)) rfl rfl (Nat.le_of_ble_eq_true rfl) dX5_advance_45 (fun H locs hP hD hS => ?_)
          have hP : va_P D vwCl (teW ac q qt qs ((te_counts te2), x10, (te_stop te2), (te_told te2)) ++ (txW ac qt tx ++ (shW ac qs sh))) H := hP
          have hD : va_D A (teW ac q qt qs ((te_counts te2), x10, (te_stop te2), (te_told te2)) ++ (txW ac qt tx ++ (shW ac qs sh))) := hD
          refine lv_goto (tgt := 8) hx hb dX5_advance_48 (by decide) ?_
          exact ih5 ((te_counts te2), x10, (te_stop te2), (te_told te2)) hf _ _ ls  hP hD hS (lv_sub hl [0] rfl)
  refine hL3 _ ?_ F ((te_counts te), x1, (te_stop te), (te_told te)) hf _ _ ls  hP hD hS (lv_sub hl [0] rfl)
  intro te7 hf H locs ls hP hD hS hl
  refine lv_aload_n hx hb dX5_advance_51 rfl (lv_at hl 0 rfl) ?_
  refine lv_aload_n hx hb dX5_advance_52 rfl (lv_at hl 0 rfl) ?_
  refine va_get (D := D) (ci := 5) (v := .int (te_start te7)) (C := RX5) (T := TX5) (N := 6) hx hb htw WW_wsX50 hown hKX.1 hP 0 rfl rfl 3 (Nat.le_of_ble_eq_true rfl) (htw _ mF_RX5_46) (fun _ h9 => h9) rfl dX5_advance_53 ?_
  refine lv_topi (fun x11 hx11 => ?_)
  have hf := z_let_u hx11 hf
  refine va_put (D := D) (ci := 5) (v := .int x11) (ty := tyX5 4) (C := RX5) (T := TX5) (N := 6) hx hb htw WW_wsX50 tyX5 tyX5_ok nmX5 hown hKX.1 hP hD hS 0 rfl rfl 4 (Nat.le_of_ble_eq_true rfl) (htw _ mF_RX5_36) (fun _ h9 => h9) rfl (tyX5_ok 4 (Nat.le_of_ble_eq_true rfl)) rfl rfl (Nat.le_of_ble_eq_true rfl) dX5_advance_56 (fun H locs hP hD hS => ?_)
  have hP : va_P D vwCl (teW ac q qt qs ((te_counts te7), (te_start te7), x11, (te_told te7)) ++ (txW ac qt tx ++ (shW ac qs sh))) H := hP
  have hD : va_D A (teW ac q qt qs ((te_counts te7), (te_start te7), x11, (te_told te7)) ++ (txW ac qt tx ++ (shW ac qs sh))) := hD
  have hL13 : ∀ (kx16 : Te → Option (Te)) (hkx16 : ∀ (te17 : Te), kx16 te17 = some res → ∀ (H : Heap) (locs : List Loc) (ls : Array Slot), va_P D vwCl (teW ac q qt qs te17 ++ (txW ac qt tx ++ (shW ac qs sh))) H → va_D A (teW ac q qt qs te17 ++ (txW ac qt tx ++ (shW ac qs sh))) → va_S A s.heap H locs → lv_has ls 1 [(0, .ref (q 0))] → W p l e ({ frames := 1, cells := 0, slots := 0, locals := 21 } : Room) s m (([.ref (q 0)] : List Value).toArray) below meth c H locs 0 0 (MQ below (va_Qv (fun _ : Unit => True) (fun _ => zB D A (teW ac q qt qs res ++ (txW ac qt tx ++ (shW ac qs sh)))) A) ([.ref (q 0)] : List Value).toArray s 0 0 A) (F0 m 103 ls [])) (n14 : Nat) (te12 : Te), Te_advance_L59 tx kx16 n14 te12 = some res → ∀ (H : Heap) (locs : List Loc) (ls : Array Slot), va_P D vwCl (teW ac q qt qs te12 ++ (txW ac qt tx ++ (shW ac qs sh))) H → va_D A (teW ac q qt qs te12 ++ (txW ac qt tx ++ (shW ac qs sh))) → va_S A s.heap H locs → lv_has ls 1 [(0, .ref (q 0))] → W p l e ({ frames := 1, cells := 0, slots := 0, locals := 21 } : Room) s m (([.ref (q 0)] : List Value).toArray) below meth c H locs 0 0 (MQ below (va_Qv (fun _ : Unit => True) (fun _ => zB D A (teW ac q qt qs res ++ (txW ac qt tx ++ (shW ac qs sh)))) A) ([.ref (q 0)] : List Value).toArray s 0 0 A) (F0 m 59 ls []) := by
    intro kx16 hkx16 n14
    induction n14 with
    | zero => intro te12 hf; rw [Te_advance_L59] at hf; cases hf
    | succ n14 ih15 =>
      intro te12 hf H locs ls hP hD hS hl
      rw [Te_advance_L59] at hf
      refine lv_aload_n hx hb dX5_advance_59 rfl (lv_at hl 0 rfl) ?_
      refine va_get (D := D) (ci := 5) (v := .int (te_stop te12)) (C := RX5) (T := TX5) (N := 6) hx hb htw WW_wsX50 hown hKX.1 hP 0 rfl rfl 4 (Nat.le_of_ble_eq_true rfl) (htw _ mF_RX5_36) (fun _ h9 => h9) rfl dX5_advance_60 ?_
      refine lv_aload_n hx hb dX5_advance_63 rfl (lv_at hl 0 rfl) ?_
      refine va_get (D := D) (ci := 5) (v := .ref (qt 0)) (C := RX5) (T := TX5) (N := 6) hx hb htw WW_wsX50 hown hKX.1 hP 0 rfl rfl 0 (Nat.le_of_ble_eq_true rfl) (htw _ mF_RX5_12) (fun _ h9 => h9) rfl dX5_advance_64 ?_
      refine va_getN (D := D) (ci := 6) (v := .int (tx_length tx)) (C := RX6) (T := TX6) (N := 2) hx hb htw WW_wsX60 hown hKX.1 hP 2 rfl rfl 1 (Nat.le_of_ble_eq_true rfl) (va_Nw.use rfl (hKX.2 _ (List.mem_of_getElem? (i := 1) rfl))) (fun _ h9 => h9) rfl dX5_advance_67 ?_
      refine lv_icmp_ge (tgt := 103) hx hb dX5_advance_70 (by decide) (fun c18 => ?_) (fun c18 => ?_)
      · have hf := z_p c18 hf
        exact hkx16 te12 hf _ _ ls  hP hD hS (lv_sub hl [0] rfl)
      · have hf := z_n c18 hf
        refine lv_aload_n hx hb dX5_advance_73 rfl (lv_at hl 0 rfl) ?_
        refine va_get (D := D) (ci := 5) (v := .ref (qt 0)) (C := RX5) (T := TX5) (N := 6) hx hb htw WW_wsX50 hown hKX.1 hP 0 rfl rfl 0 (Nat.le_of_ble_eq_true rfl) (htw _ mF_RX5_12) (fun _ h9 => h9) rfl dX5_advance_74 ?_
        refine lv_aload_n hx hb dX5_advance_77 rfl (lv_at hl 0 rfl) ?_
        refine va_get (D := D) (ci := 5) (v := .int (te_stop te12)) (C := RX5) (T := TX5) (N := 6) hx hb htw WW_wsX50 hown hKX.1 hP 0 rfl rfl 4 (Nat.le_of_ble_eq_true rfl) (htw _ mF_RX5_36) (fun _ h9 => h9) rfl dX5_advance_78 ?_
        refine zc_RVi (As := [.int (te_stop te12)]) (rest := []) hx hb hml hown htw (ctX6_at l D ac cs qt tx (te_stop te12)   _ rfl) (g_V mM_RX5_61 mI_yX6_at mS_RX6_yX6_at_yX6_at mN_RX6 mC_yX6_at) rfl (hd_yX6_at) ⟨rfl, rfl⟩ ⟨(Nat.le_of_ble_eq_true rfl), (Nat.le_of_ble_eq_true rfl)⟩ hKX hC hS (hP.sub [2, 3] rfl) 6 rfl rfl rfl hl.1 rfl (Nat.le_of_ble_eq_true rfl) ⟨Nat.zero_le _, Nat.zero_le _⟩ dX5_advance_81 ?_
        refine zc_RSi (As := [.int (Tx_at tx (te_stop te12))]) (rest := []) hx hb hml hown htw (ctX5_isLetter l D ac cs   (Tx_at tx (te_stop te12))   _ rfl) (g_S mM_RX5_65 mT_yX5_isLetter mN_RX5 mC_yX5_isLetter) (hd_yX5_isLetter) ⟨rfl, rfl⟩ ⟨(Nat.le_of_ble_eq_true rfl), (Nat.le_of_ble_eq_true rfl)⟩ hKX hC hS zP0 rfl hl.1 rfl (Nat.le_of_ble_eq_true rfl) ⟨Nat.zero_le _, Nat.zero_le _⟩ dX5_advance_84 ?_
        refine lv_if_eq (tgt := 103) hx hb dX5_advance_87 (by decide) (fun c19 => ?_) (fun c19 => ?_)
        · have hf := z_p c19 hf
          exact hkx16 te12 hf _ _ ls  hP hD hS (lv_sub hl [0] rfl)
        · have hf := z_n c19 hf
          refine lv_aload_n hx hb dX5_advance_90 rfl (lv_at hl 0 rfl) ?_
          refine lv_dup hx hb dX5_advance_91 rfl ?_
          refine va_get (D := D) (ci := 5) (v := .int (te_stop te12)) (C := RX5) (T := TX5) (N := 6) hx hb htw WW_wsX50 hown hKX.1 hP 0 rfl rfl 4 (Nat.le_of_ble_eq_true rfl) (htw _ mF_RX5_36) (fun _ h9 => h9) rfl dX5_advance_92 ?_
          refine lv_iconst (v := 1) hx hb dX5_advance_95 rfl ?_
          refine lv_iadd hx hb dX5_advance_96 ?_
          refine lv_topi (fun x20 hx20 => ?_)
          have hf := z_let_u hx20 hf
          refine va_put (D := D) (ci := 5) (v := .int x20) (ty := tyX5 4) (C := RX5) (T := TX5) (N := 6) hx hb htw WW_wsX50 tyX5 tyX5_ok nmX5 hown hKX.1 hP hD hS 0 rfl rfl 4 (Nat.le_of_ble_eq_true rfl) (htw _ mF_RX5_36) (fun _ h9 => h9) rfl (tyX5_ok 4 (Nat.le_of_ble_eq_true rfl)) rfl rfl (Nat.le_of_ble_eq_true rfl) dX5_advance_97 (fun H locs hP hD hS => ?_)
          have hP : va_P D vwCl (teW ac q qt qs ((te_counts te12), (te_start te12), x20, (te_told te12)) ++ (txW ac qt tx ++ (shW ac qs sh))) H := hP
          have hD : va_D A (teW ac q qt qs ((te_counts te12), (te_start te12), x20, (te_told te12)) ++ (txW ac qt tx ++ (shW ac qs sh))) := hD
          refine lv_goto (tgt := 59) hx hb dX5_advance_100 (by decide) ?_
          exact ih15 ((te_counts te12), (te_start te12), x20, (te_told te12)) hf _ _ ls  hP hD hS (lv_sub hl [0] rfl)
  refine hL13 _ ?_ F ((te_counts te7), (te_start te7), x11, (te_told te7)) hf _ _ ls  hP hD hS (lv_sub hl [0] rfl)
  intro te17 hf H locs ls hP hD hS hl
  refine lv_aload_n hx hb dX5_advance_103 rfl (lv_at hl 0 rfl) ?_
  refine va_get (D := D) (ci := 5) (v := .int (te_stop te17)) (C := RX5) (T := TX5) (N := 6) hx hb htw WW_wsX50 hown hKX.1 hP 0 rfl rfl 4 (Nat.le_of_ble_eq_true rfl) (htw _ mF_RX5_36) (fun _ h9 => h9) rfl dX5_advance_104 ?_
  refine lv_aload_n hx hb dX5_advance_107 rfl (lv_at hl 0 rfl) ?_
  refine va_get (D := D) (ci := 5) (v := .int (te_start te17)) (C := RX5) (T := TX5) (N := 6) hx hb htw WW_wsX50 hown hKX.1 hP 0 rfl rfl 3 (Nat.le_of_ble_eq_true rfl) (htw _ mF_RX5_46) (fun _ h9 => h9) rfl dX5_advance_108 ?_
  refine lv_icmp_ne (tgt := 138) hx hb dX5_advance_111 (by decide) (fun c21 => ?_) (fun c21 => ?_)
  · have hf := z_n c21 hf
    obtain rfl := Option.some.inj hf
    exact zr_Mv hx hb hr hlocks hP hD hS dX5_advance_138
  · have hf := z_p c21 hf
    refine lv_aload_n hx hb dX5_advance_114 rfl (lv_at hl 0 rfl) ?_
    refine va_get (D := D) (ci := 5) (v := .int (te_stop te17)) (C := RX5) (T := TX5) (N := 6) hx hb htw WW_wsX50 hown hKX.1 hP 0 rfl rfl 4 (Nat.le_of_ble_eq_true rfl) (htw _ mF_RX5_36) (fun _ h9 => h9) rfl dX5_advance_115 ?_
    refine lv_aload_n hx hb dX5_advance_118 rfl (lv_at hl 0 rfl) ?_
    refine va_get (D := D) (ci := 5) (v := .ref (qt 0)) (C := RX5) (T := TX5) (N := 6) hx hb htw WW_wsX50 hown hKX.1 hP 0 rfl rfl 0 (Nat.le_of_ble_eq_true rfl) (htw _ mF_RX5_12) (fun _ h9 => h9) rfl dX5_advance_119 ?_
    refine va_getN (D := D) (ci := 6) (v := .int (tx_length tx)) (C := RX6) (T := TX6) (N := 2) hx hb htw WW_wsX60 hown hKX.1 hP 2 rfl rfl 1 (Nat.le_of_ble_eq_true rfl) (va_Nw.use rfl (hKX.2 _ (List.mem_of_getElem? (i := 1) rfl))) (fun _ h9 => h9) rfl dX5_advance_122 ?_
    refine lv_icmp_ge (tgt := 138) hx hb dX5_advance_125 (by decide) (fun c22 => ?_) (fun c22 => ?_)
    · have hf := z_p c22 hf
      obtain rfl := Option.some.inj hf
      exact zr_Mv hx hb hr hlocks hP hD hS dX5_advance_138
    · have hf := z_n c22 hf
      refine lv_aload_n hx hb dX5_advance_128 rfl (lv_at hl 0 rfl) ?_
      refine lv_dup hx hb dX5_advance_129 rfl ?_
      refine va_get (D := D) (ci := 5) (v := .int (te_stop te17)) (C := RX5) (T := TX5) (N := 6) hx hb htw WW_wsX50 hown hKX.1 hP 0 rfl rfl 4 (Nat.le_of_ble_eq_true rfl) (htw _ mF_RX5_36) (fun _ h9 => h9) rfl dX5_advance_130 ?_
      refine lv_iconst (v := 1) hx hb dX5_advance_133 rfl ?_
      refine lv_iadd hx hb dX5_advance_134 ?_
      refine lv_topi (fun x23 hx23 => ?_)
      have hf := z_let_u hx23 hf
      refine va_put (D := D) (ci := 5) (v := .int x23) (ty := tyX5 4) (C := RX5) (T := TX5) (N := 6) hx hb htw WW_wsX50 tyX5 tyX5_ok nmX5 hown hKX.1 hP hD hS 0 rfl rfl 4 (Nat.le_of_ble_eq_true rfl) (htw _ mF_RX5_36) (fun _ h9 => h9) rfl (tyX5_ok 4 (Nat.le_of_ble_eq_true rfl)) rfl rfl (Nat.le_of_ble_eq_true rfl) dX5_advance_135 (fun H locs hP hD hS => ?_)
      have hP : va_P D vwCl (teW ac q qt qs ((te_counts te17), (te_start te17), x23, (te_told te17)) ++ (txW ac qt tx ++ (shW ac qs sh))) H := hP
      have hD : va_D A (teW ac q qt qs ((te_counts te17), (te_start te17), x23, (te_told te17)) ++ (txW ac qt tx ++ (shW ac qs sh))) := hD
      obtain rfl := Option.some.inj hf
      exact zr_Mv hx hb hr hlocks hP hD hS dX5_advance_138

theorem hd_yX5_isToken : hdY yX5_isToken 1 := by decide +kernel
def Te_isToken_L20 (te : Te) (tx : Tx) (i0 : Nat) : Nat → Int32 → Option (Int32)
  | 0, _ => none
  | n4 + 1, x2 => if Str_length_8abf5 i0 ≤ x2 then (some 1) else (z_bd (Str_charAt_5068e i0 x2) (fun r7 : Int32 => if Tx_at tx ((te_start te) + x2) = r7 then (z_let (x2 + 1) (fun x9 : Int32 => Te_isToken_L20 te tx i0 n4 x9)) else (some 0)))
def Te_isToken (F : Nat) (te : Te) (tx : Tx) (i0 : Nat) : Option (Int32) := if ((te_stop te) - (te_start te)) = Str_length_8abf5 i0 then (Te_isToken_L20 te tx i0 F 0) else (some 0)
set_option maxHeartbeats 4000000 in
set_option maxRecDepth 100000 in
theorem ctX5_isToken (l : Launch) (D : va_G) (ac cs : Nat → Nat) (q : Nat → Nat) (qt : Nat → Nat) (qs : Nat → Nat) (te : Te) (tx : Tx) (sh : Sh) (i0 : Nat) (hi0 : i0 < 10) (F : Nat) (res : Int32) (hf : Te_isToken F te tx i0 = some res) : Met l yX5_isToken (cWW yX5_isToken cX5_isToken 3 (some .boolean)) { frames := 4, cells := 0, slots := 0, locals := 85 } (zR D ac cs [.ref (q 0), .ref (cs (10 + i0))] (teW ac q qt qs te ++ (txW ac qt tx ++ (shW ac qs sh)))) (vp_Si (fun r => r = res)) 0 0 (fun _ => False) := by
  refine Met.ofW (cc := cX5_isToken) (maxL := 3) (ret := (some .boolean)) (by decide) rfl ?_
  intro p e s m args below meth c s₁ B hml hv
  obtain ⟨rfl, hP, hKX, hC⟩ := hv
  have hx := B.exec
  have hb := B.bytes
  have hr := B.returns
  have hts := atoms_spec (ws := cWW yX5_isToken cX5_isToken 3 (some .boolean)) B.pre
  have htw : ∀ w ∈ WW, w.before _ s = true := fun w h => hts w (List.mem_cons_of_mem _ h)
  have hown : s.vm.findClass RX5 = some m.cls := findClass_of_methodNamed B.named
  have hlocks := B.notSynchronized
  clear hts B
  have hS : va_S (fun _ => False) s.heap s.heap [] := va_S.rf
  have hl := lv_entry ([.ref (q 0), .ref (cs (10 + i0))]) (n := 3) (Nat.le_of_ble_eq_true rfl)
  rw [lg_entry_eq]
  generalize (lg_sl ([.ref (q 0), .ref (cs (10 + i0))]) ++ List.replicate (3 - (lg_sl ([.ref (q 0), .ref (cs (10 + i0))])).length) Slot.unset).toArray = ls at hl ⊢
  have hl : lv_has ls 3 [(0, .ref (q 0)), (1, .ref (cs (10 + i0)))] := hl
  unfold Te_isToken at hf
  show W p l e ({ frames := 4, cells := 0, slots := 0, locals := 85 } : Room) s m _ below meth c s.heap [] 0 0 _ (F0 m 0 ls [])
  refine lv_aload_n hx hb dX5_isToken_0 rfl (lv_at hl 0 rfl) ?_
  refine va_get (D := D) (ci := 5) (v := .int (te_stop te)) (C := RX5) (T := TX5) (N := 6) hx hb htw WW_wsX50 hown hKX.1 hP 0 rfl rfl 4 (Nat.le_of_ble_eq_true rfl) (htw _ mF_RX5_36) (fun _ h9 => h9) rfl dX5_isToken_1 ?_
  refine lv_aload_n hx hb dX5_isToken_4 rfl (lv_at hl 0 rfl) ?_
  refine va_get (D := D) (ci := 5) (v := .int (te_start te)) (C := RX5) (T := TX5) (N := 6) hx hb htw WW_wsX50 hown hKX.1 hP 0 rfl rfl 3 (Nat.le_of_ble_eq_true rfl) (htw _ mF_RX5_46) (fun _ h9 => h9) rfl dX5_isToken_5 ?_
  refine lv_isub hx hb dX5_isToken_8 ?_
  refine lv_aload_n hx hb dX5_isToken_9 rfl (lv_at hl 1 rfl) ?_
  refine zc_RViS (As := []) (rest := [.int ((te_stop te) - (te_start te))]) hx hb hml hown htw (ctJ0_length_8abf5 l D ac cs   i0  hi0 _ rfl) (g_V mM_RX5_69 mI_yJ0_length_8abf5 mS_RJ0_yJ0_length_8abf5_yJ0_length_8abf5 mN_RJ0 mC_yJ0_length_8abf5) rfl (hd_yJ0_length_8abf5) ⟨rfl, rfl⟩ ⟨(Nat.le_of_ble_eq_true rfl), (Nat.le_of_ble_eq_true rfl)⟩ hKX hC hS zP0 (zrecS (i := i0) hC hi0 hS) rfl hl.1 rfl (Nat.le_of_ble_eq_true rfl) ⟨Nat.zero_le _, Nat.zero_le _⟩ dX5_isToken_10 ?_
  refine lv_icmp_eq (tgt := 18) hx hb dX5_isToken_13 (by decide) (fun c1 => ?_) (fun c1 => ?_)
  · have hf := z_p c1 hf
    refine lv_iconst (v := 0) hx hb dX5_isToken_18 rfl ?_
    refine lv_istore_n (lv' := [(2, .int 0), (0, .ref (q 0)), (1, .ref (cs (10 + i0)))]) hx hb dX5_isToken_19 rfl hl (Nat.le_of_ble_eq_true rfl) rfl (fun ls hl => ?_)
    have hL3 : ∀ (n4 : Nat) (x2 : Int32), Te_isToken_L20 te tx i0 n4 x2 = some res → ∀ (ls : Array Slot), lv_has ls 3 [(0, .ref (q 0)), (1, .ref (cs (10 + i0))), (2, .int x2)] → W p l e ({ frames := 4, cells := 0, slots := 0, locals := 85 } : Room) s m (([.ref (q 0), .ref (cs (10 + i0))] : List Value).toArray) below meth c s.heap [] 0 0 (MQ below (vp_Si (fun r => r = res)) ([.ref (q 0), .ref (cs (10 + i0))] : List Value).toArray s 0 0 (fun _ => False)) (F0 m 20 ls []) := by
      intro n4
      induction n4 with
      | zero => intro x2 hf; rw [Te_isToken_L20] at hf; cases hf
      | succ n4 ih5 =>
        intro x2 hf ls hl
        rw [Te_isToken_L20] at hf
        refine lv_iload_n hx hb dX5_isToken_20 rfl (lv_at hl 2 rfl) ?_
        refine lv_aload_n hx hb dX5_isToken_21 rfl (lv_at hl 1 rfl) ?_
        refine zc_RViS (As := []) (rest := [.int x2]) hx hb hml hown htw (ctJ0_length_8abf5 l D ac cs   i0  hi0 _ rfl) (g_V mM_RX5_69 mI_yJ0_length_8abf5 mS_RJ0_yJ0_length_8abf5_yJ0_length_8abf5 mN_RJ0 mC_yJ0_length_8abf5) rfl (hd_yJ0_length_8abf5) ⟨rfl, rfl⟩ ⟨(Nat.le_of_ble_eq_true rfl), (Nat.le_of_ble_eq_true rfl)⟩ hKX hC hS zP0 (zrecS (i := i0) hC hi0 hS) rfl hl.1 rfl (Nat.le_of_ble_eq_true rfl) ⟨Nat.zero_le _, Nat.zero_le _⟩ dX5_isToken_22 ?_
        refine lv_icmp_ge (tgt := 57) hx hb dX5_isToken_25 (by decide) (fun c6 => ?_) (fun c6 => ?_)
        · have hf := z_p c6 hf
          refine lv_iconst (v := 1) hx hb dX5_isToken_57 rfl ?_
          exact zr_Rz hx hb hr hlocks (z_b_n z_b1) (Option.some.inj hf) dX5_isToken_58
        · have hf := z_n c6 hf
          refine lv_aload_n hx hb dX5_isToken_28 rfl (lv_at hl 0 rfl) ?_
          refine va_get (D := D) (ci := 5) (v := .ref (qt 0)) (C := RX5) (T := TX5) (N := 6) hx hb htw WW_wsX50 hown hKX.1 hP 0 rfl rfl 0 (Nat.le_of_ble_eq_true rfl) (htw _ mF_RX5_12) (fun _ h9 => h9) rfl dX5_isToken_29 ?_
          refine lv_aload_n hx hb dX5_isToken_32 rfl (lv_at hl 0 rfl) ?_
          refine va_get (D := D) (ci := 5) (v := .int (te_start te)) (C := RX5) (T := TX5) (N := 6) hx hb htw WW_wsX50 hown hKX.1 hP 0 rfl rfl 3 (Nat.le_of_ble_eq_true rfl) (htw _ mF_RX5_46) (fun _ h9 => h9) rfl dX5_isToken_33 ?_
          refine lv_iload_n hx hb dX5_isToken_36 rfl (lv_at hl 2 rfl) ?_
          refine lv_iadd hx hb dX5_isToken_37 ?_
          refine zc_RVi (As := [.int ((te_start te) + x2)]) (rest := []) hx hb hml hown htw (ctX6_at l D ac cs qt tx ((te_start te) + x2)   _ rfl) (g_V mM_RX5_61 mI_yX6_at mS_RX6_yX6_at_yX6_at mN_RX6 mC_yX6_at) rfl (hd_yX6_at) ⟨rfl, rfl⟩ ⟨(Nat.le_of_ble_eq_true rfl), (Nat.le_of_ble_eq_true rfl)⟩ hKX hC hS (hP.sub [2, 3] rfl) 6 rfl rfl rfl hl.1 rfl (Nat.le_of_ble_eq_true rfl) ⟨Nat.zero_le _, Nat.zero_le _⟩ dX5_isToken_38 ?_
          refine lv_aload_n hx hb dX5_isToken_41 rfl (lv_at hl 1 rfl) ?_
          refine lv_iload_n hx hb dX5_isToken_42 rfl (lv_at hl 2 rfl) ?_
          obtain ⟨r7, hr7, hf⟩ := z_bd_u hf
          refine zc_RViS (As := [.int x2]) (rest := [.int (Tx_at tx ((te_start te) + x2))]) hx hb hml hown htw (ctJ0_charAt_5068e l D ac cs   i0 x2  hi0 _ hr7) (g_V mM_RX5_74 mI_yJ0_charAt_5068e mS_RJ0_yJ0_charAt_5068e_yJ0_charAt_5068e mN_RJ0 mC_yJ0_charAt_5068e) rfl (hd_yJ0_charAt_5068e) ⟨rfl, rfl⟩ ⟨(Nat.le_of_ble_eq_true rfl), (Nat.le_of_ble_eq_true rfl)⟩ hKX hC hS zP0 (zrecS (i := i0) hC hi0 hS) rfl hl.1 rfl (Nat.le_of_ble_eq_true rfl) ⟨Nat.zero_le _, Nat.zero_le _⟩ dX5_isToken_43 ?_
          refine lv_icmp_eq (tgt := 51) hx hb dX5_isToken_46 (by decide) (fun c8 => ?_) (fun c8 => ?_)
          · have hf := z_p c8 hf
            obtain ⟨x9, hx9⟩ : ∃ y : Int32, y = (x2 + 1) := ⟨_, rfl⟩
            have hf := z_let_u hx9 hf
            refine lv_iinc (v := x9) (lv' := [(2, .int x9), (0, .ref (q 0)), (1, .ref (cs (10 + i0)))]) hx hb dX5_isToken_51 hl (k := 2) rfl (by rw [hx9]; rfl) (Nat.le_of_ble_eq_true rfl) rfl (fun ls hl => ?_)
            refine lv_goto (tgt := 20) hx hb dX5_isToken_54 (by decide) ?_
            exact ih5 x9 hf ls (lv_sub hl [1, 2, 0] rfl)
          · have hf := z_n c8 hf
            refine lv_iconst (v := 0) hx hb dX5_isToken_49 rfl ?_
            exact zr_Rz hx hb hr hlocks (z_b_n z_b0) (Option.some.inj hf) dX5_isToken_50
    refine hL3  F 0 hf ls (lv_sub hl [1, 2, 0] rfl)
  · have hf := z_n c1 hf
    refine lv_iconst (v := 0) hx hb dX5_isToken_16 rfl ?_
    exact zr_Rz hx hb hr hlocks (z_b_n z_b0) (Option.some.inj hf) dX5_isToken_17

theorem hd_yX5_markTold : hdY yX5_markTold 1 := by decide +kernel
def Te_markTold (te : Te) (a1 : Int32) : Int32 × Te := if ((te_told te) &&& a1) = 0 then (z_let ((te_told te) ||| a1) (fun x2 : Int32 => (1, ((te_counts te), (te_start te), (te_stop te), x2)))) else (0, te)
set_option maxHeartbeats 4000000 in
set_option maxRecDepth 100000 in
theorem ctX5_markTold (l : Launch) (D : va_G) (ac cs : Nat → Nat) (q : Nat → Nat) (qt : Nat → Nat) (qs : Nat → Nat) (sz : Nat) (te : Te) (tx : Tx) (sh : Sh) (a1 : Int32) (res : Int32 × Te) (hf : Te_markTold te a1 = res) : Met l yX5_markTold (cWW yX5_markTold cX5_markTold 2 (some .boolean)) { frames := 0, cells := 0, slots := 0, locals := 0 } (zM D ac cs [.ref (q 0), .int a1] (teW ac q qt qs te ++ (txW ac qt tx ++ (shW ac qs sh))) sz) (va_Qi (fun r (_ : Unit) => r = res.1) (fun _ => zB D (va_A (teW ac q qt qs te ++ (txW ac qt tx ++ (shW ac qs sh))) sz) (teW ac q qt qs res.2 ++ (txW ac qt tx ++ (shW ac qs sh)))) (va_A (teW ac q qt qs te ++ (txW ac qt tx ++ (shW ac qs sh))) sz)) 0 0 (va_A (teW ac q qt qs te ++ (txW ac qt tx ++ (shW ac qs sh))) sz) := by
  refine Met.ofW (cc := cX5_markTold) (maxL := 2) (ret := (some .boolean)) (by decide) rfl ?_
  intro p e s m args below meth c s₁ B hml hv
  obtain ⟨rfl, hsz, hP, hKX, hD0, hC⟩ := hv
  have hx := B.exec
  have hb := B.bytes
  have hr := B.returns
  have hts := atoms_spec (ws := cWW yX5_markTold cX5_markTold 2 (some .boolean)) B.pre
  have htw : ∀ w ∈ WW, w.before _ s = true := fun w h => hts w (List.mem_cons_of_mem _ h)
  have hown : s.vm.findClass RX5 = some m.cls := findClass_of_methodNamed B.named
  have hlocks := B.notSynchronized
  clear hts B
  subst hsz
  have hD := hD0.self (sz := s.heap.size)
  generalize hAe : va_A (teW ac q qt qs te ++ (txW ac qt tx ++ (shW ac qs sh))) s.heap.size = A at hD hC ⊢
  have hA : ∀ q : Nat, s.heap.size ≤ q → A q := fun q h => by rw [← hAe]; exact Or.inr h
  have hS : va_S A s.heap s.heap [] := va_S.rf
  clear hD0 hAe
  have hP : va_P D vwCl (teW ac q qt qs te ++ (txW ac qt tx ++ (shW ac qs sh))) s.heap := hP
  have hl := lv_entry ([.ref (q 0), .int a1]) (n := 2) (Nat.le_of_ble_eq_true rfl)
  rw [lg_entry_eq]
  generalize (lg_sl ([.ref (q 0), .int a1]) ++ List.replicate (2 - (lg_sl ([.ref (q 0), .int a1])).length) Slot.unset).toArray = ls at hl ⊢
  have hl : lv_has ls 2 [(0, .ref (q 0)), (1, .int a1)] := hl
  unfold Te_markTold at hf
  show W p l e ({ frames := 0, cells := 0, slots := 0, locals := 0 } : Room) s m _ below meth c s.heap [] 0 0 _ (F0 m 0 ls [])
  refine lv_aload_n hx hb dX5_markTold_0 rfl (lv_at hl 0 rfl) ?_
  refine va_get (D := D) (ci := 5) (v := .int (te_told te)) (C := RX5) (T := TX5) (N := 6) hx hb htw WW_wsX50 hown hKX.1 hP 0 rfl rfl 5 (Nat.le_of_ble_eq_true rfl) (htw _ mF_RX5_32) (fun _ h9 => h9) rfl dX5_markTold_1 ?_
  refine lv_iload_n hx hb dX5_markTold_4 rfl (lv_at hl 1 rfl) ?_
  refine lv_iand hx hb dX5_markTold_5 ?_
  refine lv_if_eq (tgt := 11) hx hb dX5_markTold_6 (by decide) (fun c1 => ?_) (fun c1 => ?_)
  · have hf := z_p c1 hf
    refine lv_aload_n hx hb dX5_markTold_11 rfl (lv_at hl 0 rfl) ?_
    refine lv_dup hx hb dX5_markTold_12 rfl ?_
    refine va_get (D := D) (ci := 5) (v := .int (te_told te)) (C := RX5) (T := TX5) (N := 6) hx hb htw WW_wsX50 hown hKX.1 hP 0 rfl rfl 5 (Nat.le_of_ble_eq_true rfl) (htw _ mF_RX5_32) (fun _ h9 => h9) rfl dX5_markTold_13 ?_
    refine lv_iload_n hx hb dX5_markTold_16 rfl (lv_at hl 1 rfl) ?_
    refine lv_ior hx hb dX5_markTold_17 ?_
    refine lv_topi (fun x2 hx2 => ?_)
    have hf := z_let_u hx2 hf
    refine va_put (D := D) (ci := 5) (v := .int x2) (ty := tyX5 5) (C := RX5) (T := TX5) (N := 6) hx hb htw WW_wsX50 tyX5 tyX5_ok nmX5 hown hKX.1 hP hD hS 0 rfl rfl 5 (Nat.le_of_ble_eq_true rfl) (htw _ mF_RX5_32) (fun _ h9 => h9) rfl (tyX5_ok 5 (Nat.le_of_ble_eq_true rfl)) rfl rfl (Nat.le_of_ble_eq_true rfl) dX5_markTold_18 (fun H locs hP hD hS => ?_)
    have hP : va_P D vwCl (teW ac q qt qs ((te_counts te), (te_start te), (te_stop te), x2) ++ (txW ac qt tx ++ (shW ac qs sh))) H := hP
    have hD : va_D A (teW ac q qt qs ((te_counts te), (te_start te), (te_stop te), x2) ++ (txW ac qt tx ++ (shW ac qs sh))) := hD
    refine lv_iconst (v := 1) hx hb dX5_markTold_21 rfl ?_
    subst hf
    exact zr_Mz hx hb hr hlocks (z_b_n z_b1) hP hD hS dX5_markTold_22
  · have hf := z_n c1 hf
    refine lv_iconst (v := 0) hx hb dX5_markTold_9 rfl ?_
    subst hf
    exact zr_Mz hx hb hr hlocks (z_b_n z_b0) hP hD hS dX5_markTold_10

theorem hd_yX5_sideOfToken : hdY yX5_sideOfToken 0 := by decide +kernel
def Te_sideOfToken (F : Nat) (te : Te) (tx : Tx) : Option (Int32) := z_bd (Te_isToken F te tx 0) (fun r1 : Int32 => if r1 = 0 then (z_bd (Te_isToken F te tx 1) (fun r3 : Int32 => if r3 = 0 then (some (-1)) else (some 1))) else (some 0))
set_option maxHeartbeats 4000000 in
set_option maxRecDepth 100000 in
theorem ctX5_sideOfToken (l : Launch) (D : va_G) (ac cs : Nat → Nat) (q : Nat → Nat) (qt : Nat → Nat) (qs : Nat → Nat) (te : Te) (tx : Tx) (sh : Sh) (F : Nat) (res : Int32) (hf : Te_sideOfToken F te tx = some res) : Met l yX5_sideOfToken (cWW yX5_sideOfToken cX5_sideOfToken 1 (some .int)) { frames := 5, cells := 0, slots := 0, locals := 107 } (zR D ac cs [.ref (q 0)] (teW ac q qt qs te ++ (txW ac qt tx ++ (shW ac qs sh)))) (vp_Si (fun r => r = res)) 0 0 (fun _ => False) := by
  refine Met.ofW (cc := cX5_sideOfToken) (maxL := 1) (ret := (some .int)) (by decide) rfl ?_
  intro p e s m args below meth c s₁ B hml hv
  obtain ⟨rfl, hP, hKX, hC⟩ := hv
  have hx := B.exec
  have hb := B.bytes
  have hr := B.returns
  have hts := atoms_spec (ws := cWW yX5_sideOfToken cX5_sideOfToken 1 (some .int)) B.pre
  have htw : ∀ w ∈ WW, w.before _ s = true := fun w h => hts w (List.mem_cons_of_mem _ h)
  have hown : s.vm.findClass RX5 = some m.cls := findClass_of_methodNamed B.named
  have hlocks := B.notSynchronized
  clear hts B
  have hS : va_S (fun _ => False) s.heap s.heap [] := va_S.rf
  have hl := lv_entry ([.ref (q 0)]) (n := 1) (Nat.le_of_ble_eq_true rfl)
  rw [lg_entry_eq]
  generalize (lg_sl ([.ref (q 0)]) ++ List.replicate (1 - (lg_sl ([.ref (q 0)])).length) Slot.unset).toArray = ls at hl ⊢
  have hl : lv_has ls 1 [(0, .ref (q 0))] := hl
  unfold Te_sideOfToken at hf
  show W p l e ({ frames := 5, cells := 0, slots := 0, locals := 107 } : Room) s m _ below meth c s.heap [] 0 0 _ (F0 m 0 ls [])
  refine lv_aload_n hx hb dX5_sideOfToken_0 rfl (lv_at hl 0 rfl) ?_
  refine va_ldcS hx hb hown (sr_0 hC) dX5_sideOfToken_1 ?_
  obtain ⟨r1, hr1, hf⟩ := z_bd_u hf
  refine zc_RVi (As := [.ref (cs (10 + 0))]) (rest := []) hx hb hml hown htw (ctX5_isToken l D ac cs q qt qs te tx sh 0  (by decide) F _ hr1) (g_V mM_RX5_54 mI_yX5_isToken mS_RX5_yX5_isToken_yX5_isToken mN_RX5 mC_yX5_isToken) rfl (hd_yX5_isToken) ⟨rfl, rfl⟩ ⟨(Nat.le_of_ble_eq_true rfl), (Nat.le_of_ble_eq_true rfl)⟩ hKX hC hS hP 5 rfl rfl rfl hl.1 rfl (Nat.le_of_ble_eq_true rfl) ⟨Nat.zero_le _, Nat.zero_le _⟩ dX5_sideOfToken_3 ?_
  refine lv_if_eq (tgt := 13) hx hb dX5_sideOfToken_6 (by decide) (fun c2 => ?_) (fun c2 => ?_)
  · have hf := z_p c2 hf
    refine lv_aload_n hx hb dX5_sideOfToken_13 rfl (lv_at hl 0 rfl) ?_
    refine va_ldcS hx hb hown (sr_1 hC) dX5_sideOfToken_14 ?_
    obtain ⟨r3, hr3, hf⟩ := z_bd_u hf
    refine zc_RVi (As := [.ref (cs (10 + 1))]) (rest := []) hx hb hml hown htw (ctX5_isToken l D ac cs q qt qs te tx sh 1  (by decide) F _ hr3) (g_V mM_RX5_54 mI_yX5_isToken mS_RX5_yX5_isToken_yX5_isToken mN_RX5 mC_yX5_isToken) rfl (hd_yX5_isToken) ⟨rfl, rfl⟩ ⟨(Nat.le_of_ble_eq_true rfl), (Nat.le_of_ble_eq_true rfl)⟩ hKX hC hS hP 5 rfl rfl rfl hl.1 rfl (Nat.le_of_ble_eq_true rfl) ⟨Nat.zero_le _, Nat.zero_le _⟩ dX5_sideOfToken_16 ?_
    refine lv_if_eq (tgt := 26) hx hb dX5_sideOfToken_19 (by decide) (fun c4 => ?_) (fun c4 => ?_)
    · have hf := z_p c4 hf
      refine lv_iconst (v := (-1)) hx hb dX5_sideOfToken_26 rfl ?_
      exact zr_Ri hx hb hr hlocks (Option.some.inj hf) dX5_sideOfToken_27
    · have hf := z_n c4 hf
      refine lv_iconst (v := 1) hx hb dX5_sideOfToken_22 rfl ?_
      refine lv_goto (tgt := 27) hx hb dX5_sideOfToken_23 (by decide) ?_
      exact zr_Ri hx hb hr hlocks (Option.some.inj hf) dX5_sideOfToken_27
  · have hf := z_n c2 hf
    refine lv_iconst (v := 0) hx hb dX5_sideOfToken_9 rfl ?_
    refine lv_goto (tgt := 27) hx hb dX5_sideOfToken_10 (by decide) ?_
    exact zr_Ri hx hb hr hlocks (Option.some.inj hf) dX5_sideOfToken_27

theorem hd_yX5_digitOfToken : hdY yX5_digitOfToken 1 := by decide +kernel
def Te_digitOfToken (te : Te) (tx : Tx) (a1 : Int32) : Int32 := z_let (if ((te_stop te) - (te_start te)) = 1 then ((Tx_at tx (te_start te)) - 48) else (-1)) (fun v1 : Int32 => if v1 < 0 then (-1) else (if a1 < v1 then (-1) else v1))
set_option maxHeartbeats 4000000 in
set_option maxRecDepth 100000 in
theorem ctX5_digitOfToken (l : Launch) (D : va_G) (ac cs : Nat → Nat) (q : Nat → Nat) (qt : Nat → Nat) (qs : Nat → Nat) (te : Te) (tx : Tx) (sh : Sh) (a1 : Int32) (res : Int32) (hf : Te_digitOfToken te tx a1 = res) : Met l yX5_digitOfToken (cWW yX5_digitOfToken cX5_digitOfToken 3 (some .int)) { frames := 1, cells := 0, slots := 0, locals := 21 } (zR D ac cs [.ref (q 0), .int a1] (teW ac q qt qs te ++ (txW ac qt tx ++ (shW ac qs sh)))) (vp_Si (fun r => r = res)) 0 0 (fun _ => False) := by
  refine Met.ofW (cc := cX5_digitOfToken) (maxL := 3) (ret := (some .int)) (by decide) rfl ?_
  intro p e s m args below meth c s₁ B hml hv
  obtain ⟨rfl, hP, hKX, hC⟩ := hv
  have hx := B.exec
  have hb := B.bytes
  have hr := B.returns
  have hts := atoms_spec (ws := cWW yX5_digitOfToken cX5_digitOfToken 3 (some .int)) B.pre
  have htw : ∀ w ∈ WW, w.before _ s = true := fun w h => hts w (List.mem_cons_of_mem _ h)
  have hown : s.vm.findClass RX5 = some m.cls := findClass_of_methodNamed B.named
  have hlocks := B.notSynchronized
  clear hts B
  have hS : va_S (fun _ => False) s.heap s.heap [] := va_S.rf
  have hl := lv_entry ([.ref (q 0), .int a1]) (n := 3) (Nat.le_of_ble_eq_true rfl)
  rw [lg_entry_eq]
  generalize (lg_sl ([.ref (q 0), .int a1]) ++ List.replicate (3 - (lg_sl ([.ref (q 0), .int a1])).length) Slot.unset).toArray = ls at hl ⊢
  have hl : lv_has ls 3 [(0, .ref (q 0)), (1, .int a1)] := hl
  unfold Te_digitOfToken at hf
  show W p l e ({ frames := 1, cells := 0, slots := 0, locals := 21 } : Room) s m _ below meth c s.heap [] 0 0 _ (F0 m 0 ls [])
  refine lv_aload_n hx hb dX5_digitOfToken_0 rfl (lv_at hl 0 rfl) ?_
  refine va_get (D := D) (ci := 5) (v := .int (te_stop te)) (C := RX5) (T := TX5) (N := 6) hx hb htw WW_wsX50 hown hKX.1 hP 0 rfl rfl 4 (Nat.le_of_ble_eq_true rfl) (htw _ mF_RX5_36) (fun _ h9 => h9) rfl dX5_digitOfToken_1 ?_
  refine lv_aload_n hx hb dX5_digitOfToken_4 rfl (lv_at hl 0 rfl) ?_
  refine va_get (D := D) (ci := 5) (v := .int (te_start te)) (C := RX5) (T := TX5) (N := 6) hx hb htw WW_wsX50 hown hKX.1 hP 0 rfl rfl 3 (Nat.le_of_ble_eq_true rfl) (htw _ mF_RX5_46) (fun _ h9 => h9) rfl dX5_digitOfToken_5 ?_
  refine lv_isub hx hb dX5_digitOfToken_8 ?_
  refine lv_iconst (v := 1) hx hb dX5_digitOfToken_9 rfl ?_
  have hj3 : ∀ (v1 : Int32), v1 = (if ((te_stop te) - (te_start te)) = 1 then ((Tx_at tx (te_start te)) - 48) else (-1)) → ∀ (ls : Array Slot), lv_has ls 3 [(1, .int a1)] → W p l e ({ frames := 1, cells := 0, slots := 0, locals := 21 } : Room) s m (([.ref (q 0), .int a1] : List Value).toArray) below meth c s.heap [] 0 0 (MQ below (vp_Si (fun r => r = res)) ([.ref (q 0), .int a1] : List Value).toArray s 0 0 (fun _ => False)) (F0 m 31 ls [.int v1]) := by
    intro v1 hv1 ls hl
    have hf := z_let_u hv1 hf
    refine lv_istore_n (lv' := [(2, .int v1), (1, .int a1)]) hx hb dX5_digitOfToken_31 rfl hl (Nat.le_of_ble_eq_true rfl) rfl (fun ls hl => ?_)
    refine lv_iload_n hx hb dX5_digitOfToken_32 rfl (lv_at hl 0 rfl) ?_
    refine lv_if_lt (tgt := 45) hx hb dX5_digitOfToken_33 (by decide) (fun c5 => ?_) (fun c5 => ?_)
    · have hf := z_p c5 hf
      refine lv_iconst (v := (-1)) hx hb dX5_digitOfToken_45 rfl ?_
      exact zr_Ri hx hb hr hlocks hf dX5_digitOfToken_46
    · have hf := z_n c5 hf
      refine lv_iload_n hx hb dX5_digitOfToken_36 rfl (lv_at hl 0 rfl) ?_
      refine lv_iload_n hx hb dX5_digitOfToken_37 rfl (lv_at hl 1 rfl) ?_
      refine lv_icmp_gt (tgt := 45) hx hb dX5_digitOfToken_38 (by decide) (fun c6 => ?_) (fun c6 => ?_)
      · have hf := z_p c6 hf
        refine lv_iconst (v := (-1)) hx hb dX5_digitOfToken_45 rfl ?_
        exact zr_Ri hx hb hr hlocks hf dX5_digitOfToken_46
      · have hf := z_n c6 hf
        refine lv_iload_n hx hb dX5_digitOfToken_41 rfl (lv_at hl 0 rfl) ?_
        refine lv_goto (tgt := 46) hx hb dX5_digitOfToken_42 (by decide) ?_
        exact zr_Ri hx hb hr hlocks hf dX5_digitOfToken_46
  refine lv_icmp_ne (tgt := 30) hx hb dX5_digitOfToken_10 (by decide) (fun c4 => ?_) (fun c4 => ?_)
  · skip
    refine lv_iconst (v := (-1)) hx hb dX5_digitOfToken_30 rfl ?_
    exact hj3 (-1) (if_neg c4).symm ls (lv_sub hl [1] rfl)
  · skip
    refine lv_aload_n hx hb dX5_digitOfToken_13 rfl (lv_at hl 0 rfl) ?_
    refine va_get (D := D) (ci := 5) (v := .ref (qt 0)) (C := RX5) (T := TX5) (N := 6) hx hb htw WW_wsX50 hown hKX.1 hP 0 rfl rfl 0 (Nat.le_of_ble_eq_true rfl) (htw _ mF_RX5_12) (fun _ h9 => h9) rfl dX5_digitOfToken_14 ?_
    refine lv_aload_n hx hb dX5_digitOfToken_17 rfl (lv_at hl 0 rfl) ?_
    refine va_get (D := D) (ci := 5) (v := .int (te_start te)) (C := RX5) (T := TX5) (N := 6) hx hb htw WW_wsX50 hown hKX.1 hP 0 rfl rfl 3 (Nat.le_of_ble_eq_true rfl) (htw _ mF_RX5_46) (fun _ h9 => h9) rfl dX5_digitOfToken_18 ?_
    refine zc_RVi (As := [.int (te_start te)]) (rest := []) hx hb hml hown htw (ctX6_at l D ac cs qt tx (te_start te)   _ rfl) (g_V mM_RX5_61 mI_yX6_at mS_RX6_yX6_at_yX6_at mN_RX6 mC_yX6_at) rfl (hd_yX6_at) ⟨rfl, rfl⟩ ⟨(Nat.le_of_ble_eq_true rfl), (Nat.le_of_ble_eq_true rfl)⟩ hKX hC hS (hP.sub [2, 3] rfl) 6 rfl rfl rfl hl.1 rfl (Nat.le_of_ble_eq_true rfl) ⟨Nat.zero_le _, Nat.zero_le _⟩ dX5_digitOfToken_21 ?_
    refine lv_bipush (v := 48) hx hb dX5_digitOfToken_24 rfl ?_
    refine lv_isub hx hb dX5_digitOfToken_26 ?_
    refine lv_goto (tgt := 31) hx hb dX5_digitOfToken_27 (by decide) ?_
    exact hj3 ((Tx_at tx (te_start te)) - 48) (if_pos c4).symm ls (lv_sub hl [1] rfl)

theorem hd_yX5_readSkills : hdY yX5_readSkills 1 := by decide +kernel
def Te_readSkills_L21 (F : Nat) (tx : Tx) (a1 : Int32) (kx10 : Int32 → Te → Sh → Option (Int32 × Te × Sh)) : Nat → Int32 → Te → Sh → Option (Int32 × Te × Sh)
  | 0, _, _, _ => none
  | n8 + 1, x4, te5, sh6 => if 5 ≤ x4 then (some (1, te5, sh6)) else (z_let (Te_digitOfToken te5 tx 6) (fun x15 : Int32 => if 0 ≤ x15 then (z_let (Sh_setSkill sh6 a1 x4 x15) (fun u17 : Sh => z_gd (z_in a1 2) (z_let (((te_counts te5) a1.toNatClampNeg) + 1) (fun x19 : Int32 => z_gd (z_in a1 2) (z_bd (Te_advance F ((upd (te_counts te5) a1.toNatClampNeg x19), (te_start te5), (te_stop te5), (te_told te5)) tx) (fun u21 : Te => z_let (x4 + 1) (fun x22 : Int32 => Te_readSkills_L21 F tx a1 kx10 n8 x22 u21 u17))))))) else (kx10 x4 te5 sh6)))
def Te_readSkills (F : Nat) (te : Te) (tx : Tx) (sh : Sh) (a1 : Int32) : Option (Int32 × Te × Sh) := z_bd (Te_advance F te tx) (fun u1 : Te => if a1 < 0 then (some (0, u1, sh)) else (if a1 < 2 then (Te_readSkills_L21 F tx a1 (fun (x11 : Int32) (te12 : Te) (sh13 : Sh) => if x11 ≤ 0 then (some (0, te12, sh13)) else (some (1, te12, sh13))) F 0 u1 sh) else (some (0, u1, sh))))
set_option maxHeartbeats 4000000 in
set_option maxRecDepth 100000 in
theorem ctX5_readSkills (l : Launch) (D : va_G) (ac cs : Nat → Nat) (q : Nat → Nat) (qt : Nat → Nat) (qs : Nat → Nat) (sz : Nat) (te : Te) (tx : Tx) (sh : Sh) (a1 : Int32) (F : Nat) (res : Int32 × Te × Sh) (hf : Te_readSkills F te tx sh a1 = some res) : Met l yX5_readSkills (cWW yX5_readSkills cX5_readSkills 4 (some .boolean)) { frames := 2, cells := 0, slots := 0, locals := 43 } (zM D ac cs [.ref (q 0), .int a1] (teW ac q qt qs te ++ (txW ac qt tx ++ (shW ac qs sh))) sz) (va_Qi (fun r (_ : Unit) => r = res.1) (fun _ => zB D (va_A (teW ac q qt qs te ++ (txW ac qt tx ++ (shW ac qs sh))) sz) (teW ac q qt qs res.2.1 ++ (txW ac qt tx ++ (shW ac qs res.2.2)))) (va_A (teW ac q qt qs te ++ (txW ac qt tx ++ (shW ac qs sh))) sz)) 0 0 (va_A (teW ac q qt qs te ++ (txW ac qt tx ++ (shW ac qs sh))) sz) := by
  refine Met.ofW (cc := cX5_readSkills) (maxL := 4) (ret := (some .boolean)) (by decide) rfl ?_
  intro p e s m args below meth c s₁ B hml hv
  obtain ⟨rfl, hsz, hP, hKX, hD0, hC⟩ := hv
  have hx := B.exec
  have hb := B.bytes
  have hr := B.returns
  have hts := atoms_spec (ws := cWW yX5_readSkills cX5_readSkills 4 (some .boolean)) B.pre
  have htw : ∀ w ∈ WW, w.before _ s = true := fun w h => hts w (List.mem_cons_of_mem _ h)
  have hown : s.vm.findClass RX5 = some m.cls := findClass_of_methodNamed B.named
  have hlocks := B.notSynchronized
  clear hts B
  subst hsz
  have hD := hD0.self (sz := s.heap.size)
  generalize hAe : va_A (teW ac q qt qs te ++ (txW ac qt tx ++ (shW ac qs sh))) s.heap.size = A at hD hC ⊢
  have hA : ∀ q : Nat, s.heap.size ≤ q → A q := fun q h => by rw [← hAe]; exact Or.inr h
  have hS : va_S A s.heap s.heap [] := va_S.rf
  clear hD0 hAe
  have hP : va_P D vwCl (teW ac q qt qs te ++ (txW ac qt tx ++ (shW ac qs sh))) s.heap := hP
  have hl := lv_entry ([.ref (q 0), .int a1]) (n := 4) (Nat.le_of_ble_eq_true rfl)
  rw [lg_entry_eq]
  generalize (lg_sl ([.ref (q 0), .int a1]) ++ List.replicate (4 - (lg_sl ([.ref (q 0), .int a1])).length) Slot.unset).toArray = ls at hl ⊢
  have hl : lv_has ls 4 [(0, .ref (q 0)), (1, .int a1)] := hl
  unfold Te_readSkills at hf
  show W p l e ({ frames := 2, cells := 0, slots := 0, locals := 43 } : Room) s m _ below meth c s.heap [] 0 0 _ (F0 m 0 ls [])
  refine lv_aload_n hx hb dX5_readSkills_0 rfl (lv_at hl 0 rfl) ?_
  obtain ⟨u1, hu1, hf⟩ := z_bd_u hf
  refine zc_MVv (As := []) (rest := []) (wr := []) (wsc := teW ac q qt qs te ++ (txW ac qt tx ++ (shW ac qs sh))) (wsc' := teW ac q qt qs u1 ++ (txW ac qt tx ++ (shW ac qs sh))) hx hb hml hown htw (ctX5_advance l D ac cs q qt qs s.heap.size te tx sh    F u1 hu1) (g_V mM_RX5_39 mI_yX5_advance mS_RX5_yX5_advance_yX5_advance mN_RX5 mC_yX5_advance) rfl (hd_yX5_advance) ⟨rfl, rfl⟩ ⟨(Nat.le_of_ble_eq_true rfl), (Nat.le_of_ble_eq_true rfl)⟩ hKX hC hS hA hP hD [0, 1, 2, 3, 4, 5, 6] [] rfl (by decide) rfl (by decide) (by decide) 5 rfl rfl rfl hl.1 rfl (Nat.le_of_ble_eq_true rfl) ⟨Nat.zero_le _, Nat.zero_le _⟩ dX5_readSkills_1 (fun H locs hP hD hS => ?_)
  have hP : va_P D vwCl (teW ac q qt qs u1 ++ (txW ac qt tx ++ (shW ac qs sh))) H := hP
  have hD : va_D A (teW ac q qt qs u1 ++ (txW ac qt tx ++ (shW ac qs sh))) := hD
  refine lv_iload_n hx hb dX5_readSkills_4 rfl (lv_at hl 1 rfl) ?_
  refine lv_if_lt (tgt := 17) hx hb dX5_readSkills_5 (by decide) (fun c2 => ?_) (fun c2 => ?_)
  · have hf := z_p c2 hf
    refine lv_iconst (v := 0) hx hb dX5_readSkills_17 rfl ?_
    obtain rfl := Option.some.inj hf
    exact zr_Mz hx hb hr hlocks (z_b_n z_b0) hP hD hS dX5_readSkills_18
  · have hf := z_n c2 hf
    refine lv_iload_n hx hb dX5_readSkills_8 rfl (lv_at hl 1 rfl) ?_
    refine lv_aload_n hx hb dX5_readSkills_9 rfl (lv_at hl 0 rfl) ?_
    refine va_get (D := D) (ci := 5) (v := .ref (q 1)) (C := RX5) (T := TX5) (N := 6) hx hb htw WW_wsX50 hown hKX.1 hP 0 rfl rfl 1 (Nat.le_of_ble_eq_true rfl) (htw _ mF_RX5_18) (fun _ h9 => h9) rfl dX5_readSkills_10 ?_
    refine va_alen hx hb hKX.1 hP 1 0 rfl rfl (v := 2) rfl dX5_readSkills_13 ?_
    refine lv_icmp_lt (tgt := 19) hx hb dX5_readSkills_14 (by decide) (fun c3 => ?_) (fun c3 => ?_)
    · have hf := z_p c3 hf
      refine lv_iconst (v := 0) hx hb dX5_readSkills_19 rfl ?_
      refine lv_istore_n (lv' := [(2, .int 0), (0, .ref (q 0)), (1, .int a1)]) hx hb dX5_readSkills_20 rfl hl (Nat.le_of_ble_eq_true rfl) rfl (fun ls hl => ?_)
      have hL7 : ∀ (kx10 : Int32 → Te → Sh → Option (Int32 × Te × Sh)) (hkx10 : ∀ (x11 : Int32) (te12 : Te) (sh13 : Sh), kx10 x11 te12 sh13 = some res → ∀ (H : Heap) (locs : List Loc) (ls : Array Slot), va_P D vwCl (teW ac q qt qs te12 ++ (txW ac qt tx ++ (shW ac qs sh13))) H → va_D A (teW ac q qt qs te12 ++ (txW ac qt tx ++ (shW ac qs sh13))) → va_S A s.heap H locs → lv_has ls 4 [(2, .int x11)] → W p l e ({ frames := 2, cells := 0, slots := 0, locals := 43 } : Room) s m (([.ref (q 0), .int a1] : List Value).toArray) below meth c H locs 0 0 (MQ below (va_Qi (fun r (_ : Unit) => r = res.1) (fun _ => zB D A (teW ac q qt qs res.2.1 ++ (txW ac qt tx ++ (shW ac qs res.2.2)))) A) ([.ref (q 0), .int a1] : List Value).toArray s 0 0 A) (F0 m 37 ls [])) (n8 : Nat) (x4 : Int32) (te5 : Te) (sh6 : Sh), Te_readSkills_L21 F tx a1 kx10 n8 x4 te5 sh6 = some res → ∀ (H : Heap) (locs : List Loc) (ls : Array Slot), va_P D vwCl (teW ac q qt qs te5 ++ (txW ac qt tx ++ (shW ac qs sh6))) H → va_D A (teW ac q qt qs te5 ++ (txW ac qt tx ++ (shW ac qs sh6))) → va_S A s.heap H locs → lv_has ls 4 [(0, .ref (q 0)), (1, .int a1), (2, .int x4)] → W p l e ({ frames := 2, cells := 0, slots := 0, locals := 43 } : Room) s m (([.ref (q 0), .int a1] : List Value).toArray) below meth c H locs 0 0 (MQ below (va_Qi (fun r (_ : Unit) => r = res.1) (fun _ => zB D A (teW ac q qt qs res.2.1 ++ (txW ac qt tx ++ (shW ac qs res.2.2)))) A) ([.ref (q 0), .int a1] : List Value).toArray s 0 0 A) (F0 m 21 ls []) := by
        intro kx10 hkx10 n8
        induction n8 with
        | zero => intro x4 te5 sh6 hf; rw [Te_readSkills_L21] at hf; cases hf
        | succ n8 ih9 =>
          intro x4 te5 sh6 hf H locs ls hP hD hS hl
          rw [Te_readSkills_L21] at hf
          refine lv_iload_n hx hb dX5_readSkills_21 rfl (lv_at hl 2 rfl) ?_
          refine lv_iconst (v := 5) hx hb dX5_readSkills_22 rfl ?_
          refine lv_icmp_ge (tgt := 77) hx hb dX5_readSkills_23 (by decide) (fun c14 => ?_) (fun c14 => ?_)
          · have hf := z_p c14 hf
            refine lv_iconst (v := 1) hx hb dX5_readSkills_77 rfl ?_
            obtain rfl := Option.some.inj hf
            exact zr_Mz hx hb hr hlocks (z_b_n z_b1) hP hD hS dX5_readSkills_78
          · have hf := z_n c14 hf
            refine lv_aload_n hx hb dX5_readSkills_26 rfl (lv_at hl 0 rfl) ?_
            refine lv_bipush (v := 6) hx hb dX5_readSkills_27 rfl ?_
            refine zc_RVi (As := [.int 6]) (rest := []) hx hb hml hown htw (ctX5_digitOfToken l D ac cs q qt qs te5 tx sh6 6   _ rfl) (g_V mM_RX5_109 mI_yX5_digitOfToken mS_RX5_yX5_digitOfToken_yX5_digitOfToken mN_RX5 mC_yX5_digitOfToken) rfl (hd_yX5_digitOfToken) ⟨rfl, rfl⟩ ⟨(Nat.le_of_ble_eq_true rfl), (Nat.le_of_ble_eq_true rfl)⟩ hKX hC hS hP 5 rfl rfl rfl hl.1 rfl (Nat.le_of_ble_eq_true rfl) ⟨Nat.zero_le _, Nat.zero_le _⟩ dX5_readSkills_29 ?_
            refine lv_topi (fun x15 hx15 => ?_)
            have hf := z_let_u hx15 hf
            refine lv_istore_n (lv' := [(3, .int x15), (0, .ref (q 0)), (1, .int a1), (2, .int x4)]) hx hb dX5_readSkills_32 rfl hl (Nat.le_of_ble_eq_true rfl) rfl (fun ls hl => ?_)
            refine lv_iload_n hx hb dX5_readSkills_33 rfl (lv_at hl 0 rfl) ?_
            refine lv_if_ge (tgt := 47) hx hb dX5_readSkills_34 (by decide) (fun c16 => ?_) (fun c16 => ?_)
            · have hf := z_p c16 hf
              refine lv_aload_n hx hb dX5_readSkills_47 rfl (lv_at hl 1 rfl) ?_
              refine va_get (D := D) (ci := 5) (v := .ref (qs 0)) (C := RX5) (T := TX5) (N := 6) hx hb htw WW_wsX50 hown hKX.1 hP 0 rfl rfl 2 (Nat.le_of_ble_eq_true rfl) (htw _ mF_RX5_25) (fun _ h9 => h9) rfl dX5_readSkills_48 ?_
              refine lv_iload_n hx hb dX5_readSkills_51 rfl (lv_at hl 2 rfl) ?_
              refine lv_iload_n hx hb dX5_readSkills_52 rfl (lv_at hl 3 rfl) ?_
              refine lv_iload_n hx hb dX5_readSkills_53 rfl (lv_at hl 0 rfl) ?_
              obtain ⟨u17, hu17⟩ : ∃ y : Sh, y = Sh_setSkill sh6 a1 x4 x15 := ⟨_, rfl⟩
              have hf := z_let_u hu17 hf
              refine zc_MVv (As := [.int a1, .int x4, .int x15]) (rest := []) (wr := teW ac q qt qs te5 ++ (txW ac qt tx)) (wsc := shW ac qs sh6) (wsc' := shW ac qs u17) hx hb hml hown htw (ctX4_setSkill l D ac cs qs H.size sh6 a1 x4 x15   u17 hu17.symm) (g_V mM_RX5_113 mI_yX4_setSkill mS_RX4_yX4_setSkill_yX4_setSkill mN_RX4 mC_yX4_setSkill) rfl (hd_yX4_setSkill) ⟨rfl, rfl⟩ ⟨(Nat.le_of_ble_eq_true rfl), (Nat.le_of_ble_eq_true rfl)⟩ hKX hC hS hA hP hD [4, 5, 6] [0, 1, 2, 3] rfl (by decide) rfl (by decide) (by decide) 4 rfl rfl rfl hl.1 rfl (Nat.le_of_ble_eq_true rfl) ⟨Nat.zero_le _, Nat.zero_le _⟩ dX5_readSkills_54 (fun H locs hP hD hS => ?_)
              have hP : va_P D vwCl (teW ac q qt qs te5 ++ (txW ac qt tx ++ (shW ac qs u17))) H := hP
              have hD : va_D A (teW ac q qt qs te5 ++ (txW ac qt tx ++ (shW ac qs u17))) := hD
              refine lv_aload_n hx hb dX5_readSkills_57 rfl (lv_at hl 1 rfl) ?_
              refine va_get (D := D) (ci := 5) (v := .ref (q 1)) (C := RX5) (T := TX5) (N := 6) hx hb htw WW_wsX50 hown hKX.1 hP 0 rfl rfl 1 (Nat.le_of_ble_eq_true rfl) (htw _ mF_RX5_18) (fun _ h9 => h9) rfl dX5_readSkills_58 ?_
              refine lv_iload_n hx hb dX5_readSkills_61 rfl (lv_at hl 2 rfl) ?_
              refine lv_dup2_11 hx hb dX5_readSkills_62 rfl rfl ?_
              obtain ⟨g18, hf⟩ := z_gd_u hf
              refine va_iald hx hb hKX.1 hP 1 0 rfl rfl (z_in_u g18) dX5_readSkills_63 ?_
              refine lv_iconst (v := 1) hx hb dX5_readSkills_64 rfl ?_
              refine lv_iadd hx hb dX5_readSkills_65 ?_
              refine lv_topi (fun x19 hx19 => ?_)
              have hf := z_let_u hx19 hf
              obtain ⟨g20, hf⟩ := z_gd_u hf
              refine va_iast hx hb hKX.1 hP hD hS 1 0 rfl rfl (z_in_u g20) dX5_readSkills_66 (fun H locs hP hD hS => ?_)
              have hP : va_P D vwCl (teW ac q qt qs ((upd (te_counts te5) a1.toNatClampNeg x19), (te_start te5), (te_stop te5), (te_told te5)) ++ (txW ac qt tx ++ (shW ac qs u17))) H := hP
              have hD : va_D A (teW ac q qt qs ((upd (te_counts te5) a1.toNatClampNeg x19), (te_start te5), (te_stop te5), (te_told te5)) ++ (txW ac qt tx ++ (shW ac qs u17))) := hD
              refine lv_aload_n hx hb dX5_readSkills_67 rfl (lv_at hl 1 rfl) ?_
              obtain ⟨u21, hu21, hf⟩ := z_bd_u hf
              refine zc_MVv (As := []) (rest := []) (wr := []) (wsc := teW ac q qt qs ((upd (te_counts te5) a1.toNatClampNeg x19), (te_start te5), (te_stop te5), (te_told te5)) ++ (txW ac qt tx ++ (shW ac qs u17))) (wsc' := teW ac q qt qs u21 ++ (txW ac qt tx ++ (shW ac qs u17))) hx hb hml hown htw (ctX5_advance l D ac cs q qt qs H.size ((upd (te_counts te5) a1.toNatClampNeg x19), (te_start te5), (te_stop te5), (te_told te5)) tx u17    F u21 hu21) (g_V mM_RX5_39 mI_yX5_advance mS_RX5_yX5_advance_yX5_advance mN_RX5 mC_yX5_advance) rfl (hd_yX5_advance) ⟨rfl, rfl⟩ ⟨(Nat.le_of_ble_eq_true rfl), (Nat.le_of_ble_eq_true rfl)⟩ hKX hC hS hA hP hD [0, 1, 2, 3, 4, 5, 6] [] rfl (by decide) rfl (by decide) (by decide) 5 rfl rfl rfl hl.1 rfl (Nat.le_of_ble_eq_true rfl) ⟨Nat.zero_le _, Nat.zero_le _⟩ dX5_readSkills_68 (fun H locs hP hD hS => ?_)
              have hP : va_P D vwCl (teW ac q qt qs u21 ++ (txW ac qt tx ++ (shW ac qs u17))) H := hP
              have hD : va_D A (teW ac q qt qs u21 ++ (txW ac qt tx ++ (shW ac qs u17))) := hD
              obtain ⟨x22, hx22⟩ : ∃ y : Int32, y = (x4 + 1) := ⟨_, rfl⟩
              have hf := z_let_u hx22 hf
              refine lv_iinc (v := x22) (lv' := [(2, .int x22), (3, .int x15), (0, .ref (q 0)), (1, .int a1)]) hx hb dX5_readSkills_71 hl (k := 3) rfl (by rw [hx22]; rfl) (Nat.le_of_ble_eq_true rfl) rfl (fun ls hl => ?_)
              refine lv_goto (tgt := 21) hx hb dX5_readSkills_74 (by decide) ?_
              exact ih9 x22 u21 u17 hf _ _ ls  hP hD hS (lv_sub hl [2, 3, 0] rfl)
            · have hf := z_n c16 hf
              exact hkx10 x4 te5 sh6 hf _ _ ls  hP hD hS (lv_sub hl [3] rfl)
      refine hL7 _ ?_ F 0 u1 sh hf _ _ ls  hP hD hS (lv_sub hl [1, 2, 0] rfl)
      intro x11 te12 sh13 hf H locs ls hP hD hS hl
      refine lv_iload_n hx hb dX5_readSkills_37 rfl (lv_at hl 0 rfl) ?_
      refine lv_if_le (tgt := 45) hx hb dX5_readSkills_38 (by decide) (fun c23 => ?_) (fun c23 => ?_)
      · have hf := z_p c23 hf
        refine lv_iconst (v := 0) hx hb dX5_readSkills_45 rfl ?_
        obtain rfl := Option.some.inj hf
        exact zr_Mz hx hb hr hlocks (z_b_n z_b0) hP hD hS dX5_readSkills_46
      · have hf := z_n c23 hf
        refine lv_iconst (v := 1) hx hb dX5_readSkills_41 rfl ?_
        refine lv_goto (tgt := 46) hx hb dX5_readSkills_42 (by decide) ?_
        obtain rfl := Option.some.inj hf
        exact zr_Mz hx hb hr hlocks (z_b_n z_b1) hP hD hS dX5_readSkills_46
    · have hf := z_n c3 hf
      refine lv_iconst (v := 0) hx hb dX5_readSkills_17 rfl ?_
      obtain rfl := Option.some.inj hf
      exact zr_Mz hx hb hr hlocks (z_b_n z_b0) hP hD hS dX5_readSkills_18

theorem hd_yX5_readNerve : hdY yX5_readNerve 1 := by decide +kernel
def Te_readNerve (F : Nat) (te : Te) (tx : Tx) (sh : Sh) (a1 : Int32) : Option (Int32 × Te × Sh) := z_bd (Te_advance F te tx) (fun u1 : Te => z_bd (Te_sideOfToken F u1 tx) (fun r2 : Int32 => if r2 < 0 then (some (0, u1, sh)) else (z_let (if a1 = 0 then 0 else 2) (fun v4 : Int32 => z_let (Te_markTold u1 (16 <<< ((v4 + r2) &&& 31))) (fun u8 : Int32 × Te => if u8.1 = 0 then (some (0, u8.2, sh)) else (z_bd (Te_advance F u8.2 tx) (fun u10 : Te => z_bd (Te_isToken F u10 tx 3) (fun r11 : Int32 => z_jn (fun te12 : Te => z_let (Te_digitOfToken te12 tx 3) (fun x15 : Int32 => if 0 ≤ x15 then (z_let (if r11 = 0 then x15 else (-x15)) (fun v17 : Int32 => z_let (Sh_setNerve sh r2 a1 v17) (fun u21 : Sh => z_bd (Te_advance F te12 tx) (fun u22 : Te => some (1, u22, u21))))) else (some (0, te12, sh)))) (fun k13 => if r11 = 0 then (k13 u10) else (z_bd (Te_advance F u10 tx) (fun u24 : Te => k13 u24)))))))))))
set_option maxHeartbeats 4000000 in
set_option maxRecDepth 100000 in
theorem ctX5_readNerve (l : Launch) (D : va_G) (ac cs : Nat → Nat) (q : Nat → Nat) (qt : Nat → Nat) (qs : Nat → Nat) (sz : Nat) (te : Te) (tx : Tx) (sh : Sh) (a1 : Int32) (F : Nat) (res : Int32 × Te × Sh) (hf : Te_readNerve F te tx sh a1 = some res) : Met l yX5_readNerve (cWW yX5_readNerve cX5_readNerve 5 (some .boolean)) { frames := 6, cells := 0, slots := 0, locals := 127 } (zM D ac cs [.ref (q 0), .int a1] (teW ac q qt qs te ++ (txW ac qt tx ++ (shW ac qs sh))) sz) (va_Qi (fun r (_ : Unit) => r = res.1) (fun _ => zB D (va_A (teW ac q qt qs te ++ (txW ac qt tx ++ (shW ac qs sh))) sz) (teW ac q qt qs res.2.1 ++ (txW ac qt tx ++ (shW ac qs res.2.2)))) (va_A (teW ac q qt qs te ++ (txW ac qt tx ++ (shW ac qs sh))) sz)) 0 0 (va_A (teW ac q qt qs te ++ (txW ac qt tx ++ (shW ac qs sh))) sz) := by
  refine Met.ofW (cc := cX5_readNerve) (maxL := 5) (ret := (some .boolean)) (by decide) rfl ?_
  intro p e s m args below meth c s₁ B hml hv
  obtain ⟨rfl, hsz, hP, hKX, hD0, hC⟩ := hv
  have hx := B.exec
  have hb := B.bytes
  have hr := B.returns
  have hts := atoms_spec (ws := cWW yX5_readNerve cX5_readNerve 5 (some .boolean)) B.pre
  have htw : ∀ w ∈ WW, w.before _ s = true := fun w h => hts w (List.mem_cons_of_mem _ h)
  have hown : s.vm.findClass RX5 = some m.cls := findClass_of_methodNamed B.named
  have hlocks := B.notSynchronized
  clear hts B
  subst hsz
  have hD := hD0.self (sz := s.heap.size)
  generalize hAe : va_A (teW ac q qt qs te ++ (txW ac qt tx ++ (shW ac qs sh))) s.heap.size = A at hD hC ⊢
  have hA : ∀ q : Nat, s.heap.size ≤ q → A q := fun q h => by rw [← hAe]; exact Or.inr h
  have hS : va_S A s.heap s.heap [] := va_S.rf
  clear hD0 hAe
  have hP : va_P D vwCl (teW ac q qt qs te ++ (txW ac qt tx ++ (shW ac qs sh))) s.heap := hP
  have hl := lv_entry ([.ref (q 0), .int a1]) (n := 5) (Nat.le_of_ble_eq_true rfl)
  rw [lg_entry_eq]
  generalize (lg_sl ([.ref (q 0), .int a1]) ++ List.replicate (5 - (lg_sl ([.ref (q 0), .int a1])).length) Slot.unset).toArray = ls at hl ⊢
  have hl : lv_has ls 5 [(0, .ref (q 0)), (1, .int a1)] := hl
  unfold Te_readNerve at hf
  show W p l e ({ frames := 6, cells := 0, slots := 0, locals := 127 } : Room) s m _ below meth c s.heap [] 0 0 _ (F0 m 0 ls [])
  refine lv_aload_n hx hb dX5_readNerve_0 rfl (lv_at hl 0 rfl) ?_
  obtain ⟨u1, hu1, hf⟩ := z_bd_u hf
  refine zc_MVv (As := []) (rest := []) (wr := []) (wsc := teW ac q qt qs te ++ (txW ac qt tx ++ (shW ac qs sh))) (wsc' := teW ac q qt qs u1 ++ (txW ac qt tx ++ (shW ac qs sh))) hx hb hml hown htw (ctX5_advance l D ac cs q qt qs s.heap.size te tx sh    F u1 hu1) (g_V mM_RX5_39 mI_yX5_advance mS_RX5_yX5_advance_yX5_advance mN_RX5 mC_yX5_advance) rfl (hd_yX5_advance) ⟨rfl, rfl⟩ ⟨(Nat.le_of_ble_eq_true rfl), (Nat.le_of_ble_eq_true rfl)⟩ hKX hC hS hA hP hD [0, 1, 2, 3, 4, 5, 6] [] rfl (by decide) rfl (by decide) (by decide) 5 rfl rfl rfl hl.1 rfl (Nat.le_of_ble_eq_true rfl) ⟨Nat.zero_le _, Nat.zero_le _⟩ dX5_readNerve_1 (fun H locs hP hD hS => ?_)
  have hP : va_P D vwCl (teW ac q qt qs u1 ++ (txW ac qt tx ++ (shW ac qs sh))) H := hP
  have hD : va_D A (teW ac q qt qs u1 ++ (txW ac qt tx ++ (shW ac qs sh))) := hD
  refine lv_aload_n hx hb dX5_readNerve_4 rfl (lv_at hl 0 rfl) ?_
  obtain ⟨r2, hr2, hf⟩ := z_bd_u hf
  refine zc_RVi (As := []) (rest := []) hx hb hml hown htw (ctX5_sideOfToken l D ac cs q qt qs u1 tx sh    F _ hr2) (g_V mM_RX5_77 mI_yX5_sideOfToken mS_RX5_yX5_sideOfToken_yX5_sideOfToken mN_RX5 mC_yX5_sideOfToken) rfl (hd_yX5_sideOfToken) ⟨rfl, rfl⟩ ⟨(Nat.le_of_ble_eq_true rfl), (Nat.le_of_ble_eq_true rfl)⟩ hKX hC hS hP 5 rfl rfl rfl hl.1 rfl (Nat.le_of_ble_eq_true rfl) ⟨Nat.zero_le _, Nat.zero_le _⟩ dX5_readNerve_5 ?_
  refine lv_istore_n (lv' := [(2, .int r2), (0, .ref (q 0)), (1, .int a1)]) hx hb dX5_readNerve_8 rfl hl (Nat.le_of_ble_eq_true rfl) rfl (fun ls hl => ?_)
  refine lv_iload_n hx hb dX5_readNerve_9 rfl (lv_at hl 0 rfl) ?_
  refine lv_if_lt (tgt := 34) hx hb dX5_readNerve_10 (by decide) (fun c3 => ?_) (fun c3 => ?_)
  · have hf := z_p c3 hf
    refine lv_iconst (v := 0) hx hb dX5_readNerve_34 rfl ?_
    obtain rfl := Option.some.inj hf
    exact zr_Mz hx hb hr hlocks (z_b_n z_b0) hP hD hS dX5_readNerve_35
  · have hf := z_n c3 hf
    refine lv_aload_n hx hb dX5_readNerve_13 rfl (lv_at hl 1 rfl) ?_
    refine lv_bipush (v := 16) hx hb dX5_readNerve_14 rfl ?_
    refine lv_iload_n hx hb dX5_readNerve_16 rfl (lv_at hl 2 rfl) ?_
    have hj6 : ∀ (v4 : Int32), v4 = (if a1 = 0 then 0 else 2) → ∀ (H : Heap) (locs : List Loc) (ls : Array Slot), va_P D vwCl (teW ac q qt qs u1 ++ (txW ac qt tx ++ (shW ac qs sh))) H → va_D A (teW ac q qt qs u1 ++ (txW ac qt tx ++ (shW ac qs sh))) → va_S A s.heap H locs → lv_has ls 5 [(0, .ref (q 0)), (1, .int a1), (2, .int r2)] → W p l e ({ frames := 6, cells := 0, slots := 0, locals := 127 } : Room) s m (([.ref (q 0), .int a1] : List Value).toArray) below meth c H locs 0 0 (MQ below (va_Qi (fun r (_ : Unit) => r = res.1) (fun _ => zB D A (teW ac q qt qs res.2.1 ++ (txW ac qt tx ++ (shW ac qs res.2.2)))) A) ([.ref (q 0), .int a1] : List Value).toArray s 0 0 A) (F0 m 25 ls [.int v4, .int 16, .ref (q 0)]) := by
      intro v4 hv4 H locs ls hP hD hS hl
      have hf := z_let_u hv4 hf
      refine lv_iload_n hx hb dX5_readNerve_25 rfl (lv_at hl 2 rfl) ?_
      refine lv_iadd hx hb dX5_readNerve_26 ?_
      refine lv_ishl hx hb dX5_readNerve_27 ?_
      obtain ⟨u8, hu8⟩ : ∃ y : Int32 × Te, y = Te_markTold u1 (16 <<< ((v4 + r2) &&& 31)) := ⟨_, rfl⟩
      have hf := z_let_u hu8 hf
      refine zc_MVi (As := [.int (16 <<< ((v4 + r2) &&& 31))]) (rest := []) (wr := []) (wsc := teW ac q qt qs u1 ++ (txW ac qt tx ++ (shW ac qs sh))) (wsc' := teW ac q qt qs u8.2 ++ (txW ac qt tx ++ (shW ac qs sh))) hx hb hml hown htw (ctX5_markTold l D ac cs q qt qs H.size u1 tx sh (16 <<< ((v4 + r2) &&& 31))   u8 hu8.symm) (g_V mM_RX5_80 mI_yX5_markTold mS_RX5_yX5_markTold_yX5_markTold mN_RX5 mC_yX5_markTold) rfl (hd_yX5_markTold) ⟨rfl, rfl⟩ ⟨(Nat.le_of_ble_eq_true rfl), (Nat.le_of_ble_eq_true rfl)⟩ hKX hC hS hA hP hD [0, 1, 2, 3, 4, 5, 6] [] rfl (by decide) rfl (by decide) (by decide) 5 rfl rfl rfl hl.1 rfl (Nat.le_of_ble_eq_true rfl) ⟨Nat.zero_le _, Nat.zero_le _⟩ dX5_readNerve_28 (fun H locs hP hD hS => ?_)
      have hP : va_P D vwCl (teW ac q qt qs u8.2 ++ (txW ac qt tx ++ (shW ac qs sh))) H := hP
      have hD : va_D A (teW ac q qt qs u8.2 ++ (txW ac qt tx ++ (shW ac qs sh))) := hD
      refine lv_if_ne (tgt := 36) hx hb dX5_readNerve_31 (by decide) (fun c9 => ?_) (fun c9 => ?_)
      · have hf := z_n c9 hf
        refine lv_aload_n hx hb dX5_readNerve_36 rfl (lv_at hl 0 rfl) ?_
        obtain ⟨u10, hu10, hf⟩ := z_bd_u hf
        refine zc_MVv (As := []) (rest := []) (wr := []) (wsc := teW ac q qt qs u8.2 ++ (txW ac qt tx ++ (shW ac qs sh))) (wsc' := teW ac q qt qs u10 ++ (txW ac qt tx ++ (shW ac qs sh))) hx hb hml hown htw (ctX5_advance l D ac cs q qt qs H.size u8.2 tx sh    F u10 hu10) (g_V mM_RX5_39 mI_yX5_advance mS_RX5_yX5_advance_yX5_advance mN_RX5 mC_yX5_advance) rfl (hd_yX5_advance) ⟨rfl, rfl⟩ ⟨(Nat.le_of_ble_eq_true rfl), (Nat.le_of_ble_eq_true rfl)⟩ hKX hC hS hA hP hD [0, 1, 2, 3, 4, 5, 6] [] rfl (by decide) rfl (by decide) (by decide) 5 rfl rfl rfl hl.1 rfl (Nat.le_of_ble_eq_true rfl) ⟨Nat.zero_le _, Nat.zero_le _⟩ dX5_readNerve_37 (fun H locs hP hD hS => ?_)
        have hP : va_P D vwCl (teW ac q qt qs u10 ++ (txW ac qt tx ++ (shW ac qs sh))) H := hP
        have hD : va_D A (teW ac q qt qs u10 ++ (txW ac qt tx ++ (shW ac qs sh))) := hD
        refine lv_aload_n hx hb dX5_readNerve_40 rfl (lv_at hl 0 rfl) ?_
        refine va_ldcS hx hb hown (sr_3 hC) dX5_readNerve_41 ?_
        obtain ⟨r11, hr11, hf⟩ := z_bd_u hf
        refine zc_RVi (As := [.ref (cs (10 + 3))]) (rest := []) hx hb hml hown htw (ctX5_isToken l D ac cs q qt qs u10 tx sh 3  (by decide) F _ hr11) (g_V mM_RX5_54 mI_yX5_isToken mS_RX5_yX5_isToken_yX5_isToken mN_RX5 mC_yX5_isToken) rfl (hd_yX5_isToken) ⟨rfl, rfl⟩ ⟨(Nat.le_of_ble_eq_true rfl), (Nat.le_of_ble_eq_true rfl)⟩ hKX hC hS hP 5 rfl rfl rfl hl.1 rfl (Nat.le_of_ble_eq_true rfl) ⟨Nat.zero_le _, Nat.zero_le _⟩ dX5_readNerve_43 ?_
        refine lv_istore_n (lv' := [(3, .int r11), (0, .ref (q 0)), (1, .int a1), (2, .int r2)]) hx hb dX5_readNerve_46 rfl hl (Nat.le_of_ble_eq_true rfl) rfl (fun ls hl => ?_)
        refine lv_iload_n hx hb dX5_readNerve_47 rfl (lv_at hl 0 rfl) ?_
        obtain ⟨k13, hk13, hf⟩ := z_jn_u hf
        have hj14 : ∀ (te12 : Te), k13 te12 = some res → ∀ (H : Heap) (locs : List Loc) (ls : Array Slot), va_P D vwCl (teW ac q qt qs te12 ++ (txW ac qt tx ++ (shW ac qs sh))) H → va_D A (teW ac q qt qs te12 ++ (txW ac qt tx ++ (shW ac qs sh))) → va_S A s.heap H locs → lv_has ls 5 [(0, .ref (q 0)), (1, .int a1), (2, .int r2), (3, .int r11)] → W p l e ({ frames := 6, cells := 0, slots := 0, locals := 127 } : Room) s m (([.ref (q 0), .int a1] : List Value).toArray) below meth c H locs 0 0 (MQ below (va_Qi (fun r (_ : Unit) => r = res.1) (fun _ => zB D A (teW ac q qt qs res.2.1 ++ (txW ac qt tx ++ (shW ac qs res.2.2)))) A) ([.ref (q 0), .int a1] : List Value).toArray s 0 0 A) (F0 m 55 ls []) := by
          intro te12 hf H locs ls hP hD hS hl
          have hf := hk13 _ hf
          refine lv_aload_n hx hb dX5_readNerve_55 rfl (lv_at hl 0 rfl) ?_
          refine lv_iconst (v := 3) hx hb dX5_readNerve_56 rfl ?_
          refine zc_RVi (As := [.int 3]) (rest := []) hx hb hml hown htw (ctX5_digitOfToken l D ac cs q qt qs te12 tx sh 3   _ rfl) (g_V mM_RX5_109 mI_yX5_digitOfToken mS_RX5_yX5_digitOfToken_yX5_digitOfToken mN_RX5 mC_yX5_digitOfToken) rfl (hd_yX5_digitOfToken) ⟨rfl, rfl⟩ ⟨(Nat.le_of_ble_eq_true rfl), (Nat.le_of_ble_eq_true rfl)⟩ hKX hC hS hP 5 rfl rfl rfl hl.1 rfl (Nat.le_of_ble_eq_true rfl) ⟨Nat.zero_le _, Nat.zero_le _⟩ dX5_readNerve_57 ?_
          refine lv_topi (fun x15 hx15 => ?_)
          have hf := z_let_u hx15 hf
          refine lv_istore (lv' := [(4, .int x15), (0, .ref (q 0)), (1, .int a1), (2, .int r2), (3, .int r11)]) hx hb dX5_readNerve_60 hl (Nat.le_of_ble_eq_true rfl) rfl (fun ls hl => ?_)
          refine lv_iload hx hb dX5_readNerve_62 (lv_at hl 0 rfl) ?_
          refine lv_if_ge (tgt := 69) hx hb dX5_readNerve_64 (by decide) (fun c16 => ?_) (fun c16 => ?_)
          · have hf := z_p c16 hf
            refine lv_aload_n hx hb dX5_readNerve_69 rfl (lv_at hl 1 rfl) ?_
            refine va_get (D := D) (ci := 5) (v := .ref (qs 0)) (C := RX5) (T := TX5) (N := 6) hx hb htw WW_wsX50 hown hKX.1 hP 0 rfl rfl 2 (Nat.le_of_ble_eq_true rfl) (htw _ mF_RX5_25) (fun _ h9 => h9) rfl dX5_readNerve_70 ?_
            refine lv_iload_n hx hb dX5_readNerve_73 rfl (lv_at hl 3 rfl) ?_
            refine lv_iload_n hx hb dX5_readNerve_74 rfl (lv_at hl 2 rfl) ?_
            refine lv_iload_n hx hb dX5_readNerve_75 rfl (lv_at hl 4 rfl) ?_
            have hj19 : ∀ (v17 : Int32), v17 = (if r11 = 0 then x15 else (-x15)) → ∀ (H : Heap) (locs : List Loc) (ls : Array Slot), va_P D vwCl (teW ac q qt qs te12 ++ (txW ac qt tx ++ (shW ac qs sh))) H → va_D A (teW ac q qt qs te12 ++ (txW ac qt tx ++ (shW ac qs sh))) → va_S A s.heap H locs → lv_has ls 5 [(0, .ref (q 0))] → W p l e ({ frames := 6, cells := 0, slots := 0, locals := 127 } : Room) s m (([.ref (q 0), .int a1] : List Value).toArray) below meth c H locs 0 0 (MQ below (va_Qi (fun r (_ : Unit) => r = res.1) (fun _ => zB D A (teW ac q qt qs res.2.1 ++ (txW ac qt tx ++ (shW ac qs res.2.2)))) A) ([.ref (q 0), .int a1] : List Value).toArray s 0 0 A) (F0 m 87 ls [.int v17, .int a1, .int r2, .ref (qs 0)]) := by
              intro v17 hv17 H locs ls hP hD hS hl
              have hf := z_let_u hv17 hf
              obtain ⟨u21, hu21⟩ : ∃ y : Sh, y = Sh_setNerve sh r2 a1 v17 := ⟨_, rfl⟩
              have hf := z_let_u hu21 hf
              refine zc_MVv (As := [.int r2, .int a1, .int v17]) (rest := []) (wr := teW ac q qt qs te12 ++ (txW ac qt tx)) (wsc := shW ac qs sh) (wsc' := shW ac qs u21) hx hb hml hown htw (ctX4_setNerve l D ac cs qs H.size sh r2 a1 v17   u21 hu21.symm) (g_V mM_RX5_119 mI_yX4_setNerve mS_RX4_yX4_setNerve_yX4_setNerve mN_RX4 mC_yX4_setNerve) rfl (hd_yX4_setNerve) ⟨rfl, rfl⟩ ⟨(Nat.le_of_ble_eq_true rfl), (Nat.le_of_ble_eq_true rfl)⟩ hKX hC hS hA hP hD [4, 5, 6] [0, 1, 2, 3] rfl (by decide) rfl (by decide) (by decide) 4 rfl rfl rfl hl.1 rfl (Nat.le_of_ble_eq_true rfl) ⟨Nat.zero_le _, Nat.zero_le _⟩ dX5_readNerve_87 (fun H locs hP hD hS => ?_)
              have hP : va_P D vwCl (teW ac q qt qs te12 ++ (txW ac qt tx ++ (shW ac qs u21))) H := hP
              have hD : va_D A (teW ac q qt qs te12 ++ (txW ac qt tx ++ (shW ac qs u21))) := hD
              refine lv_aload_n hx hb dX5_readNerve_90 rfl (lv_at hl 0 rfl) ?_
              obtain ⟨u22, hu22, hf⟩ := z_bd_u hf
              refine zc_MVv (As := []) (rest := []) (wr := []) (wsc := teW ac q qt qs te12 ++ (txW ac qt tx ++ (shW ac qs u21))) (wsc' := teW ac q qt qs u22 ++ (txW ac qt tx ++ (shW ac qs u21))) hx hb hml hown htw (ctX5_advance l D ac cs q qt qs H.size te12 tx u21    F u22 hu22) (g_V mM_RX5_39 mI_yX5_advance mS_RX5_yX5_advance_yX5_advance mN_RX5 mC_yX5_advance) rfl (hd_yX5_advance) ⟨rfl, rfl⟩ ⟨(Nat.le_of_ble_eq_true rfl), (Nat.le_of_ble_eq_true rfl)⟩ hKX hC hS hA hP hD [0, 1, 2, 3, 4, 5, 6] [] rfl (by decide) rfl (by decide) (by decide) 5 rfl rfl rfl hl.1 rfl (Nat.le_of_ble_eq_true rfl) ⟨Nat.zero_le _, Nat.zero_le _⟩ dX5_readNerve_91 (fun H locs hP hD hS => ?_)
              have hP : va_P D vwCl (teW ac q qt qs u22 ++ (txW ac qt tx ++ (shW ac qs u21))) H := hP
              have hD : va_D A (teW ac q qt qs u22 ++ (txW ac qt tx ++ (shW ac qs u21))) := hD
              refine lv_iconst (v := 1) hx hb dX5_readNerve_94 rfl ?_
              obtain rfl := Option.some.inj hf
              exact zr_Mz hx hb hr hlocks (z_b_n z_b1) hP hD hS dX5_readNerve_95
            refine lv_if_eq (tgt := 85) hx hb dX5_readNerve_76 (by decide) (fun c20 => ?_) (fun c20 => ?_)
            · skip
              refine lv_iload hx hb dX5_readNerve_85 (lv_at hl 0 rfl) ?_
              exact hj19 x15 (if_pos c20).symm _ _ ls hP hD hS (lv_sub hl [1] rfl)
            · skip
              refine lv_iload hx hb dX5_readNerve_79 (lv_at hl 0 rfl) ?_
              refine lv_ineg hx hb dX5_readNerve_81 ?_
              refine lv_goto (tgt := 87) hx hb dX5_readNerve_82 (by decide) ?_
              exact hj19 (-x15) (if_neg c20).symm _ _ ls hP hD hS (lv_sub hl [1] rfl)
          · have hf := z_n c16 hf
            refine lv_iconst (v := 0) hx hb dX5_readNerve_67 rfl ?_
            obtain rfl := Option.some.inj hf
            exact zr_Mz hx hb hr hlocks (z_b_n z_b0) hP hD hS dX5_readNerve_68
        refine lv_if_eq (tgt := 55) hx hb dX5_readNerve_48 (by decide) (fun c23 => ?_) (fun c23 => ?_)
        · have hf := z_p c23 hf
          exact hj14 u10 hf _ _ ls  hP hD hS (lv_sub hl [1, 2, 3, 0] rfl)
        · have hf := z_n c23 hf
          refine lv_aload_n hx hb dX5_readNerve_51 rfl (lv_at hl 1 rfl) ?_
          obtain ⟨u24, hu24, hf⟩ := z_bd_u hf
          refine zc_MVv (As := []) (rest := []) (wr := []) (wsc := teW ac q qt qs u10 ++ (txW ac qt tx ++ (shW ac qs sh))) (wsc' := teW ac q qt qs u24 ++ (txW ac qt tx ++ (shW ac qs sh))) hx hb hml hown htw (ctX5_advance l D ac cs q qt qs H.size u10 tx sh    F u24 hu24) (g_V mM_RX5_39 mI_yX5_advance mS_RX5_yX5_advance_yX5_advance mN_RX5 mC_yX5_advance) rfl (hd_yX5_advance) ⟨rfl, rfl⟩ ⟨(Nat.le_of_ble_eq_true rfl), (Nat.le_of_ble_eq_true rfl)⟩ hKX hC hS hA hP hD [0, 1, 2, 3, 4, 5, 6] [] rfl (by decide) rfl (by decide) (by decide) 5 rfl rfl rfl hl.1 rfl (Nat.le_of_ble_eq_true rfl) ⟨Nat.zero_le _, Nat.zero_le _⟩ dX5_readNerve_52 (fun H locs hP hD hS => ?_)
          have hP : va_P D vwCl (teW ac q qt qs u24 ++ (txW ac qt tx ++ (shW ac qs sh))) H := hP
          have hD : va_D A (teW ac q qt qs u24 ++ (txW ac qt tx ++ (shW ac qs sh))) := hD
          exact hj14 u24 hf _ _ ls  hP hD hS (lv_sub hl [1, 2, 3, 0] rfl)
      · have hf := z_p c9 hf
        refine lv_iconst (v := 0) hx hb dX5_readNerve_34 rfl ?_
        obtain rfl := Option.some.inj hf
        exact zr_Mz hx hb hr hlocks (z_b_n z_b0) hP hD hS dX5_readNerve_35
    refine lv_if_eq (tgt := 24) hx hb dX5_readNerve_17 (by decide) (fun c7 => ?_) (fun c7 => ?_)
    · skip
      refine lv_iconst (v := 0) hx hb dX5_readNerve_24 rfl ?_
      exact hj6 0 (if_pos c7).symm _ _ ls hP hD hS (lv_sub hl [1, 2, 0] rfl)
    · skip
      refine lv_iconst (v := 2) hx hb dX5_readNerve_20 rfl ?_
      refine lv_goto (tgt := 25) hx hb dX5_readNerve_21 (by decide) ?_
      exact hj6 2 (if_neg c7).symm _ _ ls hP hD hS (lv_sub hl [1, 2, 0] rfl)

theorem hd_yX5_readOrder : hdY yX5_readOrder 0 := by decide +kernel
def Te_readOrder (F : Nat) (te : Te) (tx : Tx) (sh : Sh) : Option (Int32 × Te × Sh) := z_bd (Te_advance F te tx) (fun u1 : Te => z_let (Te_digitOfToken u1 tx 3) (fun x2 : Int32 => if 0 ≤ x2 then (z_bd (Te_advance F u1 tx) (fun u4 : Te => some (1, u4, ((sh_shooters sh), x2, (sh_first sh), (sh_kicks sh), (sh_goalBits sh), (sh_sideBits sh), (sh_goalsOfA sh), (sh_goalsOfB sh), (sh_nerves sh), (sh_skills sh))))) else (some (0, u1, sh))))
set_option maxHeartbeats 4000000 in
set_option maxRecDepth 100000 in
theorem ctX5_readOrder (l : Launch) (D : va_G) (ac cs : Nat → Nat) (q : Nat → Nat) (qt : Nat → Nat) (qs : Nat → Nat) (sz : Nat) (te : Te) (tx : Tx) (sh : Sh) (F : Nat) (res : Int32 × Te × Sh) (hf : Te_readOrder F te tx sh = some res) : Met l yX5_readOrder (cWW yX5_readOrder cX5_readOrder 2 (some .boolean)) { frames := 2, cells := 0, slots := 0, locals := 43 } (zM D ac cs [.ref (q 0)] (teW ac q qt qs te ++ (txW ac qt tx ++ (shW ac qs sh))) sz) (va_Qi (fun r (_ : Unit) => r = res.1) (fun _ => zB D (va_A (teW ac q qt qs te ++ (txW ac qt tx ++ (shW ac qs sh))) sz) (teW ac q qt qs res.2.1 ++ (txW ac qt tx ++ (shW ac qs res.2.2)))) (va_A (teW ac q qt qs te ++ (txW ac qt tx ++ (shW ac qs sh))) sz)) 0 0 (va_A (teW ac q qt qs te ++ (txW ac qt tx ++ (shW ac qs sh))) sz) := by
  refine Met.ofW (cc := cX5_readOrder) (maxL := 2) (ret := (some .boolean)) (by decide) rfl ?_
  intro p e s m args below meth c s₁ B hml hv
  obtain ⟨rfl, hsz, hP, hKX, hD0, hC⟩ := hv
  have hx := B.exec
  have hb := B.bytes
  have hr := B.returns
  have hts := atoms_spec (ws := cWW yX5_readOrder cX5_readOrder 2 (some .boolean)) B.pre
  have htw : ∀ w ∈ WW, w.before _ s = true := fun w h => hts w (List.mem_cons_of_mem _ h)
  have hown : s.vm.findClass RX5 = some m.cls := findClass_of_methodNamed B.named
  have hlocks := B.notSynchronized
  clear hts B
  subst hsz
  have hD := hD0.self (sz := s.heap.size)
  generalize hAe : va_A (teW ac q qt qs te ++ (txW ac qt tx ++ (shW ac qs sh))) s.heap.size = A at hD hC ⊢
  have hA : ∀ q : Nat, s.heap.size ≤ q → A q := fun q h => by rw [← hAe]; exact Or.inr h
  have hS : va_S A s.heap s.heap [] := va_S.rf
  clear hD0 hAe
  have hP : va_P D vwCl (teW ac q qt qs te ++ (txW ac qt tx ++ (shW ac qs sh))) s.heap := hP
  have hl := lv_entry ([.ref (q 0)]) (n := 2) (Nat.le_of_ble_eq_true rfl)
  rw [lg_entry_eq]
  generalize (lg_sl ([.ref (q 0)]) ++ List.replicate (2 - (lg_sl ([.ref (q 0)])).length) Slot.unset).toArray = ls at hl ⊢
  have hl : lv_has ls 2 [(0, .ref (q 0))] := hl
  unfold Te_readOrder at hf
  show W p l e ({ frames := 2, cells := 0, slots := 0, locals := 43 } : Room) s m _ below meth c s.heap [] 0 0 _ (F0 m 0 ls [])
  refine lv_aload_n hx hb dX5_readOrder_0 rfl (lv_at hl 0 rfl) ?_
  obtain ⟨u1, hu1, hf⟩ := z_bd_u hf
  refine zc_MVv (As := []) (rest := []) (wr := []) (wsc := teW ac q qt qs te ++ (txW ac qt tx ++ (shW ac qs sh))) (wsc' := teW ac q qt qs u1 ++ (txW ac qt tx ++ (shW ac qs sh))) hx hb hml hown htw (ctX5_advance l D ac cs q qt qs s.heap.size te tx sh    F u1 hu1) (g_V mM_RX5_39 mI_yX5_advance mS_RX5_yX5_advance_yX5_advance mN_RX5 mC_yX5_advance) rfl (hd_yX5_advance) ⟨rfl, rfl⟩ ⟨(Nat.le_of_ble_eq_true rfl), (Nat.le_of_ble_eq_true rfl)⟩ hKX hC hS hA hP hD [0, 1, 2, 3, 4, 5, 6] [] rfl (by decide) rfl (by decide) (by decide) 5 rfl rfl rfl hl.1 rfl (Nat.le_of_ble_eq_true rfl) ⟨Nat.zero_le _, Nat.zero_le _⟩ dX5_readOrder_1 (fun H locs hP hD hS => ?_)
  have hP : va_P D vwCl (teW ac q qt qs u1 ++ (txW ac qt tx ++ (shW ac qs sh))) H := hP
  have hD : va_D A (teW ac q qt qs u1 ++ (txW ac qt tx ++ (shW ac qs sh))) := hD
  refine lv_aload_n hx hb dX5_readOrder_4 rfl (lv_at hl 0 rfl) ?_
  refine lv_iconst (v := 3) hx hb dX5_readOrder_5 rfl ?_
  refine zc_RVi (As := [.int 3]) (rest := []) hx hb hml hown htw (ctX5_digitOfToken l D ac cs q qt qs u1 tx sh 3   _ rfl) (g_V mM_RX5_109 mI_yX5_digitOfToken mS_RX5_yX5_digitOfToken_yX5_digitOfToken mN_RX5 mC_yX5_digitOfToken) rfl (hd_yX5_digitOfToken) ⟨rfl, rfl⟩ ⟨(Nat.le_of_ble_eq_true rfl), (Nat.le_of_ble_eq_true rfl)⟩ hKX hC hS hP 5 rfl rfl rfl hl.1 rfl (Nat.le_of_ble_eq_true rfl) ⟨Nat.zero_le _, Nat.zero_le _⟩ dX5_readOrder_6 ?_
  refine lv_topi (fun x2 hx2 => ?_)
  have hf := z_let_u hx2 hf
  refine lv_istore_n (lv' := [(1, .int x2), (0, .ref (q 0))]) hx hb dX5_readOrder_9 rfl hl (Nat.le_of_ble_eq_true rfl) rfl (fun ls hl => ?_)
  refine lv_iload_n hx hb dX5_readOrder_10 rfl (lv_at hl 0 rfl) ?_
  refine lv_if_ge (tgt := 16) hx hb dX5_readOrder_11 (by decide) (fun c3 => ?_) (fun c3 => ?_)
  · have hf := z_p c3 hf
    refine lv_aload_n hx hb dX5_readOrder_16 rfl (lv_at hl 1 rfl) ?_
    refine va_get (D := D) (ci := 5) (v := .ref (qs 0)) (C := RX5) (T := TX5) (N := 6) hx hb htw WW_wsX50 hown hKX.1 hP 0 rfl rfl 2 (Nat.le_of_ble_eq_true rfl) (htw _ mF_RX5_25) (fun _ h9 => h9) rfl dX5_readOrder_17 ?_
    refine lv_iload_n hx hb dX5_readOrder_20 rfl (lv_at hl 0 rfl) ?_
    refine va_putN (D := D) (ci := 4) (v := .int x2) (ty := tyX4 1) (C := RX4) (T := TX4) (N := 10) hx hb htw WW_wsX40 tyX4 tyX4_ok nmX4 hown hKX.1 hP hD hS 4 rfl rfl 1 (Nat.le_of_ble_eq_true rfl) (va_Nw.use rfl (hKX.2 _ (List.mem_of_getElem? (i := 6) rfl))) (fun _ h9 => h9) rfl (tyX4_ok 1 (Nat.le_of_ble_eq_true rfl)) rfl rfl (Nat.le_of_ble_eq_true rfl) dX5_readOrder_21 (fun H locs hP hD hS => ?_)
    have hP : va_P D vwCl (teW ac q qt qs u1 ++ (txW ac qt tx ++ (shW ac qs ((sh_shooters sh), x2, (sh_first sh), (sh_kicks sh), (sh_goalBits sh), (sh_sideBits sh), (sh_goalsOfA sh), (sh_goalsOfB sh), (sh_nerves sh), (sh_skills sh))))) H := hP
    have hD : va_D A (teW ac q qt qs u1 ++ (txW ac qt tx ++ (shW ac qs ((sh_shooters sh), x2, (sh_first sh), (sh_kicks sh), (sh_goalBits sh), (sh_sideBits sh), (sh_goalsOfA sh), (sh_goalsOfB sh), (sh_nerves sh), (sh_skills sh))))) := hD
    refine lv_aload_n hx hb dX5_readOrder_24 rfl (lv_at hl 1 rfl) ?_
    obtain ⟨u4, hu4, hf⟩ := z_bd_u hf
    refine zc_MVv (As := []) (rest := []) (wr := []) (wsc := teW ac q qt qs u1 ++ (txW ac qt tx ++ (shW ac qs ((sh_shooters sh), x2, (sh_first sh), (sh_kicks sh), (sh_goalBits sh), (sh_sideBits sh), (sh_goalsOfA sh), (sh_goalsOfB sh), (sh_nerves sh), (sh_skills sh))))) (wsc' := teW ac q qt qs u4 ++ (txW ac qt tx ++ (shW ac qs ((sh_shooters sh), x2, (sh_first sh), (sh_kicks sh), (sh_goalBits sh), (sh_sideBits sh), (sh_goalsOfA sh), (sh_goalsOfB sh), (sh_nerves sh), (sh_skills sh))))) hx hb hml hown htw (ctX5_advance l D ac cs q qt qs H.size u1 tx ((sh_shooters sh), x2, (sh_first sh), (sh_kicks sh), (sh_goalBits sh), (sh_sideBits sh), (sh_goalsOfA sh), (sh_goalsOfB sh), (sh_nerves sh), (sh_skills sh))    F u4 hu4) (g_V mM_RX5_39 mI_yX5_advance mS_RX5_yX5_advance_yX5_advance mN_RX5 mC_yX5_advance) rfl (hd_yX5_advance) ⟨rfl, rfl⟩ ⟨(Nat.le_of_ble_eq_true rfl), (Nat.le_of_ble_eq_true rfl)⟩ hKX hC hS hA hP hD [0, 1, 2, 3, 4, 5, 6] [] rfl (by decide) rfl (by decide) (by decide) 5 rfl rfl rfl hl.1 rfl (Nat.le_of_ble_eq_true rfl) ⟨Nat.zero_le _, Nat.zero_le _⟩ dX5_readOrder_25 (fun H locs hP hD hS => ?_)
    have hP : va_P D vwCl (teW ac q qt qs u4 ++ (txW ac qt tx ++ (shW ac qs ((sh_shooters sh), x2, (sh_first sh), (sh_kicks sh), (sh_goalBits sh), (sh_sideBits sh), (sh_goalsOfA sh), (sh_goalsOfB sh), (sh_nerves sh), (sh_skills sh))))) H := hP
    have hD : va_D A (teW ac q qt qs u4 ++ (txW ac qt tx ++ (shW ac qs ((sh_shooters sh), x2, (sh_first sh), (sh_kicks sh), (sh_goalBits sh), (sh_sideBits sh), (sh_goalsOfA sh), (sh_goalsOfB sh), (sh_nerves sh), (sh_skills sh))))) := hD
    refine lv_iconst (v := 1) hx hb dX5_readOrder_28 rfl ?_
    obtain rfl := Option.some.inj hf
    exact zr_Mz hx hb hr hlocks (z_b_n z_b1) hP hD hS dX5_readOrder_29
  · have hf := z_n c3 hf
    refine lv_iconst (v := 0) hx hb dX5_readOrder_14 rfl ?_
    obtain rfl := Option.some.inj hf
    exact zr_Mz hx hb hr hlocks (z_b_n z_b0) hP hD hS dX5_readOrder_15

theorem hd_yX5_readFirst : hdY yX5_readFirst 0 := by decide +kernel
def Te_readFirst (F : Nat) (te : Te) (tx : Tx) (sh : Sh) : Option (Int32 × Te × Sh) := z_bd (Te_advance F te tx) (fun u1 : Te => z_bd (Te_sideOfToken F u1 tx) (fun r2 : Int32 => if 0 ≤ r2 then (z_bd (Te_advance F u1 tx) (fun u4 : Te => some (1, u4, ((sh_shooters sh), (sh_order sh), r2, (sh_kicks sh), (sh_goalBits sh), (sh_sideBits sh), (sh_goalsOfA sh), (sh_goalsOfB sh), (sh_nerves sh), (sh_skills sh))))) else (some (0, u1, sh))))
set_option maxHeartbeats 4000000 in
set_option maxRecDepth 100000 in
theorem ctX5_readFirst (l : Launch) (D : va_G) (ac cs : Nat → Nat) (q : Nat → Nat) (qt : Nat → Nat) (qs : Nat → Nat) (sz : Nat) (te : Te) (tx : Tx) (sh : Sh) (F : Nat) (res : Int32 × Te × Sh) (hf : Te_readFirst F te tx sh = some res) : Met l yX5_readFirst (cWW yX5_readFirst cX5_readFirst 2 (some .boolean)) { frames := 6, cells := 0, slots := 0, locals := 127 } (zM D ac cs [.ref (q 0)] (teW ac q qt qs te ++ (txW ac qt tx ++ (shW ac qs sh))) sz) (va_Qi (fun r (_ : Unit) => r = res.1) (fun _ => zB D (va_A (teW ac q qt qs te ++ (txW ac qt tx ++ (shW ac qs sh))) sz) (teW ac q qt qs res.2.1 ++ (txW ac qt tx ++ (shW ac qs res.2.2)))) (va_A (teW ac q qt qs te ++ (txW ac qt tx ++ (shW ac qs sh))) sz)) 0 0 (va_A (teW ac q qt qs te ++ (txW ac qt tx ++ (shW ac qs sh))) sz) := by
  refine Met.ofW (cc := cX5_readFirst) (maxL := 2) (ret := (some .boolean)) (by decide) rfl ?_
  intro p e s m args below meth c s₁ B hml hv
  obtain ⟨rfl, hsz, hP, hKX, hD0, hC⟩ := hv
  have hx := B.exec
  have hb := B.bytes
  have hr := B.returns
  have hts := atoms_spec (ws := cWW yX5_readFirst cX5_readFirst 2 (some .boolean)) B.pre
  have htw : ∀ w ∈ WW, w.before _ s = true := fun w h => hts w (List.mem_cons_of_mem _ h)
  have hown : s.vm.findClass RX5 = some m.cls := findClass_of_methodNamed B.named
  have hlocks := B.notSynchronized
  clear hts B
  subst hsz
  have hD := hD0.self (sz := s.heap.size)
  generalize hAe : va_A (teW ac q qt qs te ++ (txW ac qt tx ++ (shW ac qs sh))) s.heap.size = A at hD hC ⊢
  have hA : ∀ q : Nat, s.heap.size ≤ q → A q := fun q h => by rw [← hAe]; exact Or.inr h
  have hS : va_S A s.heap s.heap [] := va_S.rf
  clear hD0 hAe
  have hP : va_P D vwCl (teW ac q qt qs te ++ (txW ac qt tx ++ (shW ac qs sh))) s.heap := hP
  have hl := lv_entry ([.ref (q 0)]) (n := 2) (Nat.le_of_ble_eq_true rfl)
  rw [lg_entry_eq]
  generalize (lg_sl ([.ref (q 0)]) ++ List.replicate (2 - (lg_sl ([.ref (q 0)])).length) Slot.unset).toArray = ls at hl ⊢
  have hl : lv_has ls 2 [(0, .ref (q 0))] := hl
  unfold Te_readFirst at hf
  show W p l e ({ frames := 6, cells := 0, slots := 0, locals := 127 } : Room) s m _ below meth c s.heap [] 0 0 _ (F0 m 0 ls [])
  refine lv_aload_n hx hb dX5_readFirst_0 rfl (lv_at hl 0 rfl) ?_
  obtain ⟨u1, hu1, hf⟩ := z_bd_u hf
  refine zc_MVv (As := []) (rest := []) (wr := []) (wsc := teW ac q qt qs te ++ (txW ac qt tx ++ (shW ac qs sh))) (wsc' := teW ac q qt qs u1 ++ (txW ac qt tx ++ (shW ac qs sh))) hx hb hml hown htw (ctX5_advance l D ac cs q qt qs s.heap.size te tx sh    F u1 hu1) (g_V mM_RX5_39 mI_yX5_advance mS_RX5_yX5_advance_yX5_advance mN_RX5 mC_yX5_advance) rfl (hd_yX5_advance) ⟨rfl, rfl⟩ ⟨(Nat.le_of_ble_eq_true rfl), (Nat.le_of_ble_eq_true rfl)⟩ hKX hC hS hA hP hD [0, 1, 2, 3, 4, 5, 6] [] rfl (by decide) rfl (by decide) (by decide) 5 rfl rfl rfl hl.1 rfl (Nat.le_of_ble_eq_true rfl) ⟨Nat.zero_le _, Nat.zero_le _⟩ dX5_readFirst_1 (fun H locs hP hD hS => ?_)
  have hP : va_P D vwCl (teW ac q qt qs u1 ++ (txW ac qt tx ++ (shW ac qs sh))) H := hP
  have hD : va_D A (teW ac q qt qs u1 ++ (txW ac qt tx ++ (shW ac qs sh))) := hD
  refine lv_aload_n hx hb dX5_readFirst_4 rfl (lv_at hl 0 rfl) ?_
  obtain ⟨r2, hr2, hf⟩ := z_bd_u hf
  refine zc_RVi (As := []) (rest := []) hx hb hml hown htw (ctX5_sideOfToken l D ac cs q qt qs u1 tx sh    F _ hr2) (g_V mM_RX5_77 mI_yX5_sideOfToken mS_RX5_yX5_sideOfToken_yX5_sideOfToken mN_RX5 mC_yX5_sideOfToken) rfl (hd_yX5_sideOfToken) ⟨rfl, rfl⟩ ⟨(Nat.le_of_ble_eq_true rfl), (Nat.le_of_ble_eq_true rfl)⟩ hKX hC hS hP 5 rfl rfl rfl hl.1 rfl (Nat.le_of_ble_eq_true rfl) ⟨Nat.zero_le _, Nat.zero_le _⟩ dX5_readFirst_5 ?_
  refine lv_istore_n (lv' := [(1, .int r2), (0, .ref (q 0))]) hx hb dX5_readFirst_8 rfl hl (Nat.le_of_ble_eq_true rfl) rfl (fun ls hl => ?_)
  refine lv_iload_n hx hb dX5_readFirst_9 rfl (lv_at hl 0 rfl) ?_
  refine lv_if_ge (tgt := 15) hx hb dX5_readFirst_10 (by decide) (fun c3 => ?_) (fun c3 => ?_)
  · have hf := z_p c3 hf
    refine lv_aload_n hx hb dX5_readFirst_15 rfl (lv_at hl 1 rfl) ?_
    refine va_get (D := D) (ci := 5) (v := .ref (qs 0)) (C := RX5) (T := TX5) (N := 6) hx hb htw WW_wsX50 hown hKX.1 hP 0 rfl rfl 2 (Nat.le_of_ble_eq_true rfl) (htw _ mF_RX5_25) (fun _ h9 => h9) rfl dX5_readFirst_16 ?_
    refine lv_iload_n hx hb dX5_readFirst_19 rfl (lv_at hl 0 rfl) ?_
    refine va_putN (D := D) (ci := 4) (v := .int r2) (ty := tyX4 2) (C := RX4) (T := TX4) (N := 10) hx hb htw WW_wsX40 tyX4 tyX4_ok nmX4 hown hKX.1 hP hD hS 4 rfl rfl 2 (Nat.le_of_ble_eq_true rfl) (va_Nw.use rfl (hKX.2 _ (List.mem_of_getElem? (i := 9) rfl))) (fun _ h9 => h9) rfl (tyX4_ok 2 (Nat.le_of_ble_eq_true rfl)) rfl rfl (Nat.le_of_ble_eq_true rfl) dX5_readFirst_20 (fun H locs hP hD hS => ?_)
    have hP : va_P D vwCl (teW ac q qt qs u1 ++ (txW ac qt tx ++ (shW ac qs ((sh_shooters sh), (sh_order sh), r2, (sh_kicks sh), (sh_goalBits sh), (sh_sideBits sh), (sh_goalsOfA sh), (sh_goalsOfB sh), (sh_nerves sh), (sh_skills sh))))) H := hP
    have hD : va_D A (teW ac q qt qs u1 ++ (txW ac qt tx ++ (shW ac qs ((sh_shooters sh), (sh_order sh), r2, (sh_kicks sh), (sh_goalBits sh), (sh_sideBits sh), (sh_goalsOfA sh), (sh_goalsOfB sh), (sh_nerves sh), (sh_skills sh))))) := hD
    refine lv_aload_n hx hb dX5_readFirst_23 rfl (lv_at hl 1 rfl) ?_
    obtain ⟨u4, hu4, hf⟩ := z_bd_u hf
    refine zc_MVv (As := []) (rest := []) (wr := []) (wsc := teW ac q qt qs u1 ++ (txW ac qt tx ++ (shW ac qs ((sh_shooters sh), (sh_order sh), r2, (sh_kicks sh), (sh_goalBits sh), (sh_sideBits sh), (sh_goalsOfA sh), (sh_goalsOfB sh), (sh_nerves sh), (sh_skills sh))))) (wsc' := teW ac q qt qs u4 ++ (txW ac qt tx ++ (shW ac qs ((sh_shooters sh), (sh_order sh), r2, (sh_kicks sh), (sh_goalBits sh), (sh_sideBits sh), (sh_goalsOfA sh), (sh_goalsOfB sh), (sh_nerves sh), (sh_skills sh))))) hx hb hml hown htw (ctX5_advance l D ac cs q qt qs H.size u1 tx ((sh_shooters sh), (sh_order sh), r2, (sh_kicks sh), (sh_goalBits sh), (sh_sideBits sh), (sh_goalsOfA sh), (sh_goalsOfB sh), (sh_nerves sh), (sh_skills sh))    F u4 hu4) (g_V mM_RX5_39 mI_yX5_advance mS_RX5_yX5_advance_yX5_advance mN_RX5 mC_yX5_advance) rfl (hd_yX5_advance) ⟨rfl, rfl⟩ ⟨(Nat.le_of_ble_eq_true rfl), (Nat.le_of_ble_eq_true rfl)⟩ hKX hC hS hA hP hD [0, 1, 2, 3, 4, 5, 6] [] rfl (by decide) rfl (by decide) (by decide) 5 rfl rfl rfl hl.1 rfl (Nat.le_of_ble_eq_true rfl) ⟨Nat.zero_le _, Nat.zero_le _⟩ dX5_readFirst_24 (fun H locs hP hD hS => ?_)
    have hP : va_P D vwCl (teW ac q qt qs u4 ++ (txW ac qt tx ++ (shW ac qs ((sh_shooters sh), (sh_order sh), r2, (sh_kicks sh), (sh_goalBits sh), (sh_sideBits sh), (sh_goalsOfA sh), (sh_goalsOfB sh), (sh_nerves sh), (sh_skills sh))))) H := hP
    have hD : va_D A (teW ac q qt qs u4 ++ (txW ac qt tx ++ (shW ac qs ((sh_shooters sh), (sh_order sh), r2, (sh_kicks sh), (sh_goalBits sh), (sh_sideBits sh), (sh_goalsOfA sh), (sh_goalsOfB sh), (sh_nerves sh), (sh_skills sh))))) := hD
    refine lv_iconst (v := 1) hx hb dX5_readFirst_27 rfl ?_
    obtain rfl := Option.some.inj hf
    exact zr_Mz hx hb hr hlocks (z_b_n z_b1) hP hD hS dX5_readFirst_28
  · have hf := z_n c3 hf
    refine lv_iconst (v := 0) hx hb dX5_readFirst_13 rfl ?_
    obtain rfl := Option.some.inj hf
    exact zr_Mz hx hb hr hlocks (z_b_n z_b0) hP hD hS dX5_readFirst_14

theorem hd_yX5_readLine : hdY yX5_readLine 0 := by decide +kernel
def Te_readLine (F : Nat) (te : Te) (tx : Tx) (sh : Sh) : Option (Int32 × Te × Sh) := z_bd (Te_sideOfToken F te tx) (fun r1 : Int32 => if r1 < 0 then (z_bd (Te_isToken F te tx 2) (fun r3 : Int32 => if r3 = 0 then (z_bd (Te_isToken F te tx 4) (fun r5 : Int32 => if r5 = 0 then (z_bd (Te_isToken F te tx 5) (fun r7 : Int32 => if r7 = 0 then (z_bd (Te_isToken F te tx 6) (fun r9 : Int32 => if r9 = 0 then (some (0, te, sh)) else (z_let (Te_markTold te 8) (fun u11 : Int32 × Te => if u11.1 = 0 then (some (0, u11.2, sh)) else (z_bd (Te_readFirst F u11.2 tx sh) (fun u13 : Int32 × Te × Sh => if u13.1 = 0 then (some (0, u13.2.1, u13.2.2)) else (some (1, u13.2.1, u13.2.2)))))))) else (z_let (Te_markTold te 4) (fun u15 : Int32 × Te => if u15.1 = 0 then (some (0, u15.2, sh)) else (z_bd (Te_readOrder F u15.2 tx sh) (fun u17 : Int32 × Te × Sh => if u17.1 = 0 then (some (0, u17.2.1, u17.2.2)) else (some (1, u17.2.1, u17.2.2)))))))) else (z_bd (Te_readNerve F te tx sh 1) (fun u19 : Int32 × Te × Sh => z_gd (z_b u19.1) (some (u19.1, u19.2.1, u19.2.2)))))) else (z_bd (Te_readNerve F te tx sh 0) (fun u21 : Int32 × Te × Sh => z_gd (z_b u21.1) (some (u21.1, u21.2.1, u21.2.2)))))) else (z_let (Te_markTold te (1 <<< (r1 &&& 31))) (fun u23 : Int32 × Te => if u23.1 = 0 then (some (0, u23.2, sh)) else (z_bd (Te_readSkills F u23.2 tx sh r1) (fun u25 : Int32 × Te × Sh => if u25.1 = 0 then (some (0, u25.2.1, u25.2.2)) else (some (1, u25.2.1, u25.2.2)))))))
set_option maxHeartbeats 4000000 in
set_option maxRecDepth 100000 in
theorem ctX5_readLine (l : Launch) (D : va_G) (ac cs : Nat → Nat) (q : Nat → Nat) (qt : Nat → Nat) (qs : Nat → Nat) (sz : Nat) (te : Te) (tx : Tx) (sh : Sh) (F : Nat) (res : Int32 × Te × Sh) (hf : Te_readLine F te tx sh = some res) : Met l yX5_readLine (cWW yX5_readLine cX5_readLine 2 (some .boolean)) { frames := 7, cells := 0, slots := 0, locals := 151 } (zM D ac cs [.ref (q 0)] (teW ac q qt qs te ++ (txW ac qt tx ++ (shW ac qs sh))) sz) (va_Qi (fun r (_ : Unit) => r = res.1) (fun _ => zB D (va_A (teW ac q qt qs te ++ (txW ac qt tx ++ (shW ac qs sh))) sz) (teW ac q qt qs res.2.1 ++ (txW ac qt tx ++ (shW ac qs res.2.2)))) (va_A (teW ac q qt qs te ++ (txW ac qt tx ++ (shW ac qs sh))) sz)) 0 0 (va_A (teW ac q qt qs te ++ (txW ac qt tx ++ (shW ac qs sh))) sz) := by
  refine Met.ofW (cc := cX5_readLine) (maxL := 2) (ret := (some .boolean)) (by decide) rfl ?_
  intro p e s m args below meth c s₁ B hml hv
  obtain ⟨rfl, hsz, hP, hKX, hD0, hC⟩ := hv
  have hx := B.exec
  have hb := B.bytes
  have hr := B.returns
  have hts := atoms_spec (ws := cWW yX5_readLine cX5_readLine 2 (some .boolean)) B.pre
  have htw : ∀ w ∈ WW, w.before _ s = true := fun w h => hts w (List.mem_cons_of_mem _ h)
  have hown : s.vm.findClass RX5 = some m.cls := findClass_of_methodNamed B.named
  have hlocks := B.notSynchronized
  clear hts B
  subst hsz
  have hD := hD0.self (sz := s.heap.size)
  generalize hAe : va_A (teW ac q qt qs te ++ (txW ac qt tx ++ (shW ac qs sh))) s.heap.size = A at hD hC ⊢
  have hA : ∀ q : Nat, s.heap.size ≤ q → A q := fun q h => by rw [← hAe]; exact Or.inr h
  have hS : va_S A s.heap s.heap [] := va_S.rf
  clear hD0 hAe
  have hP : va_P D vwCl (teW ac q qt qs te ++ (txW ac qt tx ++ (shW ac qs sh))) s.heap := hP
  have hl := lv_entry ([.ref (q 0)]) (n := 2) (Nat.le_of_ble_eq_true rfl)
  rw [lg_entry_eq]
  generalize (lg_sl ([.ref (q 0)]) ++ List.replicate (2 - (lg_sl ([.ref (q 0)])).length) Slot.unset).toArray = ls at hl ⊢
  have hl : lv_has ls 2 [(0, .ref (q 0))] := hl
  unfold Te_readLine at hf
  show W p l e ({ frames := 7, cells := 0, slots := 0, locals := 151 } : Room) s m _ below meth c s.heap [] 0 0 _ (F0 m 0 ls [])
  refine lv_aload_n hx hb dX5_readLine_0 rfl (lv_at hl 0 rfl) ?_
  obtain ⟨r1, hr1, hf⟩ := z_bd_u hf
  refine zc_RVi (As := []) (rest := []) hx hb hml hown htw (ctX5_sideOfToken l D ac cs q qt qs te tx sh    F _ hr1) (g_V mM_RX5_77 mI_yX5_sideOfToken mS_RX5_yX5_sideOfToken_yX5_sideOfToken mN_RX5 mC_yX5_sideOfToken) rfl (hd_yX5_sideOfToken) ⟨rfl, rfl⟩ ⟨(Nat.le_of_ble_eq_true rfl), (Nat.le_of_ble_eq_true rfl)⟩ hKX hC hS hP 5 rfl rfl rfl hl.1 rfl (Nat.le_of_ble_eq_true rfl) ⟨Nat.zero_le _, Nat.zero_le _⟩ dX5_readLine_1 ?_
  refine lv_istore_n (lv' := [(1, .int r1), (0, .ref (q 0))]) hx hb dX5_readLine_4 rfl hl (Nat.le_of_ble_eq_true rfl) rfl (fun ls hl => ?_)
  refine lv_iload_n hx hb dX5_readLine_5 rfl (lv_at hl 0 rfl) ?_
  refine lv_if_lt (tgt := 33) hx hb dX5_readLine_6 (by decide) (fun c2 => ?_) (fun c2 => ?_)
  · have hf := z_p c2 hf
    refine lv_aload_n hx hb dX5_readLine_33 rfl (lv_at hl 1 rfl) ?_
    refine va_ldcS hx hb hown (sr_2 hC) dX5_readLine_34 ?_
    obtain ⟨r3, hr3, hf⟩ := z_bd_u hf
    refine zc_RVi (As := [.ref (cs (10 + 2))]) (rest := []) hx hb hml hown htw (ctX5_isToken l D ac cs q qt qs te tx sh 2  (by decide) F _ hr3) (g_V mM_RX5_54 mI_yX5_isToken mS_RX5_yX5_isToken_yX5_isToken mN_RX5 mC_yX5_isToken) rfl (hd_yX5_isToken) ⟨rfl, rfl⟩ ⟨(Nat.le_of_ble_eq_true rfl), (Nat.le_of_ble_eq_true rfl)⟩ hKX hC hS hP 5 rfl rfl rfl hl.1 rfl (Nat.le_of_ble_eq_true rfl) ⟨Nat.zero_le _, Nat.zero_le _⟩ dX5_readLine_36 ?_
    refine lv_if_eq (tgt := 48) hx hb dX5_readLine_39 (by decide) (fun c4 => ?_) (fun c4 => ?_)
    · have hf := z_p c4 hf
      refine lv_aload_n hx hb dX5_readLine_48 rfl (lv_at hl 1 rfl) ?_
      refine va_ldcS hx hb hown (sr_4 hC) dX5_readLine_49 ?_
      obtain ⟨r5, hr5, hf⟩ := z_bd_u hf
      refine zc_RVi (As := [.ref (cs (10 + 4))]) (rest := []) hx hb hml hown htw (ctX5_isToken l D ac cs q qt qs te tx sh 4  (by decide) F _ hr5) (g_V mM_RX5_54 mI_yX5_isToken mS_RX5_yX5_isToken_yX5_isToken mN_RX5 mC_yX5_isToken) rfl (hd_yX5_isToken) ⟨rfl, rfl⟩ ⟨(Nat.le_of_ble_eq_true rfl), (Nat.le_of_ble_eq_true rfl)⟩ hKX hC hS hP 5 rfl rfl rfl hl.1 rfl (Nat.le_of_ble_eq_true rfl) ⟨Nat.zero_le _, Nat.zero_le _⟩ dX5_readLine_51 ?_
      refine lv_if_eq (tgt := 63) hx hb dX5_readLine_54 (by decide) (fun c6 => ?_) (fun c6 => ?_)
      · have hf := z_p c6 hf
        refine lv_aload_n hx hb dX5_readLine_63 rfl (lv_at hl 1 rfl) ?_
        refine va_ldcS hx hb hown (sr_5 hC) dX5_readLine_64 ?_
        obtain ⟨r7, hr7, hf⟩ := z_bd_u hf
        refine zc_RVi (As := [.ref (cs (10 + 5))]) (rest := []) hx hb hml hown htw (ctX5_isToken l D ac cs q qt qs te tx sh 5  (by decide) F _ hr7) (g_V mM_RX5_54 mI_yX5_isToken mS_RX5_yX5_isToken_yX5_isToken mN_RX5 mC_yX5_isToken) rfl (hd_yX5_isToken) ⟨rfl, rfl⟩ ⟨(Nat.le_of_ble_eq_true rfl), (Nat.le_of_ble_eq_true rfl)⟩ hKX hC hS hP 5 rfl rfl rfl hl.1 rfl (Nat.le_of_ble_eq_true rfl) ⟨Nat.zero_le _, Nat.zero_le _⟩ dX5_readLine_66 ?_
        refine lv_if_eq (tgt := 93) hx hb dX5_readLine_69 (by decide) (fun c8 => ?_) (fun c8 => ?_)
        · have hf := z_p c8 hf
          refine lv_aload_n hx hb dX5_readLine_93 rfl (lv_at hl 1 rfl) ?_
          refine va_ldcS hx hb hown (sr_6 hC) dX5_readLine_94 ?_
          obtain ⟨r9, hr9, hf⟩ := z_bd_u hf
          refine zc_RVi (As := [.ref (cs (10 + 6))]) (rest := []) hx hb hml hown htw (ctX5_isToken l D ac cs q qt qs te tx sh 6  (by decide) F _ hr9) (g_V mM_RX5_54 mI_yX5_isToken mS_RX5_yX5_isToken_yX5_isToken mN_RX5 mC_yX5_isToken) rfl (hd_yX5_isToken) ⟨rfl, rfl⟩ ⟨(Nat.le_of_ble_eq_true rfl), (Nat.le_of_ble_eq_true rfl)⟩ hKX hC hS hP 5 rfl rfl rfl hl.1 rfl (Nat.le_of_ble_eq_true rfl) ⟨Nat.zero_le _, Nat.zero_le _⟩ dX5_readLine_96 ?_
          refine lv_if_eq (tgt := 122) hx hb dX5_readLine_99 (by decide) (fun c10 => ?_) (fun c10 => ?_)
          · have hf := z_p c10 hf
            refine lv_iconst (v := 0) hx hb dX5_readLine_122 rfl ?_
            obtain rfl := Option.some.inj hf
            exact zr_Mz hx hb hr hlocks (z_b_n z_b0) hP hD hS dX5_readLine_123
          · have hf := z_n c10 hf
            refine lv_aload_n hx hb dX5_readLine_102 rfl (lv_at hl 1 rfl) ?_
            refine lv_bipush (v := 8) hx hb dX5_readLine_103 rfl ?_
            obtain ⟨u11, hu11⟩ : ∃ y : Int32 × Te, y = Te_markTold te 8 := ⟨_, rfl⟩
            have hf := z_let_u hu11 hf
            refine zc_MVi (As := [.int 8]) (rest := []) (wr := []) (wsc := teW ac q qt qs te ++ (txW ac qt tx ++ (shW ac qs sh))) (wsc' := teW ac q qt qs u11.2 ++ (txW ac qt tx ++ (shW ac qs sh))) hx hb hml hown htw (ctX5_markTold l D ac cs q qt qs s.heap.size te tx sh 8   u11 hu11.symm) (g_V mM_RX5_80 mI_yX5_markTold mS_RX5_yX5_markTold_yX5_markTold mN_RX5 mC_yX5_markTold) rfl (hd_yX5_markTold) ⟨rfl, rfl⟩ ⟨(Nat.le_of_ble_eq_true rfl), (Nat.le_of_ble_eq_true rfl)⟩ hKX hC hS hA hP hD [0, 1, 2, 3, 4, 5, 6] [] rfl (by decide) rfl (by decide) (by decide) 5 rfl rfl rfl hl.1 rfl (Nat.le_of_ble_eq_true rfl) ⟨Nat.zero_le _, Nat.zero_le _⟩ dX5_readLine_105 (fun H locs hP hD hS => ?_)
            have hP : va_P D vwCl (teW ac q qt qs u11.2 ++ (txW ac qt tx ++ (shW ac qs sh))) H := hP
            have hD : va_D A (teW ac q qt qs u11.2 ++ (txW ac qt tx ++ (shW ac qs sh))) := hD
            refine lv_if_eq (tgt := 122) hx hb dX5_readLine_108 (by decide) (fun c12 => ?_) (fun c12 => ?_)
            · have hf := z_p c12 hf
              refine lv_iconst (v := 0) hx hb dX5_readLine_122 rfl ?_
              obtain rfl := Option.some.inj hf
              exact zr_Mz hx hb hr hlocks (z_b_n z_b0) hP hD hS dX5_readLine_123
            · have hf := z_n c12 hf
              refine lv_aload_n hx hb dX5_readLine_111 rfl (lv_at hl 1 rfl) ?_
              obtain ⟨u13, hu13, hf⟩ := z_bd_u hf
              refine zc_MVi (As := []) (rest := []) (wr := []) (wsc := teW ac q qt qs u11.2 ++ (txW ac qt tx ++ (shW ac qs sh))) (wsc' := teW ac q qt qs u13.2.1 ++ (txW ac qt tx ++ (shW ac qs u13.2.2))) hx hb hml hown htw (ctX5_readFirst l D ac cs q qt qs H.size u11.2 tx sh    F u13 hu13) (g_V mM_RX5_102 mI_yX5_readFirst mS_RX5_yX5_readFirst_yX5_readFirst mN_RX5 mC_yX5_readFirst) rfl (hd_yX5_readFirst) ⟨rfl, rfl⟩ ⟨(Nat.le_of_ble_eq_true rfl), (Nat.le_of_ble_eq_true rfl)⟩ hKX hC hS hA hP hD [0, 1, 2, 3, 4, 5, 6] [] rfl (by decide) rfl (by decide) (by decide) 5 rfl rfl rfl hl.1 rfl (Nat.le_of_ble_eq_true rfl) ⟨Nat.zero_le _, Nat.zero_le _⟩ dX5_readLine_112 (fun H locs hP hD hS => ?_)
              have hP : va_P D vwCl (teW ac q qt qs u13.2.1 ++ (txW ac qt tx ++ (shW ac qs u13.2.2))) H := hP
              have hD : va_D A (teW ac q qt qs u13.2.1 ++ (txW ac qt tx ++ (shW ac qs u13.2.2))) := hD
              refine lv_if_eq (tgt := 122) hx hb dX5_readLine_115 (by decide) (fun c14 => ?_) (fun c14 => ?_)
              · have hf := z_p c14 hf
                refine lv_iconst (v := 0) hx hb dX5_readLine_122 rfl ?_
                obtain rfl := Option.some.inj hf
                exact zr_Mz hx hb hr hlocks (z_b_n z_b0) hP hD hS dX5_readLine_123
              · have hf := z_n c14 hf
                refine lv_iconst (v := 1) hx hb dX5_readLine_118 rfl ?_
                refine lv_goto (tgt := 123) hx hb dX5_readLine_119 (by decide) ?_
                obtain rfl := Option.some.inj hf
                exact zr_Mz hx hb hr hlocks (z_b_n z_b1) hP hD hS dX5_readLine_123
        · have hf := z_n c8 hf
          refine lv_aload_n hx hb dX5_readLine_72 rfl (lv_at hl 1 rfl) ?_
          refine lv_iconst (v := 4) hx hb dX5_readLine_73 rfl ?_
          obtain ⟨u15, hu15⟩ : ∃ y : Int32 × Te, y = Te_markTold te 4 := ⟨_, rfl⟩
          have hf := z_let_u hu15 hf
          refine zc_MVi (As := [.int 4]) (rest := []) (wr := []) (wsc := teW ac q qt qs te ++ (txW ac qt tx ++ (shW ac qs sh))) (wsc' := teW ac q qt qs u15.2 ++ (txW ac qt tx ++ (shW ac qs sh))) hx hb hml hown htw (ctX5_markTold l D ac cs q qt qs s.heap.size te tx sh 4   u15 hu15.symm) (g_V mM_RX5_80 mI_yX5_markTold mS_RX5_yX5_markTold_yX5_markTold mN_RX5 mC_yX5_markTold) rfl (hd_yX5_markTold) ⟨rfl, rfl⟩ ⟨(Nat.le_of_ble_eq_true rfl), (Nat.le_of_ble_eq_true rfl)⟩ hKX hC hS hA hP hD [0, 1, 2, 3, 4, 5, 6] [] rfl (by decide) rfl (by decide) (by decide) 5 rfl rfl rfl hl.1 rfl (Nat.le_of_ble_eq_true rfl) ⟨Nat.zero_le _, Nat.zero_le _⟩ dX5_readLine_74 (fun H locs hP hD hS => ?_)
          have hP : va_P D vwCl (teW ac q qt qs u15.2 ++ (txW ac qt tx ++ (shW ac qs sh))) H := hP
          have hD : va_D A (teW ac q qt qs u15.2 ++ (txW ac qt tx ++ (shW ac qs sh))) := hD
          refine lv_if_eq (tgt := 91) hx hb dX5_readLine_77 (by decide) (fun c16 => ?_) (fun c16 => ?_)
          · have hf := z_p c16 hf
            refine lv_iconst (v := 0) hx hb dX5_readLine_91 rfl ?_
            obtain rfl := Option.some.inj hf
            exact zr_Mz hx hb hr hlocks (z_b_n z_b0) hP hD hS dX5_readLine_92
          · have hf := z_n c16 hf
            refine lv_aload_n hx hb dX5_readLine_80 rfl (lv_at hl 1 rfl) ?_
            obtain ⟨u17, hu17, hf⟩ := z_bd_u hf
            refine zc_MVi (As := []) (rest := []) (wr := []) (wsc := teW ac q qt qs u15.2 ++ (txW ac qt tx ++ (shW ac qs sh))) (wsc' := teW ac q qt qs u17.2.1 ++ (txW ac qt tx ++ (shW ac qs u17.2.2))) hx hb hml hown htw (ctX5_readOrder l D ac cs q qt qs H.size u15.2 tx sh    F u17 hu17) (g_V mM_RX5_97 mI_yX5_readOrder mS_RX5_yX5_readOrder_yX5_readOrder mN_RX5 mC_yX5_readOrder) rfl (hd_yX5_readOrder) ⟨rfl, rfl⟩ ⟨(Nat.le_of_ble_eq_true rfl), (Nat.le_of_ble_eq_true rfl)⟩ hKX hC hS hA hP hD [0, 1, 2, 3, 4, 5, 6] [] rfl (by decide) rfl (by decide) (by decide) 5 rfl rfl rfl hl.1 rfl (Nat.le_of_ble_eq_true rfl) ⟨Nat.zero_le _, Nat.zero_le _⟩ dX5_readLine_81 (fun H locs hP hD hS => ?_)
            have hP : va_P D vwCl (teW ac q qt qs u17.2.1 ++ (txW ac qt tx ++ (shW ac qs u17.2.2))) H := hP
            have hD : va_D A (teW ac q qt qs u17.2.1 ++ (txW ac qt tx ++ (shW ac qs u17.2.2))) := hD
            refine lv_if_eq (tgt := 91) hx hb dX5_readLine_84 (by decide) (fun c18 => ?_) (fun c18 => ?_)
            · have hf := z_p c18 hf
              refine lv_iconst (v := 0) hx hb dX5_readLine_91 rfl ?_
              obtain rfl := Option.some.inj hf
              exact zr_Mz hx hb hr hlocks (z_b_n z_b0) hP hD hS dX5_readLine_92
            · have hf := z_n c18 hf
              refine lv_iconst (v := 1) hx hb dX5_readLine_87 rfl ?_
              refine lv_goto (tgt := 92) hx hb dX5_readLine_88 (by decide) ?_
              obtain rfl := Option.some.inj hf
              exact zr_Mz hx hb hr hlocks (z_b_n z_b1) hP hD hS dX5_readLine_92
      · have hf := z_n c6 hf
        refine lv_aload_n hx hb dX5_readLine_57 rfl (lv_at hl 1 rfl) ?_
        refine lv_iconst (v := 1) hx hb dX5_readLine_58 rfl ?_
        obtain ⟨u19, hu19, hf⟩ := z_bd_u hf
        refine zc_MVi (As := [.int 1]) (rest := []) (wr := []) (wsc := teW ac q qt qs te ++ (txW ac qt tx ++ (shW ac qs sh))) (wsc' := teW ac q qt qs u19.2.1 ++ (txW ac qt tx ++ (shW ac qs u19.2.2))) hx hb hml hown htw (ctX5_readNerve l D ac cs q qt qs s.heap.size te tx sh 1   F u19 hu19) (g_V mM_RX5_89 mI_yX5_readNerve mS_RX5_yX5_readNerve_yX5_readNerve mN_RX5 mC_yX5_readNerve) rfl (hd_yX5_readNerve) ⟨rfl, rfl⟩ ⟨(Nat.le_of_ble_eq_true rfl), (Nat.le_of_ble_eq_true rfl)⟩ hKX hC hS hA hP hD [0, 1, 2, 3, 4, 5, 6] [] rfl (by decide) rfl (by decide) (by decide) 5 rfl rfl rfl hl.1 rfl (Nat.le_of_ble_eq_true rfl) ⟨Nat.zero_le _, Nat.zero_le _⟩ dX5_readLine_59 (fun H locs hP hD hS => ?_)
        have hP : va_P D vwCl (teW ac q qt qs u19.2.1 ++ (txW ac qt tx ++ (shW ac qs u19.2.2))) H := hP
        have hD : va_D A (teW ac q qt qs u19.2.1 ++ (txW ac qt tx ++ (shW ac qs u19.2.2))) := hD
        obtain ⟨g20, hf⟩ := z_gd_u hf
        obtain rfl := Option.some.inj hf
        exact zr_Mz hx hb hr hlocks (z_b_n g20) hP hD hS dX5_readLine_62
    · have hf := z_n c4 hf
      refine lv_aload_n hx hb dX5_readLine_42 rfl (lv_at hl 1 rfl) ?_
      refine lv_iconst (v := 0) hx hb dX5_readLine_43 rfl ?_
      obtain ⟨u21, hu21, hf⟩ := z_bd_u hf
      refine zc_MVi (As := [.int 0]) (rest := []) (wr := []) (wsc := teW ac q qt qs te ++ (txW ac qt tx ++ (shW ac qs sh))) (wsc' := teW ac q qt qs u21.2.1 ++ (txW ac qt tx ++ (shW ac qs u21.2.2))) hx hb hml hown htw (ctX5_readNerve l D ac cs q qt qs s.heap.size te tx sh 0   F u21 hu21) (g_V mM_RX5_89 mI_yX5_readNerve mS_RX5_yX5_readNerve_yX5_readNerve mN_RX5 mC_yX5_readNerve) rfl (hd_yX5_readNerve) ⟨rfl, rfl⟩ ⟨(Nat.le_of_ble_eq_true rfl), (Nat.le_of_ble_eq_true rfl)⟩ hKX hC hS hA hP hD [0, 1, 2, 3, 4, 5, 6] [] rfl (by decide) rfl (by decide) (by decide) 5 rfl rfl rfl hl.1 rfl (Nat.le_of_ble_eq_true rfl) ⟨Nat.zero_le _, Nat.zero_le _⟩ dX5_readLine_44 (fun H locs hP hD hS => ?_)
      have hP : va_P D vwCl (teW ac q qt qs u21.2.1 ++ (txW ac qt tx ++ (shW ac qs u21.2.2))) H := hP
      have hD : va_D A (teW ac q qt qs u21.2.1 ++ (txW ac qt tx ++ (shW ac qs u21.2.2))) := hD
      obtain ⟨g22, hf⟩ := z_gd_u hf
      obtain rfl := Option.some.inj hf
      exact zr_Mz hx hb hr hlocks (z_b_n g22) hP hD hS dX5_readLine_47
  · have hf := z_n c2 hf
    refine lv_aload_n hx hb dX5_readLine_9 rfl (lv_at hl 1 rfl) ?_
    refine lv_iconst (v := 1) hx hb dX5_readLine_10 rfl ?_
    refine lv_iload_n hx hb dX5_readLine_11 rfl (lv_at hl 0 rfl) ?_
    refine lv_ishl hx hb dX5_readLine_12 ?_
    obtain ⟨u23, hu23⟩ : ∃ y : Int32 × Te, y = Te_markTold te (1 <<< (r1 &&& 31)) := ⟨_, rfl⟩
    have hf := z_let_u hu23 hf
    refine zc_MVi (As := [.int (1 <<< (r1 &&& 31))]) (rest := []) (wr := []) (wsc := teW ac q qt qs te ++ (txW ac qt tx ++ (shW ac qs sh))) (wsc' := teW ac q qt qs u23.2 ++ (txW ac qt tx ++ (shW ac qs sh))) hx hb hml hown htw (ctX5_markTold l D ac cs q qt qs s.heap.size te tx sh (1 <<< (r1 &&& 31))   u23 hu23.symm) (g_V mM_RX5_80 mI_yX5_markTold mS_RX5_yX5_markTold_yX5_markTold mN_RX5 mC_yX5_markTold) rfl (hd_yX5_markTold) ⟨rfl, rfl⟩ ⟨(Nat.le_of_ble_eq_true rfl), (Nat.le_of_ble_eq_true rfl)⟩ hKX hC hS hA hP hD [0, 1, 2, 3, 4, 5, 6] [] rfl (by decide) rfl (by decide) (by decide) 5 rfl rfl rfl hl.1 rfl (Nat.le_of_ble_eq_true rfl) ⟨Nat.zero_le _, Nat.zero_le _⟩ dX5_readLine_13 (fun H locs hP hD hS => ?_)
    have hP : va_P D vwCl (teW ac q qt qs u23.2 ++ (txW ac qt tx ++ (shW ac qs sh))) H := hP
    have hD : va_D A (teW ac q qt qs u23.2 ++ (txW ac qt tx ++ (shW ac qs sh))) := hD
    refine lv_if_eq (tgt := 31) hx hb dX5_readLine_16 (by decide) (fun c24 => ?_) (fun c24 => ?_)
    · have hf := z_p c24 hf
      refine lv_iconst (v := 0) hx hb dX5_readLine_31 rfl ?_
      obtain rfl := Option.some.inj hf
      exact zr_Mz hx hb hr hlocks (z_b_n z_b0) hP hD hS dX5_readLine_32
    · have hf := z_n c24 hf
      refine lv_aload_n hx hb dX5_readLine_19 rfl (lv_at hl 1 rfl) ?_
      refine lv_iload_n hx hb dX5_readLine_20 rfl (lv_at hl 0 rfl) ?_
      obtain ⟨u25, hu25, hf⟩ := z_bd_u hf
      refine zc_MVi (As := [.int r1]) (rest := []) (wr := []) (wsc := teW ac q qt qs u23.2 ++ (txW ac qt tx ++ (shW ac qs sh))) (wsc' := teW ac q qt qs u25.2.1 ++ (txW ac qt tx ++ (shW ac qs u25.2.2))) hx hb hml hown htw (ctX5_readSkills l D ac cs q qt qs H.size u23.2 tx sh r1   F u25 hu25) (g_V mM_RX5_84 mI_yX5_readSkills mS_RX5_yX5_readSkills_yX5_readSkills mN_RX5 mC_yX5_readSkills) rfl (hd_yX5_readSkills) ⟨rfl, rfl⟩ ⟨(Nat.le_of_ble_eq_true rfl), (Nat.le_of_ble_eq_true rfl)⟩ hKX hC hS hA hP hD [0, 1, 2, 3, 4, 5, 6] [] rfl (by decide) rfl (by decide) (by decide) 5 rfl rfl rfl hl.1 rfl (Nat.le_of_ble_eq_true rfl) ⟨Nat.zero_le _, Nat.zero_le _⟩ dX5_readLine_21 (fun H locs hP hD hS => ?_)
      have hP : va_P D vwCl (teW ac q qt qs u25.2.1 ++ (txW ac qt tx ++ (shW ac qs u25.2.2))) H := hP
      have hD : va_D A (teW ac q qt qs u25.2.1 ++ (txW ac qt tx ++ (shW ac qs u25.2.2))) := hD
      refine lv_if_eq (tgt := 31) hx hb dX5_readLine_24 (by decide) (fun c26 => ?_) (fun c26 => ?_)
      · have hf := z_p c26 hf
        refine lv_iconst (v := 0) hx hb dX5_readLine_31 rfl ?_
        obtain rfl := Option.some.inj hf
        exact zr_Mz hx hb hr hlocks (z_b_n z_b0) hP hD hS dX5_readLine_32
      · have hf := z_n c26 hf
        refine lv_iconst (v := 1) hx hb dX5_readLine_27 rfl ?_
        refine lv_goto (tgt := 32) hx hb dX5_readLine_28 (by decide) ?_
        obtain rfl := Option.some.inj hf
        exact zr_Mz hx hb hr hlocks (z_b_n z_b1) hP hD hS dX5_readLine_32

theorem hd_yX5_readText : hdY yX5_readText 0 := by decide +kernel
def Te_readText_L37 (F : Nat) (tx : Tx) (kx9 : Te → Sh → Option (Int32 × Te × Sh)) (kx10 : Te → Sh → Option (Int32 × Te × Sh)) : Nat → Int32 → Te → Sh → Option (Int32 × Te × Sh)
  | 0, _, _, _ => none
  | n7 + 1, x3, te4, sh5 => if 200 < x3 then (kx9 te4 sh5) else (z_bd (Te_readLine F te4 tx sh5) (fun u16 : Int32 × Te × Sh => if u16.1 = 0 then (some ((te_start u16.2.1), u16.2.1, u16.2.2)) else (if (te_start u16.2.1) < (tx_length tx) then (z_bd (Te_isToken F u16.2.1 tx 7) (fun r19 : Int32 => if r19 = 0 then (some ((te_start u16.2.1), u16.2.1, u16.2.2)) else (z_bd (Te_advance F u16.2.1 tx) (fun u21 : Te => z_let (x3 + 1) (fun x22 : Int32 => Te_readText_L37 F tx kx9 kx10 n7 x22 u21 u16.2.2))))) else (kx10 u16.2.1 u16.2.2))))
def Te_readText (F : Nat) (te : Te) (tx : Tx) (sh : Sh) : Option (Int32 × Te × Sh) := z_bd (Sh_forgetAll F sh) (fun u1 : Sh => z_bd (Te_advance F ((upd (upd (te_counts te) 0 0) 1 0), (te_start te), 0, 0) tx) (fun u2 : Te => Te_readText_L37 F tx (fun (te11 : Te) (sh12 : Sh) => if ((te_counts te11) 0) = 0 then (some ((tx_length tx), te11, sh12)) else (if ((te_counts te11) 0) = ((te_counts te11) 1) then (z_let ((te_counts te11) 0) (fun x25 : Int32 => some ((-1), te11, (x25, (sh_order sh12), (sh_first sh12), (sh_kicks sh12), (sh_goalBits sh12), (sh_sideBits sh12), (sh_goalsOfA sh12), (sh_goalsOfB sh12), (sh_nerves sh12), (sh_skills sh12))))) else (some ((tx_length tx), te11, sh12)))) (fun (te13 : Te) (sh14 : Sh) => if ((te_counts te13) 0) = 0 then (some ((tx_length tx), te13, sh14)) else (if ((te_counts te13) 0) = ((te_counts te13) 1) then (z_let ((te_counts te13) 0) (fun x28 : Int32 => some ((-1), te13, (x28, (sh_order sh14), (sh_first sh14), (sh_kicks sh14), (sh_goalBits sh14), (sh_sideBits sh14), (sh_goalsOfA sh14), (sh_goalsOfB sh14), (sh_nerves sh14), (sh_skills sh14))))) else (some ((tx_length tx), te13, sh14)))) F 0 u2 u1))
set_option maxHeartbeats 4000000 in
set_option maxRecDepth 100000 in
theorem ctX5_readText (l : Launch) (D : va_G) (ac cs : Nat → Nat) (q : Nat → Nat) (qt : Nat → Nat) (qs : Nat → Nat) (sz : Nat) (te : Te) (tx : Tx) (sh : Sh) (F : Nat) (res : Int32 × Te × Sh) (hf : Te_readText F te tx sh = some res) : Met l yX5_readText (cWW yX5_readText cX5_readText 2 (some .int)) { frames := 8, cells := 0, slots := 0, locals := 172 } (zM D ac cs [.ref (q 0)] (teW ac q qt qs te ++ (txW ac qt tx ++ (shW ac qs sh))) sz) (va_Qi (fun r (_ : Unit) => r = res.1) (fun _ => zB D (va_A (teW ac q qt qs te ++ (txW ac qt tx ++ (shW ac qs sh))) sz) (teW ac q qt qs res.2.1 ++ (txW ac qt tx ++ (shW ac qs res.2.2)))) (va_A (teW ac q qt qs te ++ (txW ac qt tx ++ (shW ac qs sh))) sz)) 0 0 (va_A (teW ac q qt qs te ++ (txW ac qt tx ++ (shW ac qs sh))) sz) := by
  refine Met.ofW (cc := cX5_readText) (maxL := 2) (ret := (some .int)) (by decide) rfl ?_
  intro p e s m args below meth c s₁ B hml hv
  obtain ⟨rfl, hsz, hP, hKX, hD0, hC⟩ := hv
  have hx := B.exec
  have hb := B.bytes
  have hr := B.returns
  have hts := atoms_spec (ws := cWW yX5_readText cX5_readText 2 (some .int)) B.pre
  have htw : ∀ w ∈ WW, w.before _ s = true := fun w h => hts w (List.mem_cons_of_mem _ h)
  have hown : s.vm.findClass RX5 = some m.cls := findClass_of_methodNamed B.named
  have hlocks := B.notSynchronized
  clear hts B
  subst hsz
  have hD := hD0.self (sz := s.heap.size)
  generalize hAe : va_A (teW ac q qt qs te ++ (txW ac qt tx ++ (shW ac qs sh))) s.heap.size = A at hD hC ⊢
  have hA : ∀ q : Nat, s.heap.size ≤ q → A q := fun q h => by rw [← hAe]; exact Or.inr h
  have hS : va_S A s.heap s.heap [] := va_S.rf
  clear hD0 hAe
  have hP : va_P D vwCl (teW ac q qt qs te ++ (txW ac qt tx ++ (shW ac qs sh))) s.heap := hP
  have hl := lv_entry ([.ref (q 0)]) (n := 2) (Nat.le_of_ble_eq_true rfl)
  rw [lg_entry_eq]
  generalize (lg_sl ([.ref (q 0)]) ++ List.replicate (2 - (lg_sl ([.ref (q 0)])).length) Slot.unset).toArray = ls at hl ⊢
  have hl : lv_has ls 2 [(0, .ref (q 0))] := hl
  unfold Te_readText at hf
  show W p l e ({ frames := 8, cells := 0, slots := 0, locals := 172 } : Room) s m _ below meth c s.heap [] 0 0 _ (F0 m 0 ls [])
  refine lv_aload_n hx hb dX5_readText_0 rfl (lv_at hl 0 rfl) ?_
  refine va_get (D := D) (ci := 5) (v := .ref (qs 0)) (C := RX5) (T := TX5) (N := 6) hx hb htw WW_wsX50 hown hKX.1 hP 0 rfl rfl 2 (Nat.le_of_ble_eq_true rfl) (htw _ mF_RX5_25) (fun _ h9 => h9) rfl dX5_readText_1 ?_
  obtain ⟨u1, hu1, hf⟩ := z_bd_u hf
  refine zc_MVv (As := []) (rest := []) (wr := teW ac q qt qs te ++ (txW ac qt tx)) (wsc := shW ac qs sh) (wsc' := shW ac qs u1) hx hb hml hown htw (ctX4_forgetAll l D ac cs qs s.heap.size sh    F u1 hu1) (g_V mM_RX5_29 mI_yX4_forgetAll mS_RX4_yX4_forgetAll_yX4_forgetAll mN_RX4 mC_yX4_forgetAll) rfl (hd_yX4_forgetAll) ⟨rfl, rfl⟩ ⟨(Nat.le_of_ble_eq_true rfl), (Nat.le_of_ble_eq_true rfl)⟩ hKX hC hS hA hP hD [4, 5, 6] [0, 1, 2, 3] rfl (by decide) rfl (by decide) (by decide) 4 rfl rfl rfl hl.1 rfl (Nat.le_of_ble_eq_true rfl) ⟨Nat.zero_le _, Nat.zero_le _⟩ dX5_readText_4 (fun H locs hP hD hS => ?_)
  have hP : va_P D vwCl (teW ac q qt qs te ++ (txW ac qt tx ++ (shW ac qs u1))) H := hP
  have hD : va_D A (teW ac q qt qs te ++ (txW ac qt tx ++ (shW ac qs u1))) := hD
  refine lv_aload_n hx hb dX5_readText_7 rfl (lv_at hl 0 rfl) ?_
  refine lv_iconst (v := 0) hx hb dX5_readText_8 rfl ?_
  refine va_put (D := D) (ci := 5) (v := .int 0) (ty := tyX5 5) (C := RX5) (T := TX5) (N := 6) hx hb htw WW_wsX50 tyX5 tyX5_ok nmX5 hown hKX.1 hP hD hS 0 rfl rfl 5 (Nat.le_of_ble_eq_true rfl) (htw _ mF_RX5_32) (fun _ h9 => h9) rfl (tyX5_ok 5 (Nat.le_of_ble_eq_true rfl)) rfl rfl (Nat.le_of_ble_eq_true rfl) dX5_readText_9 (fun H locs hP hD hS => ?_)
  have hP : va_P D vwCl (teW ac q qt qs ((te_counts te), (te_start te), (te_stop te), 0) ++ (txW ac qt tx ++ (shW ac qs u1))) H := hP
  have hD : va_D A (teW ac q qt qs ((te_counts te), (te_start te), (te_stop te), 0) ++ (txW ac qt tx ++ (shW ac qs u1))) := hD
  refine lv_aload_n hx hb dX5_readText_12 rfl (lv_at hl 0 rfl) ?_
  refine va_get (D := D) (ci := 5) (v := .ref (q 1)) (C := RX5) (T := TX5) (N := 6) hx hb htw WW_wsX50 hown hKX.1 hP 0 rfl rfl 1 (Nat.le_of_ble_eq_true rfl) (htw _ mF_RX5_18) (fun _ h9 => h9) rfl dX5_readText_13 ?_
  refine lv_iconst (v := 0) hx hb dX5_readText_16 rfl ?_
  refine lv_iconst (v := 0) hx hb dX5_readText_17 rfl ?_
  refine zv_iast_k hx hb hKX.1 hP hD hS 1 0 rfl rfl 0 rfl (z_in_u (by decide +kernel)) dX5_readText_18 (fun H locs hP hD hS => ?_)
  have hP : va_P D vwCl (teW ac q qt qs ((upd (te_counts te) 0 0), (te_start te), (te_stop te), 0) ++ (txW ac qt tx ++ (shW ac qs u1))) H := hP
  have hD : va_D A (teW ac q qt qs ((upd (te_counts te) 0 0), (te_start te), (te_stop te), 0) ++ (txW ac qt tx ++ (shW ac qs u1))) := hD
  refine lv_aload_n hx hb dX5_readText_19 rfl (lv_at hl 0 rfl) ?_
  refine va_get (D := D) (ci := 5) (v := .ref (q 1)) (C := RX5) (T := TX5) (N := 6) hx hb htw WW_wsX50 hown hKX.1 hP 0 rfl rfl 1 (Nat.le_of_ble_eq_true rfl) (htw _ mF_RX5_18) (fun _ h9 => h9) rfl dX5_readText_20 ?_
  refine lv_iconst (v := 1) hx hb dX5_readText_23 rfl ?_
  refine lv_iconst (v := 0) hx hb dX5_readText_24 rfl ?_
  refine zv_iast_k hx hb hKX.1 hP hD hS 1 0 rfl rfl 1 rfl (z_in_u (by decide +kernel)) dX5_readText_25 (fun H locs hP hD hS => ?_)
  have hP : va_P D vwCl (teW ac q qt qs ((upd (upd (te_counts te) 0 0) 1 0), (te_start te), (te_stop te), 0) ++ (txW ac qt tx ++ (shW ac qs u1))) H := hP
  have hD : va_D A (teW ac q qt qs ((upd (upd (te_counts te) 0 0) 1 0), (te_start te), (te_stop te), 0) ++ (txW ac qt tx ++ (shW ac qs u1))) := hD
  refine lv_aload_n hx hb dX5_readText_26 rfl (lv_at hl 0 rfl) ?_
  refine lv_iconst (v := 0) hx hb dX5_readText_27 rfl ?_
  refine va_put (D := D) (ci := 5) (v := .int 0) (ty := tyX5 4) (C := RX5) (T := TX5) (N := 6) hx hb htw WW_wsX50 tyX5 tyX5_ok nmX5 hown hKX.1 hP hD hS 0 rfl rfl 4 (Nat.le_of_ble_eq_true rfl) (htw _ mF_RX5_36) (fun _ h9 => h9) rfl (tyX5_ok 4 (Nat.le_of_ble_eq_true rfl)) rfl rfl (Nat.le_of_ble_eq_true rfl) dX5_readText_28 (fun H locs hP hD hS => ?_)
  have hP : va_P D vwCl (teW ac q qt qs ((upd (upd (te_counts te) 0 0) 1 0), (te_start te), 0, 0) ++ (txW ac qt tx ++ (shW ac qs u1))) H := hP
  have hD : va_D A (teW ac q qt qs ((upd (upd (te_counts te) 0 0) 1 0), (te_start te), 0, 0) ++ (txW ac qt tx ++ (shW ac qs u1))) := hD
  refine lv_aload_n hx hb dX5_readText_31 rfl (lv_at hl 0 rfl) ?_
  obtain ⟨u2, hu2, hf⟩ := z_bd_u hf
  refine zc_MVv (As := []) (rest := []) (wr := []) (wsc := teW ac q qt qs ((upd (upd (te_counts te) 0 0) 1 0), (te_start te), 0, 0) ++ (txW ac qt tx ++ (shW ac qs u1))) (wsc' := teW ac q qt qs u2 ++ (txW ac qt tx ++ (shW ac qs u1))) hx hb hml hown htw (ctX5_advance l D ac cs q qt qs H.size ((upd (upd (te_counts te) 0 0) 1 0), (te_start te), 0, 0) tx u1    F u2 hu2) (g_V mM_RX5_39 mI_yX5_advance mS_RX5_yX5_advance_yX5_advance mN_RX5 mC_yX5_advance) rfl (hd_yX5_advance) ⟨rfl, rfl⟩ ⟨(Nat.le_of_ble_eq_true rfl), (Nat.le_of_ble_eq_true rfl)⟩ hKX hC hS hA hP hD [0, 1, 2, 3, 4, 5, 6] [] rfl (by decide) rfl (by decide) (by decide) 5 rfl rfl rfl hl.1 rfl (Nat.le_of_ble_eq_true rfl) ⟨Nat.zero_le _, Nat.zero_le _⟩ dX5_readText_32 (fun H locs hP hD hS => ?_)
  have hP : va_P D vwCl (teW ac q qt qs u2 ++ (txW ac qt tx ++ (shW ac qs u1))) H := hP
  have hD : va_D A (teW ac q qt qs u2 ++ (txW ac qt tx ++ (shW ac qs u1))) := hD
  refine lv_iconst (v := 0) hx hb dX5_readText_35 rfl ?_
  refine lv_istore_n (lv' := [(1, .int 0), (0, .ref (q 0))]) hx hb dX5_readText_36 rfl hl (Nat.le_of_ble_eq_true rfl) rfl (fun ls hl => ?_)
  have hL6 : ∀ (kx9 : Te → Sh → Option (Int32 × Te × Sh)) (kx10 : Te → Sh → Option (Int32 × Te × Sh)) (hkx9 : ∀ (te11 : Te) (sh12 : Sh), kx9 te11 sh12 = some res → ∀ (H : Heap) (locs : List Loc) (ls : Array Slot), va_P D vwCl (teW ac q qt qs te11 ++ (txW ac qt tx ++ (shW ac qs sh12))) H → va_D A (teW ac q qt qs te11 ++ (txW ac qt tx ++ (shW ac qs sh12))) → va_S A s.heap H locs → lv_has ls 2 [(0, .ref (q 0))] → W p l e ({ frames := 8, cells := 0, slots := 0, locals := 172 } : Room) s m (([.ref (q 0)] : List Value).toArray) below meth c H locs 0 0 (MQ below (va_Qi (fun r (_ : Unit) => r = res.1) (fun _ => zB D A (teW ac q qt qs res.2.1 ++ (txW ac qt tx ++ (shW ac qs res.2.2)))) A) ([.ref (q 0)] : List Value).toArray s 0 0 A) (F0 m 97 ls [])) (hkx10 : ∀ (te13 : Te) (sh14 : Sh), kx10 te13 sh14 = some res → ∀ (H : Heap) (locs : List Loc) (ls : Array Slot), va_P D vwCl (teW ac q qt qs te13 ++ (txW ac qt tx ++ (shW ac qs sh14))) H → va_D A (teW ac q qt qs te13 ++ (txW ac qt tx ++ (shW ac qs sh14))) → va_S A s.heap H locs → lv_has ls 2 [(0, .ref (q 0))] → W p l e ({ frames := 8, cells := 0, slots := 0, locals := 172 } : Room) s m (([.ref (q 0)] : List Value).toArray) below meth c H locs 0 0 (MQ below (va_Qi (fun r (_ : Unit) => r = res.1) (fun _ => zB D A (teW ac q qt qs res.2.1 ++ (txW ac qt tx ++ (shW ac qs res.2.2)))) A) ([.ref (q 0)] : List Value).toArray s 0 0 A) (F0 m 70 ls [])) (n7 : Nat) (x3 : Int32) (te4 : Te) (sh5 : Sh), Te_readText_L37 F tx kx9 kx10 n7 x3 te4 sh5 = some res → ∀ (H : Heap) (locs : List Loc) (ls : Array Slot), va_P D vwCl (teW ac q qt qs te4 ++ (txW ac qt tx ++ (shW ac qs sh5))) H → va_D A (teW ac q qt qs te4 ++ (txW ac qt tx ++ (shW ac qs sh5))) → va_S A s.heap H locs → lv_has ls 2 [(0, .ref (q 0)), (1, .int x3)] → W p l e ({ frames := 8, cells := 0, slots := 0, locals := 172 } : Room) s m (([.ref (q 0)] : List Value).toArray) below meth c H locs 0 0 (MQ below (va_Qi (fun r (_ : Unit) => r = res.1) (fun _ => zB D A (teW ac q qt qs res.2.1 ++ (txW ac qt tx ++ (shW ac qs res.2.2)))) A) ([.ref (q 0)] : List Value).toArray s 0 0 A) (F0 m 37 ls []) := by
    intro kx9 kx10 hkx9 hkx10 n7
    induction n7 with
    | zero => intro x3 te4 sh5 hf; rw [Te_readText_L37] at hf; cases hf
    | succ n7 ih8 =>
      intro x3 te4 sh5 hf H locs ls hP hD hS hl
      rw [Te_readText_L37] at hf
      refine lv_iload_n hx hb dX5_readText_37 rfl (lv_at hl 1 rfl) ?_
      refine lv_sipush (v := 200) hx hb dX5_readText_38 rfl ?_
      refine lv_icmp_gt (tgt := 97) hx hb dX5_readText_41 (by decide) (fun c15 => ?_) (fun c15 => ?_)
      · have hf := z_p c15 hf
        exact hkx9 te4 sh5 hf _ _ ls  hP hD hS (lv_sub hl [0] rfl)
      · have hf := z_n c15 hf
        refine lv_aload_n hx hb dX5_readText_44 rfl (lv_at hl 0 rfl) ?_
        obtain ⟨u16, hu16, hf⟩ := z_bd_u hf
        refine zc_MVi (As := []) (rest := []) (wr := []) (wsc := teW ac q qt qs te4 ++ (txW ac qt tx ++ (shW ac qs sh5))) (wsc' := teW ac q qt qs u16.2.1 ++ (txW ac qt tx ++ (shW ac qs u16.2.2))) hx hb hml hown htw (ctX5_readLine l D ac cs q qt qs H.size te4 tx sh5    F u16 hu16) (g_V mM_RX5_42 mI_yX5_readLine mS_RX5_yX5_readLine_yX5_readLine mN_RX5 mC_yX5_readLine) rfl (hd_yX5_readLine) ⟨rfl, rfl⟩ ⟨(Nat.le_of_ble_eq_true rfl), (Nat.le_of_ble_eq_true rfl)⟩ hKX hC hS hA hP hD [0, 1, 2, 3, 4, 5, 6] [] rfl (by decide) rfl (by decide) (by decide) 5 rfl rfl rfl hl.1 rfl (Nat.le_of_ble_eq_true rfl) ⟨Nat.zero_le _, Nat.zero_le _⟩ dX5_readText_45 (fun H locs hP hD hS => ?_)
        have hP : va_P D vwCl (teW ac q qt qs u16.2.1 ++ (txW ac qt tx ++ (shW ac qs u16.2.2))) H := hP
        have hD : va_D A (teW ac q qt qs u16.2.1 ++ (txW ac qt tx ++ (shW ac qs u16.2.2))) := hD
        refine lv_if_ne (tgt := 56) hx hb dX5_readText_48 (by decide) (fun c17 => ?_) (fun c17 => ?_)
        · have hf := z_n c17 hf
          refine lv_aload_n hx hb dX5_readText_56 rfl (lv_at hl 0 rfl) ?_
          refine va_get (D := D) (ci := 5) (v := .int (te_start u16.2.1)) (C := RX5) (T := TX5) (N := 6) hx hb htw WW_wsX50 hown hKX.1 hP 0 rfl rfl 3 (Nat.le_of_ble_eq_true rfl) (htw _ mF_RX5_46) (fun _ h9 => h9) rfl dX5_readText_57 ?_
          refine lv_aload_n hx hb dX5_readText_60 rfl (lv_at hl 0 rfl) ?_
          refine va_get (D := D) (ci := 5) (v := .ref (qt 0)) (C := RX5) (T := TX5) (N := 6) hx hb htw WW_wsX50 hown hKX.1 hP 0 rfl rfl 0 (Nat.le_of_ble_eq_true rfl) (htw _ mF_RX5_12) (fun _ h9 => h9) rfl dX5_readText_61 ?_
          refine va_getN (D := D) (ci := 6) (v := .int (tx_length tx)) (C := RX6) (T := TX6) (N := 2) hx hb htw WW_wsX60 hown hKX.1 hP 2 rfl rfl 1 (Nat.le_of_ble_eq_true rfl) (va_Nw.use rfl (hKX.2 _ (List.mem_of_getElem? (i := 1) rfl))) (fun _ h9 => h9) rfl dX5_readText_64 ?_
          refine lv_icmp_lt (tgt := 73) hx hb dX5_readText_67 (by decide) (fun c18 => ?_) (fun c18 => ?_)
          · have hf := z_p c18 hf
            refine lv_aload_n hx hb dX5_readText_73 rfl (lv_at hl 0 rfl) ?_
            refine va_ldcS hx hb hown (sr_7 hC) dX5_readText_74 ?_
            obtain ⟨r19, hr19, hf⟩ := z_bd_u hf
            refine zc_RVi (As := [.ref (cs (10 + 7))]) (rest := []) hx hb hml hown htw (ctX5_isToken l D ac cs q qt qs u16.2.1 tx u16.2.2 7  (by decide) F _ hr19) (g_V mM_RX5_54 mI_yX5_isToken mS_RX5_yX5_isToken_yX5_isToken mN_RX5 mC_yX5_isToken) rfl (hd_yX5_isToken) ⟨rfl, rfl⟩ ⟨(Nat.le_of_ble_eq_true rfl), (Nat.le_of_ble_eq_true rfl)⟩ hKX hC hS hP 5 rfl rfl rfl hl.1 rfl (Nat.le_of_ble_eq_true rfl) ⟨Nat.zero_le _, Nat.zero_le _⟩ dX5_readText_76 ?_
            refine lv_if_ne (tgt := 87) hx hb dX5_readText_79 (by decide) (fun c20 => ?_) (fun c20 => ?_)
            · have hf := z_n c20 hf
              refine lv_aload_n hx hb dX5_readText_87 rfl (lv_at hl 0 rfl) ?_
              obtain ⟨u21, hu21, hf⟩ := z_bd_u hf
              refine zc_MVv (As := []) (rest := []) (wr := []) (wsc := teW ac q qt qs u16.2.1 ++ (txW ac qt tx ++ (shW ac qs u16.2.2))) (wsc' := teW ac q qt qs u21 ++ (txW ac qt tx ++ (shW ac qs u16.2.2))) hx hb hml hown htw (ctX5_advance l D ac cs q qt qs H.size u16.2.1 tx u16.2.2    F u21 hu21) (g_V mM_RX5_39 mI_yX5_advance mS_RX5_yX5_advance_yX5_advance mN_RX5 mC_yX5_advance) rfl (hd_yX5_advance) ⟨rfl, rfl⟩ ⟨(Nat.le_of_ble_eq_true rfl), (Nat.le_of_ble_eq_true rfl)⟩ hKX hC hS hA hP hD [0, 1, 2, 3, 4, 5, 6] [] rfl (by decide) rfl (by decide) (by decide) 5 rfl rfl rfl hl.1 rfl (Nat.le_of_ble_eq_true rfl) ⟨Nat.zero_le _, Nat.zero_le _⟩ dX5_readText_88 (fun H locs hP hD hS => ?_)
              have hP : va_P D vwCl (teW ac q qt qs u21 ++ (txW ac qt tx ++ (shW ac qs u16.2.2))) H := hP
              have hD : va_D A (teW ac q qt qs u21 ++ (txW ac qt tx ++ (shW ac qs u16.2.2))) := hD
              obtain ⟨x22, hx22⟩ : ∃ y : Int32, y = (x3 + 1) := ⟨_, rfl⟩
              have hf := z_let_u hx22 hf
              refine lv_iinc (v := x22) (lv' := [(1, .int x22), (0, .ref (q 0))]) hx hb dX5_readText_91 hl (k := 1) rfl (by rw [hx22]; rfl) (Nat.le_of_ble_eq_true rfl) rfl (fun ls hl => ?_)
              refine lv_goto (tgt := 37) hx hb dX5_readText_94 (by decide) ?_
              exact ih8 x22 u21 u16.2.2 hf _ _ ls  hP hD hS (lv_sub hl [1, 0] rfl)
            · have hf := z_p c20 hf
              refine lv_aload_n hx hb dX5_readText_82 rfl (lv_at hl 0 rfl) ?_
              refine va_get (D := D) (ci := 5) (v := .int (te_start u16.2.1)) (C := RX5) (T := TX5) (N := 6) hx hb htw WW_wsX50 hown hKX.1 hP 0 rfl rfl 3 (Nat.le_of_ble_eq_true rfl) (htw _ mF_RX5_46) (fun _ h9 => h9) rfl dX5_readText_83 ?_
              obtain rfl := Option.some.inj hf
              exact zr_Mi hx hb hr hlocks hP hD hS dX5_readText_86
          · have hf := z_n c18 hf
            exact hkx10 u16.2.1 u16.2.2 hf _ _ ls  hP hD hS (lv_sub hl [0] rfl)
        · have hf := z_p c17 hf
          refine lv_aload_n hx hb dX5_readText_51 rfl (lv_at hl 0 rfl) ?_
          refine va_get (D := D) (ci := 5) (v := .int (te_start u16.2.1)) (C := RX5) (T := TX5) (N := 6) hx hb htw WW_wsX50 hown hKX.1 hP 0 rfl rfl 3 (Nat.le_of_ble_eq_true rfl) (htw _ mF_RX5_46) (fun _ h9 => h9) rfl dX5_readText_52 ?_
          obtain rfl := Option.some.inj hf
          exact zr_Mi hx hb hr hlocks hP hD hS dX5_readText_55
  refine hL6 _ _ ?_ ?_ F 0 u2 u1 hf _ _ ls  hP hD hS (lv_sub hl [1, 0] rfl)
  · intro te11 sh12 hf H locs ls hP hD hS hl
    refine lv_aload_n hx hb dX5_readText_97 rfl (lv_at hl 0 rfl) ?_
    refine va_get (D := D) (ci := 5) (v := .ref (q 1)) (C := RX5) (T := TX5) (N := 6) hx hb htw WW_wsX50 hown hKX.1 hP 0 rfl rfl 1 (Nat.le_of_ble_eq_true rfl) (htw _ mF_RX5_18) (fun _ h9 => h9) rfl dX5_readText_98 ?_
    refine lv_iconst (v := 0) hx hb dX5_readText_101 rfl ?_
    refine zv_iald_k hx hb hKX.1 hP 1 0 rfl rfl 0 rfl (z_in_u (by decide +kernel)) dX5_readText_102 ?_
    refine lv_if_eq (tgt := 121) hx hb dX5_readText_103 (by decide) (fun c23 => ?_) (fun c23 => ?_)
    · have hf := z_p c23 hf
      refine lv_aload_n hx hb dX5_readText_121 rfl (lv_at hl 0 rfl) ?_
      refine va_get (D := D) (ci := 5) (v := .ref (qt 0)) (C := RX5) (T := TX5) (N := 6) hx hb htw WW_wsX50 hown hKX.1 hP 0 rfl rfl 0 (Nat.le_of_ble_eq_true rfl) (htw _ mF_RX5_12) (fun _ h9 => h9) rfl dX5_readText_122 ?_
      refine va_getN (D := D) (ci := 6) (v := .int (tx_length tx)) (C := RX6) (T := TX6) (N := 2) hx hb htw WW_wsX60 hown hKX.1 hP 2 rfl rfl 1 (Nat.le_of_ble_eq_true rfl) (va_Nw.use rfl (hKX.2 _ (List.mem_of_getElem? (i := 1) rfl))) (fun _ h9 => h9) rfl dX5_readText_125 ?_
      obtain rfl := Option.some.inj hf
      exact zr_Mi hx hb hr hlocks hP hD hS dX5_readText_128
    · have hf := z_n c23 hf
      refine lv_aload_n hx hb dX5_readText_106 rfl (lv_at hl 0 rfl) ?_
      refine va_get (D := D) (ci := 5) (v := .ref (q 1)) (C := RX5) (T := TX5) (N := 6) hx hb htw WW_wsX50 hown hKX.1 hP 0 rfl rfl 1 (Nat.le_of_ble_eq_true rfl) (htw _ mF_RX5_18) (fun _ h9 => h9) rfl dX5_readText_107 ?_
      refine lv_iconst (v := 0) hx hb dX5_readText_110 rfl ?_
      refine zv_iald_k hx hb hKX.1 hP 1 0 rfl rfl 0 rfl (z_in_u (by decide +kernel)) dX5_readText_111 ?_
      refine lv_aload_n hx hb dX5_readText_112 rfl (lv_at hl 0 rfl) ?_
      refine va_get (D := D) (ci := 5) (v := .ref (q 1)) (C := RX5) (T := TX5) (N := 6) hx hb htw WW_wsX50 hown hKX.1 hP 0 rfl rfl 1 (Nat.le_of_ble_eq_true rfl) (htw _ mF_RX5_18) (fun _ h9 => h9) rfl dX5_readText_113 ?_
      refine lv_iconst (v := 1) hx hb dX5_readText_116 rfl ?_
      refine zv_iald_k hx hb hKX.1 hP 1 0 rfl rfl 1 rfl (z_in_u (by decide +kernel)) dX5_readText_117 ?_
      refine lv_icmp_eq (tgt := 129) hx hb dX5_readText_118 (by decide) (fun c24 => ?_) (fun c24 => ?_)
      · have hf := z_p c24 hf
        refine lv_aload_n hx hb dX5_readText_129 rfl (lv_at hl 0 rfl) ?_
        refine va_get (D := D) (ci := 5) (v := .ref (qs 0)) (C := RX5) (T := TX5) (N := 6) hx hb htw WW_wsX50 hown hKX.1 hP 0 rfl rfl 2 (Nat.le_of_ble_eq_true rfl) (htw _ mF_RX5_25) (fun _ h9 => h9) rfl dX5_readText_130 ?_
        refine lv_aload_n hx hb dX5_readText_133 rfl (lv_at hl 0 rfl) ?_
        refine va_get (D := D) (ci := 5) (v := .ref (q 1)) (C := RX5) (T := TX5) (N := 6) hx hb htw WW_wsX50 hown hKX.1 hP 0 rfl rfl 1 (Nat.le_of_ble_eq_true rfl) (htw _ mF_RX5_18) (fun _ h9 => h9) rfl dX5_readText_134 ?_
        refine lv_iconst (v := 0) hx hb dX5_readText_137 rfl ?_
        refine zv_iald_k hx hb hKX.1 hP 1 0 rfl rfl 0 rfl (z_in_u (by decide +kernel)) dX5_readText_138 ?_
        refine lv_topi (fun x25 hx25 => ?_)
        have hf := z_let_u hx25 hf
        refine va_putN (D := D) (ci := 4) (v := .int x25) (ty := tyX4 0) (C := RX4) (T := TX4) (N := 10) hx hb htw WW_wsX40 tyX4 tyX4_ok nmX4 hown hKX.1 hP hD hS 4 rfl rfl 0 (Nat.le_of_ble_eq_true rfl) (va_Nw.use rfl (hKX.2 _ (List.mem_of_getElem? (i := 2) rfl))) (fun _ h9 => h9) rfl (tyX4_ok 0 (Nat.le_of_ble_eq_true rfl)) rfl rfl (Nat.le_of_ble_eq_true rfl) dX5_readText_139 (fun H locs hP hD hS => ?_)
        have hP : va_P D vwCl (teW ac q qt qs te11 ++ (txW ac qt tx ++ (shW ac qs (x25, (sh_order sh12), (sh_first sh12), (sh_kicks sh12), (sh_goalBits sh12), (sh_sideBits sh12), (sh_goalsOfA sh12), (sh_goalsOfB sh12), (sh_nerves sh12), (sh_skills sh12))))) H := hP
        have hD : va_D A (teW ac q qt qs te11 ++ (txW ac qt tx ++ (shW ac qs (x25, (sh_order sh12), (sh_first sh12), (sh_kicks sh12), (sh_goalBits sh12), (sh_sideBits sh12), (sh_goalsOfA sh12), (sh_goalsOfB sh12), (sh_nerves sh12), (sh_skills sh12))))) := hD
        refine lv_iconst (v := (-1)) hx hb dX5_readText_142 rfl ?_
        obtain rfl := Option.some.inj hf
        exact zr_Mi hx hb hr hlocks hP hD hS dX5_readText_143
      · have hf := z_n c24 hf
        refine lv_aload_n hx hb dX5_readText_121 rfl (lv_at hl 0 rfl) ?_
        refine va_get (D := D) (ci := 5) (v := .ref (qt 0)) (C := RX5) (T := TX5) (N := 6) hx hb htw WW_wsX50 hown hKX.1 hP 0 rfl rfl 0 (Nat.le_of_ble_eq_true rfl) (htw _ mF_RX5_12) (fun _ h9 => h9) rfl dX5_readText_122 ?_
        refine va_getN (D := D) (ci := 6) (v := .int (tx_length tx)) (C := RX6) (T := TX6) (N := 2) hx hb htw WW_wsX60 hown hKX.1 hP 2 rfl rfl 1 (Nat.le_of_ble_eq_true rfl) (va_Nw.use rfl (hKX.2 _ (List.mem_of_getElem? (i := 1) rfl))) (fun _ h9 => h9) rfl dX5_readText_125 ?_
        obtain rfl := Option.some.inj hf
        exact zr_Mi hx hb hr hlocks hP hD hS dX5_readText_128
  · intro te13 sh14 hf H locs ls hP hD hS hl
    refine lv_goto (tgt := 97) hx hb dX5_readText_70 (by decide) ?_
    refine lv_aload_n hx hb dX5_readText_97 rfl (lv_at hl 0 rfl) ?_
    refine va_get (D := D) (ci := 5) (v := .ref (q 1)) (C := RX5) (T := TX5) (N := 6) hx hb htw WW_wsX50 hown hKX.1 hP 0 rfl rfl 1 (Nat.le_of_ble_eq_true rfl) (htw _ mF_RX5_18) (fun _ h9 => h9) rfl dX5_readText_98 ?_
    refine lv_iconst (v := 0) hx hb dX5_readText_101 rfl ?_
    refine zv_iald_k hx hb hKX.1 hP 1 0 rfl rfl 0 rfl (z_in_u (by decide +kernel)) dX5_readText_102 ?_
    refine lv_if_eq (tgt := 121) hx hb dX5_readText_103 (by decide) (fun c26 => ?_) (fun c26 => ?_)
    · have hf := z_p c26 hf
      refine lv_aload_n hx hb dX5_readText_121 rfl (lv_at hl 0 rfl) ?_
      refine va_get (D := D) (ci := 5) (v := .ref (qt 0)) (C := RX5) (T := TX5) (N := 6) hx hb htw WW_wsX50 hown hKX.1 hP 0 rfl rfl 0 (Nat.le_of_ble_eq_true rfl) (htw _ mF_RX5_12) (fun _ h9 => h9) rfl dX5_readText_122 ?_
      refine va_getN (D := D) (ci := 6) (v := .int (tx_length tx)) (C := RX6) (T := TX6) (N := 2) hx hb htw WW_wsX60 hown hKX.1 hP 2 rfl rfl 1 (Nat.le_of_ble_eq_true rfl) (va_Nw.use rfl (hKX.2 _ (List.mem_of_getElem? (i := 1) rfl))) (fun _ h9 => h9) rfl dX5_readText_125 ?_
      obtain rfl := Option.some.inj hf
      exact zr_Mi hx hb hr hlocks hP hD hS dX5_readText_128
    · have hf := z_n c26 hf
      refine lv_aload_n hx hb dX5_readText_106 rfl (lv_at hl 0 rfl) ?_
      refine va_get (D := D) (ci := 5) (v := .ref (q 1)) (C := RX5) (T := TX5) (N := 6) hx hb htw WW_wsX50 hown hKX.1 hP 0 rfl rfl 1 (Nat.le_of_ble_eq_true rfl) (htw _ mF_RX5_18) (fun _ h9 => h9) rfl dX5_readText_107 ?_
      refine lv_iconst (v := 0) hx hb dX5_readText_110 rfl ?_
      refine zv_iald_k hx hb hKX.1 hP 1 0 rfl rfl 0 rfl (z_in_u (by decide +kernel)) dX5_readText_111 ?_
      refine lv_aload_n hx hb dX5_readText_112 rfl (lv_at hl 0 rfl) ?_
      refine va_get (D := D) (ci := 5) (v := .ref (q 1)) (C := RX5) (T := TX5) (N := 6) hx hb htw WW_wsX50 hown hKX.1 hP 0 rfl rfl 1 (Nat.le_of_ble_eq_true rfl) (htw _ mF_RX5_18) (fun _ h9 => h9) rfl dX5_readText_113 ?_
      refine lv_iconst (v := 1) hx hb dX5_readText_116 rfl ?_
      refine zv_iald_k hx hb hKX.1 hP 1 0 rfl rfl 1 rfl (z_in_u (by decide +kernel)) dX5_readText_117 ?_
      refine lv_icmp_eq (tgt := 129) hx hb dX5_readText_118 (by decide) (fun c27 => ?_) (fun c27 => ?_)
      · have hf := z_p c27 hf
        refine lv_aload_n hx hb dX5_readText_129 rfl (lv_at hl 0 rfl) ?_
        refine va_get (D := D) (ci := 5) (v := .ref (qs 0)) (C := RX5) (T := TX5) (N := 6) hx hb htw WW_wsX50 hown hKX.1 hP 0 rfl rfl 2 (Nat.le_of_ble_eq_true rfl) (htw _ mF_RX5_25) (fun _ h9 => h9) rfl dX5_readText_130 ?_
        refine lv_aload_n hx hb dX5_readText_133 rfl (lv_at hl 0 rfl) ?_
        refine va_get (D := D) (ci := 5) (v := .ref (q 1)) (C := RX5) (T := TX5) (N := 6) hx hb htw WW_wsX50 hown hKX.1 hP 0 rfl rfl 1 (Nat.le_of_ble_eq_true rfl) (htw _ mF_RX5_18) (fun _ h9 => h9) rfl dX5_readText_134 ?_
        refine lv_iconst (v := 0) hx hb dX5_readText_137 rfl ?_
        refine zv_iald_k hx hb hKX.1 hP 1 0 rfl rfl 0 rfl (z_in_u (by decide +kernel)) dX5_readText_138 ?_
        refine lv_topi (fun x28 hx28 => ?_)
        have hf := z_let_u hx28 hf
        refine va_putN (D := D) (ci := 4) (v := .int x28) (ty := tyX4 0) (C := RX4) (T := TX4) (N := 10) hx hb htw WW_wsX40 tyX4 tyX4_ok nmX4 hown hKX.1 hP hD hS 4 rfl rfl 0 (Nat.le_of_ble_eq_true rfl) (va_Nw.use rfl (hKX.2 _ (List.mem_of_getElem? (i := 2) rfl))) (fun _ h9 => h9) rfl (tyX4_ok 0 (Nat.le_of_ble_eq_true rfl)) rfl rfl (Nat.le_of_ble_eq_true rfl) dX5_readText_139 (fun H locs hP hD hS => ?_)
        have hP : va_P D vwCl (teW ac q qt qs te13 ++ (txW ac qt tx ++ (shW ac qs (x28, (sh_order sh14), (sh_first sh14), (sh_kicks sh14), (sh_goalBits sh14), (sh_sideBits sh14), (sh_goalsOfA sh14), (sh_goalsOfB sh14), (sh_nerves sh14), (sh_skills sh14))))) H := hP
        have hD : va_D A (teW ac q qt qs te13 ++ (txW ac qt tx ++ (shW ac qs (x28, (sh_order sh14), (sh_first sh14), (sh_kicks sh14), (sh_goalBits sh14), (sh_sideBits sh14), (sh_goalsOfA sh14), (sh_goalsOfB sh14), (sh_nerves sh14), (sh_skills sh14))))) := hD
        refine lv_iconst (v := (-1)) hx hb dX5_readText_142 rfl ?_
        obtain rfl := Option.some.inj hf
        exact zr_Mi hx hb hr hlocks hP hD hS dX5_readText_143
      · have hf := z_n c27 hf
        refine lv_aload_n hx hb dX5_readText_121 rfl (lv_at hl 0 rfl) ?_
        refine va_get (D := D) (ci := 5) (v := .ref (qt 0)) (C := RX5) (T := TX5) (N := 6) hx hb htw WW_wsX50 hown hKX.1 hP 0 rfl rfl 0 (Nat.le_of_ble_eq_true rfl) (htw _ mF_RX5_12) (fun _ h9 => h9) rfl dX5_readText_122 ?_
        refine va_getN (D := D) (ci := 6) (v := .int (tx_length tx)) (C := RX6) (T := TX6) (N := 2) hx hb htw WW_wsX60 hown hKX.1 hP 2 rfl rfl 1 (Nat.le_of_ble_eq_true rfl) (va_Nw.use rfl (hKX.2 _ (List.mem_of_getElem? (i := 1) rfl))) (fun _ h9 => h9) rfl dX5_readText_125 ?_
        obtain rfl := Option.some.inj hf
        exact zr_Mi hx hb hr hlocks hP hD hS dX5_readText_128

theorem hd_yX8_isWord : hdY yX8_isWord 1 := by decide +kernel
def M_isWord_L26 (mt : Mt) (i0 : Nat) (ps2 : Ps) : Nat → Int32 → Int32 → Option (Int32 × Ps)
  | 0, _, _ => none
  | n8 + 1, x5, x6 => if Str_length_8abf5 i0 ≤ x6 then (z_gd (z_b x5) (some (x5, ps2))) else (if x5 = 0 then (z_gd (z_b x5) (some (x5, ps2))) else (z_gd (z_in ((ps_reading ps2) + x6) 200) (z_bd (Str_charAt_5068e i0 x6) (fun r15 : Int32 => if ((mt_text mt) ((ps_reading ps2) + x6).toNatClampNeg) = r15 then (z_let (x6 + 1) (fun x18 : Int32 => M_isWord_L26 mt i0 ps2 n8 1 x18)) else (z_let (x6 + 1) (fun x17 : Int32 => M_isWord_L26 mt i0 ps2 n8 0 x17))))))
def M_isWord (F : Nat) (mt : Mt) (ps : Ps) (i0 : Nat) : Option (Int32 × Ps) := z_jn (fun u_k3 : Int32 × Ps => M_isWord_L26 mt i0 u_k3.2 F u_k3.1 0) (fun k3 => z_jn (fun ps19 : Ps => k3 (0, ps19)) (fun k20 => if (ps_isGood ps) = 0 then (k20 ps) else (z_bd (M_wordNext F mt ps) (fun u23 : Int32 × Ps => if u23.1 = Str_length_8abf5 i0 then (k3 (1, u23.2)) else (k20 u23.2)))))
set_option maxHeartbeats 4000000 in
set_option maxRecDepth 100000 in
theorem ctX8_isWord (l : Launch) (D : va_G) (ac cs : Nat → Nat) (q : Nat → Nat) (sz : Nat) (th : Th) (row : MRow) (un : Un) (kp : Kp) (mt : Mt) (ps : Ps) (bx : Bx) (mo : Mo) (su : Su) (wy : Wy) (wa : Wa) (od : Od) (py : Py) (ju : Ju) (pl : Pl) (rs : Rs) (i0 : Nat) (hi0 : i0 < 10) (F : Nat) (res : Int32 × Ps) (hf : M_isWord F mt ps i0 = some res) : Met l yX8_isWord (cWW yX8_isWord cX8_isWord 4 (some .boolean)) { frames := 4, cells := 0, slots := 0, locals := 85 } (zM D ac cs [.ref (q 0), .ref (cs (10 + i0))] (moW ac q th row un kp mt ps bx mo su wy wa od py ju pl rs) sz) (va_Qi (fun r (_ : Unit) => r = res.1) (fun _ => zB D (va_A (moW ac q th row un kp mt ps bx mo su wy wa od py ju pl rs) sz) (moW ac q th row un kp mt res.2 bx mo su wy wa od py ju pl rs)) (va_A (moW ac q th row un kp mt ps bx mo su wy wa od py ju pl rs) sz)) 0 0 (va_A (moW ac q th row un kp mt ps bx mo su wy wa od py ju pl rs) sz) := by
  refine Met.ofW (cc := cX8_isWord) (maxL := 4) (ret := (some .boolean)) (by decide) rfl ?_
  intro p e s m args below meth c s₁ B hml hv
  obtain ⟨rfl, hsz, hP, hKX, hD0, hC⟩ := hv
  have hx := B.exec
  have hb := B.bytes
  have hr := B.returns
  have hts := atoms_spec (ws := cWW yX8_isWord cX8_isWord 4 (some .boolean)) B.pre
  have htw : ∀ w ∈ WW, w.before _ s = true := fun w h => hts w (List.mem_cons_of_mem _ h)
  have hown : s.vm.findClass RX8 = some m.cls := findClass_of_methodNamed B.named
  have hlocks := B.notSynchronized
  clear hts B
  subst hsz
  have hD := hD0.self (sz := s.heap.size)
  generalize hAe : va_A (moW ac q th row un kp mt ps bx mo su wy wa od py ju pl rs) s.heap.size = A at hD hC ⊢
  have hA : ∀ q : Nat, s.heap.size ≤ q → A q := fun q h => by rw [← hAe]; exact Or.inr h
  have hS : va_S A s.heap s.heap [] := va_S.rf
  clear hD0 hAe
  have hP : va_P D vwCl (moW ac q th row un kp mt ps bx mo su wy wa od py ju pl rs) s.heap := hP
  have hl := lv_entry ([.ref (q 0), .ref (cs (10 + i0))]) (n := 4) (Nat.le_of_ble_eq_true rfl)
  rw [lg_entry_eq]
  generalize (lg_sl ([.ref (q 0), .ref (cs (10 + i0))]) ++ List.replicate (4 - (lg_sl ([.ref (q 0), .ref (cs (10 + i0))])).length) Slot.unset).toArray = ls at hl ⊢
  have hl : lv_has ls 4 [(0, .ref (q 0)), (1, .ref (cs (10 + i0)))] := hl
  unfold M_isWord at hf
  show W p l e ({ frames := 4, cells := 0, slots := 0, locals := 85 } : Room) s m _ below meth c s.heap [] 0 0 _ (F0 m 0 ls [])
  refine lv_aload_n hx hb dX8_isWord_0 rfl (lv_at hl 0 rfl) ?_
  refine va_get (D := D) (ci := 8) (v := .int (ps_isGood ps)) (C := RX8) (T := TX8) (N := 41) hx hb htw WW_wsX80 hown hKX.1 hP 0 rfl rfl 10 (Nat.le_of_ble_eq_true rfl) (htw _ mF_RX8_97) (fun _ h9 => h9) rfl dX8_isWord_1 ?_
  obtain ⟨k3, hk3, hf⟩ := z_jn_u hf
  have hj4 : ∀ (v1 : Int32) (ps2 : Ps), k3 (v1, ps2) = some res → ∀ (H : Heap) (locs : List Loc) (ls : Array Slot), va_P D vwCl (moW ac q th row un kp mt ps2 bx mo su wy wa od py ju pl rs) H → va_D A (moW ac q th row un kp mt ps2 bx mo su wy wa od py ju pl rs) → va_S A s.heap H locs → lv_has ls 4 [(0, .ref (q 0)), (1, .ref (cs (10 + i0)))] → W p l e ({ frames := 4, cells := 0, slots := 0, locals := 85 } : Room) s m (([.ref (q 0), .ref (cs (10 + i0))] : List Value).toArray) below meth c H locs 0 0 (MQ below (va_Qi (fun r (_ : Unit) => r = res.1) (fun _ => zB D A (moW ac q th row un kp mt res.2 bx mo su wy wa od py ju pl rs)) A) ([.ref (q 0), .ref (cs (10 + i0))] : List Value).toArray s 0 0 A) (F0 m 23 ls [.int v1]) := by
    intro v1 ps2 hf H locs ls hP hD hS hl
    have hf := hk3 _ hf
    refine lv_istore_n (lv' := [(2, .int v1), (0, .ref (q 0)), (1, .ref (cs (10 + i0)))]) hx hb dX8_isWord_23 rfl hl (Nat.le_of_ble_eq_true rfl) rfl (fun ls hl => ?_)
    refine lv_iconst (v := 0) hx hb dX8_isWord_24 rfl ?_
    refine lv_istore_n (lv' := [(3, .int 0), (2, .int v1), (0, .ref (q 0)), (1, .ref (cs (10 + i0)))]) hx hb dX8_isWord_25 rfl hl (Nat.le_of_ble_eq_true rfl) rfl (fun ls hl => ?_)
    have hL7 : ∀ (n8 : Nat) (x5 : Int32) (x6 : Int32), M_isWord_L26 mt i0 ps2 n8 x5 x6 = some res → ∀ (H : Heap) (locs : List Loc) (ls : Array Slot), va_P D vwCl (moW ac q th row un kp mt ps2 bx mo su wy wa od py ju pl rs) H → va_D A (moW ac q th row un kp mt ps2 bx mo su wy wa od py ju pl rs) → va_S A s.heap H locs → lv_has ls 4 [(0, .ref (q 0)), (1, .ref (cs (10 + i0))), (2, .int x5), (3, .int x6)] → W p l e ({ frames := 4, cells := 0, slots := 0, locals := 85 } : Room) s m (([.ref (q 0), .ref (cs (10 + i0))] : List Value).toArray) below meth c H locs 0 0 (MQ below (va_Qi (fun r (_ : Unit) => r = res.1) (fun _ => zB D A (moW ac q th row un kp mt res.2 bx mo su wy wa od py ju pl rs)) A) ([.ref (q 0), .ref (cs (10 + i0))] : List Value).toArray s 0 0 A) (F0 m 26 ls []) := by
      intro n8
      induction n8 with
      | zero => intro x5 x6 hf; rw [M_isWord_L26] at hf; cases hf
      | succ n8 ih9 =>
        intro x5 x6 hf H locs ls hP hD hS hl
        rw [M_isWord_L26] at hf
        refine lv_iload_n hx hb dX8_isWord_26 rfl (lv_at hl 3 rfl) ?_
        refine lv_aload_n hx hb dX8_isWord_27 rfl (lv_at hl 1 rfl) ?_
        refine zc_RViS (As := []) (rest := [.int x6]) hx hb hml hown htw (ctJ0_length_8abf5 l D ac cs   i0  hi0 _ rfl) (g_V mM_RX8_121 mI_yJ0_length_8abf5 mS_RJ0_yJ0_length_8abf5_yJ0_length_8abf5 mN_RJ0 mC_yJ0_length_8abf5) rfl (hd_yJ0_length_8abf5) ⟨rfl, rfl⟩ ⟨(Nat.le_of_ble_eq_true rfl), (Nat.le_of_ble_eq_true rfl)⟩ hKX hC hS zP0 (zrecS (i := i0) hC hi0 hS) rfl hl.1 rfl (Nat.le_of_ble_eq_true rfl) ⟨Nat.zero_le _, Nat.zero_le _⟩ dX8_isWord_28 ?_
        refine lv_icmp_ge (tgt := 69) hx hb dX8_isWord_31 (by decide) (fun c10 => ?_) (fun c10 => ?_)
        · have hf := z_p c10 hf
          refine lv_iload_n hx hb dX8_isWord_69 rfl (lv_at hl 2 rfl) ?_
          obtain ⟨g11, hf⟩ := z_gd_u hf
          obtain rfl := Option.some.inj hf
          exact zr_Mz hx hb hr hlocks (z_b_n g11) hP hD hS dX8_isWord_70
        · have hf := z_n c10 hf
          refine lv_iload_n hx hb dX8_isWord_34 rfl (lv_at hl 2 rfl) ?_
          refine lv_if_eq (tgt := 69) hx hb dX8_isWord_35 (by decide) (fun c12 => ?_) (fun c12 => ?_)
          · have hf := z_p c12 hf
            refine lv_iload_n hx hb dX8_isWord_69 rfl (lv_at hl 2 rfl) ?_
            obtain ⟨g13, hf⟩ := z_gd_u hf
            obtain rfl := Option.some.inj hf
            exact zr_Mz hx hb hr hlocks (z_b_n g13) hP hD hS dX8_isWord_70
          · have hf := z_n c12 hf
            refine lv_aload_n hx hb dX8_isWord_38 rfl (lv_at hl 0 rfl) ?_
            refine va_get (D := D) (ci := 8) (v := .ref (q 5)) (C := RX8) (T := TX8) (N := 41) hx hb htw WW_wsX80 hown hKX.1 hP 0 rfl rfl 6 (Nat.le_of_ble_eq_true rfl) (htw _ mF_RX8_25) (fun _ h9 => h9) rfl dX8_isWord_39 ?_
            refine lv_aload_n hx hb dX8_isWord_42 rfl (lv_at hl 0 rfl) ?_
            refine va_get (D := D) (ci := 8) (v := .int (ps_reading ps2)) (C := RX8) (T := TX8) (N := 41) hx hb htw WW_wsX80 hown hKX.1 hP 0 rfl rfl 8 (Nat.le_of_ble_eq_true rfl) (htw _ mF_RX8_104) (fun _ h9 => h9) rfl dX8_isWord_43 ?_
            refine lv_iload_n hx hb dX8_isWord_46 rfl (lv_at hl 3 rfl) ?_
            refine lv_iadd hx hb dX8_isWord_47 ?_
            obtain ⟨g14, hf⟩ := z_gd_u hf
            refine va_bald hx hb hKX.1 hP 5 3 rfl rfl (z_in_u g14) dX8_isWord_48 ?_
            refine lv_aload_n hx hb dX8_isWord_49 rfl (lv_at hl 1 rfl) ?_
            refine lv_iload_n hx hb dX8_isWord_50 rfl (lv_at hl 3 rfl) ?_
            obtain ⟨r15, hr15, hf⟩ := z_bd_u hf
            refine zc_RViS (As := [.int x6]) (rest := [.int ((mt_text mt) ((ps_reading ps2) + x6).toNatClampNeg)]) hx hb hml hown htw (ctJ0_charAt_5068e l D ac cs   i0 x6  hi0 _ hr15) (g_V mM_RX8_126 mI_yJ0_charAt_5068e mS_RJ0_yJ0_charAt_5068e_yJ0_charAt_5068e mN_RJ0 mC_yJ0_charAt_5068e) rfl (hd_yJ0_charAt_5068e) ⟨rfl, rfl⟩ ⟨(Nat.le_of_ble_eq_true rfl), (Nat.le_of_ble_eq_true rfl)⟩ hKX hC hS zP0 (zrecS (i := i0) hC hi0 hS) rfl hl.1 rfl (Nat.le_of_ble_eq_true rfl) ⟨Nat.zero_le _, Nat.zero_le _⟩ dX8_isWord_51 ?_
            refine lv_icmp_ne (tgt := 61) hx hb dX8_isWord_54 (by decide) (fun c16 => ?_) (fun c16 => ?_)
            · have hf := z_n c16 hf
              refine lv_iconst (v := 0) hx hb dX8_isWord_61 rfl ?_
              refine lv_istore_n (lv' := [(2, .int 0), (0, .ref (q 0)), (1, .ref (cs (10 + i0))), (3, .int x6)]) hx hb dX8_isWord_62 rfl hl (Nat.le_of_ble_eq_true rfl) rfl (fun ls hl => ?_)
              obtain ⟨x17, hx17⟩ : ∃ y : Int32, y = (x6 + 1) := ⟨_, rfl⟩
              have hf := z_let_u hx17 hf
              refine lv_iinc (v := x17) (lv' := [(3, .int x17), (2, .int 0), (0, .ref (q 0)), (1, .ref (cs (10 + i0)))]) hx hb dX8_isWord_63 hl (k := 3) rfl (by rw [hx17]; rfl) (Nat.le_of_ble_eq_true rfl) rfl (fun ls hl => ?_)
              refine lv_goto (tgt := 26) hx hb dX8_isWord_66 (by decide) ?_
              exact ih9 0 x17 hf _ _ ls  hP hD hS (lv_sub hl [2, 3, 1, 0] rfl)
            · have hf := z_p c16 hf
              refine lv_iconst (v := 1) hx hb dX8_isWord_57 rfl ?_
              refine lv_goto (tgt := 62) hx hb dX8_isWord_58 (by decide) ?_
              refine lv_istore_n (lv' := [(2, .int 1), (0, .ref (q 0)), (1, .ref (cs (10 + i0))), (3, .int x6)]) hx hb dX8_isWord_62 rfl hl (Nat.le_of_ble_eq_true rfl) rfl (fun ls hl => ?_)
              obtain ⟨x18, hx18⟩ : ∃ y : Int32, y = (x6 + 1) := ⟨_, rfl⟩
              have hf := z_let_u hx18 hf
              refine lv_iinc (v := x18) (lv' := [(3, .int x18), (2, .int 1), (0, .ref (q 0)), (1, .ref (cs (10 + i0)))]) hx hb dX8_isWord_63 hl (k := 3) rfl (by rw [hx18]; rfl) (Nat.le_of_ble_eq_true rfl) rfl (fun ls hl => ?_)
              refine lv_goto (tgt := 26) hx hb dX8_isWord_66 (by decide) ?_
              exact ih9 1 x18 hf _ _ ls  hP hD hS (lv_sub hl [2, 3, 1, 0] rfl)
    refine hL7  F v1 0 hf _ _ ls  hP hD hS (lv_sub hl [2, 3, 1, 0] rfl)
  obtain ⟨k20, hk20, hf⟩ := z_jn_u hf
  have hj21 : ∀ (ps19 : Ps), k20 ps19 = some res → ∀ (H : Heap) (locs : List Loc) (ls : Array Slot), va_P D vwCl (moW ac q th row un kp mt ps19 bx mo su wy wa od py ju pl rs) H → va_D A (moW ac q th row un kp mt ps19 bx mo su wy wa od py ju pl rs) → va_S A s.heap H locs → lv_has ls 4 [(0, .ref (q 0)), (1, .ref (cs (10 + i0)))] → W p l e ({ frames := 4, cells := 0, slots := 0, locals := 85 } : Room) s m (([.ref (q 0), .ref (cs (10 + i0))] : List Value).toArray) below meth c H locs 0 0 (MQ below (va_Qi (fun r (_ : Unit) => r = res.1) (fun _ => zB D A (moW ac q th row un kp mt res.2 bx mo su wy wa od py ju pl rs)) A) ([.ref (q 0), .ref (cs (10 + i0))] : List Value).toArray s 0 0 A) (F0 m 22 ls []) := by
    intro ps19 hf H locs ls hP hD hS hl
    have hf := hk20 _ hf
    refine lv_iconst (v := 0) hx hb dX8_isWord_22 rfl ?_
    exact hj4 0 ps19 hf _ _ ls  hP hD hS (lv_sub hl [0, 1] rfl)
  refine lv_if_eq (tgt := 22) hx hb dX8_isWord_4 (by decide) (fun c22 => ?_) (fun c22 => ?_)
  · have hf := z_p c22 hf
    exact hj21 ps hf _ _ ls  hP hD hS (lv_sub hl [0, 1] rfl)
  · have hf := z_n c22 hf
    refine lv_aload_n hx hb dX8_isWord_7 rfl (lv_at hl 0 rfl) ?_
    obtain ⟨u23, hu23, hf⟩ := z_bd_u hf
    refine zc_MVi (As := []) (rest := []) (wr := []) (wsc := moW ac q th row un kp mt ps bx mo su wy wa od py ju pl rs) (wsc' := moW ac q th row un kp mt u23.2 bx mo su wy wa od py ju pl rs) hx hb hml hown htw (ctX8_wordNext l D ac cs q s.heap.size th row un kp mt ps bx mo su wy wa od py ju pl rs    F u23 hu23) (g_V mM_RX8_118 mI_yX8_wordNext mS_RX8_yX8_wordNext_yX8_wordNext mN_RX8 mC_yX8_wordNext) rfl (hd_yX8_wordNext) ⟨rfl, rfl⟩ ⟨(Nat.le_of_ble_eq_true rfl), (Nat.le_of_ble_eq_true rfl)⟩ hKX hC hS hA hP hD [0, 1, 2, 3, 4, 5, 6, 7, 8, 9, 10, 11, 12, 13, 14, 15, 16, 17, 18, 19, 20] [] rfl (by decide) rfl (by decide) (by decide) 8 rfl rfl rfl hl.1 rfl (Nat.le_of_ble_eq_true rfl) ⟨Nat.zero_le _, Nat.zero_le _⟩ dX8_isWord_8 (fun H locs hP hD hS => ?_)
    have hP : va_P D vwCl (moW ac q th row un kp mt u23.2 bx mo su wy wa od py ju pl rs) H := hP
    have hD : va_D A (moW ac q th row un kp mt u23.2 bx mo su wy wa od py ju pl rs) := hD
    refine lv_aload_n hx hb dX8_isWord_11 rfl (lv_at hl 1 rfl) ?_
    refine zc_RViS (As := []) (rest := [.int u23.1]) hx hb hml hown htw (ctJ0_length_8abf5 l D ac cs   i0  hi0 _ rfl) (g_V mM_RX8_121 mI_yJ0_length_8abf5 mS_RJ0_yJ0_length_8abf5_yJ0_length_8abf5 mN_RJ0 mC_yJ0_length_8abf5) rfl (hd_yJ0_length_8abf5) ⟨rfl, rfl⟩ ⟨(Nat.le_of_ble_eq_true rfl), (Nat.le_of_ble_eq_true rfl)⟩ hKX hC hS zP0 (zrecS (i := i0) hC hi0 hS) rfl hl.1 rfl (Nat.le_of_ble_eq_true rfl) ⟨Nat.zero_le _, Nat.zero_le _⟩ dX8_isWord_12 ?_
    refine lv_icmp_ne (tgt := 22) hx hb dX8_isWord_15 (by decide) (fun c24 => ?_) (fun c24 => ?_)
    · have hf := z_n c24 hf
      exact hj21 u23.2 hf _ _ ls  hP hD hS (lv_sub hl [0, 1] rfl)
    · have hf := z_p c24 hf
      refine lv_iconst (v := 1) hx hb dX8_isWord_18 rfl ?_
      refine lv_goto (tgt := 23) hx hb dX8_isWord_19 (by decide) ?_
      exact hj4 1 u23.2 hf _ _ ls  hP hD hS (lv_sub hl [0, 1] rfl)

theorem hd_yX8_takesWord : hdY yX8_takesWord 1 := by decide +kernel
def M_takesWord (F : Nat) (mt : Mt) (ps : Ps) (i0 : Nat) : Option (Int32 × Ps) := z_bd (M_isWord F mt ps i0) (fun u1 : Int32 × Ps => z_let u1.1 (fun x2 : Int32 => z_let (if x2 = 0 then 0 else (Str_length_8abf5 i0)) (fun v3 : Int32 => z_let ((ps_reading u1.2) + v3) (fun x7 : Int32 => z_gd (z_b x2) (some (x2, (x7, (ps_fault u1.2), (ps_isGood u1.2), (ps_draft u1.2), (ps_had u1.2), (ps_tells u1.2))))))))
set_option maxHeartbeats 4000000 in
set_option maxRecDepth 100000 in
theorem ctX8_takesWord (l : Launch) (D : va_G) (ac cs : Nat → Nat) (q : Nat → Nat) (sz : Nat) (th : Th) (row : MRow) (un : Un) (kp : Kp) (mt : Mt) (ps : Ps) (bx : Bx) (mo : Mo) (su : Su) (wy : Wy) (wa : Wa) (od : Od) (py : Py) (ju : Ju) (pl : Pl) (rs : Rs) (i0 : Nat) (hi0 : i0 < 10) (F : Nat) (res : Int32 × Ps) (hf : M_takesWord F mt ps i0 = some res) : Met l yX8_takesWord (cWW yX8_takesWord cX8_takesWord 3 (some .boolean)) { frames := 5, cells := 0, slots := 0, locals := 108 } (zM D ac cs [.ref (q 0), .ref (cs (10 + i0))] (moW ac q th row un kp mt ps bx mo su wy wa od py ju pl rs) sz) (va_Qi (fun r (_ : Unit) => r = res.1) (fun _ => zB D (va_A (moW ac q th row un kp mt ps bx mo su wy wa od py ju pl rs) sz) (moW ac q th row un kp mt res.2 bx mo su wy wa od py ju pl rs)) (va_A (moW ac q th row un kp mt ps bx mo su wy wa od py ju pl rs) sz)) 0 0 (va_A (moW ac q th row un kp mt ps bx mo su wy wa od py ju pl rs) sz) := by
  refine Met.ofW (cc := cX8_takesWord) (maxL := 3) (ret := (some .boolean)) (by decide) rfl ?_
  intro p e s m args below meth c s₁ B hml hv
  obtain ⟨rfl, hsz, hP, hKX, hD0, hC⟩ := hv
  have hx := B.exec
  have hb := B.bytes
  have hr := B.returns
  have hts := atoms_spec (ws := cWW yX8_takesWord cX8_takesWord 3 (some .boolean)) B.pre
  have htw : ∀ w ∈ WW, w.before _ s = true := fun w h => hts w (List.mem_cons_of_mem _ h)
  have hown : s.vm.findClass RX8 = some m.cls := findClass_of_methodNamed B.named
  have hlocks := B.notSynchronized
  clear hts B
  subst hsz
  have hD := hD0.self (sz := s.heap.size)
  generalize hAe : va_A (moW ac q th row un kp mt ps bx mo su wy wa od py ju pl rs) s.heap.size = A at hD hC ⊢
  have hA : ∀ q : Nat, s.heap.size ≤ q → A q := fun q h => by rw [← hAe]; exact Or.inr h
  have hS : va_S A s.heap s.heap [] := va_S.rf
  clear hD0 hAe
  have hP : va_P D vwCl (moW ac q th row un kp mt ps bx mo su wy wa od py ju pl rs) s.heap := hP
  have hl := lv_entry ([.ref (q 0), .ref (cs (10 + i0))]) (n := 3) (Nat.le_of_ble_eq_true rfl)
  rw [lg_entry_eq]
  generalize (lg_sl ([.ref (q 0), .ref (cs (10 + i0))]) ++ List.replicate (3 - (lg_sl ([.ref (q 0), .ref (cs (10 + i0))])).length) Slot.unset).toArray = ls at hl ⊢
  have hl : lv_has ls 3 [(0, .ref (q 0)), (1, .ref (cs (10 + i0)))] := hl
  unfold M_takesWord at hf
  show W p l e ({ frames := 5, cells := 0, slots := 0, locals := 108 } : Room) s m _ below meth c s.heap [] 0 0 _ (F0 m 0 ls [])
  refine lv_aload_n hx hb dX8_takesWord_0 rfl (lv_at hl 0 rfl) ?_
  refine lv_aload_n hx hb dX8_takesWord_1 rfl (lv_at hl 1 rfl) ?_
  obtain ⟨u1, hu1, hf⟩ := z_bd_u hf
  refine zc_MVi (As := [.ref (cs (10 + i0))]) (rest := []) (wr := []) (wsc := moW ac q th row un kp mt ps bx mo su wy wa od py ju pl rs) (wsc' := moW ac q th row un kp mt u1.2 bx mo su wy wa od py ju pl rs) hx hb hml hown htw (ctX8_isWord l D ac cs q s.heap.size th row un kp mt ps bx mo su wy wa od py ju pl rs i0  hi0 F u1 hu1) (g_V mM_RX8_130 mI_yX8_isWord mS_RX8_yX8_isWord_yX8_isWord mN_RX8 mC_yX8_isWord) rfl (hd_yX8_isWord) ⟨rfl, rfl⟩ ⟨(Nat.le_of_ble_eq_true rfl), (Nat.le_of_ble_eq_true rfl)⟩ hKX hC hS hA hP hD [0, 1, 2, 3, 4, 5, 6, 7, 8, 9, 10, 11, 12, 13, 14, 15, 16, 17, 18, 19, 20] [] rfl (by decide) rfl (by decide) (by decide) 8 rfl rfl rfl hl.1 rfl (Nat.le_of_ble_eq_true rfl) ⟨Nat.zero_le _, Nat.zero_le _⟩ dX8_takesWord_2 (fun H locs hP hD hS => ?_)
  have hP : va_P D vwCl (moW ac q th row un kp mt u1.2 bx mo su wy wa od py ju pl rs) H := hP
  have hD : va_D A (moW ac q th row un kp mt u1.2 bx mo su wy wa od py ju pl rs) := hD
  refine lv_topi (fun x2 hx2 => ?_)
  have hf := z_let_u hx2 hf
  refine lv_istore_n (lv' := [(2, .int x2), (0, .ref (q 0)), (1, .ref (cs (10 + i0)))]) hx hb dX8_takesWord_5 rfl hl (Nat.le_of_ble_eq_true rfl) rfl (fun ls hl => ?_)
  refine lv_aload_n hx hb dX8_takesWord_6 rfl (lv_at hl 1 rfl) ?_
  refine lv_dup hx hb dX8_takesWord_7 rfl ?_
  refine va_get (D := D) (ci := 8) (v := .int (ps_reading u1.2)) (C := RX8) (T := TX8) (N := 41) hx hb htw WW_wsX80 hown hKX.1 hP 0 rfl rfl 8 (Nat.le_of_ble_eq_true rfl) (htw _ mF_RX8_104) (fun _ h9 => h9) rfl dX8_takesWord_8 ?_
  refine lv_iload_n hx hb dX8_takesWord_11 rfl (lv_at hl 0 rfl) ?_
  have hj5 : ∀ (v3 : Int32), v3 = (if x2 = 0 then 0 else (Str_length_8abf5 i0)) → ∀ (H : Heap) (locs : List Loc) (ls : Array Slot), va_P D vwCl (moW ac q th row un kp mt u1.2 bx mo su wy wa od py ju pl rs) H → va_D A (moW ac q th row un kp mt u1.2 bx mo su wy wa od py ju pl rs) → va_S A s.heap H locs → lv_has ls 3 [(2, .int x2)] → W p l e ({ frames := 5, cells := 0, slots := 0, locals := 108 } : Room) s m (([.ref (q 0), .ref (cs (10 + i0))] : List Value).toArray) below meth c H locs 0 0 (MQ below (va_Qi (fun r (_ : Unit) => r = res.1) (fun _ => zB D A (moW ac q th row un kp mt res.2 bx mo su wy wa od py ju pl rs)) A) ([.ref (q 0), .ref (cs (10 + i0))] : List Value).toArray s 0 0 A) (F0 m 23 ls [.int v3, .int (ps_reading u1.2), .ref (q 0)]) := by
    intro v3 hv3 H locs ls hP hD hS hl
    have hf := z_let_u hv3 hf
    refine lv_iadd hx hb dX8_takesWord_23 ?_
    refine lv_topi (fun x7 hx7 => ?_)
    have hf := z_let_u hx7 hf
    refine va_put (D := D) (ci := 8) (v := .int x7) (ty := tyX8 8) (C := RX8) (T := TX8) (N := 41) hx hb htw WW_wsX80 tyX8 tyX8_ok nmX8 hown hKX.1 hP hD hS 0 rfl rfl 8 (Nat.le_of_ble_eq_true rfl) (htw _ mF_RX8_104) (fun _ h9 => h9) rfl (tyX8_ok 8 (Nat.le_of_ble_eq_true rfl)) rfl rfl (Nat.le_of_ble_eq_true rfl) dX8_takesWord_24 (fun H locs hP hD hS => ?_)
    have hP : va_P D vwCl (moW ac q th row un kp mt (x7, (ps_fault u1.2), (ps_isGood u1.2), (ps_draft u1.2), (ps_had u1.2), (ps_tells u1.2)) bx mo su wy wa od py ju pl rs) H := hP
    have hD : va_D A (moW ac q th row un kp mt (x7, (ps_fault u1.2), (ps_isGood u1.2), (ps_draft u1.2), (ps_had u1.2), (ps_tells u1.2)) bx mo su wy wa od py ju pl rs) := hD
    refine lv_iload_n hx hb dX8_takesWord_27 rfl (lv_at hl 0 rfl) ?_
    obtain ⟨g8, hf⟩ := z_gd_u hf
    obtain rfl := Option.some.inj hf
    exact zr_Mz hx hb hr hlocks (z_b_n g8) hP hD hS dX8_takesWord_28
  refine lv_if_eq (tgt := 22) hx hb dX8_takesWord_12 (by decide) (fun c6 => ?_) (fun c6 => ?_)
  · skip
    refine lv_iconst (v := 0) hx hb dX8_takesWord_22 rfl ?_
    exact hj5 0 (if_pos c6).symm _ _ ls hP hD hS (lv_sub hl [0] rfl)
  · skip
    refine lv_aload_n hx hb dX8_takesWord_15 rfl (lv_at hl 2 rfl) ?_
    refine zc_RViS (As := []) (rest := [.int (ps_reading u1.2), .ref (q 0)]) hx hb hml hown htw (ctJ0_length_8abf5 l D ac cs   i0  hi0 _ rfl) (g_V mM_RX8_121 mI_yJ0_length_8abf5 mS_RJ0_yJ0_length_8abf5_yJ0_length_8abf5 mN_RJ0 mC_yJ0_length_8abf5) rfl (hd_yJ0_length_8abf5) ⟨rfl, rfl⟩ ⟨(Nat.le_of_ble_eq_true rfl), (Nat.le_of_ble_eq_true rfl)⟩ hKX hC hS zP0 (zrecS (i := i0) hC hi0 hS) rfl hl.1 rfl (Nat.le_of_ble_eq_true rfl) ⟨Nat.zero_le _, Nat.zero_le _⟩ dX8_takesWord_16 ?_
    refine lv_goto (tgt := 23) hx hb dX8_takesWord_19 (by decide) ?_
    exact hj5 (Str_length_8abf5 i0) (if_neg c6).symm _ _ ls hP hD hS (lv_sub hl [0] rfl)

theorem hd_yX8_sideTold : hdY yX8_sideTold 1 := by decide +kernel
def M_sideTold (F : Nat) (mt : Mt) (ps : Ps) (a1 : Int32) : Option (Int32 × Ps) := z_bd (M_isWord F mt ps 0) (fun u1 : Int32 × Ps => z_jn (fun u_k4 : Int32 × Ps => z_jn (fun _ : Unit => z_let (M_wrong u_k4.2 (ps_reading u_k4.2)) (fun u8 : Ps => some (0, u8))) (fun k6 => if u_k4.1 = (-1) then (k6 ()) else (if (((ps_had u_k4.2) >>> ((a1 + u_k4.1) &&& 31)) &&& 1) = 1 then (k6 ()) else (z_let ((ps_had u_k4.2) ||| (1 <<< ((a1 + u_k4.1) &&& 31))) (fun x11 : Int32 => z_let ((ps_reading u_k4.2) + 1) (fun x12 : Int32 => some (u_k4.1, (x12, (ps_fault u_k4.2), (ps_isGood u_k4.2), (ps_draft u_k4.2), x11, (ps_tells u_k4.2))))))))) (fun k4 => if u1.1 = 0 then (z_bd (M_isWord F mt u1.2 1) (fun u14 : Int32 × Ps => if u14.1 = 0 then (k4 ((-1), u14.2)) else (k4 (1, u14.2)))) else (k4 (0, u1.2))))
set_option maxHeartbeats 4000000 in
set_option maxRecDepth 100000 in
theorem ctX8_sideTold (l : Launch) (D : va_G) (ac cs : Nat → Nat) (q : Nat → Nat) (sz : Nat) (th : Th) (row : MRow) (un : Un) (kp : Kp) (mt : Mt) (ps : Ps) (bx : Bx) (mo : Mo) (su : Su) (wy : Wy) (wa : Wa) (od : Od) (py : Py) (ju : Ju) (pl : Pl) (rs : Rs) (a1 : Int32) (F : Nat) (res : Int32 × Ps) (hf : M_sideTold F mt ps a1 = some res) : Met l yX8_sideTold (cWW yX8_sideTold cX8_sideTold 3 (some .int)) { frames := 5, cells := 0, slots := 0, locals := 108 } (zM D ac cs [.ref (q 0), .int a1] (moW ac q th row un kp mt ps bx mo su wy wa od py ju pl rs) sz) (va_Qi (fun r (_ : Unit) => r = res.1) (fun _ => zB D (va_A (moW ac q th row un kp mt ps bx mo su wy wa od py ju pl rs) sz) (moW ac q th row un kp mt res.2 bx mo su wy wa od py ju pl rs)) (va_A (moW ac q th row un kp mt ps bx mo su wy wa od py ju pl rs) sz)) 0 0 (va_A (moW ac q th row un kp mt ps bx mo su wy wa od py ju pl rs) sz) := by
  refine Met.ofW (cc := cX8_sideTold) (maxL := 3) (ret := (some .int)) (by decide) rfl ?_
  intro p e s m args below meth c s₁ B hml hv
  obtain ⟨rfl, hsz, hP, hKX, hD0, hC⟩ := hv
  have hx := B.exec
  have hb := B.bytes
  have hr := B.returns
  have hts := atoms_spec (ws := cWW yX8_sideTold cX8_sideTold 3 (some .int)) B.pre
  have htw : ∀ w ∈ WW, w.before _ s = true := fun w h => hts w (List.mem_cons_of_mem _ h)
  have hown : s.vm.findClass RX8 = some m.cls := findClass_of_methodNamed B.named
  have hlocks := B.notSynchronized
  clear hts B
  subst hsz
  have hD := hD0.self (sz := s.heap.size)
  generalize hAe : va_A (moW ac q th row un kp mt ps bx mo su wy wa od py ju pl rs) s.heap.size = A at hD hC ⊢
  have hA : ∀ q : Nat, s.heap.size ≤ q → A q := fun q h => by rw [← hAe]; exact Or.inr h
  have hS : va_S A s.heap s.heap [] := va_S.rf
  clear hD0 hAe
  have hP : va_P D vwCl (moW ac q th row un kp mt ps bx mo su wy wa od py ju pl rs) s.heap := hP
  have hl := lv_entry ([.ref (q 0), .int a1]) (n := 3) (Nat.le_of_ble_eq_true rfl)
  rw [lg_entry_eq]
  generalize (lg_sl ([.ref (q 0), .int a1]) ++ List.replicate (3 - (lg_sl ([.ref (q 0), .int a1])).length) Slot.unset).toArray = ls at hl ⊢
  have hl : lv_has ls 3 [(0, .ref (q 0)), (1, .int a1)] := hl
  unfold M_sideTold at hf
  show W p l e ({ frames := 5, cells := 0, slots := 0, locals := 108 } : Room) s m _ below meth c s.heap [] 0 0 _ (F0 m 0 ls [])
  refine lv_aload_n hx hb dX8_sideTold_0 rfl (lv_at hl 0 rfl) ?_
  refine va_ldcS hx hb hown (sr_10 hC) dX8_sideTold_1 ?_
  obtain ⟨u1, hu1, hf⟩ := z_bd_u hf
  refine zc_MVi (As := [.ref (cs (10 + 0))]) (rest := []) (wr := []) (wsc := moW ac q th row un kp mt ps bx mo su wy wa od py ju pl rs) (wsc' := moW ac q th row un kp mt u1.2 bx mo su wy wa od py ju pl rs) hx hb hml hown htw (ctX8_isWord l D ac cs q s.heap.size th row un kp mt ps bx mo su wy wa od py ju pl rs 0  (by decide) F u1 hu1) (g_V mM_RX8_130 mI_yX8_isWord mS_RX8_yX8_isWord_yX8_isWord mN_RX8 mC_yX8_isWord) rfl (hd_yX8_isWord) ⟨rfl, rfl⟩ ⟨(Nat.le_of_ble_eq_true rfl), (Nat.le_of_ble_eq_true rfl)⟩ hKX hC hS hA hP hD [0, 1, 2, 3, 4, 5, 6, 7, 8, 9, 10, 11, 12, 13, 14, 15, 16, 17, 18, 19, 20] [] rfl (by decide) rfl (by decide) (by decide) 8 rfl rfl rfl hl.1 rfl (Nat.le_of_ble_eq_true rfl) ⟨Nat.zero_le _, Nat.zero_le _⟩ dX8_sideTold_3 (fun H locs hP hD hS => ?_)
  have hP : va_P D vwCl (moW ac q th row un kp mt u1.2 bx mo su wy wa od py ju pl rs) H := hP
  have hD : va_D A (moW ac q th row un kp mt u1.2 bx mo su wy wa od py ju pl rs) := hD
  obtain ⟨k4, hk4, hf⟩ := z_jn_u hf
  have hj5 : ∀ (v2 : Int32) (ps3 : Ps), k4 (v2, ps3) = some res → ∀ (H : Heap) (locs : List Loc) (ls : Array Slot), va_P D vwCl (moW ac q th row un kp mt ps3 bx mo su wy wa od py ju pl rs) H → va_D A (moW ac q th row un kp mt ps3 bx mo su wy wa od py ju pl rs) → va_S A s.heap H locs → lv_has ls 3 [(0, .ref (q 0)), (1, .int a1)] → W p l e ({ frames := 5, cells := 0, slots := 0, locals := 108 } : Room) s m (([.ref (q 0), .int a1] : List Value).toArray) below meth c H locs 0 0 (MQ below (va_Qi (fun r (_ : Unit) => r = res.1) (fun _ => zB D A (moW ac q th row un kp mt res.2 bx mo su wy wa od py ju pl rs)) A) ([.ref (q 0), .int a1] : List Value).toArray s 0 0 A) (F0 m 27 ls [.int v2]) := by
    intro v2 ps3 hf H locs ls hP hD hS hl
    have hf := hk4 _ hf
    refine lv_istore_n (lv' := [(2, .int v2), (0, .ref (q 0)), (1, .int a1)]) hx hb dX8_sideTold_27 rfl hl (Nat.le_of_ble_eq_true rfl) rfl (fun ls hl => ?_)
    refine lv_iload_n hx hb dX8_sideTold_28 rfl (lv_at hl 0 rfl) ?_
    refine lv_iconst (v := (-1)) hx hb dX8_sideTold_29 rfl ?_
    obtain ⟨k6, hk6, hf⟩ := z_jn_u hf
    have hj7 : k6 () = some res → ∀ (H : Heap) (locs : List Loc) (ls : Array Slot), va_P D vwCl (moW ac q th row un kp mt ps3 bx mo su wy wa od py ju pl rs) H → va_D A (moW ac q th row un kp mt ps3 bx mo su wy wa od py ju pl rs) → va_S A s.heap H locs → lv_has ls 3 [(0, .ref (q 0))] → W p l e ({ frames := 5, cells := 0, slots := 0, locals := 108 } : Room) s m (([.ref (q 0), .int a1] : List Value).toArray) below meth c H locs 0 0 (MQ below (va_Qi (fun r (_ : Unit) => r = res.1) (fun _ => zB D A (moW ac q th row un kp mt res.2 bx mo su wy wa od py ju pl rs)) A) ([.ref (q 0), .int a1] : List Value).toArray s 0 0 A) (F0 m 47 ls []) := by
      intro hf H locs ls hP hD hS hl
      have hf := hk6 _ hf
      refine lv_aload_n hx hb dX8_sideTold_47 rfl (lv_at hl 0 rfl) ?_
      refine lv_aload_n hx hb dX8_sideTold_48 rfl (lv_at hl 0 rfl) ?_
      refine va_get (D := D) (ci := 8) (v := .int (ps_reading ps3)) (C := RX8) (T := TX8) (N := 41) hx hb htw WW_wsX80 hown hKX.1 hP 0 rfl rfl 8 (Nat.le_of_ble_eq_true rfl) (htw _ mF_RX8_104) (fun _ h9 => h9) rfl dX8_sideTold_49 ?_
      obtain ⟨u8, hu8⟩ : ∃ y : Ps, y = M_wrong ps3 (ps_reading ps3) := ⟨_, rfl⟩
      have hf := z_let_u hu8 hf
      refine zc_MVv (As := [.int (ps_reading ps3)]) (rest := []) (wr := []) (wsc := moW ac q th row un kp mt ps3 bx mo su wy wa od py ju pl rs) (wsc' := moW ac q th row un kp mt u8 bx mo su wy wa od py ju pl rs) hx hb hml hown htw (ctX8_wrong l D ac cs q H.size th row un kp mt ps3 bx mo su wy wa od py ju pl rs (ps_reading ps3)   u8 hu8.symm) (g_V mM_RX8_141 mI_yX8_wrong mS_RX8_yX8_wrong_yX8_wrong mN_RX8 mC_yX8_wrong) rfl (hd_yX8_wrong) ⟨rfl, rfl⟩ ⟨(Nat.le_of_ble_eq_true rfl), (Nat.le_of_ble_eq_true rfl)⟩ hKX hC hS hA hP hD [0, 1, 2, 3, 4, 5, 6, 7, 8, 9, 10, 11, 12, 13, 14, 15, 16, 17, 18, 19, 20] [] rfl (by decide) rfl (by decide) (by decide) 8 rfl rfl rfl hl.1 rfl (Nat.le_of_ble_eq_true rfl) ⟨Nat.zero_le _, Nat.zero_le _⟩ dX8_sideTold_52 (fun H locs hP hD hS => ?_)
      have hP : va_P D vwCl (moW ac q th row un kp mt u8 bx mo su wy wa od py ju pl rs) H := hP
      have hD : va_D A (moW ac q th row un kp mt u8 bx mo su wy wa od py ju pl rs) := hD
      refine lv_iconst (v := 0) hx hb dX8_sideTold_55 rfl ?_
      obtain rfl := Option.some.inj hf
      exact zr_Mi hx hb hr hlocks hP hD hS dX8_sideTold_56
    refine lv_icmp_eq (tgt := 47) hx hb dX8_sideTold_30 (by decide) (fun c9 => ?_) (fun c9 => ?_)
    · have hf := z_p c9 hf
      exact hj7  hf _ _ ls  hP hD hS (lv_sub hl [1] rfl)
    · have hf := z_n c9 hf
      refine lv_aload_n hx hb dX8_sideTold_33 rfl (lv_at hl 1 rfl) ?_
      refine va_get (D := D) (ci := 8) (v := .int (ps_had ps3)) (C := RX8) (T := TX8) (N := 41) hx hb htw WW_wsX80 hown hKX.1 hP 0 rfl rfl 12 (Nat.le_of_ble_eq_true rfl) (htw _ mF_RX8_149) (fun _ h9 => h9) rfl dX8_sideTold_34 ?_
      refine lv_iload_n hx hb dX8_sideTold_37 rfl (lv_at hl 2 rfl) ?_
      refine lv_iload_n hx hb dX8_sideTold_38 rfl (lv_at hl 0 rfl) ?_
      refine lv_iadd hx hb dX8_sideTold_39 ?_
      refine lv_ishr hx hb dX8_sideTold_40 ?_
      refine lv_iconst (v := 1) hx hb dX8_sideTold_41 rfl ?_
      refine lv_iand hx hb dX8_sideTold_42 ?_
      refine lv_iconst (v := 1) hx hb dX8_sideTold_43 rfl ?_
      refine lv_icmp_ne (tgt := 57) hx hb dX8_sideTold_44 (by decide) (fun c10 => ?_) (fun c10 => ?_)
      · have hf := z_n c10 hf
        refine lv_aload_n hx hb dX8_sideTold_57 rfl (lv_at hl 1 rfl) ?_
        refine lv_dup hx hb dX8_sideTold_58 rfl ?_
        refine va_get (D := D) (ci := 8) (v := .int (ps_had ps3)) (C := RX8) (T := TX8) (N := 41) hx hb htw WW_wsX80 hown hKX.1 hP 0 rfl rfl 12 (Nat.le_of_ble_eq_true rfl) (htw _ mF_RX8_149) (fun _ h9 => h9) rfl dX8_sideTold_59 ?_
        refine lv_iconst (v := 1) hx hb dX8_sideTold_62 rfl ?_
        refine lv_iload_n hx hb dX8_sideTold_63 rfl (lv_at hl 2 rfl) ?_
        refine lv_iload_n hx hb dX8_sideTold_64 rfl (lv_at hl 0 rfl) ?_
        refine lv_iadd hx hb dX8_sideTold_65 ?_
        refine lv_ishl hx hb dX8_sideTold_66 ?_
        refine lv_ior hx hb dX8_sideTold_67 ?_
        refine lv_topi (fun x11 hx11 => ?_)
        have hf := z_let_u hx11 hf
        refine va_put (D := D) (ci := 8) (v := .int x11) (ty := tyX8 12) (C := RX8) (T := TX8) (N := 41) hx hb htw WW_wsX80 tyX8 tyX8_ok nmX8 hown hKX.1 hP hD hS 0 rfl rfl 12 (Nat.le_of_ble_eq_true rfl) (htw _ mF_RX8_149) (fun _ h9 => h9) rfl (tyX8_ok 12 (Nat.le_of_ble_eq_true rfl)) rfl rfl (Nat.le_of_ble_eq_true rfl) dX8_sideTold_68 (fun H locs hP hD hS => ?_)
        have hP : va_P D vwCl (moW ac q th row un kp mt ((ps_reading ps3), (ps_fault ps3), (ps_isGood ps3), (ps_draft ps3), x11, (ps_tells ps3)) bx mo su wy wa od py ju pl rs) H := hP
        have hD : va_D A (moW ac q th row un kp mt ((ps_reading ps3), (ps_fault ps3), (ps_isGood ps3), (ps_draft ps3), x11, (ps_tells ps3)) bx mo su wy wa od py ju pl rs) := hD
        refine lv_aload_n hx hb dX8_sideTold_71 rfl (lv_at hl 1 rfl) ?_
        refine lv_dup hx hb dX8_sideTold_72 rfl ?_
        refine va_get (D := D) (ci := 8) (v := .int (ps_reading ps3)) (C := RX8) (T := TX8) (N := 41) hx hb htw WW_wsX80 hown hKX.1 hP 0 rfl rfl 8 (Nat.le_of_ble_eq_true rfl) (htw _ mF_RX8_104) (fun _ h9 => h9) rfl dX8_sideTold_73 ?_
        refine lv_iconst (v := 1) hx hb dX8_sideTold_76 rfl ?_
        refine lv_iadd hx hb dX8_sideTold_77 ?_
        refine lv_topi (fun x12 hx12 => ?_)
        have hf := z_let_u hx12 hf
        refine va_put (D := D) (ci := 8) (v := .int x12) (ty := tyX8 8) (C := RX8) (T := TX8) (N := 41) hx hb htw WW_wsX80 tyX8 tyX8_ok nmX8 hown hKX.1 hP hD hS 0 rfl rfl 8 (Nat.le_of_ble_eq_true rfl) (htw _ mF_RX8_104) (fun _ h9 => h9) rfl (tyX8_ok 8 (Nat.le_of_ble_eq_true rfl)) rfl rfl (Nat.le_of_ble_eq_true rfl) dX8_sideTold_78 (fun H locs hP hD hS => ?_)
        have hP : va_P D vwCl (moW ac q th row un kp mt (x12, (ps_fault ps3), (ps_isGood ps3), (ps_draft ps3), x11, (ps_tells ps3)) bx mo su wy wa od py ju pl rs) H := hP
        have hD : va_D A (moW ac q th row un kp mt (x12, (ps_fault ps3), (ps_isGood ps3), (ps_draft ps3), x11, (ps_tells ps3)) bx mo su wy wa od py ju pl rs) := hD
        refine lv_iload_n hx hb dX8_sideTold_81 rfl (lv_at hl 0 rfl) ?_
        obtain rfl := Option.some.inj hf
        exact zr_Mi hx hb hr hlocks hP hD hS dX8_sideTold_82
      · have hf := z_p c10 hf
        exact hj7  hf _ _ ls  hP hD hS (lv_sub hl [1] rfl)
  refine lv_if_eq (tgt := 13) hx hb dX8_sideTold_6 (by decide) (fun c13 => ?_) (fun c13 => ?_)
  · have hf := z_p c13 hf
    refine lv_aload_n hx hb dX8_sideTold_13 rfl (lv_at hl 0 rfl) ?_
    refine va_ldcS hx hb hown (sr_11 hC) dX8_sideTold_14 ?_
    obtain ⟨u14, hu14, hf⟩ := z_bd_u hf
    refine zc_MVi (As := [.ref (cs (10 + 1))]) (rest := []) (wr := []) (wsc := moW ac q th row un kp mt u1.2 bx mo su wy wa od py ju pl rs) (wsc' := moW ac q th row un kp mt u14.2 bx mo su wy wa od py ju pl rs) hx hb hml hown htw (ctX8_isWord l D ac cs q H.size th row un kp mt u1.2 bx mo su wy wa od py ju pl rs 1  (by decide) F u14 hu14) (g_V mM_RX8_130 mI_yX8_isWord mS_RX8_yX8_isWord_yX8_isWord mN_RX8 mC_yX8_isWord) rfl (hd_yX8_isWord) ⟨rfl, rfl⟩ ⟨(Nat.le_of_ble_eq_true rfl), (Nat.le_of_ble_eq_true rfl)⟩ hKX hC hS hA hP hD [0, 1, 2, 3, 4, 5, 6, 7, 8, 9, 10, 11, 12, 13, 14, 15, 16, 17, 18, 19, 20] [] rfl (by decide) rfl (by decide) (by decide) 8 rfl rfl rfl hl.1 rfl (Nat.le_of_ble_eq_true rfl) ⟨Nat.zero_le _, Nat.zero_le _⟩ dX8_sideTold_16 (fun H locs hP hD hS => ?_)
    have hP : va_P D vwCl (moW ac q th row un kp mt u14.2 bx mo su wy wa od py ju pl rs) H := hP
    have hD : va_D A (moW ac q th row un kp mt u14.2 bx mo su wy wa od py ju pl rs) := hD
    refine lv_if_eq (tgt := 26) hx hb dX8_sideTold_19 (by decide) (fun c15 => ?_) (fun c15 => ?_)
    · have hf := z_p c15 hf
      refine lv_iconst (v := (-1)) hx hb dX8_sideTold_26 rfl ?_
      exact hj5 (-1) u14.2 hf _ _ ls  hP hD hS (lv_sub hl [0, 1] rfl)
    · have hf := z_n c15 hf
      refine lv_iconst (v := 1) hx hb dX8_sideTold_22 rfl ?_
      refine lv_goto (tgt := 27) hx hb dX8_sideTold_23 (by decide) ?_
      exact hj5 1 u14.2 hf _ _ ls  hP hD hS (lv_sub hl [0, 1] rfl)
  · have hf := z_n c13 hf
    refine lv_iconst (v := 0) hx hb dX8_sideTold_9 rfl ?_
    refine lv_goto (tgt := 27) hx hb dX8_sideTold_10 (by decide) ?_
    exact hj5 0 u1.2 hf _ _ ls  hP hD hS (lv_sub hl [0, 1] rfl)

theorem hd_yX8_readNerves : hdY yX8_readNerves 2 := by decide +kernel
def M_readNerves (F : Nat) (mt : Mt) (ps : Ps) (a1 : Int32) (a2 : Int32) : Option (Ps) := z_bd (M_sideTold F mt ps a2) (fun u1 : Int32 × Ps => z_let u1.1 (fun x2 : Int32 => z_bd (M_takes F mt u1.2 45) (fun u3 : Int32 × Ps => z_let u3.1 (fun x4 : Int32 => z_bd (M_digit F mt u3.2 3) (fun u5 : Int32 × Ps => z_let u5.1 (fun x6 : Int32 => z_let (if x4 = 0 then x6 else (-x6)) (fun v7 : Int32 => z_gd (z_in (a1 + x2) 78) (some ((ps_reading u5.2), (ps_fault u5.2), (ps_isGood u5.2), (upd (ps_draft u5.2) (a1 + x2).toNatClampNeg v7), (ps_had u5.2), (ps_tells u5.2))))))))))
set_option maxHeartbeats 4000000 in
set_option maxRecDepth 100000 in
theorem ctX8_readNerves (l : Launch) (D : va_G) (ac cs : Nat → Nat) (q : Nat → Nat) (sz : Nat) (th : Th) (row : MRow) (un : Un) (kp : Kp) (mt : Mt) (ps : Ps) (bx : Bx) (mo : Mo) (su : Su) (wy : Wy) (wa : Wa) (od : Od) (py : Py) (ju : Ju) (pl : Pl) (rs : Rs) (a1 : Int32) (a2 : Int32) (F : Nat) (res : Ps) (hf : M_readNerves F mt ps a1 a2 = some res) : Met l yX8_readNerves (cWW yX8_readNerves cX8_readNerves 6 none) { frames := 6, cells := 0, slots := 0, locals := 130 } (zM D ac cs [.ref (q 0), .int a1, .int a2] (moW ac q th row un kp mt ps bx mo su wy wa od py ju pl rs) sz) (va_Qv (fun _ : Unit => True) (fun _ => zB D (va_A (moW ac q th row un kp mt ps bx mo su wy wa od py ju pl rs) sz) (moW ac q th row un kp mt res bx mo su wy wa od py ju pl rs)) (va_A (moW ac q th row un kp mt ps bx mo su wy wa od py ju pl rs) sz)) 0 0 (va_A (moW ac q th row un kp mt ps bx mo su wy wa od py ju pl rs) sz) := by
  refine Met.ofW (cc := cX8_readNerves) (maxL := 6) (ret := none) (by decide) rfl ?_
  intro p e s m args below meth c s₁ B hml hv
  obtain ⟨rfl, hsz, hP, hKX, hD0, hC⟩ := hv
  have hx := B.exec
  have hb := B.bytes
  have hr := B.returns
  have hts := atoms_spec (ws := cWW yX8_readNerves cX8_readNerves 6 none) B.pre
  have htw : ∀ w ∈ WW, w.before _ s = true := fun w h => hts w (List.mem_cons_of_mem _ h)
  have hown : s.vm.findClass RX8 = some m.cls := findClass_of_methodNamed B.named
  have hlocks := B.notSynchronized
  clear hts B
  subst hsz
  have hD := hD0.self (sz := s.heap.size)
  generalize hAe : va_A (moW ac q th row un kp mt ps bx mo su wy wa od py ju pl rs) s.heap.size = A at hD hC ⊢
  have hA : ∀ q : Nat, s.heap.size ≤ q → A q := fun q h => by rw [← hAe]; exact Or.inr h
  have hS : va_S A s.heap s.heap [] := va_S.rf
  clear hD0 hAe
  have hP : va_P D vwCl (moW ac q th row un kp mt ps bx mo su wy wa od py ju pl rs) s.heap := hP
  have hl := lv_entry ([.ref (q 0), .int a1, .int a2]) (n := 6) (Nat.le_of_ble_eq_true rfl)
  rw [lg_entry_eq]
  generalize (lg_sl ([.ref (q 0), .int a1, .int a2]) ++ List.replicate (6 - (lg_sl ([.ref (q 0), .int a1, .int a2])).length) Slot.unset).toArray = ls at hl ⊢
  have hl : lv_has ls 6 [(0, .ref (q 0)), (1, .int a1), (2, .int a2)] := hl
  unfold M_readNerves at hf
  show W p l e ({ frames := 6, cells := 0, slots := 0, locals := 130 } : Room) s m _ below meth c s.heap [] 0 0 _ (F0 m 0 ls [])
  refine lv_aload_n hx hb dX8_readNerves_0 rfl (lv_at hl 0 rfl) ?_
  refine lv_iload_n hx hb dX8_readNerves_1 rfl (lv_at hl 2 rfl) ?_
  obtain ⟨u1, hu1, hf⟩ := z_bd_u hf
  refine zc_MVi (As := [.int a2]) (rest := []) (wr := []) (wsc := moW ac q th row un kp mt ps bx mo su wy wa od py ju pl rs) (wsc' := moW ac q th row un kp mt u1.2 bx mo su wy wa od py ju pl rs) hx hb hml hown htw (ctX8_sideTold l D ac cs q s.heap.size th row un kp mt ps bx mo su wy wa od py ju pl rs a2   F u1 hu1) (g_V mM_RX8_156 mI_yX8_sideTold mS_RX8_yX8_sideTold_yX8_sideTold mN_RX8 mC_yX8_sideTold) rfl (hd_yX8_sideTold) ⟨rfl, rfl⟩ ⟨(Nat.le_of_ble_eq_true rfl), (Nat.le_of_ble_eq_true rfl)⟩ hKX hC hS hA hP hD [0, 1, 2, 3, 4, 5, 6, 7, 8, 9, 10, 11, 12, 13, 14, 15, 16, 17, 18, 19, 20] [] rfl (by decide) rfl (by decide) (by decide) 8 rfl rfl rfl hl.1 rfl (Nat.le_of_ble_eq_true rfl) ⟨Nat.zero_le _, Nat.zero_le _⟩ dX8_readNerves_2 (fun H locs hP hD hS => ?_)
  have hP : va_P D vwCl (moW ac q th row un kp mt u1.2 bx mo su wy wa od py ju pl rs) H := hP
  have hD : va_D A (moW ac q th row un kp mt u1.2 bx mo su wy wa od py ju pl rs) := hD
  refine lv_topi (fun x2 hx2 => ?_)
  have hf := z_let_u hx2 hf
  refine lv_istore_n (lv' := [(3, .int x2), (0, .ref (q 0)), (1, .int a1), (2, .int a2)]) hx hb dX8_readNerves_5 rfl hl (Nat.le_of_ble_eq_true rfl) rfl (fun ls hl => ?_)
  refine lv_aload_n hx hb dX8_readNerves_6 rfl (lv_at hl 1 rfl) ?_
  refine lv_bipush (v := 45) hx hb dX8_readNerves_7 rfl ?_
  obtain ⟨u3, hu3, hf⟩ := z_bd_u hf
  refine zc_MVi (As := [.int 45]) (rest := []) (wr := []) (wsc := moW ac q th row un kp mt u1.2 bx mo su wy wa od py ju pl rs) (wsc' := moW ac q th row un kp mt u3.2 bx mo su wy wa od py ju pl rs) hx hb hml hown htw (ctX8_takes l D ac cs q H.size th row un kp mt u1.2 bx mo su wy wa od py ju pl rs 45   F u3 hu3) (g_V mM_RX8_159 mI_yX8_takes mS_RX8_yX8_takes_yX8_takes mN_RX8 mC_yX8_takes) rfl (hd_yX8_takes) ⟨rfl, rfl⟩ ⟨(Nat.le_of_ble_eq_true rfl), (Nat.le_of_ble_eq_true rfl)⟩ hKX hC hS hA hP hD [0, 1, 2, 3, 4, 5, 6, 7, 8, 9, 10, 11, 12, 13, 14, 15, 16, 17, 18, 19, 20] [] rfl (by decide) rfl (by decide) (by decide) 8 rfl rfl rfl hl.1 rfl (Nat.le_of_ble_eq_true rfl) ⟨Nat.zero_le _, Nat.zero_le _⟩ dX8_readNerves_9 (fun H locs hP hD hS => ?_)
  have hP : va_P D vwCl (moW ac q th row un kp mt u3.2 bx mo su wy wa od py ju pl rs) H := hP
  have hD : va_D A (moW ac q th row un kp mt u3.2 bx mo su wy wa od py ju pl rs) := hD
  refine lv_topi (fun x4 hx4 => ?_)
  have hf := z_let_u hx4 hf
  refine lv_istore (lv' := [(4, .int x4), (3, .int x2), (0, .ref (q 0)), (1, .int a1), (2, .int a2)]) hx hb dX8_readNerves_12 hl (Nat.le_of_ble_eq_true rfl) rfl (fun ls hl => ?_)
  refine lv_aload_n hx hb dX8_readNerves_14 rfl (lv_at hl 2 rfl) ?_
  refine lv_iconst (v := 3) hx hb dX8_readNerves_15 rfl ?_
  obtain ⟨u5, hu5, hf⟩ := z_bd_u hf
  refine zc_MVi (As := [.int 3]) (rest := []) (wr := []) (wsc := moW ac q th row un kp mt u3.2 bx mo su wy wa od py ju pl rs) (wsc' := moW ac q th row un kp mt u5.2 bx mo su wy wa od py ju pl rs) hx hb hml hown htw (ctX8_digit l D ac cs q H.size th row un kp mt u3.2 bx mo su wy wa od py ju pl rs 3   F u5 hu5) (g_V mM_RX8_152 mI_yX8_digit mS_RX8_yX8_digit_yX8_digit mN_RX8 mC_yX8_digit) rfl (hd_yX8_digit) ⟨rfl, rfl⟩ ⟨(Nat.le_of_ble_eq_true rfl), (Nat.le_of_ble_eq_true rfl)⟩ hKX hC hS hA hP hD [0, 1, 2, 3, 4, 5, 6, 7, 8, 9, 10, 11, 12, 13, 14, 15, 16, 17, 18, 19, 20] [] rfl (by decide) rfl (by decide) (by decide) 8 rfl rfl rfl hl.1 rfl (Nat.le_of_ble_eq_true rfl) ⟨Nat.zero_le _, Nat.zero_le _⟩ dX8_readNerves_16 (fun H locs hP hD hS => ?_)
  have hP : va_P D vwCl (moW ac q th row un kp mt u5.2 bx mo su wy wa od py ju pl rs) H := hP
  have hD : va_D A (moW ac q th row un kp mt u5.2 bx mo su wy wa od py ju pl rs) := hD
  refine lv_topi (fun x6 hx6 => ?_)
  have hf := z_let_u hx6 hf
  refine lv_istore (lv' := [(5, .int x6), (4, .int x4), (3, .int x2), (0, .ref (q 0)), (1, .int a1), (2, .int a2)]) hx hb dX8_readNerves_19 hl (Nat.le_of_ble_eq_true rfl) rfl (fun ls hl => ?_)
  refine lv_aload_n hx hb dX8_readNerves_21 rfl (lv_at hl 3 rfl) ?_
  refine va_get (D := D) (ci := 8) (v := .ref (q 6)) (C := RX8) (T := TX8) (N := 41) hx hb htw WW_wsX80 hown hKX.1 hP 0 rfl rfl 11 (Nat.le_of_ble_eq_true rfl) (htw _ mF_RX8_29) (fun _ h9 => h9) rfl dX8_readNerves_22 ?_
  refine lv_iload_n hx hb dX8_readNerves_25 rfl (lv_at hl 4 rfl) ?_
  refine lv_iload_n hx hb dX8_readNerves_26 rfl (lv_at hl 2 rfl) ?_
  refine lv_iadd hx hb dX8_readNerves_27 ?_
  refine lv_iload hx hb dX8_readNerves_28 (lv_at hl 1 rfl) ?_
  have hj9 : ∀ (v7 : Int32), v7 = (if x4 = 0 then x6 else (-x6)) → ∀ (H : Heap) (locs : List Loc) (ls : Array Slot), va_P D vwCl (moW ac q th row un kp mt u5.2 bx mo su wy wa od py ju pl rs) H → va_D A (moW ac q th row un kp mt u5.2 bx mo su wy wa od py ju pl rs) → va_S A s.heap H locs → lv_has ls 6 [] → W p l e ({ frames := 6, cells := 0, slots := 0, locals := 130 } : Room) s m (([.ref (q 0), .int a1, .int a2] : List Value).toArray) below meth c H locs 0 0 (MQ below (va_Qv (fun _ : Unit => True) (fun _ => zB D A (moW ac q th row un kp mt res bx mo su wy wa od py ju pl rs)) A) ([.ref (q 0), .int a1, .int a2] : List Value).toArray s 0 0 A) (F0 m 41 ls [.int v7, .int (a1 + x2), .ref (q 6)]) := by
    intro v7 hv7 H locs ls hP hD hS hl
    have hf := z_let_u hv7 hf
    obtain ⟨g11, hf⟩ := z_gd_u hf
    refine va_iast hx hb hKX.1 hP hD hS 6 0 rfl rfl (z_in_u g11) dX8_readNerves_41 (fun H locs hP hD hS => ?_)
    have hP : va_P D vwCl (moW ac q th row un kp mt ((ps_reading u5.2), (ps_fault u5.2), (ps_isGood u5.2), (upd (ps_draft u5.2) (a1 + x2).toNatClampNeg v7), (ps_had u5.2), (ps_tells u5.2)) bx mo su wy wa od py ju pl rs) H := hP
    have hD : va_D A (moW ac q th row un kp mt ((ps_reading u5.2), (ps_fault u5.2), (ps_isGood u5.2), (upd (ps_draft u5.2) (a1 + x2).toNatClampNeg v7), (ps_had u5.2), (ps_tells u5.2)) bx mo su wy wa od py ju pl rs) := hD
    obtain rfl := Option.some.inj hf
    exact zr_Mv hx hb hr hlocks hP hD hS dX8_readNerves_42
  refine lv_if_eq (tgt := 39) hx hb dX8_readNerves_30 (by decide) (fun c10 => ?_) (fun c10 => ?_)
  · skip
    refine lv_iload hx hb dX8_readNerves_39 (lv_at hl 0 rfl) ?_
    exact hj9 x6 (if_pos c10).symm _ _ ls hP hD hS (lv_sub hl [] rfl)
  · skip
    refine lv_iload hx hb dX8_readNerves_33 (lv_at hl 0 rfl) ?_
    refine lv_ineg hx hb dX8_readNerves_35 ?_
    refine lv_goto (tgt := 41) hx hb dX8_readNerves_36 (by decide) ?_
    exact hj9 (-x6) (if_neg c10).symm _ _ ls hP hD hS (lv_sub hl [] rfl)

theorem hd_yX8_isFresh : hdY yX8_isFresh 2 := by decide +kernel
def M_isFresh (F : Nat) (mt : Mt) (ps : Ps) (i0 : Nat) (a2 : Int32) : Option (Int32 × Ps) := z_bd (M_isWord F mt ps i0) (fun u1 : Int32 × Ps => if u1.1 = 0 then (some (0, u1.2)) else (if (((ps_had u1.2) >>> (a2 &&& 31)) &&& 1) = 1 then (some (0, u1.2)) else (z_let ((ps_had u1.2) ||| (1 <<< (a2 &&& 31))) (fun x4 : Int32 => z_let ((ps_reading u1.2) + (Str_length_8abf5 i0)) (fun x5 : Int32 => some (1, (x5, (ps_fault u1.2), (ps_isGood u1.2), (ps_draft u1.2), x4, (ps_tells u1.2))))))))
set_option maxHeartbeats 4000000 in
set_option maxRecDepth 100000 in
theorem ctX8_isFresh (l : Launch) (D : va_G) (ac cs : Nat → Nat) (q : Nat → Nat) (sz : Nat) (th : Th) (row : MRow) (un : Un) (kp : Kp) (mt : Mt) (ps : Ps) (bx : Bx) (mo : Mo) (su : Su) (wy : Wy) (wa : Wa) (od : Od) (py : Py) (ju : Ju) (pl : Pl) (rs : Rs) (i0 : Nat) (a2 : Int32) (hi0 : i0 < 10) (F : Nat) (res : Int32 × Ps) (hf : M_isFresh F mt ps i0 a2 = some res) : Met l yX8_isFresh (cWW yX8_isFresh cX8_isFresh 3 (some .boolean)) { frames := 5, cells := 0, slots := 0, locals := 108 } (zM D ac cs [.ref (q 0), .ref (cs (10 + i0)), .int a2] (moW ac q th row un kp mt ps bx mo su wy wa od py ju pl rs) sz) (va_Qi (fun r (_ : Unit) => r = res.1) (fun _ => zB D (va_A (moW ac q th row un kp mt ps bx mo su wy wa od py ju pl rs) sz) (moW ac q th row un kp mt res.2 bx mo su wy wa od py ju pl rs)) (va_A (moW ac q th row un kp mt ps bx mo su wy wa od py ju pl rs) sz)) 0 0 (va_A (moW ac q th row un kp mt ps bx mo su wy wa od py ju pl rs) sz) := by
  refine Met.ofW (cc := cX8_isFresh) (maxL := 3) (ret := (some .boolean)) (by decide) rfl ?_
  intro p e s m args below meth c s₁ B hml hv
  obtain ⟨rfl, hsz, hP, hKX, hD0, hC⟩ := hv
  have hx := B.exec
  have hb := B.bytes
  have hr := B.returns
  have hts := atoms_spec (ws := cWW yX8_isFresh cX8_isFresh 3 (some .boolean)) B.pre
  have htw : ∀ w ∈ WW, w.before _ s = true := fun w h => hts w (List.mem_cons_of_mem _ h)
  have hown : s.vm.findClass RX8 = some m.cls := findClass_of_methodNamed B.named
  have hlocks := B.notSynchronized
  clear hts B
  subst hsz
  have hD := hD0.self (sz := s.heap.size)
  generalize hAe : va_A (moW ac q th row un kp mt ps bx mo su wy wa od py ju pl rs) s.heap.size = A at hD hC ⊢
  have hA : ∀ q : Nat, s.heap.size ≤ q → A q := fun q h => by rw [← hAe]; exact Or.inr h
  have hS : va_S A s.heap s.heap [] := va_S.rf
  clear hD0 hAe
  have hP : va_P D vwCl (moW ac q th row un kp mt ps bx mo su wy wa od py ju pl rs) s.heap := hP
  have hl := lv_entry ([.ref (q 0), .ref (cs (10 + i0)), .int a2]) (n := 3) (Nat.le_of_ble_eq_true rfl)
  rw [lg_entry_eq]
  generalize (lg_sl ([.ref (q 0), .ref (cs (10 + i0)), .int a2]) ++ List.replicate (3 - (lg_sl ([.ref (q 0), .ref (cs (10 + i0)), .int a2])).length) Slot.unset).toArray = ls at hl ⊢
  have hl : lv_has ls 3 [(0, .ref (q 0)), (1, .ref (cs (10 + i0))), (2, .int a2)] := hl
  unfold M_isFresh at hf
  show W p l e ({ frames := 5, cells := 0, slots := 0, locals := 108 } : Room) s m _ below meth c s.heap [] 0 0 _ (F0 m 0 ls [])
  refine lv_aload_n hx hb dX8_isFresh_0 rfl (lv_at hl 0 rfl) ?_
  refine lv_aload_n hx hb dX8_isFresh_1 rfl (lv_at hl 1 rfl) ?_
  obtain ⟨u1, hu1, hf⟩ := z_bd_u hf
  refine zc_MVi (As := [.ref (cs (10 + i0))]) (rest := []) (wr := []) (wsc := moW ac q th row un kp mt ps bx mo su wy wa od py ju pl rs) (wsc' := moW ac q th row un kp mt u1.2 bx mo su wy wa od py ju pl rs) hx hb hml hown htw (ctX8_isWord l D ac cs q s.heap.size th row un kp mt ps bx mo su wy wa od py ju pl rs i0  hi0 F u1 hu1) (g_V mM_RX8_130 mI_yX8_isWord mS_RX8_yX8_isWord_yX8_isWord mN_RX8 mC_yX8_isWord) rfl (hd_yX8_isWord) ⟨rfl, rfl⟩ ⟨(Nat.le_of_ble_eq_true rfl), (Nat.le_of_ble_eq_true rfl)⟩ hKX hC hS hA hP hD [0, 1, 2, 3, 4, 5, 6, 7, 8, 9, 10, 11, 12, 13, 14, 15, 16, 17, 18, 19, 20] [] rfl (by decide) rfl (by decide) (by decide) 8 rfl rfl rfl hl.1 rfl (Nat.le_of_ble_eq_true rfl) ⟨Nat.zero_le _, Nat.zero_le _⟩ dX8_isFresh_2 (fun H locs hP hD hS => ?_)
  have hP : va_P D vwCl (moW ac q th row un kp mt u1.2 bx mo su wy wa od py ju pl rs) H := hP
  have hD : va_D A (moW ac q th row un kp mt u1.2 bx mo su wy wa od py ju pl rs) := hD
  refine lv_if_eq (tgt := 20) hx hb dX8_isFresh_5 (by decide) (fun c2 => ?_) (fun c2 => ?_)
  · have hf := z_p c2 hf
    refine lv_iconst (v := 0) hx hb dX8_isFresh_20 rfl ?_
    obtain rfl := Option.some.inj hf
    exact zr_Mz hx hb hr hlocks (z_b_n z_b0) hP hD hS dX8_isFresh_21
  · have hf := z_n c2 hf
    refine lv_aload_n hx hb dX8_isFresh_8 rfl (lv_at hl 0 rfl) ?_
    refine va_get (D := D) (ci := 8) (v := .int (ps_had u1.2)) (C := RX8) (T := TX8) (N := 41) hx hb htw WW_wsX80 hown hKX.1 hP 0 rfl rfl 12 (Nat.le_of_ble_eq_true rfl) (htw _ mF_RX8_149) (fun _ h9 => h9) rfl dX8_isFresh_9 ?_
    refine lv_iload_n hx hb dX8_isFresh_12 rfl (lv_at hl 2 rfl) ?_
    refine lv_ishr hx hb dX8_isFresh_13 ?_
    refine lv_iconst (v := 1) hx hb dX8_isFresh_14 rfl ?_
    refine lv_iand hx hb dX8_isFresh_15 ?_
    refine lv_iconst (v := 1) hx hb dX8_isFresh_16 rfl ?_
    refine lv_icmp_ne (tgt := 22) hx hb dX8_isFresh_17 (by decide) (fun c3 => ?_) (fun c3 => ?_)
    · have hf := z_n c3 hf
      refine lv_aload_n hx hb dX8_isFresh_22 rfl (lv_at hl 0 rfl) ?_
      refine lv_dup hx hb dX8_isFresh_23 rfl ?_
      refine va_get (D := D) (ci := 8) (v := .int (ps_had u1.2)) (C := RX8) (T := TX8) (N := 41) hx hb htw WW_wsX80 hown hKX.1 hP 0 rfl rfl 12 (Nat.le_of_ble_eq_true rfl) (htw _ mF_RX8_149) (fun _ h9 => h9) rfl dX8_isFresh_24 ?_
      refine lv_iconst (v := 1) hx hb dX8_isFresh_27 rfl ?_
      refine lv_iload_n hx hb dX8_isFresh_28 rfl (lv_at hl 2 rfl) ?_
      refine lv_ishl hx hb dX8_isFresh_29 ?_
      refine lv_ior hx hb dX8_isFresh_30 ?_
      refine lv_topi (fun x4 hx4 => ?_)
      have hf := z_let_u hx4 hf
      refine va_put (D := D) (ci := 8) (v := .int x4) (ty := tyX8 12) (C := RX8) (T := TX8) (N := 41) hx hb htw WW_wsX80 tyX8 tyX8_ok nmX8 hown hKX.1 hP hD hS 0 rfl rfl 12 (Nat.le_of_ble_eq_true rfl) (htw _ mF_RX8_149) (fun _ h9 => h9) rfl (tyX8_ok 12 (Nat.le_of_ble_eq_true rfl)) rfl rfl (Nat.le_of_ble_eq_true rfl) dX8_isFresh_31 (fun H locs hP hD hS => ?_)
      have hP : va_P D vwCl (moW ac q th row un kp mt ((ps_reading u1.2), (ps_fault u1.2), (ps_isGood u1.2), (ps_draft u1.2), x4, (ps_tells u1.2)) bx mo su wy wa od py ju pl rs) H := hP
      have hD : va_D A (moW ac q th row un kp mt ((ps_reading u1.2), (ps_fault u1.2), (ps_isGood u1.2), (ps_draft u1.2), x4, (ps_tells u1.2)) bx mo su wy wa od py ju pl rs) := hD
      refine lv_aload_n hx hb dX8_isFresh_34 rfl (lv_at hl 0 rfl) ?_
      refine lv_dup hx hb dX8_isFresh_35 rfl ?_
      refine va_get (D := D) (ci := 8) (v := .int (ps_reading u1.2)) (C := RX8) (T := TX8) (N := 41) hx hb htw WW_wsX80 hown hKX.1 hP 0 rfl rfl 8 (Nat.le_of_ble_eq_true rfl) (htw _ mF_RX8_104) (fun _ h9 => h9) rfl dX8_isFresh_36 ?_
      refine lv_aload_n hx hb dX8_isFresh_39 rfl (lv_at hl 1 rfl) ?_
      refine zc_RViS (As := []) (rest := [.int (ps_reading u1.2), .ref (q 0)]) hx hb hml hown htw (ctJ0_length_8abf5 l D ac cs   i0  hi0 _ rfl) (g_V mM_RX8_121 mI_yJ0_length_8abf5 mS_RJ0_yJ0_length_8abf5_yJ0_length_8abf5 mN_RJ0 mC_yJ0_length_8abf5) rfl (hd_yJ0_length_8abf5) ⟨rfl, rfl⟩ ⟨(Nat.le_of_ble_eq_true rfl), (Nat.le_of_ble_eq_true rfl)⟩ hKX hC hS zP0 (zrecS (i := i0) hC hi0 hS) rfl hl.1 rfl (Nat.le_of_ble_eq_true rfl) ⟨Nat.zero_le _, Nat.zero_le _⟩ dX8_isFresh_40 ?_
      refine lv_iadd hx hb dX8_isFresh_43 ?_
      refine lv_topi (fun x5 hx5 => ?_)
      have hf := z_let_u hx5 hf
      refine va_put (D := D) (ci := 8) (v := .int x5) (ty := tyX8 8) (C := RX8) (T := TX8) (N := 41) hx hb htw WW_wsX80 tyX8 tyX8_ok nmX8 hown hKX.1 hP hD hS 0 rfl rfl 8 (Nat.le_of_ble_eq_true rfl) (htw _ mF_RX8_104) (fun _ h9 => h9) rfl (tyX8_ok 8 (Nat.le_of_ble_eq_true rfl)) rfl rfl (Nat.le_of_ble_eq_true rfl) dX8_isFresh_44 (fun H locs hP hD hS => ?_)
      have hP : va_P D vwCl (moW ac q th row un kp mt (x5, (ps_fault u1.2), (ps_isGood u1.2), (ps_draft u1.2), x4, (ps_tells u1.2)) bx mo su wy wa od py ju pl rs) H := hP
      have hD : va_D A (moW ac q th row un kp mt (x5, (ps_fault u1.2), (ps_isGood u1.2), (ps_draft u1.2), x4, (ps_tells u1.2)) bx mo su wy wa od py ju pl rs) := hD
      refine lv_iconst (v := 1) hx hb dX8_isFresh_47 rfl ?_
      obtain rfl := Option.some.inj hf
      exact zr_Mz hx hb hr hlocks (z_b_n z_b1) hP hD hS dX8_isFresh_48
    · have hf := z_p c3 hf
      refine lv_iconst (v := 0) hx hb dX8_isFresh_20 rfl ?_
      obtain rfl := Option.some.inj hf
      exact zr_Mz hx hb hr hlocks (z_b_n z_b0) hP hD hS dX8_isFresh_21

theorem hd_yX8_readLine : hdY yX8_readLine 0 := by decide +kernel
def M_readLine (F : Nat) (mt : Mt) (ps : Ps) : Option (Ps) := z_bd (M_isFresh F mt ps 0 0) (fun u1 : Int32 × Ps => if u1.1 = 0 then (z_bd (M_isFresh F mt u1.2 1 1) (fun u3 : Int32 × Ps => if u3.1 = 0 then (z_bd (M_takesWord F mt u3.2 2) (fun u5 : Int32 × Ps => if u5.1 = 0 then (z_bd (M_takesWord F mt u5.2 4) (fun u7 : Int32 × Ps => if u7.1 = 0 then (z_bd (M_isFresh F mt u7.2 5 6) (fun u9 : Int32 × Ps => if u9.1 = 0 then (z_bd (M_isFresh F mt u9.2 6 7) (fun u11 : Int32 × Ps => if u11.1 = 0 then (z_let (M_wrong u11.2 (ps_reading u11.2)) (fun u13 : Ps => some u13)) else (z_bd (M_sideTold F mt u11.2 8) (fun u14 : Int32 × Ps => z_let u14.1 (fun x15 : Int32 => some ((ps_reading u14.2), (ps_fault u14.2), (ps_isGood u14.2), (upd (ps_draft u14.2) 2 x15), (ps_had u14.2), (ps_tells u14.2))))))) else (z_bd (M_digit F mt u9.2 3) (fun u16 : Int32 × Ps => z_let u16.1 (fun x17 : Int32 => some ((ps_reading u16.2), (ps_fault u16.2), (ps_isGood u16.2), (upd (ps_draft u16.2) 1 x17), (ps_had u16.2), (ps_tells u16.2))))))) else (z_bd (M_readNerves F mt u7.2 6 4) (fun u18 : Ps => some u18)))) else (z_bd (M_readNerves F mt u5.2 4 2) (fun u19 : Ps => some u19)))) else (z_bd (M_readSkills F mt u3.2 1) (fun u20 : Ps => some u20)))) else (z_bd (M_readSkills F mt u1.2 0) (fun u21 : Ps => some u21)))
set_option maxHeartbeats 4000000 in
set_option maxRecDepth 100000 in
theorem ctX8_readLine (l : Launch) (D : va_G) (ac cs : Nat → Nat) (q : Nat → Nat) (sz : Nat) (th : Th) (row : MRow) (un : Un) (kp : Kp) (mt : Mt) (ps : Ps) (bx : Bx) (mo : Mo) (su : Su) (wy : Wy) (wa : Wa) (od : Od) (py : Py) (ju : Ju) (pl : Pl) (rs : Rs) (F : Nat) (res : Ps) (hf : M_readLine F mt ps = some res) : Met l yX8_readLine (cWW yX8_readLine cX8_readLine 1 none) { frames := 7, cells := 0, slots := 0, locals := 155 } (zM D ac cs [.ref (q 0)] (moW ac q th row un kp mt ps bx mo su wy wa od py ju pl rs) sz) (va_Qv (fun _ : Unit => True) (fun _ => zB D (va_A (moW ac q th row un kp mt ps bx mo su wy wa od py ju pl rs) sz) (moW ac q th row un kp mt res bx mo su wy wa od py ju pl rs)) (va_A (moW ac q th row un kp mt ps bx mo su wy wa od py ju pl rs) sz)) 0 0 (va_A (moW ac q th row un kp mt ps bx mo su wy wa od py ju pl rs) sz) := by
  refine Met.ofW (cc := cX8_readLine) (maxL := 1) (ret := none) (by decide) rfl ?_
  intro p e s m args below meth c s₁ B hml hv
  obtain ⟨rfl, hsz, hP, hKX, hD0, hC⟩ := hv
  have hx := B.exec
  have hb := B.bytes
  have hr := B.returns
  have hts := atoms_spec (ws := cWW yX8_readLine cX8_readLine 1 none) B.pre
  have htw : ∀ w ∈ WW, w.before _ s = true := fun w h => hts w (List.mem_cons_of_mem _ h)
  have hown : s.vm.findClass RX8 = some m.cls := findClass_of_methodNamed B.named
  have hlocks := B.notSynchronized
  clear hts B
  subst hsz
  have hD := hD0.self (sz := s.heap.size)
  generalize hAe : va_A (moW ac q th row un kp mt ps bx mo su wy wa od py ju pl rs) s.heap.size = A at hD hC ⊢
  have hA : ∀ q : Nat, s.heap.size ≤ q → A q := fun q h => by rw [← hAe]; exact Or.inr h
  have hS : va_S A s.heap s.heap [] := va_S.rf
  clear hD0 hAe
  have hP : va_P D vwCl (moW ac q th row un kp mt ps bx mo su wy wa od py ju pl rs) s.heap := hP
  have hl := lv_entry ([.ref (q 0)]) (n := 1) (Nat.le_of_ble_eq_true rfl)
  rw [lg_entry_eq]
  generalize (lg_sl ([.ref (q 0)]) ++ List.replicate (1 - (lg_sl ([.ref (q 0)])).length) Slot.unset).toArray = ls at hl ⊢
  have hl : lv_has ls 1 [(0, .ref (q 0))] := hl
  unfold M_readLine at hf
  show W p l e ({ frames := 7, cells := 0, slots := 0, locals := 155 } : Room) s m _ below meth c s.heap [] 0 0 _ (F0 m 0 ls [])
  refine lv_aload_n hx hb dX8_readLine_0 rfl (lv_at hl 0 rfl) ?_
  refine va_ldcS hx hb hown (sr_10 hC) dX8_readLine_1 ?_
  refine lv_iconst (v := 0) hx hb dX8_readLine_3 rfl ?_
  obtain ⟨u1, hu1, hf⟩ := z_bd_u hf
  refine zc_MVi (As := [.ref (cs (10 + 0)), .int 0]) (rest := []) (wr := []) (wsc := moW ac q th row un kp mt ps bx mo su wy wa od py ju pl rs) (wsc' := moW ac q th row un kp mt u1.2 bx mo su wy wa od py ju pl rs) hx hb hml hown htw (ctX8_isFresh l D ac cs q s.heap.size th row un kp mt ps bx mo su wy wa od py ju pl rs 0 0  (by decide) F u1 hu1) (g_V mM_RX8_162 mI_yX8_isFresh mS_RX8_yX8_isFresh_yX8_isFresh mN_RX8 mC_yX8_isFresh) rfl (hd_yX8_isFresh) ⟨rfl, rfl⟩ ⟨(Nat.le_of_ble_eq_true rfl), (Nat.le_of_ble_eq_true rfl)⟩ hKX hC hS hA hP hD [0, 1, 2, 3, 4, 5, 6, 7, 8, 9, 10, 11, 12, 13, 14, 15, 16, 17, 18, 19, 20] [] rfl (by decide) rfl (by decide) (by decide) 8 rfl rfl rfl hl.1 rfl (Nat.le_of_ble_eq_true rfl) ⟨Nat.zero_le _, Nat.zero_le _⟩ dX8_readLine_4 (fun H locs hP hD hS => ?_)
  have hP : va_P D vwCl (moW ac q th row un kp mt u1.2 bx mo su wy wa od py ju pl rs) H := hP
  have hD : va_D A (moW ac q th row un kp mt u1.2 bx mo su wy wa od py ju pl rs) := hD
  refine lv_if_eq (tgt := 18) hx hb dX8_readLine_7 (by decide) (fun c2 => ?_) (fun c2 => ?_)
  · have hf := z_p c2 hf
    refine lv_aload_n hx hb dX8_readLine_18 rfl (lv_at hl 0 rfl) ?_
    refine va_ldcS hx hb hown (sr_11 hC) dX8_readLine_19 ?_
    refine lv_iconst (v := 1) hx hb dX8_readLine_21 rfl ?_
    obtain ⟨u3, hu3, hf⟩ := z_bd_u hf
    refine zc_MVi (As := [.ref (cs (10 + 1)), .int 1]) (rest := []) (wr := []) (wsc := moW ac q th row un kp mt u1.2 bx mo su wy wa od py ju pl rs) (wsc' := moW ac q th row un kp mt u3.2 bx mo su wy wa od py ju pl rs) hx hb hml hown htw (ctX8_isFresh l D ac cs q H.size th row un kp mt u1.2 bx mo su wy wa od py ju pl rs 1 1  (by decide) F u3 hu3) (g_V mM_RX8_162 mI_yX8_isFresh mS_RX8_yX8_isFresh_yX8_isFresh mN_RX8 mC_yX8_isFresh) rfl (hd_yX8_isFresh) ⟨rfl, rfl⟩ ⟨(Nat.le_of_ble_eq_true rfl), (Nat.le_of_ble_eq_true rfl)⟩ hKX hC hS hA hP hD [0, 1, 2, 3, 4, 5, 6, 7, 8, 9, 10, 11, 12, 13, 14, 15, 16, 17, 18, 19, 20] [] rfl (by decide) rfl (by decide) (by decide) 8 rfl rfl rfl hl.1 rfl (Nat.le_of_ble_eq_true rfl) ⟨Nat.zero_le _, Nat.zero_le _⟩ dX8_readLine_22 (fun H locs hP hD hS => ?_)
    have hP : va_P D vwCl (moW ac q th row un kp mt u3.2 bx mo su wy wa od py ju pl rs) H := hP
    have hD : va_D A (moW ac q th row un kp mt u3.2 bx mo su wy wa od py ju pl rs) := hD
    refine lv_if_eq (tgt := 36) hx hb dX8_readLine_25 (by decide) (fun c4 => ?_) (fun c4 => ?_)
    · have hf := z_p c4 hf
      refine lv_aload_n hx hb dX8_readLine_36 rfl (lv_at hl 0 rfl) ?_
      refine va_ldcS hx hb hown (sr_12 hC) dX8_readLine_37 ?_
      obtain ⟨u5, hu5, hf⟩ := z_bd_u hf
      refine zc_MVi (As := [.ref (cs (10 + 2))]) (rest := []) (wr := []) (wsc := moW ac q th row un kp mt u3.2 bx mo su wy wa od py ju pl rs) (wsc' := moW ac q th row un kp mt u5.2 bx mo su wy wa od py ju pl rs) hx hb hml hown htw (ctX8_takesWord l D ac cs q H.size th row un kp mt u3.2 bx mo su wy wa od py ju pl rs 2  (by decide) F u5 hu5) (g_V mM_RX8_171 mI_yX8_takesWord mS_RX8_yX8_takesWord_yX8_takesWord mN_RX8 mC_yX8_takesWord) rfl (hd_yX8_takesWord) ⟨rfl, rfl⟩ ⟨(Nat.le_of_ble_eq_true rfl), (Nat.le_of_ble_eq_true rfl)⟩ hKX hC hS hA hP hD [0, 1, 2, 3, 4, 5, 6, 7, 8, 9, 10, 11, 12, 13, 14, 15, 16, 17, 18, 19, 20] [] rfl (by decide) rfl (by decide) (by decide) 8 rfl rfl rfl hl.1 rfl (Nat.le_of_ble_eq_true rfl) ⟨Nat.zero_le _, Nat.zero_le _⟩ dX8_readLine_39 (fun H locs hP hD hS => ?_)
      have hP : va_P D vwCl (moW ac q th row un kp mt u5.2 bx mo su wy wa od py ju pl rs) H := hP
      have hD : va_D A (moW ac q th row un kp mt u5.2 bx mo su wy wa od py ju pl rs) := hD
      refine lv_if_eq (tgt := 54) hx hb dX8_readLine_42 (by decide) (fun c6 => ?_) (fun c6 => ?_)
      · have hf := z_p c6 hf
        refine lv_aload_n hx hb dX8_readLine_54 rfl (lv_at hl 0 rfl) ?_
        refine va_ldcS hx hb hown (sr_13 hC) dX8_readLine_55 ?_
        obtain ⟨u7, hu7, hf⟩ := z_bd_u hf
        refine zc_MVi (As := [.ref (cs (10 + 4))]) (rest := []) (wr := []) (wsc := moW ac q th row un kp mt u5.2 bx mo su wy wa od py ju pl rs) (wsc' := moW ac q th row un kp mt u7.2 bx mo su wy wa od py ju pl rs) hx hb hml hown htw (ctX8_takesWord l D ac cs q H.size th row un kp mt u5.2 bx mo su wy wa od py ju pl rs 4  (by decide) F u7 hu7) (g_V mM_RX8_171 mI_yX8_takesWord mS_RX8_yX8_takesWord_yX8_takesWord mN_RX8 mC_yX8_takesWord) rfl (hd_yX8_takesWord) ⟨rfl, rfl⟩ ⟨(Nat.le_of_ble_eq_true rfl), (Nat.le_of_ble_eq_true rfl)⟩ hKX hC hS hA hP hD [0, 1, 2, 3, 4, 5, 6, 7, 8, 9, 10, 11, 12, 13, 14, 15, 16, 17, 18, 19, 20] [] rfl (by decide) rfl (by decide) (by decide) 8 rfl rfl rfl hl.1 rfl (Nat.le_of_ble_eq_true rfl) ⟨Nat.zero_le _, Nat.zero_le _⟩ dX8_readLine_57 (fun H locs hP hD hS => ?_)
        have hP : va_P D vwCl (moW ac q th row un kp mt u7.2 bx mo su wy wa od py ju pl rs) H := hP
        have hD : va_D A (moW ac q th row un kp mt u7.2 bx mo su wy wa od py ju pl rs) := hD
        refine lv_if_eq (tgt := 73) hx hb dX8_readLine_60 (by decide) (fun c8 => ?_) (fun c8 => ?_)
        · have hf := z_p c8 hf
          refine lv_aload_n hx hb dX8_readLine_73 rfl (lv_at hl 0 rfl) ?_
          refine va_ldcS hx hb hown (sr_14 hC) dX8_readLine_74 ?_
          refine lv_bipush (v := 6) hx hb dX8_readLine_76 rfl ?_
          obtain ⟨u9, hu9, hf⟩ := z_bd_u hf
          refine zc_MVi (As := [.ref (cs (10 + 5)), .int 6]) (rest := []) (wr := []) (wsc := moW ac q th row un kp mt u7.2 bx mo su wy wa od py ju pl rs) (wsc' := moW ac q th row un kp mt u9.2 bx mo su wy wa od py ju pl rs) hx hb hml hown htw (ctX8_isFresh l D ac cs q H.size th row un kp mt u7.2 bx mo su wy wa od py ju pl rs 5 6  (by decide) F u9 hu9) (g_V mM_RX8_162 mI_yX8_isFresh mS_RX8_yX8_isFresh_yX8_isFresh mN_RX8 mC_yX8_isFresh) rfl (hd_yX8_isFresh) ⟨rfl, rfl⟩ ⟨(Nat.le_of_ble_eq_true rfl), (Nat.le_of_ble_eq_true rfl)⟩ hKX hC hS hA hP hD [0, 1, 2, 3, 4, 5, 6, 7, 8, 9, 10, 11, 12, 13, 14, 15, 16, 17, 18, 19, 20] [] rfl (by decide) rfl (by decide) (by decide) 8 rfl rfl rfl hl.1 rfl (Nat.le_of_ble_eq_true rfl) ⟨Nat.zero_le _, Nat.zero_le _⟩ dX8_readLine_78 (fun H locs hP hD hS => ?_)
          have hP : va_P D vwCl (moW ac q th row un kp mt u9.2 bx mo su wy wa od py ju pl rs) H := hP
          have hD : va_D A (moW ac q th row un kp mt u9.2 bx mo su wy wa od py ju pl rs) := hD
          refine lv_if_eq (tgt := 98) hx hb dX8_readLine_81 (by decide) (fun c10 => ?_) (fun c10 => ?_)
          · have hf := z_p c10 hf
            refine lv_aload_n hx hb dX8_readLine_98 rfl (lv_at hl 0 rfl) ?_
            refine va_ldcS hx hb hown (sr_15 hC) dX8_readLine_99 ?_
            refine lv_bipush (v := 7) hx hb dX8_readLine_101 rfl ?_
            obtain ⟨u11, hu11, hf⟩ := z_bd_u hf
            refine zc_MVi (As := [.ref (cs (10 + 6)), .int 7]) (rest := []) (wr := []) (wsc := moW ac q th row un kp mt u9.2 bx mo su wy wa od py ju pl rs) (wsc' := moW ac q th row un kp mt u11.2 bx mo su wy wa od py ju pl rs) hx hb hml hown htw (ctX8_isFresh l D ac cs q H.size th row un kp mt u9.2 bx mo su wy wa od py ju pl rs 6 7  (by decide) F u11 hu11) (g_V mM_RX8_162 mI_yX8_isFresh mS_RX8_yX8_isFresh_yX8_isFresh mN_RX8 mC_yX8_isFresh) rfl (hd_yX8_isFresh) ⟨rfl, rfl⟩ ⟨(Nat.le_of_ble_eq_true rfl), (Nat.le_of_ble_eq_true rfl)⟩ hKX hC hS hA hP hD [0, 1, 2, 3, 4, 5, 6, 7, 8, 9, 10, 11, 12, 13, 14, 15, 16, 17, 18, 19, 20] [] rfl (by decide) rfl (by decide) (by decide) 8 rfl rfl rfl hl.1 rfl (Nat.le_of_ble_eq_true rfl) ⟨Nat.zero_le _, Nat.zero_le _⟩ dX8_readLine_103 (fun H locs hP hD hS => ?_)
            have hP : va_P D vwCl (moW ac q th row un kp mt u11.2 bx mo su wy wa od py ju pl rs) H := hP
            have hD : va_D A (moW ac q th row un kp mt u11.2 bx mo su wy wa od py ju pl rs) := hD
            refine lv_if_eq (tgt := 124) hx hb dX8_readLine_106 (by decide) (fun c12 => ?_) (fun c12 => ?_)
            · have hf := z_p c12 hf
              refine lv_aload_n hx hb dX8_readLine_124 rfl (lv_at hl 0 rfl) ?_
              refine lv_aload_n hx hb dX8_readLine_125 rfl (lv_at hl 0 rfl) ?_
              refine va_get (D := D) (ci := 8) (v := .int (ps_reading u11.2)) (C := RX8) (T := TX8) (N := 41) hx hb htw WW_wsX80 hown hKX.1 hP 0 rfl rfl 8 (Nat.le_of_ble_eq_true rfl) (htw _ mF_RX8_104) (fun _ h9 => h9) rfl dX8_readLine_126 ?_
              obtain ⟨u13, hu13⟩ : ∃ y : Ps, y = M_wrong u11.2 (ps_reading u11.2) := ⟨_, rfl⟩
              have hf := z_let_u hu13 hf
              refine zc_MVv (As := [.int (ps_reading u11.2)]) (rest := []) (wr := []) (wsc := moW ac q th row un kp mt u11.2 bx mo su wy wa od py ju pl rs) (wsc' := moW ac q th row un kp mt u13 bx mo su wy wa od py ju pl rs) hx hb hml hown htw (ctX8_wrong l D ac cs q H.size th row un kp mt u11.2 bx mo su wy wa od py ju pl rs (ps_reading u11.2)   u13 hu13.symm) (g_V mM_RX8_141 mI_yX8_wrong mS_RX8_yX8_wrong_yX8_wrong mN_RX8 mC_yX8_wrong) rfl (hd_yX8_wrong) ⟨rfl, rfl⟩ ⟨(Nat.le_of_ble_eq_true rfl), (Nat.le_of_ble_eq_true rfl)⟩ hKX hC hS hA hP hD [0, 1, 2, 3, 4, 5, 6, 7, 8, 9, 10, 11, 12, 13, 14, 15, 16, 17, 18, 19, 20] [] rfl (by decide) rfl (by decide) (by decide) 8 rfl rfl rfl hl.1 rfl (Nat.le_of_ble_eq_true rfl) ⟨Nat.zero_le _, Nat.zero_le _⟩ dX8_readLine_129 (fun H locs hP hD hS => ?_)
              have hP : va_P D vwCl (moW ac q th row un kp mt u13 bx mo su wy wa od py ju pl rs) H := hP
              have hD : va_D A (moW ac q th row un kp mt u13 bx mo su wy wa od py ju pl rs) := hD
              obtain rfl := Option.some.inj hf
              exact zr_Mv hx hb hr hlocks hP hD hS dX8_readLine_132
            · have hf := z_n c12 hf
              refine lv_aload_n hx hb dX8_readLine_109 rfl (lv_at hl 0 rfl) ?_
              refine va_get (D := D) (ci := 8) (v := .ref (q 6)) (C := RX8) (T := TX8) (N := 41) hx hb htw WW_wsX80 hown hKX.1 hP 0 rfl rfl 11 (Nat.le_of_ble_eq_true rfl) (htw _ mF_RX8_29) (fun _ h9 => h9) rfl dX8_readLine_110 ?_
              refine lv_iconst (v := 2) hx hb dX8_readLine_113 rfl ?_
              refine lv_aload_n hx hb dX8_readLine_114 rfl (lv_at hl 0 rfl) ?_
              refine lv_bipush (v := 8) hx hb dX8_readLine_115 rfl ?_
              obtain ⟨u14, hu14, hf⟩ := z_bd_u hf
              refine zc_MVi (As := [.int 8]) (rest := [.int 2, .ref (q 6)]) (wr := []) (wsc := moW ac q th row un kp mt u11.2 bx mo su wy wa od py ju pl rs) (wsc' := moW ac q th row un kp mt u14.2 bx mo su wy wa od py ju pl rs) hx hb hml hown htw (ctX8_sideTold l D ac cs q H.size th row un kp mt u11.2 bx mo su wy wa od py ju pl rs 8   F u14 hu14) (g_V mM_RX8_156 mI_yX8_sideTold mS_RX8_yX8_sideTold_yX8_sideTold mN_RX8 mC_yX8_sideTold) rfl (hd_yX8_sideTold) ⟨rfl, rfl⟩ ⟨(Nat.le_of_ble_eq_true rfl), (Nat.le_of_ble_eq_true rfl)⟩ hKX hC hS hA hP hD [0, 1, 2, 3, 4, 5, 6, 7, 8, 9, 10, 11, 12, 13, 14, 15, 16, 17, 18, 19, 20] [] rfl (by decide) rfl (by decide) (by decide) 8 rfl rfl rfl hl.1 rfl (Nat.le_of_ble_eq_true rfl) ⟨Nat.zero_le _, Nat.zero_le _⟩ dX8_readLine_117 (fun H locs hP hD hS => ?_)
              have hP : va_P D vwCl (moW ac q th row un kp mt u14.2 bx mo su wy wa od py ju pl rs) H := hP
              have hD : va_D A (moW ac q th row un kp mt u14.2 bx mo su wy wa od py ju pl rs) := hD
              refine lv_topi (fun x15 hx15 => ?_)
              have hf := z_let_u hx15 hf
              refine zv_iast_k hx hb hKX.1 hP hD hS 6 0 rfl rfl 2 rfl (z_in_u (by decide +kernel)) dX8_readLine_120 (fun H locs hP hD hS => ?_)
              have hP : va_P D vwCl (moW ac q th row un kp mt ((ps_reading u14.2), (ps_fault u14.2), (ps_isGood u14.2), (upd (ps_draft u14.2) 2 x15), (ps_had u14.2), (ps_tells u14.2)) bx mo su wy wa od py ju pl rs) H := hP
              have hD : va_D A (moW ac q th row un kp mt ((ps_reading u14.2), (ps_fault u14.2), (ps_isGood u14.2), (upd (ps_draft u14.2) 2 x15), (ps_had u14.2), (ps_tells u14.2)) bx mo su wy wa od py ju pl rs) := hD
              refine lv_goto (tgt := 132) hx hb dX8_readLine_121 (by decide) ?_
              obtain rfl := Option.some.inj hf
              exact zr_Mv hx hb hr hlocks hP hD hS dX8_readLine_132
          · have hf := z_n c10 hf
            refine lv_aload_n hx hb dX8_readLine_84 rfl (lv_at hl 0 rfl) ?_
            refine va_get (D := D) (ci := 8) (v := .ref (q 6)) (C := RX8) (T := TX8) (N := 41) hx hb htw WW_wsX80 hown hKX.1 hP 0 rfl rfl 11 (Nat.le_of_ble_eq_true rfl) (htw _ mF_RX8_29) (fun _ h9 => h9) rfl dX8_readLine_85 ?_
            refine lv_iconst (v := 1) hx hb dX8_readLine_88 rfl ?_
            refine lv_aload_n hx hb dX8_readLine_89 rfl (lv_at hl 0 rfl) ?_
            refine lv_iconst (v := 3) hx hb dX8_readLine_90 rfl ?_
            obtain ⟨u16, hu16, hf⟩ := z_bd_u hf
            refine zc_MVi (As := [.int 3]) (rest := [.int 1, .ref (q 6)]) (wr := []) (wsc := moW ac q th row un kp mt u9.2 bx mo su wy wa od py ju pl rs) (wsc' := moW ac q th row un kp mt u16.2 bx mo su wy wa od py ju pl rs) hx hb hml hown htw (ctX8_digit l D ac cs q H.size th row un kp mt u9.2 bx mo su wy wa od py ju pl rs 3   F u16 hu16) (g_V mM_RX8_152 mI_yX8_digit mS_RX8_yX8_digit_yX8_digit mN_RX8 mC_yX8_digit) rfl (hd_yX8_digit) ⟨rfl, rfl⟩ ⟨(Nat.le_of_ble_eq_true rfl), (Nat.le_of_ble_eq_true rfl)⟩ hKX hC hS hA hP hD [0, 1, 2, 3, 4, 5, 6, 7, 8, 9, 10, 11, 12, 13, 14, 15, 16, 17, 18, 19, 20] [] rfl (by decide) rfl (by decide) (by decide) 8 rfl rfl rfl hl.1 rfl (Nat.le_of_ble_eq_true rfl) ⟨Nat.zero_le _, Nat.zero_le _⟩ dX8_readLine_91 (fun H locs hP hD hS => ?_)
            have hP : va_P D vwCl (moW ac q th row un kp mt u16.2 bx mo su wy wa od py ju pl rs) H := hP
            have hD : va_D A (moW ac q th row un kp mt u16.2 bx mo su wy wa od py ju pl rs) := hD
            refine lv_topi (fun x17 hx17 => ?_)
            have hf := z_let_u hx17 hf
            refine zv_iast_k hx hb hKX.1 hP hD hS 6 0 rfl rfl 1 rfl (z_in_u (by decide +kernel)) dX8_readLine_94 (fun H locs hP hD hS => ?_)
            have hP : va_P D vwCl (moW ac q th row un kp mt ((ps_reading u16.2), (ps_fault u16.2), (ps_isGood u16.2), (upd (ps_draft u16.2) 1 x17), (ps_had u16.2), (ps_tells u16.2)) bx mo su wy wa od py ju pl rs) H := hP
            have hD : va_D A (moW ac q th row un kp mt ((ps_reading u16.2), (ps_fault u16.2), (ps_isGood u16.2), (upd (ps_draft u16.2) 1 x17), (ps_had u16.2), (ps_tells u16.2)) bx mo su wy wa od py ju pl rs) := hD
            refine lv_goto (tgt := 132) hx hb dX8_readLine_95 (by decide) ?_
            obtain rfl := Option.some.inj hf
            exact zr_Mv hx hb hr hlocks hP hD hS dX8_readLine_132
        · have hf := z_n c8 hf
          refine lv_aload_n hx hb dX8_readLine_63 rfl (lv_at hl 0 rfl) ?_
          refine lv_bipush (v := 6) hx hb dX8_readLine_64 rfl ?_
          refine lv_iconst (v := 4) hx hb dX8_readLine_66 rfl ?_
          obtain ⟨u18, hu18, hf⟩ := z_bd_u hf
          refine zc_MVv (As := [.int 6, .int 4]) (rest := []) (wr := []) (wsc := moW ac q th row un kp mt u7.2 bx mo su wy wa od py ju pl rs) (wsc' := moW ac q th row un kp mt u18 bx mo su wy wa od py ju pl rs) hx hb hml hown htw (ctX8_readNerves l D ac cs q H.size th row un kp mt u7.2 bx mo su wy wa od py ju pl rs 6 4   F u18 hu18) (g_V mM_RX8_174 mI_yX8_readNerves mS_RX8_yX8_readNerves_yX8_readNerves mN_RX8 mC_yX8_readNerves) rfl (hd_yX8_readNerves) ⟨rfl, rfl⟩ ⟨(Nat.le_of_ble_eq_true rfl), (Nat.le_of_ble_eq_true rfl)⟩ hKX hC hS hA hP hD [0, 1, 2, 3, 4, 5, 6, 7, 8, 9, 10, 11, 12, 13, 14, 15, 16, 17, 18, 19, 20] [] rfl (by decide) rfl (by decide) (by decide) 8 rfl rfl rfl hl.1 rfl (Nat.le_of_ble_eq_true rfl) ⟨Nat.zero_le _, Nat.zero_le _⟩ dX8_readLine_67 (fun H locs hP hD hS => ?_)
          have hP : va_P D vwCl (moW ac q th row un kp mt u18 bx mo su wy wa od py ju pl rs) H := hP
          have hD : va_D A (moW ac q th row un kp mt u18 bx mo su wy wa od py ju pl rs) := hD
          refine lv_goto (tgt := 132) hx hb dX8_readLine_70 (by decide) ?_
          obtain rfl := Option.some.inj hf
          exact zr_Mv hx hb hr hlocks hP hD hS dX8_readLine_132
      · have hf := z_n c6 hf
        refine lv_aload_n hx hb dX8_readLine_45 rfl (lv_at hl 0 rfl) ?_
        refine lv_iconst (v := 4) hx hb dX8_readLine_46 rfl ?_
        refine lv_iconst (v := 2) hx hb dX8_readLine_47 rfl ?_
        obtain ⟨u19, hu19, hf⟩ := z_bd_u hf
        refine zc_MVv (As := [.int 4, .int 2]) (rest := []) (wr := []) (wsc := moW ac q th row un kp mt u5.2 bx mo su wy wa od py ju pl rs) (wsc' := moW ac q th row un kp mt u19 bx mo su wy wa od py ju pl rs) hx hb hml hown htw (ctX8_readNerves l D ac cs q H.size th row un kp mt u5.2 bx mo su wy wa od py ju pl rs 4 2   F u19 hu19) (g_V mM_RX8_174 mI_yX8_readNerves mS_RX8_yX8_readNerves_yX8_readNerves mN_RX8 mC_yX8_readNerves) rfl (hd_yX8_readNerves) ⟨rfl, rfl⟩ ⟨(Nat.le_of_ble_eq_true rfl), (Nat.le_of_ble_eq_true rfl)⟩ hKX hC hS hA hP hD [0, 1, 2, 3, 4, 5, 6, 7, 8, 9, 10, 11, 12, 13, 14, 15, 16, 17, 18, 19, 20] [] rfl (by decide) rfl (by decide) (by decide) 8 rfl rfl rfl hl.1 rfl (Nat.le_of_ble_eq_true rfl) ⟨Nat.zero_le _, Nat.zero_le _⟩ dX8_readLine_48 (fun H locs hP hD hS => ?_)
        have hP : va_P D vwCl (moW ac q th row un kp mt u19 bx mo su wy wa od py ju pl rs) H := hP
        have hD : va_D A (moW ac q th row un kp mt u19 bx mo su wy wa od py ju pl rs) := hD
        refine lv_goto (tgt := 132) hx hb dX8_readLine_51 (by decide) ?_
        obtain rfl := Option.some.inj hf
        exact zr_Mv hx hb hr hlocks hP hD hS dX8_readLine_132
    · have hf := z_n c4 hf
      refine lv_aload_n hx hb dX8_readLine_28 rfl (lv_at hl 0 rfl) ?_
      refine lv_iconst (v := 1) hx hb dX8_readLine_29 rfl ?_
      obtain ⟨u20, hu20, hf⟩ := z_bd_u hf
      refine zc_MVv (As := [.int 1]) (rest := []) (wr := []) (wsc := moW ac q th row un kp mt u3.2 bx mo su wy wa od py ju pl rs) (wsc' := moW ac q th row un kp mt u20 bx mo su wy wa od py ju pl rs) hx hb hml hown htw (ctX8_readSkills l D ac cs q H.size th row un kp mt u3.2 bx mo su wy wa od py ju pl rs 1   F u20 hu20) (g_V mM_RX8_166 mI_yX8_readSkills mS_RX8_yX8_readSkills_yX8_readSkills mN_RX8 mC_yX8_readSkills) rfl (hd_yX8_readSkills) ⟨rfl, rfl⟩ ⟨(Nat.le_of_ble_eq_true rfl), (Nat.le_of_ble_eq_true rfl)⟩ hKX hC hS hA hP hD [0, 1, 2, 3, 4, 5, 6, 7, 8, 9, 10, 11, 12, 13, 14, 15, 16, 17, 18, 19, 20] [] rfl (by decide) rfl (by decide) (by decide) 8 rfl rfl rfl hl.1 rfl (Nat.le_of_ble_eq_true rfl) ⟨Nat.zero_le _, Nat.zero_le _⟩ dX8_readLine_30 (fun H locs hP hD hS => ?_)
      have hP : va_P D vwCl (moW ac q th row un kp mt u20 bx mo su wy wa od py ju pl rs) H := hP
      have hD : va_D A (moW ac q th row un kp mt u20 bx mo su wy wa od py ju pl rs) := hD
      refine lv_goto (tgt := 132) hx hb dX8_readLine_33 (by decide) ?_
      obtain rfl := Option.some.inj hf
      exact zr_Mv hx hb hr hlocks hP hD hS dX8_readLine_132
  · have hf := z_n c2 hf
    refine lv_aload_n hx hb dX8_readLine_10 rfl (lv_at hl 0 rfl) ?_
    refine lv_iconst (v := 0) hx hb dX8_readLine_11 rfl ?_
    obtain ⟨u21, hu21, hf⟩ := z_bd_u hf
    refine zc_MVv (As := [.int 0]) (rest := []) (wr := []) (wsc := moW ac q th row un kp mt u1.2 bx mo su wy wa od py ju pl rs) (wsc' := moW ac q th row un kp mt u21 bx mo su wy wa od py ju pl rs) hx hb hml hown htw (ctX8_readSkills l D ac cs q H.size th row un kp mt u1.2 bx mo su wy wa od py ju pl rs 0   F u21 hu21) (g_V mM_RX8_166 mI_yX8_readSkills mS_RX8_yX8_readSkills_yX8_readSkills mN_RX8 mC_yX8_readSkills) rfl (hd_yX8_readSkills) ⟨rfl, rfl⟩ ⟨(Nat.le_of_ble_eq_true rfl), (Nat.le_of_ble_eq_true rfl)⟩ hKX hC hS hA hP hD [0, 1, 2, 3, 4, 5, 6, 7, 8, 9, 10, 11, 12, 13, 14, 15, 16, 17, 18, 19, 20] [] rfl (by decide) rfl (by decide) (by decide) 8 rfl rfl rfl hl.1 rfl (Nat.le_of_ble_eq_true rfl) ⟨Nat.zero_le _, Nat.zero_le _⟩ dX8_readLine_12 (fun H locs hP hD hS => ?_)
    have hP : va_P D vwCl (moW ac q th row un kp mt u21 bx mo su wy wa od py ju pl rs) H := hP
    have hD : va_D A (moW ac q th row un kp mt u21 bx mo su wy wa od py ju pl rs) := hD
    refine lv_goto (tgt := 132) hx hb dX8_readLine_15 (by decide) ?_
    obtain rfl := Option.some.inj hf
    exact zr_Mv hx hb hr hlocks hP hD hS dX8_readLine_132

theorem hd_yX8_teams : hdY yX8_teams 0 := by decide +kernel
def M_teams_L36 (kx6 : Ps → Option (Int32 × Th × MRow × Un × Kp × Mt × Ps)) : Nat → Int32 → Ps → Option (Int32 × Th × MRow × Un × Kp × Mt × Ps)
  | 0, _, _ => none
  | n4 + 1, x1, ps2 => if 78 ≤ x1 then (kx6 ps2) else (z_gd (z_in x1 78) (z_let (x1 + 1) (fun x10 : Int32 => M_teams_L36 kx6 n4 x10 ((ps_reading ps2), (ps_fault ps2), (ps_isGood ps2), (upd (ps_draft ps2) x1.toNatClampNeg 0), (ps_had ps2), (ps_tells ps2)))))
def M_teams_L59 (F : Nat) (mt : Mt) (kx16 : Ps → Option (Int32 × Th × MRow × Un × Kp × Mt × Ps)) : Nat → Ps → Option (Int32 × Th × MRow × Un × Kp × Mt × Ps)
  | 0, _ => none
  | n14 + 1, ps12 => z_bd (M_takes F mt ps12 59) (fun u18 : Int32 × Ps => if u18.1 = 0 then (kx16 u18.2) else (z_bd (M_readLine F mt u18.2) (fun u20 : Ps => M_teams_L59 F mt kx16 n14 u20)))
def M_teams_L156 (ps21 : Ps) (x25 : Int32) (kx31 : MRow → Option (Int32 × Th × MRow × Un × Kp × Mt × Ps)) : Nat → Int32 → MRow → Option (Int32 × Th × MRow × Un × Kp × Mt × Ps)
  | 0, _, _ => none
  | n29 + 1, x26, row27 => if 78 ≤ x26 then (kx31 row27) else (z_gd (z_in x26 78) (z_let ((upd (ps_draft ps21) 0 x25) x26.toNatClampNeg) (fun x35 : Int32 => z_gd (z_in x26 78) (z_let (x26 + 1) (fun x37 : Int32 => M_teams_L156 ps21 x25 kx31 n29 x37 (upd row27 x26.toNatClampNeg x35))))))
def M_teams (F : Nat) (row : MRow) (un : Un) (kp : Kp) (mt : Mt) (ps : Ps) : Option (Int32 × Th × MRow × Un × Kp × Mt × Ps) := M_teams_L36 (fun (ps7 : Ps) => z_bd (M_readLine F mt ps7) (fun u11 : Ps => M_teams_L59 F mt (fun (ps17 : Ps) => z_jn (fun ps21 : Ps => if (ps_isGood ps21) = 0 then (some (((-1000) - (ps_fault ps21)), 0, row, un, kp, ((mt_text mt), 0), ps21)) else (z_let ((ps_tells ps21) 0) (fun x25 : Int32 => M_teams_L156 ps21 x25 (fun (row32 : MRow) => some (M_n row32, 0, row32, ((un_undos un), 0), ((kp_kept kp), (upd (upd (kp_isKept kp) 0 (vp_nar .boolean 0)) 1 (vp_nar .boolean 0))), ((mt_text mt), 0), ((ps_reading ps21), (ps_fault ps21), (ps_isGood ps21), (upd (ps_draft ps21) 0 x25), (ps_had ps21), (ps_tells ps21)))) F 0 row))) (fun k22 => if (ps_isGood ps17) = 0 then (k22 ps17) else (z_bd (M_isEnd F mt ps17) (fun u39 : Int32 × Ps => z_jn (fun _ : Unit => z_let (M_wrong u39.2 (ps_reading u39.2)) (fun u42 : Ps => k22 u42)) (fun k40 => if u39.1 = 0 then (k40 ()) else (if ((ps_tells u39.2) 0) = 0 then (k40 ()) else (if ((ps_tells u39.2) 0) = ((ps_tells u39.2) 1) then (k22 u39.2) else (k40 ())))))))) F u11)) F 0 (0, (ps_fault ps), 1, (ps_draft ps), 0, (upd (upd (ps_tells ps) 0 0) 1 0))
set_option maxHeartbeats 4000000 in
set_option maxRecDepth 100000 in
theorem ctX8_teams (l : Launch) (D : va_G) (ac cs : Nat → Nat) (q : Nat → Nat) (sz : Nat) (th : Th) (row : MRow) (un : Un) (kp : Kp) (mt : Mt) (ps : Ps) (bx : Bx) (mo : Mo) (su : Su) (wy : Wy) (wa : Wa) (od : Od) (py : Py) (ju : Ju) (pl : Pl) (rs : Rs) (F : Nat) (res : Int32 × Th × MRow × Un × Kp × Mt × Ps) (hf : M_teams F row un kp mt ps = some res) : Met l yX8_teams (cWW yX8_teams cX8_teams 2 (some .int)) { frames := 8, cells := 0, slots := 0, locals := 175 } (zM D ac cs [.ref (q 0)] (moW ac q th row un kp mt ps bx mo su wy wa od py ju pl rs) sz) (va_Qi (fun r (_ : Unit) => r = res.1) (fun _ => zB D (va_A (moW ac q th row un kp mt ps bx mo su wy wa od py ju pl rs) sz) (moW ac q res.2.1 res.2.2.1 res.2.2.2.1 res.2.2.2.2.1 res.2.2.2.2.2.1 res.2.2.2.2.2.2 bx mo su wy wa od py ju pl rs)) (va_A (moW ac q th row un kp mt ps bx mo su wy wa od py ju pl rs) sz)) 0 0 (va_A (moW ac q th row un kp mt ps bx mo su wy wa od py ju pl rs) sz) := by
  refine Met.ofW (cc := cX8_teams) (maxL := 2) (ret := (some .int)) (by decide) rfl ?_
  intro p e s m args below meth c s₁ B hml hv
  obtain ⟨rfl, hsz, hP, hKX, hD0, hC⟩ := hv
  have hx := B.exec
  have hb := B.bytes
  have hr := B.returns
  have hts := atoms_spec (ws := cWW yX8_teams cX8_teams 2 (some .int)) B.pre
  have htw : ∀ w ∈ WW, w.before _ s = true := fun w h => hts w (List.mem_cons_of_mem _ h)
  have hown : s.vm.findClass RX8 = some m.cls := findClass_of_methodNamed B.named
  have hlocks := B.notSynchronized
  clear hts B
  subst hsz
  have hD := hD0.self (sz := s.heap.size)
  generalize hAe : va_A (moW ac q th row un kp mt ps bx mo su wy wa od py ju pl rs) s.heap.size = A at hD hC ⊢
  have hA : ∀ q : Nat, s.heap.size ≤ q → A q := fun q h => by rw [← hAe]; exact Or.inr h
  have hS : va_S A s.heap s.heap [] := va_S.rf
  clear hD0 hAe
  have hP : va_P D vwCl (moW ac q th row un kp mt ps bx mo su wy wa od py ju pl rs) s.heap := hP
  have hl := lv_entry ([.ref (q 0)]) (n := 2) (Nat.le_of_ble_eq_true rfl)
  rw [lg_entry_eq]
  generalize (lg_sl ([.ref (q 0)]) ++ List.replicate (2 - (lg_sl ([.ref (q 0)])).length) Slot.unset).toArray = ls at hl ⊢
  have hl : lv_has ls 2 [(0, .ref (q 0))] := hl
  unfold M_teams at hf
  show W p l e ({ frames := 8, cells := 0, slots := 0, locals := 175 } : Room) s m _ below meth c s.heap [] 0 0 _ (F0 m 0 ls [])
  refine lv_aload_n hx hb dX8_teams_0 rfl (lv_at hl 0 rfl) ?_
  refine lv_iconst (v := 0) hx hb dX8_teams_1 rfl ?_
  refine va_put (D := D) (ci := 8) (v := .int 0) (ty := tyX8 0) (C := RX8) (T := TX8) (N := 41) hx hb htw WW_wsX80 tyX8 tyX8_ok nmX8 hown hKX.1 hP hD hS 0 rfl rfl 0 (Nat.le_of_ble_eq_true rfl) (htw _ mF_RX8_75) (fun _ h9 => h9) rfl (tyX8_ok 0 (Nat.le_of_ble_eq_true rfl)) rfl rfl (Nat.le_of_ble_eq_true rfl) dX8_teams_2 (fun H locs hP hD hS => ?_)
  have hP : va_P D vwCl (moW ac q 0 row un kp mt ps bx mo su wy wa od py ju pl rs) H := hP
  have hD : va_D A (moW ac q 0 row un kp mt ps bx mo su wy wa od py ju pl rs) := hD
  refine lv_aload_n hx hb dX8_teams_5 rfl (lv_at hl 0 rfl) ?_
  refine lv_iconst (v := 0) hx hb dX8_teams_6 rfl ?_
  refine va_put (D := D) (ci := 8) (v := .int 0) (ty := tyX8 8) (C := RX8) (T := TX8) (N := 41) hx hb htw WW_wsX80 tyX8 tyX8_ok nmX8 hown hKX.1 hP hD hS 0 rfl rfl 8 (Nat.le_of_ble_eq_true rfl) (htw _ mF_RX8_104) (fun _ h9 => h9) rfl (tyX8_ok 8 (Nat.le_of_ble_eq_true rfl)) rfl rfl (Nat.le_of_ble_eq_true rfl) dX8_teams_7 (fun H locs hP hD hS => ?_)
  have hP : va_P D vwCl (moW ac q 0 row un kp mt (0, (ps_fault ps), (ps_isGood ps), (ps_draft ps), (ps_had ps), (ps_tells ps)) bx mo su wy wa od py ju pl rs) H := hP
  have hD : va_D A (moW ac q 0 row un kp mt (0, (ps_fault ps), (ps_isGood ps), (ps_draft ps), (ps_had ps), (ps_tells ps)) bx mo su wy wa od py ju pl rs) := hD
  refine lv_aload_n hx hb dX8_teams_10 rfl (lv_at hl 0 rfl) ?_
  refine lv_iconst (v := 1) hx hb dX8_teams_11 rfl ?_
  refine va_put (D := D) (ci := 8) (v := .int 1) (ty := tyX8 10) (C := RX8) (T := TX8) (N := 41) hx hb htw WW_wsX80 tyX8 tyX8_ok nmX8 hown hKX.1 hP hD hS 0 rfl rfl 10 (Nat.le_of_ble_eq_true rfl) (htw _ mF_RX8_97) (fun _ h9 => h9) rfl (tyX8_ok 10 (Nat.le_of_ble_eq_true rfl)) (z_b_n z_b1) (z_b_f z_b1) (Nat.le_of_ble_eq_true rfl) dX8_teams_12 (fun H locs hP hD hS => ?_)
  have hP : va_P D vwCl (moW ac q 0 row un kp mt (0, (ps_fault ps), 1, (ps_draft ps), (ps_had ps), (ps_tells ps)) bx mo su wy wa od py ju pl rs) H := hP
  have hD : va_D A (moW ac q 0 row un kp mt (0, (ps_fault ps), 1, (ps_draft ps), (ps_had ps), (ps_tells ps)) bx mo su wy wa od py ju pl rs) := hD
  refine lv_aload_n hx hb dX8_teams_15 rfl (lv_at hl 0 rfl) ?_
  refine lv_iconst (v := 0) hx hb dX8_teams_16 rfl ?_
  refine va_put (D := D) (ci := 8) (v := .int 0) (ty := tyX8 12) (C := RX8) (T := TX8) (N := 41) hx hb htw WW_wsX80 tyX8 tyX8_ok nmX8 hown hKX.1 hP hD hS 0 rfl rfl 12 (Nat.le_of_ble_eq_true rfl) (htw _ mF_RX8_149) (fun _ h9 => h9) rfl (tyX8_ok 12 (Nat.le_of_ble_eq_true rfl)) rfl rfl (Nat.le_of_ble_eq_true rfl) dX8_teams_17 (fun H locs hP hD hS => ?_)
  have hP : va_P D vwCl (moW ac q 0 row un kp mt (0, (ps_fault ps), 1, (ps_draft ps), 0, (ps_tells ps)) bx mo su wy wa od py ju pl rs) H := hP
  have hD : va_D A (moW ac q 0 row un kp mt (0, (ps_fault ps), 1, (ps_draft ps), 0, (ps_tells ps)) bx mo su wy wa od py ju pl rs) := hD
  refine lv_aload_n hx hb dX8_teams_20 rfl (lv_at hl 0 rfl) ?_
  refine va_get (D := D) (ci := 8) (v := .ref (q 7)) (C := RX8) (T := TX8) (N := 41) hx hb htw WW_wsX80 hown hKX.1 hP 0 rfl rfl 13 (Nat.le_of_ble_eq_true rfl) (htw _ mF_RX8_32) (fun _ h9 => h9) rfl dX8_teams_21 ?_
  refine lv_iconst (v := 0) hx hb dX8_teams_24 rfl ?_
  refine lv_iconst (v := 0) hx hb dX8_teams_25 rfl ?_
  refine zv_iast_k hx hb hKX.1 hP hD hS 7 0 rfl rfl 0 rfl (z_in_u (by decide +kernel)) dX8_teams_26 (fun H locs hP hD hS => ?_)
  have hP : va_P D vwCl (moW ac q 0 row un kp mt (0, (ps_fault ps), 1, (ps_draft ps), 0, (upd (ps_tells ps) 0 0)) bx mo su wy wa od py ju pl rs) H := hP
  have hD : va_D A (moW ac q 0 row un kp mt (0, (ps_fault ps), 1, (ps_draft ps), 0, (upd (ps_tells ps) 0 0)) bx mo su wy wa od py ju pl rs) := hD
  refine lv_aload_n hx hb dX8_teams_27 rfl (lv_at hl 0 rfl) ?_
  refine va_get (D := D) (ci := 8) (v := .ref (q 7)) (C := RX8) (T := TX8) (N := 41) hx hb htw WW_wsX80 hown hKX.1 hP 0 rfl rfl 13 (Nat.le_of_ble_eq_true rfl) (htw _ mF_RX8_32) (fun _ h9 => h9) rfl dX8_teams_28 ?_
  refine lv_iconst (v := 1) hx hb dX8_teams_31 rfl ?_
  refine lv_iconst (v := 0) hx hb dX8_teams_32 rfl ?_
  refine zv_iast_k hx hb hKX.1 hP hD hS 7 0 rfl rfl 1 rfl (z_in_u (by decide +kernel)) dX8_teams_33 (fun H locs hP hD hS => ?_)
  have hP : va_P D vwCl (moW ac q 0 row un kp mt (0, (ps_fault ps), 1, (ps_draft ps), 0, (upd (upd (ps_tells ps) 0 0) 1 0)) bx mo su wy wa od py ju pl rs) H := hP
  have hD : va_D A (moW ac q 0 row un kp mt (0, (ps_fault ps), 1, (ps_draft ps), 0, (upd (upd (ps_tells ps) 0 0) 1 0)) bx mo su wy wa od py ju pl rs) := hD
  refine lv_iconst (v := 0) hx hb dX8_teams_34 rfl ?_
  refine lv_istore_n (lv' := [(1, .int 0), (0, .ref (q 0))]) hx hb dX8_teams_35 rfl hl (Nat.le_of_ble_eq_true rfl) rfl (fun ls hl => ?_)
  have hL3 : ∀ (kx6 : Ps → Option (Int32 × Th × MRow × Un × Kp × Mt × Ps)) (hkx6 : ∀ (ps7 : Ps), kx6 ps7 = some res → ∀ (H : Heap) (locs : List Loc) (ls : Array Slot), va_P D vwCl (moW ac q 0 row un kp mt ps7 bx mo su wy wa od py ju pl rs) H → va_D A (moW ac q 0 row un kp mt ps7 bx mo su wy wa od py ju pl rs) → va_S A s.heap H locs → lv_has ls 2 [(0, .ref (q 0))] → W p l e ({ frames := 8, cells := 0, slots := 0, locals := 175 } : Room) s m (([.ref (q 0)] : List Value).toArray) below meth c H locs 0 0 (MQ below (va_Qi (fun r (_ : Unit) => r = res.1) (fun _ => zB D A (moW ac q res.2.1 res.2.2.1 res.2.2.2.1 res.2.2.2.2.1 res.2.2.2.2.2.1 res.2.2.2.2.2.2 bx mo su wy wa od py ju pl rs)) A) ([.ref (q 0)] : List Value).toArray s 0 0 A) (F0 m 55 ls [])) (n4 : Nat) (x1 : Int32) (ps2 : Ps), M_teams_L36 kx6 n4 x1 ps2 = some res → ∀ (H : Heap) (locs : List Loc) (ls : Array Slot), va_P D vwCl (moW ac q 0 row un kp mt ps2 bx mo su wy wa od py ju pl rs) H → va_D A (moW ac q 0 row un kp mt ps2 bx mo su wy wa od py ju pl rs) → va_S A s.heap H locs → lv_has ls 2 [(0, .ref (q 0)), (1, .int x1)] → W p l e ({ frames := 8, cells := 0, slots := 0, locals := 175 } : Room) s m (([.ref (q 0)] : List Value).toArray) below meth c H locs 0 0 (MQ below (va_Qi (fun r (_ : Unit) => r = res.1) (fun _ => zB D A (moW ac q res.2.1 res.2.2.1 res.2.2.2.1 res.2.2.2.2.1 res.2.2.2.2.2.1 res.2.2.2.2.2.2 bx mo su wy wa od py ju pl rs)) A) ([.ref (q 0)] : List Value).toArray s 0 0 A) (F0 m 36 ls []) := by
    intro kx6 hkx6 n4
    induction n4 with
    | zero => intro x1 ps2 hf; rw [M_teams_L36] at hf; cases hf
    | succ n4 ih5 =>
      intro x1 ps2 hf H locs ls hP hD hS hl
      rw [M_teams_L36] at hf
      refine lv_iload_n hx hb dX8_teams_36 rfl (lv_at hl 1 rfl) ?_
      refine lv_bipush (v := 78) hx hb dX8_teams_37 rfl ?_
      refine lv_icmp_ge (tgt := 55) hx hb dX8_teams_39 (by decide) (fun c8 => ?_) (fun c8 => ?_)
      · have hf := z_p c8 hf
        exact hkx6 ps2 hf _ _ ls  hP hD hS (lv_sub hl [0] rfl)
      · have hf := z_n c8 hf
        refine lv_aload_n hx hb dX8_teams_42 rfl (lv_at hl 0 rfl) ?_
        refine va_get (D := D) (ci := 8) (v := .ref (q 6)) (C := RX8) (T := TX8) (N := 41) hx hb htw WW_wsX80 hown hKX.1 hP 0 rfl rfl 11 (Nat.le_of_ble_eq_true rfl) (htw _ mF_RX8_29) (fun _ h9 => h9) rfl dX8_teams_43 ?_
        refine lv_iload_n hx hb dX8_teams_46 rfl (lv_at hl 1 rfl) ?_
        refine lv_iconst (v := 0) hx hb dX8_teams_47 rfl ?_
        obtain ⟨g9, hf⟩ := z_gd_u hf
        refine va_iast hx hb hKX.1 hP hD hS 6 0 rfl rfl (z_in_u g9) dX8_teams_48 (fun H locs hP hD hS => ?_)
        have hP : va_P D vwCl (moW ac q 0 row un kp mt ((ps_reading ps2), (ps_fault ps2), (ps_isGood ps2), (upd (ps_draft ps2) x1.toNatClampNeg 0), (ps_had ps2), (ps_tells ps2)) bx mo su wy wa od py ju pl rs) H := hP
        have hD : va_D A (moW ac q 0 row un kp mt ((ps_reading ps2), (ps_fault ps2), (ps_isGood ps2), (upd (ps_draft ps2) x1.toNatClampNeg 0), (ps_had ps2), (ps_tells ps2)) bx mo su wy wa od py ju pl rs) := hD
        obtain ⟨x10, hx10⟩ : ∃ y : Int32, y = (x1 + 1) := ⟨_, rfl⟩
        have hf := z_let_u hx10 hf
        refine lv_iinc (v := x10) (lv' := [(1, .int x10), (0, .ref (q 0))]) hx hb dX8_teams_49 hl (k := 1) rfl (by rw [hx10]; rfl) (Nat.le_of_ble_eq_true rfl) rfl (fun ls hl => ?_)
        refine lv_goto (tgt := 36) hx hb dX8_teams_52 (by decide) ?_
        exact ih5 x10 ((ps_reading ps2), (ps_fault ps2), (ps_isGood ps2), (upd (ps_draft ps2) x1.toNatClampNeg 0), (ps_had ps2), (ps_tells ps2)) hf _ _ ls  hP hD hS (lv_sub hl [1, 0] rfl)
  refine hL3 _ ?_ F 0 (0, (ps_fault ps), 1, (ps_draft ps), 0, (upd (upd (ps_tells ps) 0 0) 1 0)) hf _ _ ls  hP hD hS (lv_sub hl [1, 0] rfl)
  intro ps7 hf H locs ls hP hD hS hl
  refine lv_aload_n hx hb dX8_teams_55 rfl (lv_at hl 0 rfl) ?_
  obtain ⟨u11, hu11, hf⟩ := z_bd_u hf
  refine zc_MVv (As := []) (rest := []) (wr := []) (wsc := moW ac q 0 row un kp mt ps7 bx mo su wy wa od py ju pl rs) (wsc' := moW ac q 0 row un kp mt u11 bx mo su wy wa od py ju pl rs) hx hb hml hown htw (ctX8_readLine l D ac cs q H.size 0 row un kp mt ps7 bx mo su wy wa od py ju pl rs    F u11 hu11) (g_V mM_RX8_184 mI_yX8_readLine mS_RX8_yX8_readLine_yX8_readLine mN_RX8 mC_yX8_readLine) rfl (hd_yX8_readLine) ⟨rfl, rfl⟩ ⟨(Nat.le_of_ble_eq_true rfl), (Nat.le_of_ble_eq_true rfl)⟩ hKX hC hS hA hP hD [0, 1, 2, 3, 4, 5, 6, 7, 8, 9, 10, 11, 12, 13, 14, 15, 16, 17, 18, 19, 20] [] rfl (by decide) rfl (by decide) (by decide) 8 rfl rfl rfl hl.1 rfl (Nat.le_of_ble_eq_true rfl) ⟨Nat.zero_le _, Nat.zero_le _⟩ dX8_teams_56 (fun H locs hP hD hS => ?_)
  have hP : va_P D vwCl (moW ac q 0 row un kp mt u11 bx mo su wy wa od py ju pl rs) H := hP
  have hD : va_D A (moW ac q 0 row un kp mt u11 bx mo su wy wa od py ju pl rs) := hD
  have hL13 : ∀ (kx16 : Ps → Option (Int32 × Th × MRow × Un × Kp × Mt × Ps)) (hkx16 : ∀ (ps17 : Ps), kx16 ps17 = some res → ∀ (H : Heap) (locs : List Loc) (ls : Array Slot), va_P D vwCl (moW ac q 0 row un kp mt ps17 bx mo su wy wa od py ju pl rs) H → va_D A (moW ac q 0 row un kp mt ps17 bx mo su wy wa od py ju pl rs) → va_S A s.heap H locs → lv_has ls 2 [(0, .ref (q 0))] → W p l e ({ frames := 8, cells := 0, slots := 0, locals := 175 } : Room) s m (([.ref (q 0)] : List Value).toArray) below meth c H locs 0 0 (MQ below (va_Qi (fun r (_ : Unit) => r = res.1) (fun _ => zB D A (moW ac q res.2.1 res.2.2.1 res.2.2.2.1 res.2.2.2.2.1 res.2.2.2.2.2.1 res.2.2.2.2.2.2 bx mo su wy wa od py ju pl rs)) A) ([.ref (q 0)] : List Value).toArray s 0 0 A) (F0 m 75 ls [])) (n14 : Nat) (ps12 : Ps), M_teams_L59 F mt kx16 n14 ps12 = some res → ∀ (H : Heap) (locs : List Loc) (ls : Array Slot), va_P D vwCl (moW ac q 0 row un kp mt ps12 bx mo su wy wa od py ju pl rs) H → va_D A (moW ac q 0 row un kp mt ps12 bx mo su wy wa od py ju pl rs) → va_S A s.heap H locs → lv_has ls 2 [(0, .ref (q 0))] → W p l e ({ frames := 8, cells := 0, slots := 0, locals := 175 } : Room) s m (([.ref (q 0)] : List Value).toArray) below meth c H locs 0 0 (MQ below (va_Qi (fun r (_ : Unit) => r = res.1) (fun _ => zB D A (moW ac q res.2.1 res.2.2.1 res.2.2.2.1 res.2.2.2.2.1 res.2.2.2.2.2.1 res.2.2.2.2.2.2 bx mo su wy wa od py ju pl rs)) A) ([.ref (q 0)] : List Value).toArray s 0 0 A) (F0 m 59 ls []) := by
    intro kx16 hkx16 n14
    induction n14 with
    | zero => intro ps12 hf; rw [M_teams_L59] at hf; cases hf
    | succ n14 ih15 =>
      intro ps12 hf H locs ls hP hD hS hl
      rw [M_teams_L59] at hf
      refine lv_aload_n hx hb dX8_teams_59 rfl (lv_at hl 0 rfl) ?_
      refine lv_bipush (v := 59) hx hb dX8_teams_60 rfl ?_
      obtain ⟨u18, hu18, hf⟩ := z_bd_u hf
      refine zc_MVi (As := [.int 59]) (rest := []) (wr := []) (wsc := moW ac q 0 row un kp mt ps12 bx mo su wy wa od py ju pl rs) (wsc' := moW ac q 0 row un kp mt u18.2 bx mo su wy wa od py ju pl rs) hx hb hml hown htw (ctX8_takes l D ac cs q H.size 0 row un kp mt ps12 bx mo su wy wa od py ju pl rs 59   F u18 hu18) (g_V mM_RX8_159 mI_yX8_takes mS_RX8_yX8_takes_yX8_takes mN_RX8 mC_yX8_takes) rfl (hd_yX8_takes) ⟨rfl, rfl⟩ ⟨(Nat.le_of_ble_eq_true rfl), (Nat.le_of_ble_eq_true rfl)⟩ hKX hC hS hA hP hD [0, 1, 2, 3, 4, 5, 6, 7, 8, 9, 10, 11, 12, 13, 14, 15, 16, 17, 18, 19, 20] [] rfl (by decide) rfl (by decide) (by decide) 8 rfl rfl rfl hl.1 rfl (Nat.le_of_ble_eq_true rfl) ⟨Nat.zero_le _, Nat.zero_le _⟩ dX8_teams_62 (fun H locs hP hD hS => ?_)
      have hP : va_P D vwCl (moW ac q 0 row un kp mt u18.2 bx mo su wy wa od py ju pl rs) H := hP
      have hD : va_D A (moW ac q 0 row un kp mt u18.2 bx mo su wy wa od py ju pl rs) := hD
      refine lv_if_eq (tgt := 75) hx hb dX8_teams_65 (by decide) (fun c19 => ?_) (fun c19 => ?_)
      · have hf := z_p c19 hf
        exact hkx16 u18.2 hf _ _ ls  hP hD hS (lv_sub hl [0] rfl)
      · have hf := z_n c19 hf
        refine lv_aload_n hx hb dX8_teams_68 rfl (lv_at hl 0 rfl) ?_
        obtain ⟨u20, hu20, hf⟩ := z_bd_u hf
        refine zc_MVv (As := []) (rest := []) (wr := []) (wsc := moW ac q 0 row un kp mt u18.2 bx mo su wy wa od py ju pl rs) (wsc' := moW ac q 0 row un kp mt u20 bx mo su wy wa od py ju pl rs) hx hb hml hown htw (ctX8_readLine l D ac cs q H.size 0 row un kp mt u18.2 bx mo su wy wa od py ju pl rs    F u20 hu20) (g_V mM_RX8_184 mI_yX8_readLine mS_RX8_yX8_readLine_yX8_readLine mN_RX8 mC_yX8_readLine) rfl (hd_yX8_readLine) ⟨rfl, rfl⟩ ⟨(Nat.le_of_ble_eq_true rfl), (Nat.le_of_ble_eq_true rfl)⟩ hKX hC hS hA hP hD [0, 1, 2, 3, 4, 5, 6, 7, 8, 9, 10, 11, 12, 13, 14, 15, 16, 17, 18, 19, 20] [] rfl (by decide) rfl (by decide) (by decide) 8 rfl rfl rfl hl.1 rfl (Nat.le_of_ble_eq_true rfl) ⟨Nat.zero_le _, Nat.zero_le _⟩ dX8_teams_69 (fun H locs hP hD hS => ?_)
        have hP : va_P D vwCl (moW ac q 0 row un kp mt u20 bx mo su wy wa od py ju pl rs) H := hP
        have hD : va_D A (moW ac q 0 row un kp mt u20 bx mo su wy wa od py ju pl rs) := hD
        refine lv_goto (tgt := 59) hx hb dX8_teams_72 (by decide) ?_
        exact ih15 u20 hf _ _ ls  hP hD hS (lv_sub hl [0] rfl)
  refine hL13 _ ?_ F u11 hf _ _ ls  hP hD hS (lv_sub hl [0] rfl)
  intro ps17 hf H locs ls hP hD hS hl
  refine lv_aload_n hx hb dX8_teams_75 rfl (lv_at hl 0 rfl) ?_
  refine va_get (D := D) (ci := 8) (v := .int (ps_isGood ps17)) (C := RX8) (T := TX8) (N := 41) hx hb htw WW_wsX80 hown hKX.1 hP 0 rfl rfl 10 (Nat.le_of_ble_eq_true rfl) (htw _ mF_RX8_97) (fun _ h9 => h9) rfl dX8_teams_76 ?_
  obtain ⟨k22, hk22, hf⟩ := z_jn_u hf
  have hj23 : ∀ (ps21 : Ps), k22 ps21 = some res → ∀ (H : Heap) (locs : List Loc) (ls : Array Slot), va_P D vwCl (moW ac q 0 row un kp mt ps21 bx mo su wy wa od py ju pl rs) H → va_D A (moW ac q 0 row un kp mt ps21 bx mo su wy wa od py ju pl rs) → va_S A s.heap H locs → lv_has ls 2 [(0, .ref (q 0))] → W p l e ({ frames := 8, cells := 0, slots := 0, locals := 175 } : Room) s m (([.ref (q 0)] : List Value).toArray) below meth c H locs 0 0 (MQ below (va_Qi (fun r (_ : Unit) => r = res.1) (fun _ => zB D A (moW ac q res.2.1 res.2.2.1 res.2.2.2.1 res.2.2.2.2.1 res.2.2.2.2.2.1 res.2.2.2.2.2.2 bx mo su wy wa od py ju pl rs)) A) ([.ref (q 0)] : List Value).toArray s 0 0 A) (F0 m 121 ls []) := by
    intro ps21 hf H locs ls hP hD hS hl
    have hf := hk22 _ hf
    refine lv_aload_n hx hb dX8_teams_121 rfl (lv_at hl 0 rfl) ?_
    refine lv_iconst (v := 0) hx hb dX8_teams_122 rfl ?_
    refine va_put (D := D) (ci := 8) (v := .int 0) (ty := tyX8 7) (C := RX8) (T := TX8) (N := 41) hx hb htw WW_wsX80 tyX8 tyX8_ok nmX8 hown hKX.1 hP hD hS 0 rfl rfl 7 (Nat.le_of_ble_eq_true rfl) (htw _ mF_RX8_94) (fun _ h9 => h9) rfl (tyX8_ok 7 (Nat.le_of_ble_eq_true rfl)) rfl rfl (Nat.le_of_ble_eq_true rfl) dX8_teams_123 (fun H locs hP hD hS => ?_)
    have hP : va_P D vwCl (moW ac q 0 row un kp ((mt_text mt), 0) ps21 bx mo su wy wa od py ju pl rs) H := hP
    have hD : va_D A (moW ac q 0 row un kp ((mt_text mt), 0) ps21 bx mo su wy wa od py ju pl rs) := hD
    refine lv_aload_n hx hb dX8_teams_126 rfl (lv_at hl 0 rfl) ?_
    refine va_get (D := D) (ci := 8) (v := .int (ps_isGood ps21)) (C := RX8) (T := TX8) (N := 41) hx hb htw WW_wsX80 hown hKX.1 hP 0 rfl rfl 10 (Nat.le_of_ble_eq_true rfl) (htw _ mF_RX8_97) (fun _ h9 => h9) rfl dX8_teams_127 ?_
    refine lv_if_ne (tgt := 142) hx hb dX8_teams_130 (by decide) (fun c24 => ?_) (fun c24 => ?_)
    · have hf := z_n c24 hf
      refine lv_aload_n hx hb dX8_teams_142 rfl (lv_at hl 0 rfl) ?_
      refine va_get (D := D) (ci := 8) (v := .ref (q 6)) (C := RX8) (T := TX8) (N := 41) hx hb htw WW_wsX80 hown hKX.1 hP 0 rfl rfl 11 (Nat.le_of_ble_eq_true rfl) (htw _ mF_RX8_29) (fun _ h9 => h9) rfl dX8_teams_143 ?_
      refine lv_iconst (v := 0) hx hb dX8_teams_146 rfl ?_
      refine lv_aload_n hx hb dX8_teams_147 rfl (lv_at hl 0 rfl) ?_
      refine va_get (D := D) (ci := 8) (v := .ref (q 7)) (C := RX8) (T := TX8) (N := 41) hx hb htw WW_wsX80 hown hKX.1 hP 0 rfl rfl 13 (Nat.le_of_ble_eq_true rfl) (htw _ mF_RX8_32) (fun _ h9 => h9) rfl dX8_teams_148 ?_
      refine lv_iconst (v := 0) hx hb dX8_teams_151 rfl ?_
      refine zv_iald_k hx hb hKX.1 hP 7 0 rfl rfl 0 rfl (z_in_u (by decide +kernel)) dX8_teams_152 ?_
      refine lv_topi (fun x25 hx25 => ?_)
      have hf := z_let_u hx25 hf
      refine zv_iast_k hx hb hKX.1 hP hD hS 6 0 rfl rfl 0 rfl (z_in_u (by decide +kernel)) dX8_teams_153 (fun H locs hP hD hS => ?_)
      have hP : va_P D vwCl (moW ac q 0 row un kp ((mt_text mt), 0) ((ps_reading ps21), (ps_fault ps21), (ps_isGood ps21), (upd (ps_draft ps21) 0 x25), (ps_had ps21), (ps_tells ps21)) bx mo su wy wa od py ju pl rs) H := hP
      have hD : va_D A (moW ac q 0 row un kp ((mt_text mt), 0) ((ps_reading ps21), (ps_fault ps21), (ps_isGood ps21), (upd (ps_draft ps21) 0 x25), (ps_had ps21), (ps_tells ps21)) bx mo su wy wa od py ju pl rs) := hD
      refine lv_iconst (v := 0) hx hb dX8_teams_154 rfl ?_
      refine lv_istore_n (lv' := [(1, .int 0), (0, .ref (q 0))]) hx hb dX8_teams_155 rfl hl (Nat.le_of_ble_eq_true rfl) rfl (fun ls hl => ?_)
      have hL28 : ∀ (kx31 : MRow → Option (Int32 × Th × MRow × Un × Kp × Mt × Ps)) (hkx31 : ∀ (row32 : MRow), kx31 row32 = some res → ∀ (H : Heap) (locs : List Loc) (ls : Array Slot), va_P D vwCl (moW ac q 0 row32 un kp ((mt_text mt), 0) ((ps_reading ps21), (ps_fault ps21), (ps_isGood ps21), (upd (ps_draft ps21) 0 x25), (ps_had ps21), (ps_tells ps21)) bx mo su wy wa od py ju pl rs) H → va_D A (moW ac q 0 row32 un kp ((mt_text mt), 0) ((ps_reading ps21), (ps_fault ps21), (ps_isGood ps21), (upd (ps_draft ps21) 0 x25), (ps_had ps21), (ps_tells ps21)) bx mo su wy wa od py ju pl rs) → va_S A s.heap H locs → lv_has ls 2 [(0, .ref (q 0))] → W p l e ({ frames := 8, cells := 0, slots := 0, locals := 175 } : Room) s m (([.ref (q 0)] : List Value).toArray) below meth c H locs 0 0 (MQ below (va_Qi (fun r (_ : Unit) => r = res.1) (fun _ => zB D A (moW ac q res.2.1 res.2.2.1 res.2.2.2.1 res.2.2.2.2.1 res.2.2.2.2.2.1 res.2.2.2.2.2.2 bx mo su wy wa od py ju pl rs)) A) ([.ref (q 0)] : List Value).toArray s 0 0 A) (F0 m 180 ls [])) (n29 : Nat) (x26 : Int32) (row27 : MRow), M_teams_L156 ps21 x25 kx31 n29 x26 row27 = some res → ∀ (H : Heap) (locs : List Loc) (ls : Array Slot), va_P D vwCl (moW ac q 0 row27 un kp ((mt_text mt), 0) ((ps_reading ps21), (ps_fault ps21), (ps_isGood ps21), (upd (ps_draft ps21) 0 x25), (ps_had ps21), (ps_tells ps21)) bx mo su wy wa od py ju pl rs) H → va_D A (moW ac q 0 row27 un kp ((mt_text mt), 0) ((ps_reading ps21), (ps_fault ps21), (ps_isGood ps21), (upd (ps_draft ps21) 0 x25), (ps_had ps21), (ps_tells ps21)) bx mo su wy wa od py ju pl rs) → va_S A s.heap H locs → lv_has ls 2 [(0, .ref (q 0)), (1, .int x26)] → W p l e ({ frames := 8, cells := 0, slots := 0, locals := 175 } : Room) s m (([.ref (q 0)] : List Value).toArray) below meth c H locs 0 0 (MQ below (va_Qi (fun r (_ : Unit) => r = res.1) (fun _ => zB D A (moW ac q res.2.1 res.2.2.1 res.2.2.2.1 res.2.2.2.2.1 res.2.2.2.2.2.1 res.2.2.2.2.2.2 bx mo su wy wa od py ju pl rs)) A) ([.ref (q 0)] : List Value).toArray s 0 0 A) (F0 m 156 ls []) := by
        intro kx31 hkx31 n29
        induction n29 with
        | zero => intro x26 row27 hf; rw [M_teams_L156] at hf; cases hf
        | succ n29 ih30 =>
          intro x26 row27 hf H locs ls hP hD hS hl
          rw [M_teams_L156] at hf
          refine lv_iload_n hx hb dX8_teams_156 rfl (lv_at hl 1 rfl) ?_
          refine lv_bipush (v := 78) hx hb dX8_teams_157 rfl ?_
          refine lv_icmp_ge (tgt := 180) hx hb dX8_teams_159 (by decide) (fun c33 => ?_) (fun c33 => ?_)
          · have hf := z_p c33 hf
            exact hkx31 row27 hf _ _ ls  hP hD hS (lv_sub hl [0] rfl)
          · have hf := z_n c33 hf
            refine lv_aload_n hx hb dX8_teams_162 rfl (lv_at hl 0 rfl) ?_
            refine va_get (D := D) (ci := 8) (v := .ref (q 1)) (C := RX8) (T := TX8) (N := 41) hx hb htw WW_wsX80 hown hKX.1 hP 0 rfl rfl 1 (Nat.le_of_ble_eq_true rfl) (htw _ mF_RX8_9) (fun _ h9 => h9) rfl dX8_teams_163 ?_
            refine lv_iload_n hx hb dX8_teams_166 rfl (lv_at hl 1 rfl) ?_
            refine lv_aload_n hx hb dX8_teams_167 rfl (lv_at hl 0 rfl) ?_
            refine va_get (D := D) (ci := 8) (v := .ref (q 6)) (C := RX8) (T := TX8) (N := 41) hx hb htw WW_wsX80 hown hKX.1 hP 0 rfl rfl 11 (Nat.le_of_ble_eq_true rfl) (htw _ mF_RX8_29) (fun _ h9 => h9) rfl dX8_teams_168 ?_
            refine lv_iload_n hx hb dX8_teams_171 rfl (lv_at hl 1 rfl) ?_
            obtain ⟨g34, hf⟩ := z_gd_u hf
            refine va_iald hx hb hKX.1 hP 6 0 rfl rfl (z_in_u g34) dX8_teams_172 ?_
            refine lv_topi (fun x35 hx35 => ?_)
            have hf := z_let_u hx35 hf
            obtain ⟨g36, hf⟩ := z_gd_u hf
            refine va_iast hx hb hKX.1 hP hD hS 1 0 rfl rfl (z_in_u g36) dX8_teams_173 (fun H locs hP hD hS => ?_)
            have hP : va_P D vwCl (moW ac q 0 (upd row27 x26.toNatClampNeg x35) un kp ((mt_text mt), 0) ((ps_reading ps21), (ps_fault ps21), (ps_isGood ps21), (upd (ps_draft ps21) 0 x25), (ps_had ps21), (ps_tells ps21)) bx mo su wy wa od py ju pl rs) H := hP
            have hD : va_D A (moW ac q 0 (upd row27 x26.toNatClampNeg x35) un kp ((mt_text mt), 0) ((ps_reading ps21), (ps_fault ps21), (ps_isGood ps21), (upd (ps_draft ps21) 0 x25), (ps_had ps21), (ps_tells ps21)) bx mo su wy wa od py ju pl rs) := hD
            obtain ⟨x37, hx37⟩ : ∃ y : Int32, y = (x26 + 1) := ⟨_, rfl⟩
            have hf := z_let_u hx37 hf
            refine lv_iinc (v := x37) (lv' := [(1, .int x37), (0, .ref (q 0))]) hx hb dX8_teams_174 hl (k := 1) rfl (by rw [hx37]; rfl) (Nat.le_of_ble_eq_true rfl) rfl (fun ls hl => ?_)
            refine lv_goto (tgt := 156) hx hb dX8_teams_177 (by decide) ?_
            exact ih30 x37 (upd row27 x26.toNatClampNeg x35) hf _ _ ls  hP hD hS (lv_sub hl [1, 0] rfl)
      refine hL28 _ ?_ F 0 row hf _ _ ls  hP hD hS (lv_sub hl [1, 0] rfl)
      intro row32 hf H locs ls hP hD hS hl
      refine lv_aload_n hx hb dX8_teams_180 rfl (lv_at hl 0 rfl) ?_
      refine lv_iconst (v := 0) hx hb dX8_teams_181 rfl ?_
      refine va_put (D := D) (ci := 8) (v := .int 0) (ty := tyX8 3) (C := RX8) (T := TX8) (N := 41) hx hb htw WW_wsX80 tyX8 tyX8_ok nmX8 hown hKX.1 hP hD hS 0 rfl rfl 3 (Nat.le_of_ble_eq_true rfl) (htw _ mF_RX8_91) (fun _ h9 => h9) rfl (tyX8_ok 3 (Nat.le_of_ble_eq_true rfl)) rfl rfl (Nat.le_of_ble_eq_true rfl) dX8_teams_182 (fun H locs hP hD hS => ?_)
      have hP : va_P D vwCl (moW ac q 0 row32 ((un_undos un), 0) kp ((mt_text mt), 0) ((ps_reading ps21), (ps_fault ps21), (ps_isGood ps21), (upd (ps_draft ps21) 0 x25), (ps_had ps21), (ps_tells ps21)) bx mo su wy wa od py ju pl rs) H := hP
      have hD : va_D A (moW ac q 0 row32 ((un_undos un), 0) kp ((mt_text mt), 0) ((ps_reading ps21), (ps_fault ps21), (ps_isGood ps21), (upd (ps_draft ps21) 0 x25), (ps_had ps21), (ps_tells ps21)) bx mo su wy wa od py ju pl rs) := hD
      refine lv_aload_n hx hb dX8_teams_185 rfl (lv_at hl 0 rfl) ?_
      refine va_get (D := D) (ci := 8) (v := .ref (q 4)) (C := RX8) (T := TX8) (N := 41) hx hb htw WW_wsX80 hown hKX.1 hP 0 rfl rfl 5 (Nat.le_of_ble_eq_true rfl) (htw _ mF_RX8_21) (fun _ h9 => h9) rfl dX8_teams_186 ?_
      refine lv_iconst (v := 0) hx hb dX8_teams_189 rfl ?_
      refine lv_iconst (v := 0) hx hb dX8_teams_190 rfl ?_
      refine zv_zast_k hx hb hKX.1 hP hD hS 4 4 rfl rfl 0 rfl (z_in_u (by decide +kernel)) dX8_teams_191 (fun H locs hP hD hS => ?_)
      have hP : va_P D vwCl (moW ac q 0 row32 ((un_undos un), 0) ((kp_kept kp), (upd (kp_isKept kp) 0 (vp_nar .boolean 0))) ((mt_text mt), 0) ((ps_reading ps21), (ps_fault ps21), (ps_isGood ps21), (upd (ps_draft ps21) 0 x25), (ps_had ps21), (ps_tells ps21)) bx mo su wy wa od py ju pl rs) H := hP
      have hD : va_D A (moW ac q 0 row32 ((un_undos un), 0) ((kp_kept kp), (upd (kp_isKept kp) 0 (vp_nar .boolean 0))) ((mt_text mt), 0) ((ps_reading ps21), (ps_fault ps21), (ps_isGood ps21), (upd (ps_draft ps21) 0 x25), (ps_had ps21), (ps_tells ps21)) bx mo su wy wa od py ju pl rs) := hD
      refine lv_aload_n hx hb dX8_teams_192 rfl (lv_at hl 0 rfl) ?_
      refine va_get (D := D) (ci := 8) (v := .ref (q 4)) (C := RX8) (T := TX8) (N := 41) hx hb htw WW_wsX80 hown hKX.1 hP 0 rfl rfl 5 (Nat.le_of_ble_eq_true rfl) (htw _ mF_RX8_21) (fun _ h9 => h9) rfl dX8_teams_193 ?_
      refine lv_iconst (v := 1) hx hb dX8_teams_196 rfl ?_
      refine lv_iconst (v := 0) hx hb dX8_teams_197 rfl ?_
      refine zv_zast_k hx hb hKX.1 hP hD hS 4 4 rfl rfl 1 rfl (z_in_u (by decide +kernel)) dX8_teams_198 (fun H locs hP hD hS => ?_)
      have hP : va_P D vwCl (moW ac q 0 row32 ((un_undos un), 0) ((kp_kept kp), (upd (upd (kp_isKept kp) 0 (vp_nar .boolean 0)) 1 (vp_nar .boolean 0))) ((mt_text mt), 0) ((ps_reading ps21), (ps_fault ps21), (ps_isGood ps21), (upd (ps_draft ps21) 0 x25), (ps_had ps21), (ps_tells ps21)) bx mo su wy wa od py ju pl rs) H := hP
      have hD : va_D A (moW ac q 0 row32 ((un_undos un), 0) ((kp_kept kp), (upd (upd (kp_isKept kp) 0 (vp_nar .boolean 0)) 1 (vp_nar .boolean 0))) ((mt_text mt), 0) ((ps_reading ps21), (ps_fault ps21), (ps_isGood ps21), (upd (ps_draft ps21) 0 x25), (ps_had ps21), (ps_tells ps21)) bx mo su wy wa od py ju pl rs) := hD
      refine lv_aload_n hx hb dX8_teams_199 rfl (lv_at hl 0 rfl) ?_
      refine zc_RVi (As := []) (rest := []) hx hb hml hown htw (ctX8_n l D ac cs q 0 row32 ((un_undos un), 0) ((kp_kept kp), (upd (upd (kp_isKept kp) 0 (vp_nar .boolean 0)) 1 (vp_nar .boolean 0))) ((mt_text mt), 0) ((ps_reading ps21), (ps_fault ps21), (ps_isGood ps21), (upd (ps_draft ps21) 0 x25), (ps_had ps21), (ps_tells ps21)) bx mo su wy wa od py ju pl rs    _ rfl) (g_V mM_RX8_190 mI_yX8_n mS_RX8_yX8_n_yX8_n mN_RX8 mC_yX8_n) rfl (hd_yX8_n) ⟨rfl, rfl⟩ ⟨(Nat.le_of_ble_eq_true rfl), (Nat.le_of_ble_eq_true rfl)⟩ hKX hC hS hP 8 rfl rfl rfl hl.1 rfl (Nat.le_of_ble_eq_true rfl) ⟨Nat.zero_le _, Nat.zero_le _⟩ dX8_teams_200 ?_
      obtain rfl := Option.some.inj hf
      exact zr_Mi hx hb hr hlocks hP hD hS dX8_teams_203
    · have hf := z_p c24 hf
      refine lv_sipush (v := (-1000)) hx hb dX8_teams_133 rfl ?_
      refine lv_aload_n hx hb dX8_teams_136 rfl (lv_at hl 0 rfl) ?_
      refine va_get (D := D) (ci := 8) (v := .int (ps_fault ps21)) (C := RX8) (T := TX8) (N := 41) hx hb htw WW_wsX80 hown hKX.1 hP 0 rfl rfl 9 (Nat.le_of_ble_eq_true rfl) (htw _ mF_RX8_101) (fun _ h9 => h9) rfl dX8_teams_137 ?_
      refine lv_isub hx hb dX8_teams_140 ?_
      obtain rfl := Option.some.inj hf
      exact zr_Mi hx hb hr hlocks hP hD hS dX8_teams_141
  refine lv_if_eq (tgt := 121) hx hb dX8_teams_79 (by decide) (fun c38 => ?_) (fun c38 => ?_)
  · have hf := z_p c38 hf
    exact hj23 ps17 hf _ _ ls  hP hD hS (lv_sub hl [0] rfl)
  · have hf := z_n c38 hf
    refine lv_aload_n hx hb dX8_teams_82 rfl (lv_at hl 0 rfl) ?_
    obtain ⟨u39, hu39, hf⟩ := z_bd_u hf
    refine zc_MVi (As := []) (rest := []) (wr := []) (wsc := moW ac q 0 row un kp mt ps17 bx mo su wy wa od py ju pl rs) (wsc' := moW ac q 0 row un kp mt u39.2 bx mo su wy wa od py ju pl rs) hx hb hml hown htw (ctX8_isEnd l D ac cs q H.size 0 row un kp mt ps17 bx mo su wy wa od py ju pl rs    F u39 hu39) (g_V mM_RX8_187 mI_yX8_isEnd mS_RX8_yX8_isEnd_yX8_isEnd mN_RX8 mC_yX8_isEnd) rfl (hd_yX8_isEnd) ⟨rfl, rfl⟩ ⟨(Nat.le_of_ble_eq_true rfl), (Nat.le_of_ble_eq_true rfl)⟩ hKX hC hS hA hP hD [0, 1, 2, 3, 4, 5, 6, 7, 8, 9, 10, 11, 12, 13, 14, 15, 16, 17, 18, 19, 20] [] rfl (by decide) rfl (by decide) (by decide) 8 rfl rfl rfl hl.1 rfl (Nat.le_of_ble_eq_true rfl) ⟨Nat.zero_le _, Nat.zero_le _⟩ dX8_teams_83 (fun H locs hP hD hS => ?_)
    have hP : va_P D vwCl (moW ac q 0 row un kp mt u39.2 bx mo su wy wa od py ju pl rs) H := hP
    have hD : va_D A (moW ac q 0 row un kp mt u39.2 bx mo su wy wa od py ju pl rs) := hD
    obtain ⟨k40, hk40, hf⟩ := z_jn_u hf
    have hj41 : k40 () = some res → ∀ (H : Heap) (locs : List Loc) (ls : Array Slot), va_P D vwCl (moW ac q 0 row un kp mt u39.2 bx mo su wy wa od py ju pl rs) H → va_D A (moW ac q 0 row un kp mt u39.2 bx mo su wy wa od py ju pl rs) → va_S A s.heap H locs → lv_has ls 2 [(0, .ref (q 0))] → W p l e ({ frames := 8, cells := 0, slots := 0, locals := 175 } : Room) s m (([.ref (q 0)] : List Value).toArray) below meth c H locs 0 0 (MQ below (va_Qi (fun r (_ : Unit) => r = res.1) (fun _ => zB D A (moW ac q res.2.1 res.2.2.1 res.2.2.2.1 res.2.2.2.2.1 res.2.2.2.2.2.1 res.2.2.2.2.2.2 bx mo su wy wa od py ju pl rs)) A) ([.ref (q 0)] : List Value).toArray s 0 0 A) (F0 m 113 ls []) := by
      intro hf H locs ls hP hD hS hl
      have hf := hk40 _ hf
      refine lv_aload_n hx hb dX8_teams_113 rfl (lv_at hl 0 rfl) ?_
      refine lv_aload_n hx hb dX8_teams_114 rfl (lv_at hl 0 rfl) ?_
      refine va_get (D := D) (ci := 8) (v := .int (ps_reading u39.2)) (C := RX8) (T := TX8) (N := 41) hx hb htw WW_wsX80 hown hKX.1 hP 0 rfl rfl 8 (Nat.le_of_ble_eq_true rfl) (htw _ mF_RX8_104) (fun _ h9 => h9) rfl dX8_teams_115 ?_
      obtain ⟨u42, hu42⟩ : ∃ y : Ps, y = M_wrong u39.2 (ps_reading u39.2) := ⟨_, rfl⟩
      have hf := z_let_u hu42 hf
      refine zc_MVv (As := [.int (ps_reading u39.2)]) (rest := []) (wr := []) (wsc := moW ac q 0 row un kp mt u39.2 bx mo su wy wa od py ju pl rs) (wsc' := moW ac q 0 row un kp mt u42 bx mo su wy wa od py ju pl rs) hx hb hml hown htw (ctX8_wrong l D ac cs q H.size 0 row un kp mt u39.2 bx mo su wy wa od py ju pl rs (ps_reading u39.2)   u42 hu42.symm) (g_V mM_RX8_141 mI_yX8_wrong mS_RX8_yX8_wrong_yX8_wrong mN_RX8 mC_yX8_wrong) rfl (hd_yX8_wrong) ⟨rfl, rfl⟩ ⟨(Nat.le_of_ble_eq_true rfl), (Nat.le_of_ble_eq_true rfl)⟩ hKX hC hS hA hP hD [0, 1, 2, 3, 4, 5, 6, 7, 8, 9, 10, 11, 12, 13, 14, 15, 16, 17, 18, 19, 20] [] rfl (by decide) rfl (by decide) (by decide) 8 rfl rfl rfl hl.1 rfl (Nat.le_of_ble_eq_true rfl) ⟨Nat.zero_le _, Nat.zero_le _⟩ dX8_teams_118 (fun H locs hP hD hS => ?_)
      have hP : va_P D vwCl (moW ac q 0 row un kp mt u42 bx mo su wy wa od py ju pl rs) H := hP
      have hD : va_D A (moW ac q 0 row un kp mt u42 bx mo su wy wa od py ju pl rs) := hD
      exact hj23 u42 hf _ _ ls  hP hD hS (lv_sub hl [0] rfl)
    refine lv_if_eq (tgt := 113) hx hb dX8_teams_86 (by decide) (fun c43 => ?_) (fun c43 => ?_)
    · have hf := z_p c43 hf
      exact hj41  hf _ _ ls  hP hD hS (lv_sub hl [0] rfl)
    · have hf := z_n c43 hf
      refine lv_aload_n hx hb dX8_teams_89 rfl (lv_at hl 0 rfl) ?_
      refine va_get (D := D) (ci := 8) (v := .ref (q 7)) (C := RX8) (T := TX8) (N := 41) hx hb htw WW_wsX80 hown hKX.1 hP 0 rfl rfl 13 (Nat.le_of_ble_eq_true rfl) (htw _ mF_RX8_32) (fun _ h9 => h9) rfl dX8_teams_90 ?_
      refine lv_iconst (v := 0) hx hb dX8_teams_93 rfl ?_
      refine zv_iald_k hx hb hKX.1 hP 7 0 rfl rfl 0 rfl (z_in_u (by decide +kernel)) dX8_teams_94 ?_
      refine lv_if_eq (tgt := 113) hx hb dX8_teams_95 (by decide) (fun c44 => ?_) (fun c44 => ?_)
      · have hf := z_p c44 hf
        exact hj41  hf _ _ ls  hP hD hS (lv_sub hl [0] rfl)
      · have hf := z_n c44 hf
        refine lv_aload_n hx hb dX8_teams_98 rfl (lv_at hl 0 rfl) ?_
        refine va_get (D := D) (ci := 8) (v := .ref (q 7)) (C := RX8) (T := TX8) (N := 41) hx hb htw WW_wsX80 hown hKX.1 hP 0 rfl rfl 13 (Nat.le_of_ble_eq_true rfl) (htw _ mF_RX8_32) (fun _ h9 => h9) rfl dX8_teams_99 ?_
        refine lv_iconst (v := 0) hx hb dX8_teams_102 rfl ?_
        refine zv_iald_k hx hb hKX.1 hP 7 0 rfl rfl 0 rfl (z_in_u (by decide +kernel)) dX8_teams_103 ?_
        refine lv_aload_n hx hb dX8_teams_104 rfl (lv_at hl 0 rfl) ?_
        refine va_get (D := D) (ci := 8) (v := .ref (q 7)) (C := RX8) (T := TX8) (N := 41) hx hb htw WW_wsX80 hown hKX.1 hP 0 rfl rfl 13 (Nat.le_of_ble_eq_true rfl) (htw _ mF_RX8_32) (fun _ h9 => h9) rfl dX8_teams_105 ?_
        refine lv_iconst (v := 1) hx hb dX8_teams_108 rfl ?_
        refine zv_iald_k hx hb hKX.1 hP 7 0 rfl rfl 1 rfl (z_in_u (by decide +kernel)) dX8_teams_109 ?_
        refine lv_icmp_eq (tgt := 121) hx hb dX8_teams_110 (by decide) (fun c45 => ?_) (fun c45 => ?_)
        · have hf := z_p c45 hf
          exact hj23 u39.2 hf _ _ ls  hP hD hS (lv_sub hl [0] rfl)
        · have hf := z_n c45 hf
          exact hj41  hf _ _ ls  hP hD hS (lv_sub hl [0] rfl)

theorem hd_yJ0_coder_7d493 : hdY yJ0_coder_7d493 0 := by decide +kernel
def Str_coder_7d493 (i_1 : Nat) : Int32 := vp_nar .byte 0
set_option maxHeartbeats 4000000 in
set_option maxRecDepth 100000 in
theorem ctJ0_coder_7d493 (l : Launch) (D : va_G) (ac cs : Nat → Nat) (i_1 : Nat) (hi_1 : i_1 < 10) (res : Int32) (hf : Str_coder_7d493 i_1 = res) : Met l yJ0_coder_7d493 (cWW yJ0_coder_7d493 cJ0_coder_7d493 1 (some .byte)) { frames := 0, cells := 0, slots := 0, locals := 0 } (zR D ac cs [.ref (cs (10 + i_1))] ([])) (vp_Si (fun r => r = res)) 0 0 (fun _ => False) := by
  refine Met.ofW (cc := cJ0_coder_7d493) (maxL := 1) (ret := (some .byte)) (by decide) rfl ?_
  intro p e s m args below meth c s₁ B hml hv
  obtain ⟨rfl, hP, hKX, hC⟩ := hv
  have hx := B.exec
  have hb := B.bytes
  have hr := B.returns
  have hts := atoms_spec (ws := cWW yJ0_coder_7d493 cJ0_coder_7d493 1 (some .byte)) B.pre
  have htw : ∀ w ∈ WW, w.before _ s = true := fun w h => hts w (List.mem_cons_of_mem _ h)
  have hown : s.vm.findClass RJ0 = some m.cls := findClass_of_methodNamed B.named
  have hlocks := B.notSynchronized
  clear hts B
  have hS : va_S (fun _ => False) s.heap s.heap [] := va_S.rf
  have hl := lv_entry ([.ref (cs (10 + i_1))]) (n := 1) (Nat.le_of_ble_eq_true rfl)
  rw [lg_entry_eq]
  generalize (lg_sl ([.ref (cs (10 + i_1))]) ++ List.replicate (1 - (lg_sl ([.ref (cs (10 + i_1))])).length) Slot.unset).toArray = ls at hl ⊢
  have hl : lv_has ls 1 [(0, .ref (cs (10 + i_1)))] := hl
  unfold Str_coder_7d493 at hf
  show W p l e ({ frames := 0, cells := 0, slots := 0, locals := 0 } : Room) s m _ below meth c s.heap [] 0 0 _ (F0 m 0 ls [])
  refine va_gets hx hb hC.2.2.2.2.1 hS hown (htw _ mF_RJ0_38) (fun _ h9 => h9) dJ0_coder_7d493_0 ?_
  refine lv_if_eq (tgt := 13) hx hb dJ0_coder_7d493_3 (by decide) (fun c1 => absurd c1 (by decide)) (fun c1 => ?_)
  refine lv_aload_n hx hb dJ0_coder_7d493_6 rfl (lv_at hl 0 rfl) ?_
  refine vk_getf hx hb (hC.2.2.2.1.1 i_1 hi_1).2.1 hS hown (htw _ mF_RJ0_15) (fun _ h9 => h9) dJ0_coder_7d493_7 ?_
  refine lv_goto (tgt := 14) hx hb dJ0_coder_7d493_10 (by decide) ?_
  exact zr_Rn hx hb hr hlocks rfl hf dJ0_coder_7d493_14

theorem hd_yJ0_isLatin1_aae02 : hdY yJ0_isLatin1_aae02 0 := by decide +kernel
def Str_isLatin1_aae02 (i_1 : Nat) : Int32 := 1
set_option maxHeartbeats 4000000 in
set_option maxRecDepth 100000 in
theorem ctJ0_isLatin1_aae02 (l : Launch) (D : va_G) (ac cs : Nat → Nat) (i_1 : Nat) (hi_1 : i_1 < 10) (res : Int32) (hf : Str_isLatin1_aae02 i_1 = res) : Met l yJ0_isLatin1_aae02 (cWW yJ0_isLatin1_aae02 cJ0_isLatin1_aae02 1 (some .boolean)) { frames := 0, cells := 0, slots := 0, locals := 0 } (zR D ac cs [.ref (cs (10 + i_1))] ([])) (vp_Si (fun r => r = res)) 0 0 (fun _ => False) := by
  refine Met.ofW (cc := cJ0_isLatin1_aae02) (maxL := 1) (ret := (some .boolean)) (by decide) rfl ?_
  intro p e s m args below meth c s₁ B hml hv
  obtain ⟨rfl, hP, hKX, hC⟩ := hv
  have hx := B.exec
  have hb := B.bytes
  have hr := B.returns
  have hts := atoms_spec (ws := cWW yJ0_isLatin1_aae02 cJ0_isLatin1_aae02 1 (some .boolean)) B.pre
  have htw : ∀ w ∈ WW, w.before _ s = true := fun w h => hts w (List.mem_cons_of_mem _ h)
  have hown : s.vm.findClass RJ0 = some m.cls := findClass_of_methodNamed B.named
  have hlocks := B.notSynchronized
  clear hts B
  have hS : va_S (fun _ => False) s.heap s.heap [] := va_S.rf
  have hl := lv_entry ([.ref (cs (10 + i_1))]) (n := 1) (Nat.le_of_ble_eq_true rfl)
  rw [lg_entry_eq]
  generalize (lg_sl ([.ref (cs (10 + i_1))]) ++ List.replicate (1 - (lg_sl ([.ref (cs (10 + i_1))])).length) Slot.unset).toArray = ls at hl ⊢
  have hl : lv_has ls 1 [(0, .ref (cs (10 + i_1)))] := hl
  unfold Str_isLatin1_aae02 at hf
  show W p l e ({ frames := 0, cells := 0, slots := 0, locals := 0 } : Room) s m _ below meth c s.heap [] 0 0 _ (F0 m 0 ls [])
  refine va_gets hx hb hC.2.2.2.2.1 hS hown (htw _ mF_RJ0_38) (fun _ h9 => h9) dJ0_isLatin1_aae02_0 ?_
  refine lv_if_eq (tgt := 17) hx hb dJ0_isLatin1_aae02_3 (by decide) (fun c1 => absurd c1 (by decide)) (fun c1 => ?_)
  refine lv_aload_n hx hb dJ0_isLatin1_aae02_6 rfl (lv_at hl 0 rfl) ?_
  refine vk_getf hx hb (hC.2.2.2.1.1 i_1 hi_1).2.1 hS hown (htw _ mF_RJ0_15) (fun _ h9 => h9) dJ0_isLatin1_aae02_7 ?_
  refine lv_if_ne (tgt := 17) hx hb dJ0_isLatin1_aae02_10 (by decide) (fun c2 => absurd c2 (by decide)) (fun c2 => ?_)
  refine lv_iconst (v := 1) hx hb dJ0_isLatin1_aae02_13 rfl ?_
  refine lv_goto (tgt := 18) hx hb dJ0_isLatin1_aae02_14 (by decide) ?_
  exact zr_Rz hx hb hr hlocks (z_b_n z_b1) hf dJ0_isLatin1_aae02_18
theorem b_Str_isLatin1_aae02 (i_1 : Nat) : z_b (Str_isLatin1_aae02 i_1) = true := by
  unfold Str_isLatin1_aae02
  (repeat' (first | split | (unfold z_let; dsimp only) | (unfold z_jn; dsimp only))) <;> first | decide +kernel

theorem hd_yJ0_length_8abf5 : hdY yJ0_length_8abf5 0 := by decide +kernel
def Str_length_8abf5 (i_1 : Nat) : Int32 := ((Int32.ofNat (strLen.getD i_1 0)) >>> ((Str_coder_7d493 i_1) &&& 31))
set_option maxHeartbeats 4000000 in
set_option maxRecDepth 100000 in
theorem ctJ0_length_8abf5 (l : Launch) (D : va_G) (ac cs : Nat → Nat) (i_1 : Nat) (hi_1 : i_1 < 10) (res : Int32) (hf : Str_length_8abf5 i_1 = res) : Met l yJ0_length_8abf5 (cWW yJ0_length_8abf5 cJ0_length_8abf5 1 (some .int)) { frames := 1, cells := 0, slots := 0, locals := 20 } (zR D ac cs [.ref (cs (10 + i_1))] ([])) (vp_Si (fun r => r = res)) 0 0 (fun _ => False) := by
  refine Met.ofW (cc := cJ0_length_8abf5) (maxL := 1) (ret := (some .int)) (by decide) rfl ?_
  intro p e s m args below meth c s₁ B hml hv
  obtain ⟨rfl, hP, hKX, hC⟩ := hv
  have hx := B.exec
  have hb := B.bytes
  have hr := B.returns
  have hts := atoms_spec (ws := cWW yJ0_length_8abf5 cJ0_length_8abf5 1 (some .int)) B.pre
  have htw : ∀ w ∈ WW, w.before _ s = true := fun w h => hts w (List.mem_cons_of_mem _ h)
  have hown : s.vm.findClass RJ0 = some m.cls := findClass_of_methodNamed B.named
  have hlocks := B.notSynchronized
  clear hts B
  have hS : va_S (fun _ => False) s.heap s.heap [] := va_S.rf
  have hl := lv_entry ([.ref (cs (10 + i_1))]) (n := 1) (Nat.le_of_ble_eq_true rfl)
  rw [lg_entry_eq]
  generalize (lg_sl ([.ref (cs (10 + i_1))]) ++ List.replicate (1 - (lg_sl ([.ref (cs (10 + i_1))])).length) Slot.unset).toArray = ls at hl ⊢
  have hl : lv_has ls 1 [(0, .ref (cs (10 + i_1)))] := hl
  unfold Str_length_8abf5 at hf
  show W p l e ({ frames := 1, cells := 0, slots := 0, locals := 20 } : Room) s m _ below meth c s.heap [] 0 0 _ (F0 m 0 ls [])
  refine lv_aload_n hx hb dJ0_length_8abf5_0 rfl (lv_at hl 0 rfl) ?_
  refine vk_getf hx hb (hC.2.2.2.1.1 i_1 hi_1).2.2.1 hS hown (htw _ mF_RJ0_9) (fun _ h9 => h9) dJ0_length_8abf5_1 ?_
  refine va_tlen hx hb (hC.2.2.2.1.1 i_1 hi_1).2.2.2 hS (v := (Int32.ofNat (strLen.getD i_1 0))) rfl dJ0_length_8abf5_4 ?_
  refine lv_aload_n hx hb dJ0_length_8abf5_5 rfl (lv_at hl 0 rfl) ?_
  refine zc_RViS (As := []) (rest := [.int (Int32.ofNat (strLen.getD i_1 0))]) hx hb hml hown htw (ctJ0_coder_7d493 l D ac cs   i_1  hi_1 _ rfl) (g_V mM_RJ0_335 mI_yJ0_coder_7d493 mS_RJ0_yJ0_coder_7d493_yJ0_coder_7d493 mN_RJ0 mC_yJ0_coder_7d493) rfl (hd_yJ0_coder_7d493) ⟨rfl, rfl⟩ ⟨(Nat.le_of_ble_eq_true rfl), (Nat.le_of_ble_eq_true rfl)⟩ hKX hC hS zP0 (zrecS (i := i_1) hC hi_1 hS) rfl hl.1 rfl (Nat.le_of_ble_eq_true rfl) ⟨Nat.zero_le _, Nat.zero_le _⟩ dJ0_length_8abf5_6 ?_
  refine lv_ishr hx hb dJ0_length_8abf5_9 ?_
  exact zr_Ri hx hb hr hlocks hf dJ0_length_8abf5_10

theorem hd_yJ3_checkIndex_8e157 : hdY yJ3_checkIndex_8e157 3 := by decide +kernel
def Pre_checkIndex_8e157 (a1 : Int32) (a2 : Int32) : Option (Int32) := z_jn (fun _ : Unit => none) (fun k1 => if a1 < 0 then none else (if a1 < a2 then (some a1) else none))
set_option maxHeartbeats 4000000 in
set_option maxRecDepth 100000 in
theorem ctJ3_checkIndex_8e157 (l : Launch) (D : va_G) (ac cs : Nat → Nat) (a1 : Int32) (a2 : Int32) (xz : Nat) (res : Int32) (hf : Pre_checkIndex_8e157 a1 a2 = some res) : Met l yJ3_checkIndex_8e157 (cWW yJ3_checkIndex_8e157 cJ3_checkIndex_8e157 3 (some .int)) { frames := 0, cells := 0, slots := 0, locals := 0 } (zR D ac cs [.int a1, .int a2, .ref (xz)] ([])) (vp_Si (fun r => r = res)) 0 0 (fun _ => False) := by
  refine Met.ofW (cc := cJ3_checkIndex_8e157) (maxL := 3) (ret := (some .int)) (by decide) rfl ?_
  intro p e s m args below meth c s₁ B hml hv
  obtain ⟨rfl, hP, hKX, hC⟩ := hv
  have hx := B.exec
  have hb := B.bytes
  have hr := B.returns
  have hts := atoms_spec (ws := cWW yJ3_checkIndex_8e157 cJ3_checkIndex_8e157 3 (some .int)) B.pre
  have htw : ∀ w ∈ WW, w.before _ s = true := fun w h => hts w (List.mem_cons_of_mem _ h)
  have hown : s.vm.findClass RJ3 = some m.cls := findClass_of_methodNamed B.named
  have hlocks := B.notSynchronized
  clear hts B
  have hS : va_S (fun _ => False) s.heap s.heap [] := va_S.rf
  have hl := lv_entry ([.int a1, .int a2, .ref (xz)]) (n := 3) (Nat.le_of_ble_eq_true rfl)
  rw [lg_entry_eq]
  generalize (lg_sl ([.int a1, .int a2, .ref (xz)]) ++ List.replicate (3 - (lg_sl ([.int a1, .int a2, .ref (xz)])).length) Slot.unset).toArray = ls at hl ⊢
  have hl : lv_has ls 3 [(0, .int a1), (1, .int a2), (2, .ref (xz))] := hl
  unfold Pre_checkIndex_8e157 at hf
  show W p l e ({ frames := 0, cells := 0, slots := 0, locals := 0 } : Room) s m _ below meth c s.heap [] 0 0 _ (F0 m 0 ls [])
  refine lv_iload_n hx hb dJ3_checkIndex_8e157_0 rfl (lv_at hl 0 rfl) ?_
  obtain ⟨k1, hk1, hf⟩ := z_jn_u hf
  have hj2 : k1 () = some res → ∀ (ls : Array Slot), lv_has ls 3 [(0, .int a1), (1, .int a2), (2, .ref (xz))] → W p l e ({ frames := 0, cells := 0, slots := 0, locals := 0 } : Room) s m (([.int a1, .int a2, .ref (xz)] : List Value).toArray) below meth c s.heap [] 0 0 (MQ below (vp_Si (fun r => r = res)) ([.int a1, .int a2, .ref (xz)] : List Value).toArray s 0 0 (fun _ => False)) (F0 m 9 ls [.int a1]) := by
    intro hf ls hl
    have hf := hk1 _ hf
    cases hf
  refine lv_if_lt (tgt := 9) hx hb dJ3_checkIndex_8e157_1 (by decide) (fun c3 => ?_) (fun c3 => ?_)
  · have hf := z_p c3 hf
    cases hf
  · have hf := z_n c3 hf
    refine lv_iload_n hx hb dJ3_checkIndex_8e157_4 rfl (lv_at hl 0 rfl) ?_
    refine lv_iload_n hx hb dJ3_checkIndex_8e157_5 rfl (lv_at hl 1 rfl) ?_
    refine lv_icmp_lt (tgt := 16) hx hb dJ3_checkIndex_8e157_6 (by decide) (fun c4 => ?_) (fun c4 => ?_)
    · have hf := z_p c4 hf
      refine lv_iload_n hx hb dJ3_checkIndex_8e157_16 rfl (lv_at hl 0 rfl) ?_
      exact zr_Ri hx hb hr hlocks (Option.some.inj hf) dJ3_checkIndex_8e157_17
    · have hf := z_n c4 hf
      cases hf


set_option maxHeartbeats 4000000 in
set_option maxRecDepth 100000 in
theorem ctJ3_checkIndex_8e157_null (l : Launch) (D : va_G) (ac cs : Nat → Nat) (a1 : Int32) (a2 : Int32) (res : Int32) (hf : Pre_checkIndex_8e157 a1 a2 = some res) : Met l yJ3_checkIndex_8e157 (cWW yJ3_checkIndex_8e157 cJ3_checkIndex_8e157 3 (some .int)) { frames := 0, cells := 0, slots := 0, locals := 0 } (zR D ac cs [.int a1, .int a2, .null] ([])) (vp_Si (fun r => r = res)) 0 0 (fun _ => False) := by
  refine Met.ofW (cc := cJ3_checkIndex_8e157) (maxL := 3) (ret := (some .int)) (by decide) rfl ?_
  intro p e s m args below meth c s₁ B hml hv
  obtain ⟨rfl, hP, hKX, hC⟩ := hv
  have hx := B.exec
  have hb := B.bytes
  have hr := B.returns
  have hts := atoms_spec (ws := cWW yJ3_checkIndex_8e157 cJ3_checkIndex_8e157 3 (some .int)) B.pre
  have htw : ∀ w ∈ WW, w.before _ s = true := fun w h => hts w (List.mem_cons_of_mem _ h)
  have hown : s.vm.findClass RJ3 = some m.cls := findClass_of_methodNamed B.named
  have hlocks := B.notSynchronized
  clear hts B
  have hS : va_S (fun _ => False) s.heap s.heap [] := va_S.rf
  have hl := lv_entry ([.int a1, .int a2, .null]) (n := 3) (Nat.le_of_ble_eq_true rfl)
  rw [lg_entry_eq]
  generalize (lg_sl ([.int a1, .int a2, .null]) ++ List.replicate (3 - (lg_sl ([.int a1, .int a2, .null])).length) Slot.unset).toArray = ls at hl ⊢
  have hl : lv_has ls 3 [(0, .int a1), (1, .int a2), (2, .null)] := hl
  unfold Pre_checkIndex_8e157 at hf
  show W p l e ({ frames := 0, cells := 0, slots := 0, locals := 0 } : Room) s m _ below meth c s.heap [] 0 0 _ (F0 m 0 ls [])
  refine lv_iload_n hx hb dJ3_checkIndex_8e157_0 rfl (lv_at hl 0 rfl) ?_
  obtain ⟨k1, hk1, hf⟩ := z_jn_u hf
  have hj2 : k1 () = some res → ∀ (ls : Array Slot), lv_has ls 3 [(0, .int a1), (1, .int a2), (2, .null)] → W p l e ({ frames := 0, cells := 0, slots := 0, locals := 0 } : Room) s m (([.int a1, .int a2, .null] : List Value).toArray) below meth c s.heap [] 0 0 (MQ below (vp_Si (fun r => r = res)) ([.int a1, .int a2, .null] : List Value).toArray s 0 0 (fun _ => False)) (F0 m 9 ls [.int a1]) := by
    intro hf ls hl
    have hf := hk1 _ hf
    cases hf
  refine lv_if_lt (tgt := 9) hx hb dJ3_checkIndex_8e157_1 (by decide) (fun c3 => ?_) (fun c3 => ?_)
  · have hf := z_p c3 hf
    cases hf
  · have hf := z_n c3 hf
    refine lv_iload_n hx hb dJ3_checkIndex_8e157_4 rfl (lv_at hl 0 rfl) ?_
    refine lv_iload_n hx hb dJ3_checkIndex_8e157_5 rfl (lv_at hl 1 rfl) ?_
    refine lv_icmp_lt (tgt := 16) hx hb dJ3_checkIndex_8e157_6 (by decide) (fun c4 => ?_) (fun c4 => ?_)
    · have hf := z_p c4 hf
      refine lv_iload_n hx hb dJ3_checkIndex_8e157_16 rfl (lv_at hl 0 rfl) ?_
      exact zr_Ri hx hb hr hlocks (Option.some.inj hf) dJ3_checkIndex_8e157_17
    · have hf := z_n c4 hf
      cases hf

theorem hd_yJ0_checkIndex_df160 : hdY yJ0_checkIndex_df160 2 := by decide +kernel
def Str_checkIndex_df160 (a1 : Int32) (a2 : Int32) : Option (Unit) := z_bd (Pre_checkIndex_8e157 a1 a2) (fun r2 : Int32 => some ())
set_option maxHeartbeats 4000000 in
set_option maxRecDepth 100000 in
theorem ctJ0_checkIndex_df160 (l : Launch) (D : va_G) (ac cs : Nat → Nat) (a1 : Int32) (a2 : Int32) (res : Unit) (hf : Str_checkIndex_df160 a1 a2 = some res) : Met l yJ0_checkIndex_df160 (cWW yJ0_checkIndex_df160 cJ0_checkIndex_df160 2 none) { frames := 1, cells := 0, slots := 0, locals := 22 } (zR D ac cs [.int a1, .int a2] ([])) (va_Sv (fun _ => True)) 0 0 (fun _ => False) := by
  refine Met.ofW (cc := cJ0_checkIndex_df160) (maxL := 2) (ret := none) (by decide) rfl ?_
  intro p e s m args below meth c s₁ B hml hv
  obtain ⟨rfl, hP, hKX, hC⟩ := hv
  have hx := B.exec
  have hb := B.bytes
  have hr := B.returns
  have hts := atoms_spec (ws := cWW yJ0_checkIndex_df160 cJ0_checkIndex_df160 2 none) B.pre
  have htw : ∀ w ∈ WW, w.before _ s = true := fun w h => hts w (List.mem_cons_of_mem _ h)
  have hown : s.vm.findClass RJ0 = some m.cls := findClass_of_methodNamed B.named
  have hlocks := B.notSynchronized
  clear hts B
  have hS : va_S (fun _ => False) s.heap s.heap [] := va_S.rf
  have hl := lv_entry ([.int a1, .int a2]) (n := 2) (Nat.le_of_ble_eq_true rfl)
  rw [lg_entry_eq]
  generalize (lg_sl ([.int a1, .int a2]) ++ List.replicate (2 - (lg_sl ([.int a1, .int a2])).length) Slot.unset).toArray = ls at hl ⊢
  have hl : lv_has ls 2 [(0, .int a1), (1, .int a2)] := hl
  unfold Str_checkIndex_df160 at hf
  show W p l e ({ frames := 1, cells := 0, slots := 0, locals := 22 } : Room) s m _ below meth c s.heap [] 0 0 _ (F0 m 0 ls [])
  refine lv_iload_n hx hb dJ0_checkIndex_df160_0 rfl (lv_at hl 0 rfl) ?_
  refine lv_iload_n hx hb dJ0_checkIndex_df160_1 rfl (lv_at hl 1 rfl) ?_
  rcases hC.2.2.2.2.2.1 with hZ | ⟨hx9, hZ⟩
  · refine va_gets hx hb hZ hS hown (htw _ mF_RJ0_1053) (fun _ h9 => h9) dJ0_checkIndex_df160_2 ?_
    obtain ⟨r1, hr1, hf⟩ := z_bd_u hf
    refine zc_RSi (As := [.int a1, .int a2, .null]) (rest := []) hx hb hml hown htw (ctJ3_checkIndex_8e157_null l D ac cs   a1 a2   _ hr1) (g_S mM_RJ0_1059 mT_yJ3_checkIndex_8e157 mN_RJ3 mC_yJ3_checkIndex_8e157) (hd_yJ3_checkIndex_8e157) ⟨rfl, rfl⟩ ⟨(Nat.le_of_ble_eq_true rfl), (Nat.le_of_ble_eq_true rfl)⟩ hKX hC hS zP0 rfl hl.1 rfl (Nat.le_of_ble_eq_true rfl) ⟨Nat.zero_le _, Nat.zero_le _⟩ dJ0_checkIndex_df160_5 ?_
    refine lv_pop hx hb dJ0_checkIndex_df160_8 rfl ?_
    exact zr_Rv hx hb hr hlocks dJ0_checkIndex_df160_9
  · refine va_gets hx hb hZ hS hown (htw _ mF_RJ0_1053) (fun _ h9 => h9) dJ0_checkIndex_df160_2 ?_
    obtain ⟨r2, hr2, hf⟩ := z_bd_u hf
    refine zc_RSi (As := [.int a1, .int a2, .ref (hx9)]) (rest := []) hx hb hml hown htw (ctJ3_checkIndex_8e157 l D ac cs   a1 a2 hx9  _ hr2) (g_S mM_RJ0_1059 mT_yJ3_checkIndex_8e157 mN_RJ3 mC_yJ3_checkIndex_8e157) (hd_yJ3_checkIndex_8e157) ⟨rfl, rfl⟩ ⟨(Nat.le_of_ble_eq_true rfl), (Nat.le_of_ble_eq_true rfl)⟩ hKX hC hS zP0 rfl hl.1 rfl (Nat.le_of_ble_eq_true rfl) ⟨Nat.zero_le _, Nat.zero_le _⟩ dJ0_checkIndex_df160_5 ?_
    refine lv_pop hx hb dJ0_checkIndex_df160_8 rfl ?_
    exact zr_Rv hx hb hr hlocks dJ0_checkIndex_df160_9

theorem hd_yJ1_charAt_3b067 : hdY yJ1_charAt_3b067 2 := by decide +kernel
def Lat_charAt_3b067 (i0 : Nat) (a2 : Int32) : Option (Int32) := z_bd (Str_checkIndex_df160 a2 (Int32.ofNat (strLen.getD i0 0))) (fun r1 : Unit => z_gd (z_in a2 (strLen.getD i0 0)) (some (vp_nar .char (((((strByt.getD i0 []).getD a2.toNatClampNeg 0) &&& 255).toUInt32 % 65536).toInt32))))
set_option maxHeartbeats 4000000 in
set_option maxRecDepth 100000 in
theorem ctJ1_charAt_3b067 (l : Launch) (D : va_G) (ac cs : Nat → Nat) (i0 : Nat) (a2 : Int32) (hi0 : i0 < 10) (res : Int32) (hf : Lat_charAt_3b067 i0 a2 = some res) : Met l yJ1_charAt_3b067 (cWW yJ1_charAt_3b067 cJ1_charAt_3b067 2 (some .char)) { frames := 2, cells := 0, slots := 0, locals := 43 } (zR D ac cs [.ref (cs (30 + i0)), .int a2] ([])) (vp_Si (fun r => r = res)) 0 0 (fun _ => False) := by
  refine Met.ofW (cc := cJ1_charAt_3b067) (maxL := 2) (ret := (some .char)) (by decide) rfl ?_
  intro p e s m args below meth c s₁ B hml hv
  obtain ⟨rfl, hP, hKX, hC⟩ := hv
  have hx := B.exec
  have hb := B.bytes
  have hr := B.returns
  have hts := atoms_spec (ws := cWW yJ1_charAt_3b067 cJ1_charAt_3b067 2 (some .char)) B.pre
  have htw : ∀ w ∈ WW, w.before _ s = true := fun w h => hts w (List.mem_cons_of_mem _ h)
  have hown : s.vm.findClass RJ1 = some m.cls := findClass_of_methodNamed B.named
  have hlocks := B.notSynchronized
  clear hts B
  have hS : va_S (fun _ => False) s.heap s.heap [] := va_S.rf
  have hl := lv_entry ([.ref (cs (30 + i0)), .int a2]) (n := 2) (Nat.le_of_ble_eq_true rfl)
  rw [lg_entry_eq]
  generalize (lg_sl ([.ref (cs (30 + i0)), .int a2]) ++ List.replicate (2 - (lg_sl ([.ref (cs (30 + i0)), .int a2])).length) Slot.unset).toArray = ls at hl ⊢
  have hl : lv_has ls 2 [(0, .ref (cs (30 + i0))), (1, .int a2)] := hl
  unfold Lat_charAt_3b067 at hf
  show W p l e ({ frames := 2, cells := 0, slots := 0, locals := 43 } : Room) s m _ below meth c s.heap [] 0 0 _ (F0 m 0 ls [])
  refine lv_iload_n hx hb dJ1_charAt_3b067_0 rfl (lv_at hl 1 rfl) ?_
  refine lv_aload_n hx hb dJ1_charAt_3b067_1 rfl (lv_at hl 0 rfl) ?_
  refine va_tlen hx hb (hC.2.2.2.1.1 i0 hi0).2.2.2 hS (v := (Int32.ofNat (strLen.getD i0 0))) rfl dJ1_charAt_3b067_2 ?_
  obtain ⟨r1, hr1, hf⟩ := z_bd_u hf
  refine zc_RSv (As := [.int a2, .int (Int32.ofNat (strLen.getD i0 0))]) (rest := []) hx hb hml hown htw (ctJ0_checkIndex_df160 l D ac cs   a2 (Int32.ofNat (strLen.getD i0 0))   _ hr1) (g_S mM_RJ1_9 mT_yJ0_checkIndex_df160 mN_RJ0 mC_yJ0_checkIndex_df160) (hd_yJ0_checkIndex_df160) ⟨rfl, rfl⟩ ⟨(Nat.le_of_ble_eq_true rfl), (Nat.le_of_ble_eq_true rfl)⟩ hKX hC hS zP0 rfl hl.1 rfl (Nat.le_of_ble_eq_true rfl) ⟨Nat.zero_le _, Nat.zero_le _⟩ dJ1_charAt_3b067_3 ?_
  refine lv_aload_n hx hb dJ1_charAt_3b067_6 rfl (lv_at hl 0 rfl) ?_
  refine lv_iload_n hx hb dJ1_charAt_3b067_7 rfl (lv_at hl 1 rfl) ?_
  obtain ⟨g2, hf⟩ := z_gd_u hf
  refine va_tb hx hb (hC.2.2.2.1.1 i0 hi0).2.2.2 hS (z_in_u g2) (v := .int ((strByt.getD i0 []).getD a2.toNatClampNeg 0)) rfl dJ1_charAt_3b067_8 ?_
  refine lv_sipush (v := 255) hx hb dJ1_charAt_3b067_9 rfl ?_
  refine lv_iand hx hb dJ1_charAt_3b067_12 ?_
  refine lv_i2c hx hb dJ1_charAt_3b067_13 rfl ?_
  exact zr_Rn hx hb hr hlocks rfl (Option.some.inj hf) dJ1_charAt_3b067_14

theorem hd_yJ0_charAt_5068e : hdY yJ0_charAt_5068e 1 := by decide +kernel
def Str_charAt_5068e (i_1 : Nat) (a1 : Int32) : Option (Int32) := z_bd (Lat_charAt_3b067 i_1 a1) (fun r2 : Int32 => some (vp_nar .char r2))
set_option maxHeartbeats 4000000 in
set_option maxRecDepth 100000 in
theorem ctJ0_charAt_5068e (l : Launch) (D : va_G) (ac cs : Nat → Nat) (i_1 : Nat) (a1 : Int32) (hi_1 : i_1 < 10) (res : Int32) (hf : Str_charAt_5068e i_1 a1 = some res) : Met l yJ0_charAt_5068e (cWW yJ0_charAt_5068e cJ0_charAt_5068e 2 (some .char)) { frames := 3, cells := 0, slots := 0, locals := 64 } (zR D ac cs [.ref (cs (10 + i_1)), .int a1] ([])) (vp_Si (fun r => r = res)) 0 0 (fun _ => False) := by
  refine Met.ofW (cc := cJ0_charAt_5068e) (maxL := 2) (ret := (some .char)) (by decide) rfl ?_
  intro p e s m args below meth c s₁ B hml hv
  obtain ⟨rfl, hP, hKX, hC⟩ := hv
  have hx := B.exec
  have hb := B.bytes
  have hr := B.returns
  have hts := atoms_spec (ws := cWW yJ0_charAt_5068e cJ0_charAt_5068e 2 (some .char)) B.pre
  have htw : ∀ w ∈ WW, w.before _ s = true := fun w h => hts w (List.mem_cons_of_mem _ h)
  have hown : s.vm.findClass RJ0 = some m.cls := findClass_of_methodNamed B.named
  have hlocks := B.notSynchronized
  clear hts B
  have hS : va_S (fun _ => False) s.heap s.heap [] := va_S.rf
  have hl := lv_entry ([.ref (cs (10 + i_1)), .int a1]) (n := 2) (Nat.le_of_ble_eq_true rfl)
  rw [lg_entry_eq]
  generalize (lg_sl ([.ref (cs (10 + i_1)), .int a1]) ++ List.replicate (2 - (lg_sl ([.ref (cs (10 + i_1)), .int a1])).length) Slot.unset).toArray = ls at hl ⊢
  have hl : lv_has ls 2 [(0, .ref (cs (10 + i_1))), (1, .int a1)] := hl
  unfold Str_charAt_5068e at hf
  show W p l e ({ frames := 3, cells := 0, slots := 0, locals := 64 } : Room) s m _ below meth c s.heap [] 0 0 _ (F0 m 0 ls [])
  refine lv_aload_n hx hb dJ0_charAt_5068e_0 rfl (lv_at hl 0 rfl) ?_
  refine zc_RViS (As := []) (rest := []) hx hb hml hown htw (ctJ0_isLatin1_aae02 l D ac cs   i_1  hi_1 1 rfl) (g_V mM_RJ0_492 mI_yJ0_isLatin1_aae02 mS_RJ0_yJ0_isLatin1_aae02_yJ0_isLatin1_aae02 mN_RJ0 mC_yJ0_isLatin1_aae02) rfl (hd_yJ0_isLatin1_aae02) ⟨rfl, rfl⟩ ⟨(Nat.le_of_ble_eq_true rfl), (Nat.le_of_ble_eq_true rfl)⟩ hKX hC hS zP0 (zrecS (i := i_1) hC hi_1 hS) rfl hl.1 rfl (Nat.le_of_ble_eq_true rfl) ⟨Nat.zero_le _, Nat.zero_le _⟩ dJ0_charAt_5068e_1 ?_
  refine lv_if_eq (tgt := 16) hx hb dJ0_charAt_5068e_4 (by decide) (fun c1 => absurd c1 (by decide)) (fun c1 => ?_)
  refine lv_aload_n hx hb dJ0_charAt_5068e_7 rfl (lv_at hl 0 rfl) ?_
  refine vk_getf hx hb (hC.2.2.2.1.1 i_1 hi_1).2.2.1 hS hown (htw _ mF_RJ0_9) (fun _ h9 => h9) dJ0_charAt_5068e_8 ?_
  refine lv_iload_n hx hb dJ0_charAt_5068e_11 rfl (lv_at hl 1 rfl) ?_
  obtain ⟨r2, hr2, hf⟩ := z_bd_u hf
  refine zc_RSi (As := [.ref (cs (30 + i_1)), .int a1]) (rest := []) hx hb hml hown htw (ctJ1_charAt_3b067 l D ac cs   i_1 a1  hi_1 _ hr2) (g_S mM_RJ0_495 mT_yJ1_charAt_3b067 mN_RJ1 mC_yJ1_charAt_3b067) (hd_yJ1_charAt_3b067) ⟨rfl, rfl⟩ ⟨(Nat.le_of_ble_eq_true rfl), (Nat.le_of_ble_eq_true rfl)⟩ hKX hC hS zP0 rfl hl.1 rfl (Nat.le_of_ble_eq_true rfl) ⟨Nat.zero_le _, Nat.zero_le _⟩ dJ0_charAt_5068e_12 ?_
  exact zr_Rn hx hb hr hlocks rfl (Option.some.inj hf) dJ0_charAt_5068e_15

theorem hd_yJ1_canEncode_9a6ad : hdY yJ1_canEncode_9a6ad 1 := by decide +kernel
def Lat_canEncode_9a6ad (a1 : Int32) : Int32 := if a1 < 0 then 0 else (if 255 < a1 then 0 else 1)
set_option maxHeartbeats 4000000 in
set_option maxRecDepth 100000 in
theorem ctJ1_canEncode_9a6ad (l : Launch) (D : va_G) (ac cs : Nat → Nat) (a1 : Int32) (res : Int32) (hf : Lat_canEncode_9a6ad a1 = res) : Met l yJ1_canEncode_9a6ad (cWW yJ1_canEncode_9a6ad cJ1_canEncode_9a6ad 1 (some .boolean)) { frames := 0, cells := 0, slots := 0, locals := 0 } (zR D ac cs [.int a1] ([])) (vp_Si (fun r => r = res)) 0 0 (fun _ => False) := by
  refine Met.ofW (cc := cJ1_canEncode_9a6ad) (maxL := 1) (ret := (some .boolean)) (by decide) rfl ?_
  intro p e s m args below meth c s₁ B hml hv
  obtain ⟨rfl, hP, hKX, hC⟩ := hv
  have hx := B.exec
  have hb := B.bytes
  have hr := B.returns
  have hts := atoms_spec (ws := cWW yJ1_canEncode_9a6ad cJ1_canEncode_9a6ad 1 (some .boolean)) B.pre
  have htw : ∀ w ∈ WW, w.before _ s = true := fun w h => hts w (List.mem_cons_of_mem _ h)
  have hown : s.vm.findClass RJ1 = some m.cls := findClass_of_methodNamed B.named
  have hlocks := B.notSynchronized
  clear hts B
  have hS : va_S (fun _ => False) s.heap s.heap [] := va_S.rf
  have hl := lv_entry ([.int a1]) (n := 1) (Nat.le_of_ble_eq_true rfl)
  rw [lg_entry_eq]
  generalize (lg_sl ([.int a1]) ++ List.replicate (1 - (lg_sl ([.int a1])).length) Slot.unset).toArray = ls at hl ⊢
  have hl : lv_has ls 1 [(0, .int a1)] := hl
  unfold Lat_canEncode_9a6ad at hf
  show W p l e ({ frames := 0, cells := 0, slots := 0, locals := 0 } : Room) s m _ below meth c s.heap [] 0 0 _ (F0 m 0 ls [])
  refine lv_iload_n hx hb dJ1_canEncode_9a6ad_0 rfl (lv_at hl 0 rfl) ?_
  refine lv_if_lt (tgt := 15) hx hb dJ1_canEncode_9a6ad_1 (by decide) (fun c1 => ?_) (fun c1 => ?_)
  · have hf := z_p c1 hf
    refine lv_iconst (v := 0) hx hb dJ1_canEncode_9a6ad_15 rfl ?_
    exact zr_Rz hx hb hr hlocks (z_b_n z_b0) hf dJ1_canEncode_9a6ad_16
  · have hf := z_n c1 hf
    refine lv_iload_n hx hb dJ1_canEncode_9a6ad_4 rfl (lv_at hl 0 rfl) ?_
    refine lv_sipush (v := 255) hx hb dJ1_canEncode_9a6ad_5 rfl ?_
    refine lv_icmp_gt (tgt := 15) hx hb dJ1_canEncode_9a6ad_8 (by decide) (fun c2 => ?_) (fun c2 => ?_)
    · have hf := z_p c2 hf
      refine lv_iconst (v := 0) hx hb dJ1_canEncode_9a6ad_15 rfl ?_
      exact zr_Rz hx hb hr hlocks (z_b_n z_b0) hf dJ1_canEncode_9a6ad_16
    · have hf := z_n c2 hf
      refine lv_iconst (v := 1) hx hb dJ1_canEncode_9a6ad_11 rfl ?_
      refine lv_goto (tgt := 16) hx hb dJ1_canEncode_9a6ad_12 (by decide) ?_
      exact zr_Rz hx hb hr hlocks (z_b_n z_b1) hf dJ1_canEncode_9a6ad_16
theorem b_Lat_canEncode_9a6ad (a1 : Int32) : z_b (Lat_canEncode_9a6ad a1) = true := by
  unfold Lat_canEncode_9a6ad
  (repeat' (first | split | (unfold z_let; dsimp only) | (unfold z_jn; dsimp only))) <;> first | decide +kernel

theorem hd_yJ1_indexOfChar_4cfef : hdY yJ1_indexOfChar_4cfef 4 := by decide +kernel
def Lat_indexOfChar_4cfef_L7 (i0 : Nat) (a4 : Int32) (x1 : Int32) : Nat → Int32 → Option (Int32)
  | 0, _ => none
  | n4 + 1, x2 => if a4 ≤ x2 then (some (-1)) else (z_gd (z_in x2 (strLen.getD i0 0)) (if ((strByt.getD i0 []).getD x2.toNatClampNeg 0) = x1 then (some x2) else (z_let (x2 + 1) (fun x9 : Int32 => Lat_indexOfChar_4cfef_L7 i0 a4 x1 n4 x9))))
def Lat_indexOfChar_4cfef (F : Nat) (i0 : Nat) (a2 : Int32) (a3 : Int32) (a4 : Int32) : Option (Int32) := z_let a2.toInt8.toInt32 (fun x1 : Int32 => Lat_indexOfChar_4cfef_L7 i0 a4 x1 F a3)
set_option maxHeartbeats 4000000 in
set_option maxRecDepth 100000 in
theorem ctJ1_indexOfChar_4cfef (l : Launch) (D : va_G) (ac cs : Nat → Nat) (i0 : Nat) (a2 : Int32) (a3 : Int32) (a4 : Int32) (hi0 : i0 < 10) (F : Nat) (res : Int32) (hf : Lat_indexOfChar_4cfef F i0 a2 a3 a4 = some res) : Met l yJ1_indexOfChar_4cfef (cWW yJ1_indexOfChar_4cfef cJ1_indexOfChar_4cfef 6 (some .int)) { frames := 0, cells := 0, slots := 0, locals := 0 } (zR D ac cs [.ref (cs (30 + i0)), .int a2, .int a3, .int a4] ([])) (vp_Si (fun r => r = res)) 0 0 (fun _ => False) := by
  refine Met.ofW (cc := cJ1_indexOfChar_4cfef) (maxL := 6) (ret := (some .int)) (by decide) rfl ?_
  intro p e s m args below meth c s₁ B hml hv
  obtain ⟨rfl, hP, hKX, hC⟩ := hv
  have hx := B.exec
  have hb := B.bytes
  have hr := B.returns
  have hts := atoms_spec (ws := cWW yJ1_indexOfChar_4cfef cJ1_indexOfChar_4cfef 6 (some .int)) B.pre
  have htw : ∀ w ∈ WW, w.before _ s = true := fun w h => hts w (List.mem_cons_of_mem _ h)
  have hown : s.vm.findClass RJ1 = some m.cls := findClass_of_methodNamed B.named
  have hlocks := B.notSynchronized
  clear hts B
  have hS : va_S (fun _ => False) s.heap s.heap [] := va_S.rf
  have hl := lv_entry ([.ref (cs (30 + i0)), .int a2, .int a3, .int a4]) (n := 6) (Nat.le_of_ble_eq_true rfl)
  rw [lg_entry_eq]
  generalize (lg_sl ([.ref (cs (30 + i0)), .int a2, .int a3, .int a4]) ++ List.replicate (6 - (lg_sl ([.ref (cs (30 + i0)), .int a2, .int a3, .int a4])).length) Slot.unset).toArray = ls at hl ⊢
  have hl : lv_has ls 6 [(0, .ref (cs (30 + i0))), (1, .int a2), (2, .int a3), (3, .int a4)] := hl
  unfold Lat_indexOfChar_4cfef at hf
  show W p l e ({ frames := 0, cells := 0, slots := 0, locals := 0 } : Room) s m _ below meth c s.heap [] 0 0 _ (F0 m 0 ls [])
  refine lv_iload_n hx hb dJ1_indexOfChar_4cfef_0 rfl (lv_at hl 1 rfl) ?_
  refine lv_i2b hx hb dJ1_indexOfChar_4cfef_1 rfl ?_
  refine lv_topi (fun x1 hx1 => ?_)
  have hf := z_let_u hx1 hf
  refine lv_istore (lv' := [(4, .int x1), (0, .ref (cs (30 + i0))), (1, .int a2), (2, .int a3), (3, .int a4)]) hx hb dJ1_indexOfChar_4cfef_2 hl (Nat.le_of_ble_eq_true rfl) rfl (fun ls hl => ?_)
  refine lv_iload_n hx hb dJ1_indexOfChar_4cfef_4 rfl (lv_at hl 3 rfl) ?_
  refine lv_istore (lv' := [(5, .int a3), (4, .int x1), (0, .ref (cs (30 + i0))), (1, .int a2), (2, .int a3), (3, .int a4)]) hx hb dJ1_indexOfChar_4cfef_5 hl (Nat.le_of_ble_eq_true rfl) rfl (fun ls hl => ?_)
  have hL3 : ∀ (n4 : Nat) (x2 : Int32), Lat_indexOfChar_4cfef_L7 i0 a4 x1 n4 x2 = some res → ∀ (ls : Array Slot), lv_has ls 6 [(0, .ref (cs (30 + i0))), (3, .int a4), (4, .int x1), (5, .int x2)] → W p l e ({ frames := 0, cells := 0, slots := 0, locals := 0 } : Room) s m (([.ref (cs (30 + i0)), .int a2, .int a3, .int a4] : List Value).toArray) below meth c s.heap [] 0 0 (MQ below (vp_Si (fun r => r = res)) ([.ref (cs (30 + i0)), .int a2, .int a3, .int a4] : List Value).toArray s 0 0 (fun _ => False)) (F0 m 7 ls []) := by
    intro n4
    induction n4 with
    | zero => intro x2 hf; rw [Lat_indexOfChar_4cfef_L7] at hf; cases hf
    | succ n4 ih5 =>
      intro x2 hf ls hl
      rw [Lat_indexOfChar_4cfef_L7] at hf
      refine lv_iload hx hb dJ1_indexOfChar_4cfef_7 (lv_at hl 3 rfl) ?_
      refine lv_iload_n hx hb dJ1_indexOfChar_4cfef_9 rfl (lv_at hl 1 rfl) ?_
      refine lv_icmp_ge (tgt := 31) hx hb dJ1_indexOfChar_4cfef_10 (by decide) (fun c6 => ?_) (fun c6 => ?_)
      · have hf := z_p c6 hf
        refine lv_iconst (v := (-1)) hx hb dJ1_indexOfChar_4cfef_31 rfl ?_
        exact zr_Ri hx hb hr hlocks (Option.some.inj hf) dJ1_indexOfChar_4cfef_32
      · have hf := z_n c6 hf
        refine lv_aload_n hx hb dJ1_indexOfChar_4cfef_13 rfl (lv_at hl 0 rfl) ?_
        refine lv_iload hx hb dJ1_indexOfChar_4cfef_14 (lv_at hl 3 rfl) ?_
        obtain ⟨g7, hf⟩ := z_gd_u hf
        refine va_tb hx hb (hC.2.2.2.1.1 i0 hi0).2.2.2 hS (z_in_u g7) (v := .int ((strByt.getD i0 []).getD x2.toNatClampNeg 0)) rfl dJ1_indexOfChar_4cfef_16 ?_
        refine lv_iload hx hb dJ1_indexOfChar_4cfef_17 (lv_at hl 2 rfl) ?_
        refine lv_icmp_ne (tgt := 25) hx hb dJ1_indexOfChar_4cfef_19 (by decide) (fun c8 => ?_) (fun c8 => ?_)
        · have hf := z_n c8 hf
          obtain ⟨x9, hx9⟩ : ∃ y : Int32, y = (x2 + 1) := ⟨_, rfl⟩
          have hf := z_let_u hx9 hf
          refine lv_iinc (v := x9) (lv' := [(5, .int x9), (0, .ref (cs (30 + i0))), (3, .int a4), (4, .int x1)]) hx hb dJ1_indexOfChar_4cfef_25 hl (k := 3) rfl (by rw [hx9]; rfl) (Nat.le_of_ble_eq_true rfl) rfl (fun ls hl => ?_)
          refine lv_goto (tgt := 7) hx hb dJ1_indexOfChar_4cfef_28 (by decide) ?_
          exact ih5 x9 hf ls (lv_sub hl [1, 2, 3, 0] rfl)
        · have hf := z_p c8 hf
          refine lv_iload hx hb dJ1_indexOfChar_4cfef_22 (lv_at hl 3 rfl) ?_
          exact zr_Ri hx hb hr hlocks (Option.some.inj hf) dJ1_indexOfChar_4cfef_24
  refine hL3  F a3 hf ls (lv_sub hl [2, 5, 1, 0] rfl)

theorem hd_yJ1_indexOf_4cfef : hdY yJ1_indexOf_4cfef 4 := by decide +kernel
def Lat_indexOf_4cfef (F : Nat) (i0 : Nat) (a2 : Int32) (a3 : Int32) (a4 : Int32) : Option (Int32) := if Lat_canEncode_9a6ad a2 = 0 then (some (-1)) else (z_let (if a3 < 0 then 0 else a3) (fun x2 : Int32 => z_let (if (Int32.ofNat (strLen.getD i0 0)) < a4 then (Int32.ofNat (strLen.getD i0 0)) else a4) (fun x3 : Int32 => if x2 < x3 then (z_bd (Lat_indexOfChar_4cfef F i0 a2 x2 x3) (fun r5 : Int32 => some r5)) else (some (-1)))))
set_option maxHeartbeats 4000000 in
set_option maxRecDepth 100000 in
theorem ctJ1_indexOf_4cfef (l : Launch) (D : va_G) (ac cs : Nat → Nat) (i0 : Nat) (a2 : Int32) (a3 : Int32) (a4 : Int32) (hi0 : i0 < 10) (F : Nat) (res : Int32) (hf : Lat_indexOf_4cfef F i0 a2 a3 a4 = some res) : Met l yJ1_indexOf_4cfef (cWW yJ1_indexOf_4cfef cJ1_indexOf_4cfef 4 (some .int)) { frames := 1, cells := 0, slots := 0, locals := 25 } (zR D ac cs [.ref (cs (30 + i0)), .int a2, .int a3, .int a4] ([])) (vp_Si (fun r => r = res)) 0 0 (fun _ => False) := by
  refine Met.ofW (cc := cJ1_indexOf_4cfef) (maxL := 4) (ret := (some .int)) (by decide) rfl ?_
  intro p e s m args below meth c s₁ B hml hv
  obtain ⟨rfl, hP, hKX, hC⟩ := hv
  have hx := B.exec
  have hb := B.bytes
  have hr := B.returns
  have hts := atoms_spec (ws := cWW yJ1_indexOf_4cfef cJ1_indexOf_4cfef 4 (some .int)) B.pre
  have htw : ∀ w ∈ WW, w.before _ s = true := fun w h => hts w (List.mem_cons_of_mem _ h)
  have hown : s.vm.findClass RJ1 = some m.cls := findClass_of_methodNamed B.named
  have hlocks := B.notSynchronized
  clear hts B
  have hS : va_S (fun _ => False) s.heap s.heap [] := va_S.rf
  have hl := lv_entry ([.ref (cs (30 + i0)), .int a2, .int a3, .int a4]) (n := 4) (Nat.le_of_ble_eq_true rfl)
  rw [lg_entry_eq]
  generalize (lg_sl ([.ref (cs (30 + i0)), .int a2, .int a3, .int a4]) ++ List.replicate (4 - (lg_sl ([.ref (cs (30 + i0)), .int a2, .int a3, .int a4])).length) Slot.unset).toArray = ls at hl ⊢
  have hl : lv_has ls 4 [(0, .ref (cs (30 + i0))), (1, .int a2), (2, .int a3), (3, .int a4)] := hl
  unfold Lat_indexOf_4cfef at hf
  show W p l e ({ frames := 1, cells := 0, slots := 0, locals := 25 } : Room) s m _ below meth c s.heap [] 0 0 _ (F0 m 0 ls [])
  refine lv_iload_n hx hb dJ1_indexOf_4cfef_0 rfl (lv_at hl 1 rfl) ?_
  refine zc_RSi (As := [.int a2]) (rest := []) hx hb hml hown htw (ctJ1_canEncode_9a6ad l D ac cs   a2   _ rfl) (g_S mM_RJ1_88 mT_yJ1_canEncode_9a6ad mN_RJ1 mC_yJ1_canEncode_9a6ad) (hd_yJ1_canEncode_9a6ad) ⟨rfl, rfl⟩ ⟨(Nat.le_of_ble_eq_true rfl), (Nat.le_of_ble_eq_true rfl)⟩ hKX hC hS zP0 rfl hl.1 rfl (Nat.le_of_ble_eq_true rfl) ⟨Nat.zero_le _, Nat.zero_le _⟩ dJ1_indexOf_4cfef_1 ?_
  refine lv_if_ne (tgt := 9) hx hb dJ1_indexOf_4cfef_4 (by decide) (fun c1 => ?_) (fun c1 => ?_)
  · have hf := z_n c1 hf
    refine lv_iload_n hx hb dJ1_indexOf_4cfef_9 rfl (lv_at hl 2 rfl) ?_
    refine lv_iconst (v := 0) hx hb dJ1_indexOf_4cfef_10 rfl ?_
    refine va_mmax hx hb (hml.trans hl.1.symm) hown (htw _ mM_RJ1_92) (htw _ mT_Lib_Math_max_name) (htw _ mN_java_lang_Math) (htw _ mC_Lib_Math_max_name) (Nat.le_of_ble_eq_true rfl) (Nat.le_of_ble_eq_true rfl) (Nat.zero_le _) (Nat.zero_le _) dJ1_indexOf_4cfef_11 ?_
    refine lv_topi (fun x2 hx2 => ?_)
    have hf := z_let_u hx2 hf
    refine lv_istore_n (lv' := [(2, .int x2), (0, .ref (cs (30 + i0))), (1, .int a2), (3, .int a4)]) hx hb dJ1_indexOf_4cfef_14 rfl hl (Nat.le_of_ble_eq_true rfl) rfl (fun ls hl => ?_)
    refine lv_iload_n hx hb dJ1_indexOf_4cfef_15 rfl (lv_at hl 3 rfl) ?_
    refine lv_aload_n hx hb dJ1_indexOf_4cfef_16 rfl (lv_at hl 1 rfl) ?_
    refine va_tlen hx hb (hC.2.2.2.1.1 i0 hi0).2.2.2 hS (v := (Int32.ofNat (strLen.getD i0 0))) rfl dJ1_indexOf_4cfef_17 ?_
    refine va_mmin hx hb (hml.trans hl.1.symm) hown (htw _ mM_RJ1_38) (htw _ mT_Lib_Math_min_name) (htw _ mN_java_lang_Math) (htw _ mC_Lib_Math_min_name) (Nat.le_of_ble_eq_true rfl) (Nat.le_of_ble_eq_true rfl) (Nat.zero_le _) (Nat.zero_le _) dJ1_indexOf_4cfef_18 ?_
    refine lv_topi (fun x3 hx3 => ?_)
    have hf := z_let_u hx3 hf
    refine lv_istore_n (lv' := [(3, .int x3), (2, .int x2), (0, .ref (cs (30 + i0))), (1, .int a2)]) hx hb dJ1_indexOf_4cfef_21 rfl hl (Nat.le_of_ble_eq_true rfl) rfl (fun ls hl => ?_)
    refine lv_iload_n hx hb dJ1_indexOf_4cfef_22 rfl (lv_at hl 1 rfl) ?_
    refine lv_iload_n hx hb dJ1_indexOf_4cfef_23 rfl (lv_at hl 0 rfl) ?_
    refine lv_icmp_lt (tgt := 29) hx hb dJ1_indexOf_4cfef_24 (by decide) (fun c4 => ?_) (fun c4 => ?_)
    · have hf := z_p c4 hf
      refine lv_aload_n hx hb dJ1_indexOf_4cfef_29 rfl (lv_at hl 2 rfl) ?_
      refine lv_iload_n hx hb dJ1_indexOf_4cfef_30 rfl (lv_at hl 3 rfl) ?_
      refine lv_iload_n hx hb dJ1_indexOf_4cfef_31 rfl (lv_at hl 1 rfl) ?_
      refine lv_iload_n hx hb dJ1_indexOf_4cfef_32 rfl (lv_at hl 0 rfl) ?_
      obtain ⟨r5, hr5, hf⟩ := z_bd_u hf
      refine zc_RSi (As := [.ref (cs (30 + i0)), .int a2, .int x2, .int x3]) (rest := []) hx hb hml hown htw (ctJ1_indexOfChar_4cfef l D ac cs   i0 a2 x2 x3  hi0 F _ hr5) (g_S mM_RJ1_95 mT_yJ1_indexOfChar_4cfef mN_RJ1 mC_yJ1_indexOfChar_4cfef) (hd_yJ1_indexOfChar_4cfef) ⟨rfl, rfl⟩ ⟨(Nat.le_of_ble_eq_true rfl), (Nat.le_of_ble_eq_true rfl)⟩ hKX hC hS zP0 rfl hl.1 rfl (Nat.le_of_ble_eq_true rfl) ⟨Nat.zero_le _, Nat.zero_le _⟩ dJ1_indexOf_4cfef_33 ?_
      exact zr_Ri hx hb hr hlocks (Option.some.inj hf) dJ1_indexOf_4cfef_36
    · have hf := z_n c4 hf
      refine lv_iconst (v := (-1)) hx hb dJ1_indexOf_4cfef_27 rfl ?_
      exact zr_Ri hx hb hr hlocks (Option.some.inj hf) dJ1_indexOf_4cfef_28
  · have hf := z_p c1 hf
    refine lv_iconst (v := (-1)) hx hb dJ1_indexOf_4cfef_7 rfl ?_
    exact zr_Ri hx hb hr hlocks (Option.some.inj hf) dJ1_indexOf_4cfef_8

theorem hd_yJ0_indexOf_7cf53 : hdY yJ0_indexOf_7cf53 2 := by decide +kernel
def Str_indexOf_7cf53 (F : Nat) (i_1 : Nat) (a1 : Int32) (a2 : Int32) : Option (Int32) := z_bd (Lat_indexOf_4cfef F i_1 a1 a2 (Str_length_8abf5 i_1)) (fun r2 : Int32 => some r2)
set_option maxHeartbeats 4000000 in
set_option maxRecDepth 100000 in
theorem ctJ0_indexOf_7cf53 (l : Launch) (D : va_G) (ac cs : Nat → Nat) (i_1 : Nat) (a1 : Int32) (a2 : Int32) (hi_1 : i_1 < 10) (F : Nat) (res : Int32) (hf : Str_indexOf_7cf53 F i_1 a1 a2 = some res) : Met l yJ0_indexOf_7cf53 (cWW yJ0_indexOf_7cf53 cJ0_indexOf_7cf53 3 (some .int)) { frames := 2, cells := 0, slots := 0, locals := 48 } (zR D ac cs [.ref (cs (10 + i_1)), .int a1, .int a2] ([])) (vp_Si (fun r => r = res)) 0 0 (fun _ => False) := by
  refine Met.ofW (cc := cJ0_indexOf_7cf53) (maxL := 3) (ret := (some .int)) (by decide) rfl ?_
  intro p e s m args below meth c s₁ B hml hv
  obtain ⟨rfl, hP, hKX, hC⟩ := hv
  have hx := B.exec
  have hb := B.bytes
  have hr := B.returns
  have hts := atoms_spec (ws := cWW yJ0_indexOf_7cf53 cJ0_indexOf_7cf53 3 (some .int)) B.pre
  have htw : ∀ w ∈ WW, w.before _ s = true := fun w h => hts w (List.mem_cons_of_mem _ h)
  have hown : s.vm.findClass RJ0 = some m.cls := findClass_of_methodNamed B.named
  have hlocks := B.notSynchronized
  clear hts B
  have hS : va_S (fun _ => False) s.heap s.heap [] := va_S.rf
  have hl := lv_entry ([.ref (cs (10 + i_1)), .int a1, .int a2]) (n := 3) (Nat.le_of_ble_eq_true rfl)
  rw [lg_entry_eq]
  generalize (lg_sl ([.ref (cs (10 + i_1)), .int a1, .int a2]) ++ List.replicate (3 - (lg_sl ([.ref (cs (10 + i_1)), .int a1, .int a2])).length) Slot.unset).toArray = ls at hl ⊢
  have hl : lv_has ls 3 [(0, .ref (cs (10 + i_1))), (1, .int a1), (2, .int a2)] := hl
  unfold Str_indexOf_7cf53 at hf
  show W p l e ({ frames := 2, cells := 0, slots := 0, locals := 48 } : Room) s m _ below meth c s.heap [] 0 0 _ (F0 m 0 ls [])
  refine lv_aload_n hx hb dJ0_indexOf_7cf53_0 rfl (lv_at hl 0 rfl) ?_
  refine zc_RViS (As := []) (rest := []) hx hb hml hown htw (ctJ0_isLatin1_aae02 l D ac cs   i_1  hi_1 1 rfl) (g_V mM_RJ0_492 mI_yJ0_isLatin1_aae02 mS_RJ0_yJ0_isLatin1_aae02_yJ0_isLatin1_aae02 mN_RJ0 mC_yJ0_isLatin1_aae02) rfl (hd_yJ0_isLatin1_aae02) ⟨rfl, rfl⟩ ⟨(Nat.le_of_ble_eq_true rfl), (Nat.le_of_ble_eq_true rfl)⟩ hKX hC hS zP0 (zrecS (i := i_1) hC hi_1 hS) rfl hl.1 rfl (Nat.le_of_ble_eq_true rfl) ⟨Nat.zero_le _, Nat.zero_le _⟩ dJ0_indexOf_7cf53_1 ?_
  refine lv_if_eq (tgt := 23) hx hb dJ0_indexOf_7cf53_4 (by decide) (fun c1 => absurd c1 (by decide)) (fun c1 => ?_)
  refine lv_aload_n hx hb dJ0_indexOf_7cf53_7 rfl (lv_at hl 0 rfl) ?_
  refine vk_getf hx hb (hC.2.2.2.1.1 i_1 hi_1).2.2.1 hS hown (htw _ mF_RJ0_9) (fun _ h9 => h9) dJ0_indexOf_7cf53_8 ?_
  refine lv_iload_n hx hb dJ0_indexOf_7cf53_11 rfl (lv_at hl 1 rfl) ?_
  refine lv_iload_n hx hb dJ0_indexOf_7cf53_12 rfl (lv_at hl 2 rfl) ?_
  refine lv_aload_n hx hb dJ0_indexOf_7cf53_13 rfl (lv_at hl 0 rfl) ?_
  refine zc_RViS (As := []) (rest := [.int a2, .int a1, .ref (cs (30 + i_1))]) hx hb hml hown htw (ctJ0_length_8abf5 l D ac cs   i_1  hi_1 _ rfl) (g_V mM_RJ0_505 mI_yJ0_length_8abf5 mS_RJ0_yJ0_length_8abf5_yJ0_length_8abf5 mN_RJ0 mC_yJ0_length_8abf5) rfl (hd_yJ0_length_8abf5) ⟨rfl, rfl⟩ ⟨(Nat.le_of_ble_eq_true rfl), (Nat.le_of_ble_eq_true rfl)⟩ hKX hC hS zP0 (zrecS (i := i_1) hC hi_1 hS) rfl hl.1 rfl (Nat.le_of_ble_eq_true rfl) ⟨Nat.zero_le _, Nat.zero_le _⟩ dJ0_indexOf_7cf53_14 ?_
  obtain ⟨r2, hr2, hf⟩ := z_bd_u hf
  refine zc_RSi (As := [.ref (cs (30 + i_1)), .int a1, .int a2, .int (Str_length_8abf5 i_1)]) (rest := []) hx hb hml hown htw (ctJ1_indexOf_4cfef l D ac cs   i_1 a1 a2 (Str_length_8abf5 i_1)  hi_1 F _ hr2) (g_S mM_RJ0_637 mT_yJ1_indexOf_4cfef mN_RJ1 mC_yJ1_indexOf_4cfef) (hd_yJ1_indexOf_4cfef) ⟨rfl, rfl⟩ ⟨(Nat.le_of_ble_eq_true rfl), (Nat.le_of_ble_eq_true rfl)⟩ hKX hC hS zP0 rfl hl.1 rfl (Nat.le_of_ble_eq_true rfl) ⟨Nat.zero_le _, Nat.zero_le _⟩ dJ0_indexOf_7cf53_17 ?_
  refine lv_goto (tgt := 36) hx hb dJ0_indexOf_7cf53_20 (by decide) ?_
  exact zr_Ri hx hb hr hlocks (Option.some.inj hf) dJ0_indexOf_7cf53_36

theorem hd_yJ0_indexOf_0f7a4 : hdY yJ0_indexOf_0f7a4 1 := by decide +kernel
def Str_indexOf_0f7a4 (F : Nat) (i_1 : Nat) (a1 : Int32) : Option (Int32) := z_bd (Str_indexOf_7cf53 F i_1 a1 0) (fun r1 : Int32 => some r1)
set_option maxHeartbeats 4000000 in
set_option maxRecDepth 100000 in
theorem ctJ0_indexOf_0f7a4 (l : Launch) (D : va_G) (ac cs : Nat → Nat) (i_1 : Nat) (a1 : Int32) (hi_1 : i_1 < 10) (F : Nat) (res : Int32) (hf : Str_indexOf_0f7a4 F i_1 a1 = some res) : Met l yJ0_indexOf_0f7a4 (cWW yJ0_indexOf_0f7a4 cJ0_indexOf_0f7a4 2 (some .int)) { frames := 3, cells := 0, slots := 0, locals := 70 } (zR D ac cs [.ref (cs (10 + i_1)), .int a1] ([])) (vp_Si (fun r => r = res)) 0 0 (fun _ => False) := by
  refine Met.ofW (cc := cJ0_indexOf_0f7a4) (maxL := 2) (ret := (some .int)) (by decide) rfl ?_
  intro p e s m args below meth c s₁ B hml hv
  obtain ⟨rfl, hP, hKX, hC⟩ := hv
  have hx := B.exec
  have hb := B.bytes
  have hr := B.returns
  have hts := atoms_spec (ws := cWW yJ0_indexOf_0f7a4 cJ0_indexOf_0f7a4 2 (some .int)) B.pre
  have htw : ∀ w ∈ WW, w.before _ s = true := fun w h => hts w (List.mem_cons_of_mem _ h)
  have hown : s.vm.findClass RJ0 = some m.cls := findClass_of_methodNamed B.named
  have hlocks := B.notSynchronized
  clear hts B
  have hS : va_S (fun _ => False) s.heap s.heap [] := va_S.rf
  have hl := lv_entry ([.ref (cs (10 + i_1)), .int a1]) (n := 2) (Nat.le_of_ble_eq_true rfl)
  rw [lg_entry_eq]
  generalize (lg_sl ([.ref (cs (10 + i_1)), .int a1]) ++ List.replicate (2 - (lg_sl ([.ref (cs (10 + i_1)), .int a1])).length) Slot.unset).toArray = ls at hl ⊢
  have hl : lv_has ls 2 [(0, .ref (cs (10 + i_1))), (1, .int a1)] := hl
  unfold Str_indexOf_0f7a4 at hf
  show W p l e ({ frames := 3, cells := 0, slots := 0, locals := 70 } : Room) s m _ below meth c s.heap [] 0 0 _ (F0 m 0 ls [])
  refine lv_aload_n hx hb dJ0_indexOf_0f7a4_0 rfl (lv_at hl 0 rfl) ?_
  refine lv_iload_n hx hb dJ0_indexOf_0f7a4_1 rfl (lv_at hl 1 rfl) ?_
  refine lv_iconst (v := 0) hx hb dJ0_indexOf_0f7a4_2 rfl ?_
  obtain ⟨r1, hr1, hf⟩ := z_bd_u hf
  refine zc_RViS (As := [.int a1, .int 0]) (rest := []) hx hb hml hown htw (ctJ0_indexOf_7cf53 l D ac cs   i_1 a1 0  hi_1 F _ hr1) (g_V mM_RJ0_633 mI_yJ0_indexOf_7cf53 mS_RJ0_yJ0_indexOf_7cf53_yJ0_indexOf_7cf53 mN_RJ0 mC_yJ0_indexOf_7cf53) rfl (hd_yJ0_indexOf_7cf53) ⟨rfl, rfl⟩ ⟨(Nat.le_of_ble_eq_true rfl), (Nat.le_of_ble_eq_true rfl)⟩ hKX hC hS zP0 (zrecS (i := i_1) hC hi_1 hS) rfl hl.1 rfl (Nat.le_of_ble_eq_true rfl) ⟨Nat.zero_le _, Nat.zero_le _⟩ dJ0_indexOf_0f7a4_3 ?_
  exact zr_Ri hx hb hr hlocks (Option.some.inj hf) dJ0_indexOf_0f7a4_6

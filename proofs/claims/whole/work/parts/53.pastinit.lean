theorem hd_yX2_init : hdY yX2_init 0 := by decide +kernel
set_option maxHeartbeats 4000000 in
set_option maxRecDepth 100000 in
theorem ctX2_init (l : Launch) (D : va_G) (ac cs : Nat → Nat) (h0 sz : Nat) : Met l yX2_init (cWW yX2_init cX2_init 2 none) { frames := 2, cells := 61, slots := 500, locals := 32 } (zA D ac cs [.ref h0] ([(h0, .inr (2, [.null, .int 0, .int 0]))]) sz) (va_Qv (fun u : Nat → Nat → Nat => u 5 0 = h0) (fun u => zB D (va_A ([(h0, .inr (2, [.null, .int 0, .int 0]))]) sz) (paW ac u (0, 0) ++ ringW ac u (fun _ => Sh0))) (va_A ([(h0, .inr (2, [.null, .int 0, .int 0]))]) sz)) 61 500 (va_A ([(h0, .inr (2, [.null, .int 0, .int 0]))]) sz) := by
  refine Met.ofW (cc := cX2_init) (maxL := 2) (ret := none) (by decide) rfl ?_
  intro p e s m args below meth c s₁ B hml hv
  obtain ⟨⟨rfl, hsz, hP, hKX, hD0, hC⟩, hAO⟩ := hv
  have hx := B.exec
  have hb := B.bytes
  have hr := B.returns
  have hts := atoms_spec (ws := cWW yX2_init cX2_init 2 none) B.pre
  have htw : ∀ w ∈ WW, w.before _ s = true := fun w h => hts w (List.mem_cons_of_mem _ h)
  have hown : s.vm.findClass RX2 = some m.cls := findClass_of_methodNamed B.named
  have hlocks := B.notSynchronized
  have hin : meth.name = "<init>" := (name_of_methodNamed B.named B.method).1
  clear hts B
  subst hsz
  have hD := hD0.self (sz := s.heap.size)
  generalize hAe : va_A ([(h0, .inr (2, [.null, .int 0, .int 0]))]) s.heap.size = A at hD hC ⊢
  have hA : ∀ q : Nat, s.heap.size ≤ q → A q := fun q h => by rw [← hAe]; exact Or.inr h
  have hS : va_S A s.heap s.heap [] := va_S.rf
  clear hD0 hAe
  have hP : va_P D vwCl ([(h0, .inr (2, [.null, .int 0, .int 0]))]) s.heap := hP
  have hl := lv_entry ([.ref h0]) (n := 2) (Nat.le_of_ble_eq_true rfl)
  rw [lg_entry_eq]
  generalize (lg_sl ([.ref h0]) ++ List.replicate (2 - (lg_sl ([.ref h0])).length) Slot.unset).toArray = ls at hl ⊢
  have hl : lv_has ls 2 [(0, .ref h0)] := hl
  show W p l e ({ frames := 2, cells := 61, slots := 500, locals := 32 } : Room) s m _ below meth c s.heap [] 0 0 _ (F0 m 0 ls [])
  refine lv_aload_n hx hb dX2_init_0 rfl (lv_at hl 0 rfl) ?_
  refine W.objInit hx hb hown (htw _ mM_RX2_3) (htw _ mI_objectInit) (htw _ mC_objectInit) rfl (by rw [hml]; exact hl.1) rfl dX2_init_1 (Nat.le_of_ble_eq_true rfl) (Nat.le_of_ble_eq_true rfl) ?_
  refine W.eq (g2 := F0 m 4 ls []) rfl ?_
  refine lv_aload_n hx hb dX2_init_4 rfl (lv_at hl 0 rfl) ?_
  refine lv_bipush (v := 20) hx hb dX2_init_5 rfl ?_
  refine zn_refs hx hb hown (htw _ mK_RX2_9) hAO hKX hP hD hS hA (N' := 20) (by decide) rfl (Nat.le_of_ble_eq_true rfl) (Nat.le_of_ble_eq_true rfl) (Nat.le_of_ble_eq_true rfl) dX2_init_7 (fun r H hP hD hS => ?_)
  have hP : va_P D vwCl ([(h0, .inr (2, [.null, .int 0, .int 0])), (r, .inl (ac 5, 20, .inr (.inr (.inr (.inr (fun _ => none))))))]) H := hP
  have hD : va_D A ([(h0, .inr (2, [.null, .int 0, .int 0])), (r, .inl (ac 5, 20, .inr (.inr (.inr (.inr (fun _ => none))))))]) := hD
  refine W.widen (k := 1) (n := 20) (Nat.le_of_ble_eq_true rfl) (Nat.le_of_ble_eq_true rfl) ?_
  refine va_putF (D := D) (ci := 2) (v := .ref r) (ty := tyX2 0) (C := RX2) (T := TX2) (N := 3) hx hb htw WW_wsX20 tyX2 tyX2_ok nmX2 hown hKX.1 hP hD hS 0 rfl rfl 0 (Nat.le_of_ble_eq_true rfl) (htw _ mF_RX2_11) (fun _ h9 => h9) rfl hin rfl (tyX2_ok 0 (Nat.le_of_ble_eq_true rfl)) rfl rfl (Nat.le_of_ble_eq_true rfl) dX2_init_10 (fun H locs hP hD hS => ?_)
  have hP : va_P D vwCl ([(h0, .inr (2, [.ref r, .int 0, .int 0])), (r, .inl (ac 5, 20, .inr (.inr (.inr (.inr (refN (fun _ _ => 0) 0))))))] ++ poolN ac (fun _ _ => 0) 0) H := by rw [refN_0]; exact hP
  have hD : va_D A ([(h0, .inr (2, [.ref r, .int 0, .int 0])), (r, .inl (ac 5, 20, .inr (.inr (.inr (.inr (refN (fun _ _ => 0) 0))))))] ++ poolN ac (fun _ _ => 0) 0) := by rw [refN_0]; exact hD
  refine lv_iconst (v := 0) hx hb dX2_init_13 rfl ?_
  refine lv_istore_n (lv' := [(1, .int 0), (0, .ref h0)]) hx hb dX2_init_14 rfl hl (Nat.le_of_ble_eq_true rfl) rfl (fun ls hl => ?_)
  have hL : ∀ (k i : Nat) (ad : Nat → Nat → Nat) (H : Heap) (locs : List Loc) (ls : Array Slot), i + k = 20 → va_P D vwCl ([(h0, .inr (2, [.ref r, .int 0, .int 0])), (r, .inl (ac 5, 20, .inr (.inr (.inr (.inr (refN ad i))))))] ++ poolN ac ad i) H → va_D A ([(h0, .inr (2, [.ref r, .int 0, .int 0])), (r, .inl (ac 5, 20, .inr (.inr (.inr (.inr (refN ad i))))))] ++ poolN ac ad i) → va_S A s.heap H locs → lv_has ls 2 [(1, .int (nI i)), (0, .ref h0)] → W p l e ({ frames := 2, cells := 61, slots := 500, locals := 32 } : Room) s m (([.ref h0] : List Value).toArray) below meth c H locs (1 + 3 * i) (20 + 24 * i) (MQ below (va_Qv (fun u : Nat → Nat → Nat => u 5 0 = h0) (fun u => zB D A (paW ac u (0, 0) ++ ringW ac u (fun _ => Sh0))) A) (([.ref h0] : List Value).toArray) s 61 500 A) (F0 m 15 ls []) := by
    intro k
    induction k with
    | zero =>
      intro i ad H locs ls hi hP hD hS hl
      obtain rfl : i = 20 := by omega
      refine lv_iload_n hx hb dX2_init_15 rfl (lv_at hl 0 rfl) ?_
      refine lv_aload_n hx hb dX2_init_16 rfl (lv_at hl 1 rfl) ?_
      refine va_get (D := D) (ci := 2) (v := .ref r) (C := RX2) (T := TX2) (N := 3) hx hb htw WW_wsX20 hown hKX.1 hP 0 rfl rfl 0 (Nat.le_of_ble_eq_true rfl) (htw _ mF_RX2_11) (fun _ h9 => h9) rfl dX2_init_17 ?_
      refine va_alen hx hb hKX.1 hP 1 5 rfl rfl (v := 20) rfl dX2_init_20 ?_
      refine lv_icmp_ge (tgt := 43) hx hb dX2_init_21 (by decide) (fun _ => ?_) (fun c => absurd (by decide) c)
      obtain ⟨a, ha⟩ : ∃ a : Nat → Nat → Nat, a = fun g j => if g = 5 then (if j = 0 then h0 else r) else ad (g - 20) j := ⟨_, rfl⟩
      have h20 : ∀ i, a (20 + i) = ad i := fun i => by funext j; rw [ha]; dsimp only; rw [if_neg (by omega), show 20 + i - 20 = i by omega]
      have hw : [(h0, .inr (2, [.ref r, .int 0, .int 0])), (r, .inl (ac 5, 20, .inr (.inr (.inr (.inr (refN ad 20))))))] ++ poolN ac ad 20 = paW ac a (0, 0) ++ ringW ac a (fun _ => Sh0) := by
        have e1 : poolN ac ad 20 = ringW ac a (fun _ => Sh0) := by
          unfold poolN ringW
          congr 1
          funext i
          rw [h20]
        have e2 : refN ad 20 = fun i => if i < 20 then some (a (20 + i) 0) else none := by
          funext i; unfold refN; rw [h20]
        have e3 : a 5 0 = h0 := by rw [ha]; rfl
        have e4 : a 5 1 = r := by rw [ha]; rfl
        rw [e1, e2]
        unfold paW
        rw [e3, e4]
      rw [hw] at hP hD
      exact W.vret hx hb hr (fun t ht _ => ⟨⟨a, rfl, by rw [ha]; rfl, by rw [ht]; exact hP, hD⟩, hS.F ht⟩) hS.2.2 dX2_init_43 hlocks
    | succ k ih =>
      intro i ad H locs ls hi hP hD hS hl
      have hi20 : i < 20 := by omega
      have hv : vp_in (nI i) 20 := vp_in_nI hi20 (by decide)
      refine lv_iload_n hx hb dX2_init_15 rfl (lv_at hl 0 rfl) ?_
      refine lv_aload_n hx hb dX2_init_16 rfl (lv_at hl 1 rfl) ?_
      refine va_get (D := D) (ci := 2) (v := .ref r) (C := RX2) (T := TX2) (N := 3) hx hb htw WW_wsX20 hown hKX.1 hP 0 rfl rfl 0 (Nat.le_of_ble_eq_true rfl) (htw _ mF_RX2_11) (fun _ h9 => h9) rfl dX2_init_17 ?_
      refine va_alen hx hb hKX.1 hP 1 5 rfl rfl (v := 20) rfl dX2_init_20 ?_
      refine lv_icmp_ge (tgt := 43) hx hb dX2_init_21 (by decide) (fun c => absurd c (nI_ge hi20 (by decide))) (fun _ => ?_)
      refine lv_aload_n hx hb dX2_init_24 rfl (lv_at hl 1 rfl) ?_
      refine va_get (D := D) (ci := 2) (v := .ref r) (C := RX2) (T := TX2) (N := 3) hx hb htw WW_wsX20 hown hKX.1 hP 0 rfl rfl 0 (Nat.le_of_ble_eq_true rfl) (htw _ mF_RX2_11) (fun _ h9 => h9) rfl dX2_init_25 ?_
      refine lv_iload_n hx hb dX2_init_28 rfl (lv_at hl 0 rfl) ?_
      refine va_new (ci := 4) (fs := shDef) (C := RX4) (T := TX4) (N := 10) hx hb htw WW_wsX40 tyX4 tyX4_ok hown (htw _ mK_RX2_9) (htw _ mA_RX4) (htw _ mN_RX4) hKX.1 hP hD hS hA rfl (by decide) (by show _ ≤ 61; omega) (by show _ ≤ 500; omega) dX2_init_29 (fun q H hP hD hS => ?_)
      have hP := zP_perm List.perm_append_comm hP
      have hD := zD_perm List.perm_append_comm hD
      refine lv_dup hx hb dX2_init_32 rfl ?_
      refine zmk_N (As := []) (rest := [.ref q, .int (nI i), .ref r]) (ctX4_init l D ac cs q H.size) hx hb hml hown htw (hKX.2 _ (List.mem_of_getElem? (i := 32) rfl)) mN_RX4 mC_yX4_init rfl mI_yX4_init hd_yX4_init ⟨rfl, rfl⟩ ⟨Nat.le_of_ble_eq_true rfl, Nat.le_of_ble_eq_true rfl⟩ hKX hC hS hA hP hD rfl hl.1 rfl (Nat.le_of_ble_eq_true rfl) ⟨by show _ ≤ 61; omega, by show _ ≤ 500; omega⟩ dX2_init_33 (fun u H locs _ hP hD hS => ?_)
      obtain ⟨u1, u2⟩ := u
      refine va_astq hx hb hKX.1 hP hD hS 4 5 0 4 (r := (RX4, TX4, 10)) rfl rfl rfl rfl hv dX2_init_36 (fun H locs hP hD hS => ?_)
      have hP : va_P D vwCl (shW ac (zq [q, u1, u2]) Sh0 ++ ([(h0, .inr (2, [.ref r, .int 0, .int 0])), (r, .inl (ac 5, 20, .inr (.inr (.inr (.inr (va_up (refN ad i) i (some (zq [q, u1, u2] 0))))))))] ++ poolN ac ad i)) H := by have h := hP; rw [nI_clamp (by omega)] at h; exact h
      have hD : va_D A (shW ac (zq [q, u1, u2]) Sh0 ++ ([(h0, .inr (2, [.ref r, .int 0, .int 0])), (r, .inl (ac 5, 20, .inr (.inr (.inr (.inr (va_up (refN ad i) i (some (zq [q, u1, u2] 0))))))))] ++ poolN ac ad i)) := by have h := hD; rw [nI_clamp (by omega)] at h; exact h
      rw [refN_succ ad i (zq [q, u1, u2])] at hP hD
      have hP := zP_perm (zpl _ _ _) hP
      have hD := zD_perm (zpl _ _ _) hD
      rw [← poolN_succ] at hP hD
      refine lv_iinc (v := nI (i + 1)) (lv' := [(1, .int (nI (i + 1))), (0, .ref h0)]) hx hb dX2_init_37 hl (k := 0) rfl (nI_succ i).symm (Nat.le_of_ble_eq_true rfl) rfl (fun ls hl => ?_)
      refine lv_goto (tgt := 15) hx hb dX2_init_40 (by decide) ?_
      refine W.widen (k := 1 + 3 * (i + 1)) (n := 20 + 24 * (i + 1)) (by omega) (by omega) ?_
      exact ih (i + 1) _ H locs ls (by omega) hP hD hS hl
  exact hL 20 0 _ _ _ ls (by omega) hP hD hS hl

section ZMK9
variable {p : Program} {l : Launch} {e : Env} {R : Room} {s : State} {m : MethodId} {args : Array Value} {below : List Frame} {meth : Method} {c : Code} {H : Heap} {locs : List Loc} {cells slots : Nat} {Q : State → Prop}
variable {cc bytes : ByteArray} {pc nL maxL n index mc ms : Nat} {ls : Array Slot} {rest st0 As : List Value} {b : Nat} {own C : String} {y : MethodName} {rm : Room} {D : va_G} {ac cs : Nat → Nat} {A : Nat → Prop} {wsc TT : va_W} {H0 : Heap}
theorem zmk_L {S : Type} {post : S → Prop} {wf : S → va_W} (M : Met l y (cWW y bytes maxL none) rm (zM D ac cs (.ref b :: As) wsc H.size) (va_Qv post (fun u => zB D (va_A wsc H.size) (wf u)) (va_A wsc H.size)) mc ms (va_A wsc H.size)) (hx : p.tables.exec = Jvm.exec) (hb : c.code = cc) (hml : c.maxLocals = nL) (hown : s.vm.findClass own = some m.cls) (hts : ∀ w ∈ WW, w.before args s = true) (hlk : Cond.methodLink own index y ∈ WW) (hini : Cond.initialized y.cls ∈ WW) (hcd : Cond.code y bytes maxL none ∈ WW) (hni : y.name = "<init>") (hins : Cond.instanceMethod y ∈ WW) (hd : hdY y n) (hrm : rm.cells = mc ∧ rm.slots = ms) (hR : rm.frames + 1 ≤ R.frames ∧ 8 + (maxL + 11) + rm.locals ≤ R.locals) (hKX : KX D ac s) (hC : CX cs A s s.heap) (hS : va_S A s.heap H locs) (hA : ∀ q, s.heap.size ≤ q → A q) (hP : va_P D vwCl (wsc ++ TT) H) (hD : va_D A (wsc ++ TT)) (hn : As.length = n) (hsz : ls.size = nL) (hst : st0 = As.reverse ++ .ref b :: rest) (hrw : (rest.map fun v => v.category).sum ≤ 8) (hcs : cells + mc ≤ R.cells ∧ slots + ms ≤ R.slots) (hdg : decode cc pc = .ok (.invokespecial index, 3))
    (k : ∀ (u : S) (H1 : Heap) (locs1 : List Loc), post u → va_P D vwCl (wf u ++ TT) H1 → va_D A (wf u ++ TT) → va_S A s.heap H1 locs1 → W p l e R s m args below meth c H1 locs1 (cells + mc) (slots + ms) Q (F0 m (pc + 3) ls rest)) : W p l e R s m args below meth c H locs cells slots Q (F0 m pc ls st0) := by
  obtain ⟨hPc, hDc, hF⟩ := zmk_pre hKX hC hS hA hP hD
  have hz := zp_MS (cs := cs) (As := .ref b :: As) hKX hC hS hPc hDc hF
  exact zc_I0T (va_runI ⟨hx, hb, hml, hown, hts⟩ M (cwI n hts (g_c hcd WW_GI) rfl hrm.1 hrm.2 (hts _ hini) (hts _ hlk) (hts _ hins) hni hd hR) ⟨zM.blind, fun U hU hW => hz.2 U hU hW⟩ rfl hn hsz hst (lv_room hrw) hdg hcs) hS hA hP hD k
end ZMK9
theorem zplaw (M K R Q : va_W) : ((M ++ ((K ++ R) ++ [])) ++ Q).Perm ((K ++ (M ++ Q)) ++ R) := by
  rw [List.append_nil]
  refine List.Perm.trans (List.Perm.append_right Q List.perm_append_comm) ?_
  rw [List.append_assoc, List.append_assoc, List.append_assoc]
  exact List.Perm.append_left K List.perm_append_comm
/-- the law's whole run, from its first states: fuel F for the loops within, n for its own -/
def law0 (F n : Nat) (xs : Nat → Int32) (L : Nat) : Option Int32 := L_law_L23 F xs L n 0 Ko0 Tx0 Sh0 Sh0 Te0 (0, 0) Fc0 Fr0 Fr0 Re0 Sh0 Sh0 Sh0 0 (fun _ => 0) ((fun _ => 0), 0) ((fun _ => 0), (fun _ => 0)) ((fun _ => 0), 0) (0, 0, 0, (fun _ => 0), 0, (fun _ => 0)) (0, 0, (fun _ => 0)) ((fun _ => 0), (fun _ => 0), 0, 0, 0) (0, (fun _ => 0)) ((fun _ => 0), 0, 0, (fun _ => 0), (fun _ => 0)) ((fun _ => 0), 0) (0, 0) 0 ((fun _ => 0), 0) (fun _ => 0) ((fun _ => 0), (fun _ => 0), (fun _ => 0), 0) (fun _ => 0) (fun _ => Sh0)
set_option maxHeartbeats 8000000 in
set_option maxRecDepth 100000 in
theorem whole_start0 {p : Program} {e : Env} {s : State} {m : MethodId} {below : List Frame} {meth : Method} {c : Code} (l : Launch) (hflags : l.flags = flags0) {b L : Nat} {xs : Nat → Int32} (C0 : lw_At p s m meth c b L xs) (F n : Nat) (hn : n ≤ 600000) (hpure : law0 F n xs L = some 1) : W p l e room_1 s m #[Value.ref b] below meth c s.heap [] 0 0 (lw_Z below #[Value.ref b] s) (entryFrame m ([Value.ref b] : List Value).toArray 7) := by
  obtain ⟨hx, hb, hr, hml, hown, hts, hX, hbl, hlocks, hgv⟩ := id C0
  have htr : l.stackTraces = false := by unfold Launch.stackTraces; rw [hflags]; decide +kernel
  have hg : ∀ w ∈ gvL, w.before #[Value.ref b] s = true := flat_of_before _ hgv
  have htl : ∀ w ∈ wsL_lawJ, w.before #[Value.ref b] s = true := fun w h => hts w (wsL_in w h)
  have htw : ∀ w ∈ WW, w.before #[Value.ref b] s = true := fun w h => hts w (WW_in w h)
  have hb : c.code = cL_law := hb
  have hown : s.vm.findClass RL = some m.cls := hown
  obtain ⟨A, hAd⟩ : ∃ A : Nat → Prop, A = fun q : Nat => s.heap.size ≤ q := ⟨_, rfl⟩
  have hA : ∀ q : Nat, s.heap.size ≤ q → A q := fun _ h => by rw [hAd]; exact h
  have hA2 : ∀ q : Nat, A q → s.heap.size ≤ q := fun _ h => by rw [hAd] at h; exact h
  have hA3 : ∀ q : Nat, q < s.heap.size → ¬ A q := fun q h h2 => Nat.not_le.mpr h (hA2 q h2)
  obtain ⟨cs, hC⟩ := start_CX hA3 hts hg
  have hXF := start_XF hA3 hts hg
  obtain ⟨D, ac, hKX⟩ := start_KX hts htw
  have hAO : va_AO "KickOdds$Shootout" s := va_AO.of (hts _ (gv_lay _ (List.mem_of_getElem? (i := 11) rfl)))
  have hS : va_S A s.heap s.heap [] := va_S.rf
  have hP : va_P D vwCl [] s.heap := fun k q h => by simp at h
  have hD : va_D A [] := ⟨fun i j p q h => by simp at h, fun k q h => by simp at h⟩
  have hl := lv_entry ([.ref b]) (n := 7) (Nat.le_of_ble_eq_true rfl)
  rw [lg_entry_eq]
  generalize (lg_sl ([.ref b]) ++ List.replicate (7 - (lg_sl ([.ref b])).length) Slot.unset).toArray = ls at hl ⊢
  have hl : lv_has ls 7 [(0, .ref b)] := hl
  show W p l e room_1 s m _ below meth c s.heap [] 0 0 _ (F0 m 0 ls [])
  refine va_new (ci := 7) (fs := [.null, .null, .null, .null, .null, .null, .null, .null, .null, .null, .null, .null, .int 0]) (C := RX7) (T := TX7) (N := 13) hx hb htw WW_wsX70 tyX7 tyX7_ok hown (htw _ mK_RL_8) (htw _ mA_RX7) (htw _ mN_RX7) hKX.1 hP hD hS hA rfl (by decide) (Nat.le_of_ble_eq_true rfl) (Nat.le_of_ble_eq_true rfl) dL_law_0 (fun q0 H hP hD hS => ?_)
  have hP : va_P D vwCl ([(q0, .inr (7, [.null, .null, .null, .null, .null, .null, .null, .null, .null, .null, .null, .null, .int 0]))] ++ []) H := hP
  have hD : va_D A ([(q0, .inr (7, [.null, .null, .null, .null, .null, .null, .null, .null, .null, .null, .null, .null, .int 0]))] ++ []) := hD
  refine W.widen (k := 1) (n := 13) (Nat.le_of_ble_eq_true rfl) (Nat.le_of_ble_eq_true rfl) ?_
  refine lv_dup hx hb dL_law_3 rfl ?_
  refine zmk_A (As := []) (rest := [.ref q0]) (ctX7_init l D ac cs q0 H.size) hx hb hml hown htw mM_RL_15 mN_RX7 mC_yX7_init rfl mI_yX7_init hd_yX7_init ⟨rfl, rfl⟩ ⟨(Nat.le_of_ble_eq_true rfl), (Nat.le_of_ble_eq_true rfl)⟩ hAO hKX hC hS hA hP hD rfl hl.1 rfl (Nat.le_of_ble_eq_true rfl) ⟨(Nat.le_of_ble_eq_true rfl), (Nat.le_of_ble_eq_true rfl)⟩ dL_law_4 (fun u H locs hu hPn hDn hSn => ?_)
  obtain ⟨a, w1, w2⟩ := u
  have hu : a 0 0 = q0 := hu
  subst hu
  have hP : va_P D vwCl ((KE0 ac a w1 w2 ++ ringW ac a (fun _ => Sh0)) ++ []) H := hPn
  have hD : va_D A ((KE0 ac a w1 w2 ++ ringW ac a (fun _ => Sh0)) ++ []) := hDn
  have hS := hSn
  refine W.widen (k := 98) (n := 2970) (Nat.le_of_ble_eq_true rfl) (Nat.le_of_ble_eq_true rfl) ?_
  refine lv_astore_n (lv' := [(1, .ref (a 0 0)), (0, .ref b)]) hx hb dL_law_7 rfl hl (by decide) rfl (fun ls hl => ?_)
  refine va_new (ci := 8) (fs := [.int 0, .null, .null, .int 0, .null, .null, .null, .int 0, .int 0, .int 0, .int 0, .null, .int 0, .null, .int 0, .int 0, .null, .null, .null, .int 0, .int 0, .int 0, .long 0, .null, .null, .long 0, .long 0, .null, .null, .null, .int 0, .long 0, .long 0, .int 0, .null, .int 0, .null, .null, .null, .null, .int 0]) (C := RX8) (T := TX8) (N := 41) hx hb htw WW_wsX80 tyX8 tyX8_ok hown (htw _ mK_RL_16) (htw _ mA_RX8) (htw _ mN_RX8) hKX.1 hP hD hS hA rfl (by decide) (Nat.le_of_ble_eq_true rfl) (Nat.le_of_ble_eq_true rfl) dL_law_8 (fun q1 H hP hD hS => ?_)
  have hP : va_P D vwCl ([(q1, .inr (8, [.int 0, .null, .null, .int 0, .null, .null, .null, .int 0, .int 0, .int 0, .int 0, .null, .int 0, .null, .int 0, .int 0, .null, .null, .null, .int 0, .int 0, .int 0, .long 0, .null, .null, .long 0, .long 0, .null, .null, .null, .int 0, .long 0, .long 0, .int 0, .null, .int 0, .null, .null, .null, .null, .int 0]))] ++ ((KE0 ac a w1 w2 ++ ringW ac a (fun _ => Sh0)) ++ [])) H := zP_perm List.perm_append_comm hP
  have hD : va_D A ([(q1, .inr (8, [.int 0, .null, .null, .int 0, .null, .null, .null, .int 0, .int 0, .int 0, .int 0, .null, .int 0, .null, .int 0, .int 0, .null, .null, .null, .int 0, .int 0, .int 0, .long 0, .null, .null, .long 0, .long 0, .null, .null, .null, .int 0, .long 0, .long 0, .int 0, .null, .int 0, .null, .null, .null, .null, .int 0]))] ++ ((KE0 ac a w1 w2 ++ ringW ac a (fun _ => Sh0)) ++ [])) := zD_perm List.perm_append_comm hD
  refine W.widen (k := 99) (n := 3011) (Nat.le_of_ble_eq_true rfl) (Nat.le_of_ble_eq_true rfl) ?_
  refine lv_dup hx hb dL_law_11 rfl ?_
  refine zmk_L (As := []) (rest := [.ref q1]) (ctX8_init l D ac cs q1 H.size) hx hb hml hown htw mM_RL_18 mN_RX8 mC_yX8_init rfl mI_yX8_init hd_yX8_init ⟨rfl, rfl⟩ ⟨(Nat.le_of_ble_eq_true rfl), (Nat.le_of_ble_eq_true rfl)⟩ hKX hC hS hA hP hD rfl hl.1 rfl (Nat.le_of_ble_eq_true rfl) ⟨(Nat.le_of_ble_eq_true rfl), (Nat.le_of_ble_eq_true rfl)⟩ dL_law_12 (fun u H locs hu hPn hDn hSn => ?_)
  obtain ⟨q, hq, hPm, hDm⟩ : ∃ q : Nat → Nat, q 0 = q1 ∧ va_P D vwCl (Mo0 ac q ++ ((KE0 ac a w1 w2 ++ ringW ac a (fun _ => Sh0)) ++ [])) H ∧ va_D A (Mo0 ac q ++ ((KE0 ac a w1 w2 ++ ringW ac a (fun _ => Sh0)) ++ [])) := ⟨zq [q1, u.1, u.2.1, u.2.2.1, u.2.2.2.1, u.2.2.2.2.1, u.2.2.2.2.2.1, u.2.2.2.2.2.2.1, u.2.2.2.2.2.2.2.1, u.2.2.2.2.2.2.2.2.1, u.2.2.2.2.2.2.2.2.2.1, u.2.2.2.2.2.2.2.2.2.2.1, u.2.2.2.2.2.2.2.2.2.2.2.1, u.2.2.2.2.2.2.2.2.2.2.2.2.1, u.2.2.2.2.2.2.2.2.2.2.2.2.2.1, u.2.2.2.2.2.2.2.2.2.2.2.2.2.2.1, u.2.2.2.2.2.2.2.2.2.2.2.2.2.2.2.1, u.2.2.2.2.2.2.2.2.2.2.2.2.2.2.2.2.1, u.2.2.2.2.2.2.2.2.2.2.2.2.2.2.2.2.2.1, u.2.2.2.2.2.2.2.2.2.2.2.2.2.2.2.2.2.2.1, u.2.2.2.2.2.2.2.2.2.2.2.2.2.2.2.2.2.2.2], rfl, hPn, hDn⟩
  subst hq
  have hP := hPm
  have hD := hDm
  have hS := hSn
  refine W.widen (k := 119) (n := 6927) (Nat.le_of_ble_eq_true rfl) (Nat.le_of_ble_eq_true rfl) ?_
  refine lv_astore_n (lv' := [(2, .ref (q 0)), (1, .ref (a 0 0)), (0, .ref b)]) hx hb dL_law_15 rfl hl (by decide) rfl (fun ls hl => ?_)
  refine lv_iconst (v := 1) hx hb dL_law_16 (by decide) ?_
  refine zn_arr (atype := .long) (ty := .long) 1 rfl (fun _ _ h => h) hx hb (htw _ mY__long) rfl hKX hP hD hS hA (N' := 1) (a0 := (1, .inr (.inl (fun _ => 0)))) (fun _ => rfl) (by decide) rfl (Nat.le_of_ble_eq_true rfl) (Nat.le_of_ble_eq_true rfl) (Nat.le_of_ble_eq_true rfl) dL_law_17 (fun qo H hP hD hS => ?_)
  refine W.widen (k := 120) (n := 6928) (Nat.le_of_ble_eq_true rfl) (Nat.le_of_ble_eq_true rfl) ?_
  refine lv_astore_n (lv' := [(3, .ref qo), (2, .ref (q 0)), (1, .ref (a 0 0)), (0, .ref b)]) hx hb dL_law_19 rfl hl (by decide) rfl (fun ls hl => ?_)
  refine lv_iconst (v := 0) hx hb dL_law_20 (by decide) ?_
  refine lv_istore (lv' := [(4, .int 0), (3, .ref qo), (2, .ref (q 0)), (1, .ref (a 0 0)), (0, .ref b)]) hx hb dL_law_21 hl (by decide) rfl (fun ls hl => ?_)
  have hP := zP_perm (zplaw (Mo0 ac q) (KE0 ac a w1 w2) (ringW ac a (fun _ => Sh0)) (ajW ac qo 1 (fun _ => 0))) hP
  have hD := zD_perm (zplaw (Mo0 ac q) (KE0 ac a w1 w2) (ringW ac a (fun _ => Sh0)) (ajW ac qo 1 (fun _ => 0))) hD
  unfold KE0 Mo0 at hP hD
  simp only [List.append_assoc] at hP hD
  refine law_loop l htr D ac cs a q qo hA hA2 (hA3 b hbl) hx hb hr hml hown htl hX hbl hlocks hKX hC hXF F n 0 _ _ _ _ _ _ _ _ _ _ _ _ _ _ _ _ _ _ _ _ _ _ _ _ _ _ _ _ _ _ _ hpure 120 6928 (by omega) (by omega) H _ ls w1 w2 ?_ ?_ hS (lv_sub hl [4, 3, 2, 1, 0] rfl)
  · simp only [List.append_assoc]
    exact hP
  · simp only [List.append_assoc]
    exact hD

abbrev KE (ac : Nat → Nat) (a : Nat → Nat → Nat) (w1 w2 : Nat) (ko : Ko) (tx : Tx) (now : Sh) (tr : Sh) (te : Te) (pa : Pa) (fc : Fc) (to : Fr) (tp : Fr) (re : Re) (k0 : Sh) (k1 : Sh) (ti : Sh) : va_W := koW ac a ko ++ (txW ac (a 1) tx ++ (shW ac (a 2) now ++ (shW ac (a 3) tr ++ (teW ac (a 4) (a 1) (a 10) te ++ (paW ac a pa ++ (fcW ac (a 6) w1 w2 fc ++ (frW ac (a 7) to ++ (frW ac (a 8) tp ++ (reW ac (a 9) re ++ (shW ac (a 40) k0 ++ (shW ac (a 41) k1 ++ (shW ac (a 10) ti))))))))))))
def NSE : String := "java/util/NoSuchElementException"
def badL : List Cond := [.castable "java/util/NoSuchElementException" "java/util/NoSuchElementException", .declares ⟨"java/lang/RuntimeException", "<init>", "(Ljava/lang/String;)V"⟩, .declares ⟨"java/lang/Exception", "<init>", "(Ljava/lang/String;)V"⟩, .declares ⟨"java/lang/Throwable", "<init>", "(Ljava/lang/String;)V"⟩]
def nseB : ByteArray := ⟨#[42, 43, 183, 0, 13, 177]⟩
theorem nseD : jDec 13 nseB := by unfold jDec; decide +kernel
abbrev atL : List Cond := vx_atJ RX7 315 "java/util/NoSuchElementException" "java/lang/RuntimeException" ["java/lang/Exception"] 13 nseB
def wsL_lawJ : List Cond := WW ++ atL.filter goodWord
def XF (A : Nat → Prop) (U : State) (H : Heap) : Prop := (∀ w ∈ badL, va_Nw w U) ∧ vx_Zq Bundle.tN "UNASSIGNED_STACK" Bundle.steD A U H ∧ vx_Zq Bundle.tN "SUPPRESSED_SENTINEL" Bundle.listD A U H
def isBad : Cond → Bool
  | .castable _ _ => true
  | .declares _ => true
  | _ => false
theorem badL_bad : badL.all isBad = true := by decide +kernel
theorem bad_warm {w : Cond} (hn : isBad w = true) {s U : State} (hW : s.WarmedH U.vm) (h : va_Nw w s) : va_Nw w U := by
  cases w <;> first | (simp [isBad] at hn; done) | exact va_Nw.warmC hW h | exact va_Nw.warmD hW h
theorem badL_tab : ∀ w ∈ badL, w.onTables = true := by decide +kernel
theorem XF.warm {A : Nat → Prop} {s U : State} {H : Heap} (hW : s.WarmedH U.vm) (h : XF A s H) : XF A U H := ⟨fun w hw => bad_warm (List.all_eq_true.mp badL_bad w hw) hW (h.1 w hw), vx_Zq.moved hW.alike h.2.1, vx_Zq.moved hW.alike h.2.2⟩
theorem XF.kept {A : Nat → Prop} {U : State} {H H1 : Heap} (h : XF A U H) (hq : ∀ a : Nat, a < H.size → ¬ A a → H1[a]? = H[a]?) : XF A U H1 := ⟨h.1, vx_Zq.kept h.2.1 hq, vx_Zq.kept h.2.2 hq⟩
theorem XF.narrow {A B : Nat → Prop} {U : State} {H : Heap} (h : XF A U H) (hAB : ∀ q, B q → A q) : XF B U H := ⟨h.1, vx_Zq.narrow h.2.1 hAB, vx_Zq.narrow h.2.2 hAB⟩
def zX (D : va_G) (ac cs : Nat → Nat) (av : List Value) (ws : va_W) (sz : Nat) : Array Value → State → Prop := fun v U => zM D ac cs av ws sz v U ∧ XF (va_A ws sz) U U.heap
theorem zX.blind {D : va_G} {ac cs : Nat → Nat} {av : List Value} {ws : va_W} {sz : Nat} : FrameBlind (zX D ac cs av ws sz) := fun a U g mk q => ⟨zM.blind a U g mk q.1, q.2.warm (U := U.calling g mk a) (State.WarmedH.refl U)⟩
abbrev cWX (y : MethodName) (b : ByteArray) (n : Nat) (r : Option FieldType) : List Cond := Cond.code y b n r :: wsL_lawJ
theorem wsL_good : wsL_lawJ.all goodWord = true := by decide +kernel
theorem wsL_GI : GoodIn wsL_lawJ wsL_lawJ := goodIn_sub (fun _ h => h) wsL_good
theorem WWx {w : Cond} (h : w ∈ WW) : w ∈ wsL_lawJ := List.mem_append_left _ h
theorem gx_c {w : Cond} {ws : List Cond} (h : w ∈ wsL_lawJ) (hs : GoodIn wsL_lawJ ws) : GoodIn wsL_lawJ (w :: ws) := fun x hx => (List.mem_cons.mp hx).elim (fun e => e ▸ wsL_GI w h) (hs x)
theorem badL_use {args : Array Value} {s : State} : ∀ w ∈ badL, va_Nw w s → w.before args s = true := by
  intro w hw h
  exact va_Nw.use (badL_tab w hw) h
theorem atL_ot : ∀ w ∈ Cond.classLink RX7 311 "java/util/NoSuchElementException" :: Cond.initialized "java/util/NoSuchElementException" :: atL, vx_ot w = true := by decide +kernel
theorem atL_bad : ∀ w ∈ atL.filter (fun w => !goodWord w), w ∈ badL := by decide +kernel
def K_made (now : Sh) (a1 : Int32) : Option Int32 := if a1 < 0 then none else if a1 < (sh_kicks now) then some ((10 * (Sh_sideOfKick now a1)) + (Sh_goalOfKick now a1)) else none
theorem hd_yX7_made : hdY yX7_made 1 := by decide +kernel
set_option maxHeartbeats 4000000 in
set_option maxRecDepth 100000 in
theorem ctX7_made (l : Launch) (htr : l.stackTraces = false) (D : va_G) (ac cs : Nat → Nat) (a : Nat → Nat → Nat) (w1 w2 sz : Nat) (ko : Ko) (tx : Tx) (now : Sh) (tr : Sh) (te : Te) (pa : Pa) (fc : Fc) (to : Fr) (tp : Fr) (re : Re) (k0 : Sh) (k1 : Sh) (ti : Sh) (rg : Nat → Sh) (a1 : Int32) : vx_Met l yX7_made (cWX yX7_made cX7_made 2 (some .int)) { frames := 6, cells := 1, slots := 6, locals := 82 } (zX D ac cs [.ref (a 0 0), .int a1] (KE ac a w1 w2 ko tx now tr te pa fc to tp re k0 k1 ti ++ ringW ac a rg) sz) (va_Qi (fun r (_ : Unit) => K_made now a1 = some r) (fun _ => zB D (va_A (KE ac a w1 w2 ko tx now tr te pa fc to tp re k0 k1 ti ++ ringW ac a rg) sz) (KE ac a w1 w2 ko tx now tr te pa fc to tp re k0 k1 ti ++ ringW ac a rg)) (va_A (KE ac a w1 w2 ko tx now tr te pa fc to tp re k0 k1 ti ++ ringW ac a rg) sz)) (vx_X (fun _ : Unit => K_made now a1 = none) (fun E _ t => E = NSE ∧ zB D (va_A (KE ac a w1 w2 ko tx now tr te pa fc to tp re k0 k1 ti ++ ringW ac a rg) sz) (KE ac a w1 w2 ko tx now tr te pa fc to tp re k0 k1 ti ++ ringW ac a rg) t) (va_A (KE ac a w1 w2 ko tx now tr te pa fc to tp re k0 k1 ti ++ ringW ac a rg) sz)) 1 6 (va_A (KE ac a w1 w2 ko tx now tr te pa fc to tp re k0 k1 ti ++ ringW ac a rg) sz) := by
  refine vx_ofW (cc := cX7_made) (maxL := 2) (ret := (some .int)) (by decide) rfl ?_
  intro p e s m args below meth c s₁ B hml hnt hv
  obtain ⟨⟨rfl, hsz, hP, hKX, hD0, hC⟩, hXF⟩ := hv
  have hx := B.exec
  have hb := B.bytes
  have hr := B.returns
  have hts := atoms_spec (ws := cWX yX7_made cX7_made 2 (some .int)) B.pre
  have htl : ∀ w ∈ wsL_lawJ, w.before _ s = true := fun w h => hts w (List.mem_cons_of_mem _ h)
  have htw : ∀ w ∈ WW, w.before _ s = true := fun w h => htl w (WWx h)
  have hat : ∀ w ∈ atL, w.before _ s = true := vx_hat (fun w hw => htl w (List.mem_append_right _ hw)) atL_bad (fun w hw => badL_use w hw (hXF.1 w hw))
  have hown : s.vm.findClass RX7 = some m.cls := findClass_of_methodNamed B.named
  have hlocks := B.notSynchronized
  clear hts B
  subst hsz
  have hD := hD0.self (sz := s.heap.size)
  generalize hAe : va_A (KE ac a w1 w2 ko tx now tr te pa fc to tp re k0 k1 ti ++ ringW ac a rg) s.heap.size = A at hD hC hXF ⊢
  have hA : ∀ q : Nat, s.heap.size ≤ q → A q := fun q h => by rw [← hAe]; exact Or.inr h
  have hS : va_S A s.heap s.heap [] := va_S.rf
  clear hD0 hAe
  have hP : va_P D vwCl (KE ac a w1 w2 ko tx now tr te pa fc to tp re k0 k1 ti ++ ringW ac a rg) s.heap := hP
  have hl := lv_entry ([.ref (a 0 0), .int a1]) (n := 2) (Nat.le_of_ble_eq_true rfl)
  rw [lg_entry_eq]
  generalize (lg_sl ([.ref (a 0 0), .int a1]) ++ List.replicate (2 - (lg_sl ([.ref (a 0 0), .int a1])).length) Slot.unset).toArray = ls at hl ⊢
  have hl : lv_has ls 2 [(0, .ref (a 0 0)), (1, .int a1)] := hl
  show W p l e ({ frames := 6, cells := 1, slots := 6, locals := 82 } : Room) s m _ below meth c s.heap [] 0 0 _ (F0 m 0 ls [])
  refine lv_iload_n hx hb dX7_made_0 rfl (lv_at hl 1 rfl) ?_
  refine lv_if_lt (tgt := 15) hx hb dX7_made_1 (by decide) (fun c3 => ?_) (fun c3 => ?_)
  · skip
    exact vx_throwJ (own := RX7) (cls := "java/util/NoSuchElementException") (text := "no such kick") (Y0 := "java/lang/RuntimeException") (r0 := ["java/lang/Exception"]) (hd := nseD) (ik := 311) (is := 313) (ic := 315) (sa := cs (10 + 9)) hx hb htr hown (by decide +kernel) (by decide +kernel) (by decide +kernel) (htw _ mK_RX7_311) (htw _ mN_java_util_NoSuchElementException) (sr_9 hC) hat atL_ot hXF.2.1 hXF.2.2 hS (hl.1.trans hml.symm) dX7_made_15 dX7_made_18 dX7_made_19 dX7_made_22 dX7_made_25 (fun x h => (hnt x h).elim) (Nat.le_of_ble_eq_true rfl) (Nat.le_of_ble_eq_true rfl) (Nat.le_of_ble_eq_true rfl) (Nat.le_of_ble_eq_true rfl) hlocks (fun t hv hz hk => ⟨(), by unfold K_made; rw [if_pos c3], ⟨rfl, hP.kept (fun k q h => hk q.1 (hP k q h).lt), hD⟩, hz, fun q h _ => hk q h⟩) (fun _ h => by cases h) (Nat.le_of_ble_eq_true rfl) (Nat.le_of_ble_eq_true rfl)
  · refine lv_iload_n hx hb dX7_made_4 rfl (lv_at hl 1 rfl) ?_
    refine lv_aload_n hx hb dX7_made_5 rfl (lv_at hl 0 rfl) ?_
    refine va_get (D := D) (ci := 7) (v := .ref (a 2 0)) (C := RX7) (T := TX7) (N := 13) hx hb htw WW_wsX70 hown hKX.1 hP 0 rfl rfl 2 (Nat.le_of_ble_eq_true rfl) (htw _ mF_RX7_26) (fun _ h9 => h9) rfl dX7_made_6 ?_
    refine va_getN (D := D) (ci := 4) (v := .int (sh_kicks now)) (C := RX4) (T := TX4) (N := 10) hx hb htw WW_wsX40 hown hKX.1 hP 6 rfl rfl 3 (Nat.le_of_ble_eq_true rfl) (va_Nw.use rfl (hKX.2 _ (List.mem_of_getElem? (i := 11) rfl))) (fun _ h9 => h9) rfl dX7_made_9 ?_
    refine lv_icmp_lt (tgt := 26) hx hb dX7_made_12 (by decide) (fun c4 => ?_) (fun c4 => ?_)
    · refine lv_bipush (v := 10) hx hb dX7_made_26 rfl ?_
      refine lv_aload_n hx hb dX7_made_28 rfl (lv_at hl 0 rfl) ?_
      refine va_get (D := D) (ci := 7) (v := .ref (a 2 0)) (C := RX7) (T := TX7) (N := 13) hx hb htw WW_wsX70 hown hKX.1 hP 0 rfl rfl 2 (Nat.le_of_ble_eq_true rfl) (htw _ mF_RX7_26) (fun _ h9 => h9) rfl dX7_made_29 ?_
      refine lv_iload_n hx hb dX7_made_32 rfl (lv_at hl 1 rfl) ?_
      refine zc_RVi (As := [.int a1]) (rest := [.int 10]) hx hb hml hown htw (ctX4_sideOfKick l D ac cs (a 2) now a1   _ rfl) (g_V mM_RX7_318 mI_yX4_sideOfKick mS_RX4_yX4_sideOfKick_yX4_sideOfKick mN_RX4 mC_yX4_sideOfKick) rfl (hd_yX4_sideOfKick) ⟨rfl, rfl⟩ ⟨(Nat.le_of_ble_eq_true rfl), (Nat.le_of_ble_eq_true rfl)⟩ hKX hC hS (hP.sub [6, 7, 8] rfl) 4 rfl rfl rfl hl.1 rfl (Nat.le_of_ble_eq_true rfl) ⟨Nat.zero_le _, Nat.zero_le _⟩ dX7_made_33 ?_
      refine lv_imul hx hb dX7_made_36 ?_
      refine lv_aload_n hx hb dX7_made_37 rfl (lv_at hl 0 rfl) ?_
      refine va_get (D := D) (ci := 7) (v := .ref (a 2 0)) (C := RX7) (T := TX7) (N := 13) hx hb htw WW_wsX70 hown hKX.1 hP 0 rfl rfl 2 (Nat.le_of_ble_eq_true rfl) (htw _ mF_RX7_26) (fun _ h9 => h9) rfl dX7_made_38 ?_
      refine lv_iload_n hx hb dX7_made_41 rfl (lv_at hl 1 rfl) ?_
      refine zc_RVi (As := [.int a1]) (rest := [.int (10 * (Sh_sideOfKick now a1))]) hx hb hml hown htw (ctX4_goalOfKick l D ac cs (a 2) now a1   _ rfl) (g_V mM_RX7_321 mI_yX4_goalOfKick mS_RX4_yX4_goalOfKick_yX4_goalOfKick mN_RX4 mC_yX4_goalOfKick) rfl (hd_yX4_goalOfKick) ⟨rfl, rfl⟩ ⟨(Nat.le_of_ble_eq_true rfl), (Nat.le_of_ble_eq_true rfl)⟩ hKX hC hS (hP.sub [6, 7, 8] rfl) 4 rfl rfl rfl hl.1 rfl (Nat.le_of_ble_eq_true rfl) ⟨Nat.zero_le _, Nat.zero_le _⟩ dX7_made_42 ?_
      refine lv_iadd hx hb dX7_made_45 ?_
      refine W.widen (k := 1) (n := 6) (by omega) (by omega) ?_
      exact vx_ret (W.iret hx hb hr (fun t ht _ => ⟨⟨_, (), rfl, by unfold K_made; rw [if_neg c3, if_pos c4], by rw [ht]; exact hP, hD⟩, hS.F ht⟩) hS.2.2 dX7_made_46 hlocks)
    · skip
      exact vx_throwJ (own := RX7) (cls := "java/util/NoSuchElementException") (text := "no such kick") (Y0 := "java/lang/RuntimeException") (r0 := ["java/lang/Exception"]) (hd := nseD) (ik := 311) (is := 313) (ic := 315) (sa := cs (10 + 9)) hx hb htr hown (by decide +kernel) (by decide +kernel) (by decide +kernel) (htw _ mK_RX7_311) (htw _ mN_java_util_NoSuchElementException) (sr_9 hC) hat atL_ot hXF.2.1 hXF.2.2 hS (hl.1.trans hml.symm) dX7_made_15 dX7_made_18 dX7_made_19 dX7_made_22 dX7_made_25 (fun x h => (hnt x h).elim) (Nat.le_of_ble_eq_true rfl) (Nat.le_of_ble_eq_true rfl) (Nat.le_of_ble_eq_true rfl) (Nat.le_of_ble_eq_true rfl) hlocks (fun t hv hz hk => ⟨(), by unfold K_made; rw [if_neg c3, if_neg c4], ⟨rfl, hP.kept (fun k q h => hk q.1 (hP k q h).lt), hD⟩, hz, fun q h _ => hk q h⟩) (fun _ h => by cases h) (Nat.le_of_ble_eq_true rfl) (Nat.le_of_ble_eq_true rfl)

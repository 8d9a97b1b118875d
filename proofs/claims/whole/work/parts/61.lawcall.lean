theorem z_tout0_33 {x : Int32} (h0 : ¬ x = 0) (h1 : ¬ x = 1) (h2 : ¬ x = 2) (h3 : ¬ x = 3) (h4 : ¬ x = 4) (h5 : ¬ x = 5) (h6 : ¬ x = 6) (h7 : ¬ x = 7) (h8 : ¬ x = 8) (h9 : ¬ x = 9) (h10 : ¬ x = 10) (h11 : ¬ x = 11) (h12 : ¬ x = 12) (h13 : ¬ x = 13) (h14 : ¬ x = 14) (h15 : ¬ x = 15) (h16 : ¬ x = 16) (h17 : ¬ x = 17) (h18 : ¬ x = 18) (h19 : ¬ x = 19) (h20 : ¬ x = 20) (h21 : ¬ x = 21) (h22 : ¬ x = 22) (h23 : ¬ x = 23) (h24 : ¬ x = 24) (h25 : ¬ x = 25) (h26 : ¬ x = 26) (h27 : ¬ x = 27) (h28 : ¬ x = 28) (h29 : ¬ x = 29) (h30 : ¬ x = 30) (h31 : ¬ x = 31) (h32 : ¬ x = 32) (h33 : ¬ x = 33) : x.toInt < 0 ∨ 33 < x.toInt := by
  have a0 := lv_neT (a := 0) h0 (by decide +kernel)
  have a1 := lv_neT (a := 1) h1 (by decide +kernel)
  have a2 := lv_neT (a := 2) h2 (by decide +kernel)
  have a3 := lv_neT (a := 3) h3 (by decide +kernel)
  have a4 := lv_neT (a := 4) h4 (by decide +kernel)
  have a5 := lv_neT (a := 5) h5 (by decide +kernel)
  have a6 := lv_neT (a := 6) h6 (by decide +kernel)
  have a7 := lv_neT (a := 7) h7 (by decide +kernel)
  have a8 := lv_neT (a := 8) h8 (by decide +kernel)
  have a9 := lv_neT (a := 9) h9 (by decide +kernel)
  have a10 := lv_neT (a := 10) h10 (by decide +kernel)
  have a11 := lv_neT (a := 11) h11 (by decide +kernel)
  have a12 := lv_neT (a := 12) h12 (by decide +kernel)
  have a13 := lv_neT (a := 13) h13 (by decide +kernel)
  have a14 := lv_neT (a := 14) h14 (by decide +kernel)
  have a15 := lv_neT (a := 15) h15 (by decide +kernel)
  have a16 := lv_neT (a := 16) h16 (by decide +kernel)
  have a17 := lv_neT (a := 17) h17 (by decide +kernel)
  have a18 := lv_neT (a := 18) h18 (by decide +kernel)
  have a19 := lv_neT (a := 19) h19 (by decide +kernel)
  have a20 := lv_neT (a := 20) h20 (by decide +kernel)
  have a21 := lv_neT (a := 21) h21 (by decide +kernel)
  have a22 := lv_neT (a := 22) h22 (by decide +kernel)
  have a23 := lv_neT (a := 23) h23 (by decide +kernel)
  have a24 := lv_neT (a := 24) h24 (by decide +kernel)
  have a25 := lv_neT (a := 25) h25 (by decide +kernel)
  have a26 := lv_neT (a := 26) h26 (by decide +kernel)
  have a27 := lv_neT (a := 27) h27 (by decide +kernel)
  have a28 := lv_neT (a := 28) h28 (by decide +kernel)
  have a29 := lv_neT (a := 29) h29 (by decide +kernel)
  have a30 := lv_neT (a := 30) h30 (by decide +kernel)
  have a31 := lv_neT (a := 31) h31 (by decide +kernel)
  have a32 := lv_neT (a := 32) h32 (by decide +kernel)
  have a33 := lv_neT (a := 33) h33 (by decide +kernel)
  omega
theorem zP_left {D : va_G} {H : Heap} {x y : va_W} (h : va_P D vwCl (x ++ y) H) : va_P D vwCl x H := fun k q hk => h k q (by rw [List.getElem?_append_left (List.getElem?_eq_some_iff.mp hk).1]; exact hk)
section ZLM
variable {p : Program} {l : Launch} {e : Env} {s : State} {m : MethodId} {args : Array Value} {below : List Frame} {meth : Method} {c : Code} {H : Heap} {locs : List Loc} {cells slots : Nat} {Q : State → Prop}
variable {cc : ByteArray} {pc nL : Nat} {ls : Array Slot} {rest st0 As : List Value} {D : va_G} {ac cs : Nat → Nat} {A : Nat → Prop} {wsc wsc' TT : va_W}
theorem zlm {v : Int32} (hx : p.tables.exec = Jvm.exec) (hb : c.code = cc) (hml : c.maxLocals = nL) (hown : s.vm.findClass RL = some m.cls) (htl : ∀ w ∈ wsL_lawJ, w.before args s = true) (M : Met l yL_made (.codeWith yL_made cL_made 4 (some .int) [(0, 9, 12, 13)] :: wsL_lawJ) { frames := 7, cells := 1, slots := 6, locals := 103 } (zX D ac cs As wsc H.size) (va_Qi (fun r (_ : Unit) => r = v) (fun _ => zB D (va_A wsc H.size) wsc') (va_A wsc H.size)) 1 6 (va_A wsc H.size)) (hKX : KX D ac s) (hC : CX cs A s s.heap) (hXF : XF A s s.heap) (hS : va_S A s.heap H locs) (hA : ∀ q, s.heap.size ≤ q → A q) (hP : va_P D vwCl (wsc ++ TT) H) (hD : va_D A (wsc ++ TT)) (hn : As.length = 3) (hsz : ls.size = nL) (hst : st0 = As.reverse ++ rest) (hrw : (rest.map fun v => v.category).sum ≤ 8) (hcs : cells + 1 ≤ room_1.cells ∧ slots + 6 ≤ room_1.slots) (hdg : decode cc pc = .ok (.invokestatic 157, 3))
    (k : ∀ (H1 : Heap) (locs1 : List Loc), va_P D vwCl (wsc' ++ TT) H1 → va_D A (wsc' ++ TT) → va_S A s.heap H1 locs1 → W p l e room_1 s m args below meth c H1 locs1 (cells + 1) (slots + 6) Q (F0 m (pc + 3) ls (.int v :: rest))) : W p l e room_1 s m args below meth c H locs cells slots Q (F0 m pc ls st0) := by
  obtain ⟨hPc, hDc, hF⟩ := zmk_pre hKX hC hS hA hP hD
  have hz := zp_MS (cs := cs) (As := As) hKX hC hS hPc hDc hF
  refine va_calli (vx_runSW (hh := [(0, 9, 12, 13)]) ⟨hx, hb, hml, hown, htl⟩ M (vx_cwSW 3 htl (gx_c (WWx mM_RL_157) (gx_c (WWx mT_yL_made) (gx_c (WWx mN_RL) (gx_c (WWx mZ_codeWith_yL_made_cL_made_4__some__int____0__9__12__13__) wsL_GI)))) rfl rfl rfl hd_yL_made ⟨Nat.le_of_ble_eq_true rfl, Nat.le_of_ble_eq_true rfl⟩) ⟨zX.blind, fun U hU hW => ⟨hz.2 U hU hW, by rw [hU]; exact ((hXF.kept hS.2.1).narrow hF).warm hW⟩⟩ rfl hn hsz hst (lv_room hrw) hdg hcs) hS (fun q _ h => hF q h) hF (fun r u t H1 locs1 ht hvm hw hB hz1 hk1 hS => ?_)
  subst hw
  obtain ⟨hP1, hD1⟩ := hB
  rw [ht] at hP1
  obtain ⟨hP3, hD3⟩ := va_joinT (wr := []) (w1 := wsc') hP hD (List.range _) [] (zrange _) rfl rfl (fun _ h => by cases h) hk1 hF hP1 hD1
  exact k H1 locs1 hP3 hD3 hS
end ZLM

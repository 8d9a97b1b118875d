def zA (D : va_G) (ac cs : Nat → Nat) (av : List Value) (ws : va_W) (sz : Nat) : Array Value → State → Prop := fun v U => zM D ac cs av ws sz v U ∧ va_AO "KickOdds$Shootout" U
theorem zA.blind {D : va_G} {ac cs : Nat → Nat} {av : List Value} {ws : va_W} {sz : Nat} : FrameBlind (zA D ac cs av ws sz) := fun a U g mk q => ⟨zM.blind a U g mk q.1, va_AO.moved (u := U) (U := U.calling g mk a) (Vm.Alike.refl U.vm) q.2⟩
abbrev shDef : List Value := [.int 0, .int 0, .int 0, .int 0, .long 0, .long 0, .int 0, .int 0, .null, .null]
section ZMK
variable {p : Program} {l : Launch} {e : Env} {R : Room} {s : State} {m : MethodId} {args : Array Value} {below : List Frame} {meth : Method} {c : Code} {H : Heap} {locs : List Loc} {cells slots : Nat} {Q : State → Prop}
variable {cc bytes : ByteArray} {pc nL maxL n index mc ms : Nat} {ls : Array Slot} {rest st0 As : List Value} {b : Nat} {own C : String} {y : MethodName} {rm : Room} {D : va_G} {ac cs : Nat → Nat} {A : Nat → Prop} {ws wsc wr TT : va_W} {H0 : Heap}
theorem zc_I0T {S : Type} {post : S → Prop} {wf : S → va_W} (hrun : va_Run p l e R s m args below meth c H locs cells slots mc ms (F0 m pc ls st0) rest (va_Qv post (fun u => zB D (va_A wsc H.size) (wf u)) (va_A wsc H.size) (Value.ref b :: As).toArray) (va_A wsc H.size)) (hS : va_S A s.heap H locs) (hA : ∀ q, s.heap.size ≤ q → A q) (hP : va_P D vwCl (wsc ++ TT) H) (hD : va_D A (wsc ++ TT))
    (k : ∀ (u : S) (H1 : Heap) (locs1 : List Loc), post u → va_P D vwCl (wf u ++ TT) H1 → va_D A (wf u ++ TT) → va_S A s.heap H1 locs1 → W p l e R s m args below meth c H1 locs1 (cells + mc) (slots + ms) Q (F0 m (pc + 3) ls rest)) : W p l e R s m args below meth c H locs cells slots Q (F0 m pc ls st0) := by
  have hDE : va_D A wsc := ⟨fun i j x y hi hj => hD.1 i j x y (by rw [List.getElem?_append_left (List.getElem?_eq_some_iff.mp hi).1]; exact hi) (by rw [List.getElem?_append_left (List.getElem?_eq_some_iff.mp hj).1]; exact hj), fun k q h => hD.2 k q (by rw [List.getElem?_append_left (List.getElem?_eq_some_iff.mp h).1]; exact h)⟩
  have hF := va_free (wc := wsc) hDE hS hA (List.range wsc.length) (zrange wsc)
  refine va_callv hrun hS (fun q _ h => hF q h) hF (fun u t H1 locs1 ht hvm hw hB hz1 hk1 hS => ?_)
  obtain ⟨hP1, hD1⟩ := hB
  rw [ht] at hP1
  obtain ⟨hP2, hD2⟩ := va_joinT (wr := []) (w1 := wf u) hP hD (List.range wsc.length) [] (zrange wsc) rfl rfl (fun _ h => by cases h) hk1 hF hP1 hD1
  exact k u H1 locs1 hw hP2 hD2 hS
theorem zmk_pre (hKX : KX D ac s) (hC : CX cs A s s.heap) (hS : va_S A s.heap H locs) (hA : ∀ q, s.heap.size ≤ q → A q) (hP : va_P D vwCl (wsc ++ TT) H) (hD : va_D A (wsc ++ TT)) : va_P D vwCl wsc H ∧ va_D A wsc ∧ ∀ q, va_A wsc H.size q → A q := by
  have hPE : va_P D vwCl wsc H := fun k q h => hP k q (by rw [List.getElem?_append_left (List.getElem?_eq_some_iff.mp h).1]; exact h)
  have hDE : va_D A wsc := ⟨fun i j x y hi hj => hD.1 i j x y (by rw [List.getElem?_append_left (List.getElem?_eq_some_iff.mp hi).1]; exact hi) (by rw [List.getElem?_append_left (List.getElem?_eq_some_iff.mp hj).1]; exact hj), fun k q h => hD.2 k q (by rw [List.getElem?_append_left (List.getElem?_eq_some_iff.mp h).1]; exact h)⟩
  exact ⟨hPE, hDE, va_free (wc := wsc) hDE hS hA (List.range wsc.length) (zrange wsc)⟩
theorem zmk_N {S : Type} {post : S → Prop} {wf : S → va_W} {host : String} (M : Met l y (cWW y bytes maxL none) rm (zM D ac cs (.ref b :: As) wsc H.size) (va_Qv post (fun u => zB D (va_A wsc H.size) (wf u)) (va_A wsc H.size)) mc ms (va_A wsc H.size)) (hx : p.tables.exec = Jvm.exec) (hb : c.code = cc) (hml : c.maxLocals = nL) (hown : s.vm.findClass own = some m.cls) (hts : ∀ w ∈ WW, w.before args s = true) (hnl : va_Nw (.methodLinkNest own index y host) s) (hini : Cond.initialized y.cls ∈ WW) (hcd : Cond.code y bytes maxL none ∈ WW) (hni : y.name = "<init>") (hins : Cond.instanceMethod y ∈ WW) (hd : hdY y n) (hrm : rm.cells = mc ∧ rm.slots = ms) (hR : rm.frames + 1 ≤ R.frames ∧ 8 + (maxL + 11) + rm.locals ≤ R.locals) (hKX : KX D ac s) (hC : CX cs A s s.heap) (hS : va_S A s.heap H locs) (hA : ∀ q, s.heap.size ≤ q → A q) (hP : va_P D vwCl (wsc ++ TT) H) (hD : va_D A (wsc ++ TT)) (hn : As.length = n) (hsz : ls.size = nL) (hst : st0 = As.reverse ++ .ref b :: rest) (hrw : (rest.map fun v => v.category).sum ≤ 8) (hcs : cells + mc ≤ R.cells ∧ slots + ms ≤ R.slots) (hdg : decode cc pc = .ok (.invokespecial index, 3))
    (k : ∀ (u : S) (H1 : Heap) (locs1 : List Loc), post u → va_P D vwCl (wf u ++ TT) H1 → va_D A (wf u ++ TT) → va_S A s.heap H1 locs1 → W p l e R s m args below meth c H1 locs1 (cells + mc) (slots + ms) Q (F0 m (pc + 3) ls rest)) : W p l e R s m args below meth c H locs cells slots Q (F0 m pc ls st0) := by
  obtain ⟨hPc, hDc, hF⟩ := zmk_pre hKX hC hS hA hP hD
  exact zc_I0T (va_runIN ⟨hx, hb, hml, hown, hts⟩ M ⟨va_cnB n hts (g_c hcd WW_GI) rfl hrm.1 hrm.2 hnl (hts _ hini) hd hR, hni, hts _ hins⟩ (zp_MS hKX hC hS hPc hDc hF) rfl hn hsz hst (lv_room hrw) hdg hcs) hS hA hP hD k
theorem zmk_P {S : Type} {post : S → Prop} {wf : S → va_W} (M : Met l y (cWW y bytes maxL none) rm (zM D ac cs (.ref b :: As) wsc H.size) (va_Qv post (fun u => zB D (va_A wsc H.size) (wf u)) (va_A wsc H.size)) mc ms (va_A wsc H.size)) (hx : p.tables.exec = Jvm.exec) (hb : c.code = cc) (hml : c.maxLocals = nL) (hown : s.vm.findClass own = some m.cls) (hts : ∀ w ∈ WW, w.before args s = true) (hlk : Cond.methodLink own index y ∈ WW) (hini : Cond.initialized y.cls ∈ WW) (hcd : Cond.code y bytes maxL none ∈ WW) (hni : y.name = "<init>") (hins : Cond.instanceMethod y ∈ WW) (hd : hdY y n) (hrm : rm.cells = mc ∧ rm.slots = ms) (hR : rm.frames + 1 ≤ R.frames ∧ 8 + (maxL + 11) + rm.locals ≤ R.locals) (hKX : KX D ac s) (hC : CX cs A s s.heap) (hS : va_S A s.heap H locs) (hA : ∀ q, s.heap.size ≤ q → A q) (hP : va_P D vwCl (wsc ++ TT) H) (hD : va_D A (wsc ++ TT)) (hn : As.length = n) (hsz : ls.size = nL) (hst : st0 = As.reverse ++ .ref b :: rest) (hrw : (rest.map fun v => v.category).sum ≤ 8) (hcs : cells + mc ≤ R.cells ∧ slots + ms ≤ R.slots) (hdg : decode cc pc = .ok (.invokespecial index, 3))
    (k : ∀ (u : S) (H1 : Heap) (locs1 : List Loc), post u → va_P D vwCl (wf u ++ TT) H1 → va_D A (wf u ++ TT) → va_S A s.heap H1 locs1 → W p l e R s m args below meth c H1 locs1 (cells + mc) (slots + ms) Q (F0 m (pc + 3) ls rest)) : W p l e R s m args below meth c H locs cells slots Q (F0 m pc ls st0) := by
  obtain ⟨hPc, hDc, hF⟩ := zmk_pre hKX hC hS hA hP hD
  exact zc_I0T (va_runI ⟨hx, hb, hml, hown, hts⟩ M (cwI n hts (g_c hcd WW_GI) rfl hrm.1 hrm.2 (hts _ hini) (hts _ hlk) (hts _ hins) hni hd hR) (zp_MS hKX hC hS hPc hDc hF) rfl hn hsz hst (lv_room hrw) hdg hcs) hS hA hP hD k
theorem zmk_A {S : Type} {post : S → Prop} {wf : S → va_W} (M : Met l y (cWW y bytes maxL none) rm (zA D ac cs (.ref b :: As) wsc H.size) (va_Qv post (fun u => zB D (va_A wsc H.size) (wf u)) (va_A wsc H.size)) mc ms (va_A wsc H.size)) (hx : p.tables.exec = Jvm.exec) (hb : c.code = cc) (hml : c.maxLocals = nL) (hown : s.vm.findClass own = some m.cls) (hts : ∀ w ∈ WW, w.before args s = true) (hlk : Cond.methodLink own index y ∈ WW) (hini : Cond.initialized y.cls ∈ WW) (hcd : Cond.code y bytes maxL none ∈ WW) (hni : y.name = "<init>") (hins : Cond.instanceMethod y ∈ WW) (hd : hdY y n) (hrm : rm.cells = mc ∧ rm.slots = ms) (hR : rm.frames + 1 ≤ R.frames ∧ 8 + (maxL + 11) + rm.locals ≤ R.locals) (hAO : va_AO "KickOdds$Shootout" s) (hKX : KX D ac s) (hC : CX cs A s s.heap) (hS : va_S A s.heap H locs) (hA : ∀ q, s.heap.size ≤ q → A q) (hP : va_P D vwCl (wsc ++ TT) H) (hD : va_D A (wsc ++ TT)) (hn : As.length = n) (hsz : ls.size = nL) (hst : st0 = As.reverse ++ .ref b :: rest) (hrw : (rest.map fun v => v.category).sum ≤ 8) (hcs : cells + mc ≤ R.cells ∧ slots + ms ≤ R.slots) (hdg : decode cc pc = .ok (.invokespecial index, 3))
    (k : ∀ (u : S) (H1 : Heap) (locs1 : List Loc), post u → va_P D vwCl (wf u ++ TT) H1 → va_D A (wf u ++ TT) → va_S A s.heap H1 locs1 → W p l e R s m args below meth c H1 locs1 (cells + mc) (slots + ms) Q (F0 m (pc + 3) ls rest)) : W p l e R s m args below meth c H locs cells slots Q (F0 m pc ls st0) := by
  obtain ⟨hPc, hDc, hF⟩ := zmk_pre hKX hC hS hA hP hD
  have hz := zp_MS (cs := cs) (As := .ref b :: As) hKX hC hS hPc hDc hF
  exact zc_I0T (va_runI ⟨hx, hb, hml, hown, hts⟩ M (cwI n hts (g_c hcd WW_GI) rfl hrm.1 hrm.2 (hts _ hini) (hts _ hlk) (hts _ hins) hni hd hR) ⟨zA.blind, fun U hU hW => ⟨hz.2 U hU hW, va_AO.moved hW.alike hAO⟩⟩ rfl hn hsz hst (lv_room hrw) hdg hcs) hS hA hP hD k
end ZMK
theorem zpl (S B P : va_W) : (S ++ (B ++ P)).Perm (B ++ (P ++ S)) := by
  rw [← List.append_assoc B P S]
  exact List.perm_append_comm
/-! Past(): twenty shootouts -/
def poolN (ac : Nat → Nat) (ad : Nat → Nat → Nat) (i : Nat) : va_W := (List.range i).flatMap (fun k => shW ac (ad k) Sh0)
def refN (ad : Nat → Nat → Nat) (i : Nat) : Nat → Option Nat := fun k => if k < i then some (ad k 0) else none
theorem poolN_succ (ac : Nat → Nat) (ad : Nat → Nat → Nat) (i : Nat) (f : Nat → Nat) : poolN ac (va_up ad i f) (i + 1) = poolN ac ad i ++ shW ac f Sh0 := by
  unfold poolN
  rw [List.range_succ, List.flatMap_append]
  have h : ∀ l : List Nat, (∀ k ∈ l, k ≠ i) → l.flatMap (fun k => shW ac (va_up ad i f k) Sh0) = l.flatMap (fun k => shW ac (ad k) Sh0) := by
    intro l
    induction l with
    | nil => intro _; rfl
    | cons y l ih => intro hl; rw [List.flatMap_cons, List.flatMap_cons, ih (fun k hk => hl k (List.mem_cons_of_mem _ hk)), va_up_ne _ _ (hl y List.mem_cons_self)]
  rw [h _ (fun k hk => by have := List.mem_range.mp hk; omega)]
  congr 1
  show shW ac (va_up ad i f i) Sh0 ++ [] = _
  rw [va_up_self, List.append_nil]
theorem refN_succ (ad : Nat → Nat → Nat) (i : Nat) (f : Nat → Nat) : va_up (refN ad i) i (some (f 0)) = refN (va_up ad i f) (i + 1) := by
  funext k
  unfold refN va_up
  dsimp only
  by_cases hk : k = i
  · subst hk; simp
  · by_cases h2 : k < i
    · rw [if_neg hk, if_pos h2, if_pos (by omega), if_neg hk]
    · rw [if_neg hk, if_neg h2, if_neg (by omega)]
theorem refN_0 (ad : Nat → Nat → Nat) : refN ad 0 = fun _ => none := by
  funext k; unfold refN; rw [if_neg (by omega)]

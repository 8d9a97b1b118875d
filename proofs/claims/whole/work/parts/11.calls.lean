/-! what never changes: three rows of numbers, the strings -/
def strLen : List Nat := [1, 1, 6, 1, 5, 5, 5, 1, 3, 12]
def strByt : List (List Int32) := [[97], [98], [98, 101, 104, 105, 110, 100], [45], [97, 104, 101, 97, 100], [111, 114, 100, 101, 114], [102, 105, 114, 115, 116], [59], [120, 111, 32], [110, 111, 32, 115, 117, 99, 104, 32, 107, 105, 99, 107]]
def strRefs : List (String × Nat × String × Nat) := [("KickOdds$Teller", 105, "a", 0), ("KickOdds$Teller", 107, "b", 1), ("KickOdds$Teller", 87, "behind", 2), ("KickOdds$Teller", 117, "-", 3), ("KickOdds$Teller", 93, "ahead", 4), ("KickOdds$Teller", 95, "order", 5), ("KickOdds$Teller", 100, "first", 6), ("KickOdds$Teller", 52, ";", 7), ("KickOdds", 327, "xo ", 8), ("KickOdds", 313, "no such kick", 9), ("KickOddsModel", 145, "a", 0), ("KickOddsModel", 147, "b", 1), ("KickOddsModel", 169, "behind", 2), ("KickOddsModel", 178, "ahead", 4), ("KickOddsModel", 180, "order", 5), ("KickOddsModel", 182, "first", 6)]
def facL : List Int32 := [1, 1, 2, 6, 24, 120]
def tenL : List Int32 := [1, 10, 100, 1000, 10000, 100000]
def sixL : List Int64 := [1, 6, 36, 216, 1296, 7776, 46656, 279936, 1679616, 10077696, 60466176]
def CX (cs : Nat → Nat) (A : Nat → Prop) (U : State) (H : Heap) : Prop :=
  (va_Z "KickOdds" "FACTORIALS" "[I" (.ref (cs 0)) A U H ∧ va_T .int (cs 0) 6 (fun j => .int (facL.getD j 0)) A U H) ∧
  (va_Z "KickOdds" "TENS" "[I" (.ref (cs 1)) A U H ∧ va_T .int (cs 1) 6 (fun j => .int (tenL.getD j 0)) A U H) ∧
  (va_Z "KickOdds" "SIXES" "[J" (.ref (cs 2)) A U H ∧ va_T .long (cs 2) 11 (fun j => .long (sixL.getD j 0)) A U H) ∧
  vk_S 10 strLen strByt (fun i => cs (10 + i)) (fun i => cs (30 + i)) A U H ∧
  va_Z "java/lang/String" "COMPACT_STRINGS" "Z" (.int 1) A U H ∧
  (va_Z "jdk/internal/util/Preconditions" "SIOOBE_FORMATTER" "Ljava/util/function/BiFunction;" .null A U H ∨ ∃ x : Nat, va_Z "jdk/internal/util/Preconditions" "SIOOBE_FORMATTER" "Ljava/util/function/BiFunction;" (.ref x) A U H) ∧
  ∀ x ∈ strRefs, vk_R x.1 x.2.1 x.2.2.1 (cs (10 + x.2.2.2)) U
theorem CX.warm {cs : Nat → Nat} {A : Nat → Prop} {s U : State} {H : Heap} (hW : s.WarmedH U.vm) (h : CX cs A s H) : CX cs A U H :=
  ⟨⟨va_Z.moved hW.alike h.1.1, va_T.moved hW.alike h.1.2⟩, ⟨va_Z.moved hW.alike h.2.1.1, va_T.moved hW.alike h.2.1.2⟩, ⟨va_Z.moved hW.alike h.2.2.1.1, va_T.moved hW.alike h.2.2.1.2⟩, vk_S.moved hW.alike h.2.2.2.1, va_Z.moved hW.alike h.2.2.2.2.1, h.2.2.2.2.2.1.imp (fun h => va_Z.moved hW.alike h) (fun ⟨x, h⟩ => ⟨x, va_Z.moved hW.alike h⟩), fun x hx => vk_R.warm hW (h.2.2.2.2.2.2 x hx)⟩
theorem CX.kept {cs : Nat → Nat} {A : Nat → Prop} {U : State} {H H1 : Heap} (h : CX cs A U H) (hq : ∀ a : Nat, a < H.size → ¬ A a → H1[a]? = H[a]?) : CX cs A U H1 :=
  ⟨⟨h.1.1.kept hq, h.1.2.kept hq⟩, ⟨h.2.1.1.kept hq, h.2.1.2.kept hq⟩, ⟨h.2.2.1.1.kept hq, h.2.2.1.2.kept hq⟩, h.2.2.2.1.kept hq, h.2.2.2.2.1.kept hq, h.2.2.2.2.2.1.imp (fun h => h.kept hq) (fun ⟨x, h⟩ => ⟨x, h.kept hq⟩), h.2.2.2.2.2.2⟩
theorem CX.narrow {cs : Nat → Nat} {A B : Nat → Prop} {U : State} {H : Heap} (h : CX cs A U H) (hAB : ∀ q, B q → A q) : CX cs B U H :=
  ⟨⟨h.1.1.narrow hAB, h.1.2.narrow hAB⟩, ⟨h.2.1.1.narrow hAB, h.2.1.2.narrow hAB⟩, ⟨h.2.2.1.1.narrow hAB, h.2.2.1.2.narrow hAB⟩, h.2.2.2.1.narrow hAB, h.2.2.2.2.1.narrow hAB, h.2.2.2.2.2.1.imp (fun h => h.narrow hAB) (fun ⟨x, h⟩ => ⟨x, h.narrow hAB⟩), h.2.2.2.2.2.2⟩
theorem CX.calling {cs : Nat → Nat} {A : Nat → Prop} {U : State} {g : JFrame} {mk : MethodId} {a : Array Value} (h : CX cs A U U.heap) : CX cs A (U.calling g mk a) (U.calling g mk a).heap := h.warm (U := U.calling g mk a) (State.WarmedH.refl U)
/-! contracts: a method that only reads (zR), one that writes its world (zM) -/
def zR (D : va_G) (ac cs : Nat → Nat) (av : List Value) (ws : va_W) : Array Value → State → Prop := va_Pc av (fun U => va_P D vwCl ws U.heap ∧ KX D ac U ∧ CX cs (fun _ => False) U U.heap)
def zM (D : va_G) (ac cs : Nat → Nat) (av : List Value) (ws : va_W) (sz : Nat) : Array Value → State → Prop := va_Pc av (fun U => U.heap.size = sz ∧ va_P D vwCl ws U.heap ∧ KX D ac U ∧ va_D (fun _ => True) ws ∧ CX cs (va_A ws sz) U U.heap)
def zB (D : va_G) (A : Nat → Prop) (ws : va_W) (t : State) : Prop := va_P D vwCl ws t.heap ∧ va_D A ws
theorem zR.blind {D : va_G} {ac cs : Nat → Nat} {av : List Value} {ws : va_W} : FrameBlind (zR D ac cs av ws) := fun a U g mk q => ⟨q.1, q.2.1, q.2.2.1.calling, q.2.2.2.calling⟩
theorem zM.blind {D : va_G} {ac cs : Nat → Nat} {av : List Value} {ws : va_W} {sz : Nat} : FrameBlind (zM D ac cs av ws sz) := fun a U g mk q => ⟨q.1, q.2.1, q.2.2.1, q.2.2.2.1.calling, q.2.2.2.2.1, q.2.2.2.2.2.calling⟩
abbrev cWW (y : MethodName) (b : ByteArray) (n : Nat) (r : Option FieldType) : List Cond := Cond.code y b n r :: WW
theorem WW_good : WW.all goodWord = true := by decide +kernel
theorem WW_GI : GoodIn WW WW := goodIn_sub (fun _ h => h) WW_good
theorem g_c {w : Cond} {ws : List Cond} (h : w ∈ WW) (hs : GoodIn WW ws) : GoodIn WW (w :: ws) := fun x hx => (List.mem_cons.mp hx).elim (fun e => e ▸ WW_GI w h) (hs x)
theorem g_V {own C : String} {idx n : Nat} {y : MethodName} {b : ByteArray} {r : Option FieldType} (h1 : Cond.methodLink own idx y ∈ WW) (h2 : Cond.instanceMethod y ∈ WW) (h3 : Cond.selects C y y ∈ WW) (h4 : Cond.initialized C ∈ WW) (h5 : Cond.code y b n r ∈ WW) : GoodIn WW (wsV own idx C y (cWW y b n r)) := g_c h1 (g_c h2 (g_c h3 (g_c h4 (g_c h5 WW_GI))))
theorem g_S {own : String} {idx n : Nat} {y : MethodName} {b : ByteArray} {r : Option FieldType} (h1 : Cond.methodLink own idx y ∈ WW) (h2 : Cond.static y ∈ WW) (h4 : Cond.initialized y.cls ∈ WW) (h5 : Cond.code y b n r ∈ WW) : GoodIn WW (va_wsS own idx y (cWW y b n r)) := g_c h1 (g_c h2 (g_c h4 (g_c h5 WW_GI)))
abbrev hdY (y : MethodName) (n : Nat) : Prop := y.cls ≠ "java/lang/invoke/MethodHandle" ∧ y.cls ≠ "java/lang/invoke/VarHandle" ∧ (parseMethodDescriptor y.desc).map (fun d => d.parameters.length) = some n
section ZCALL
variable {p : Program} {l : Launch} {e : Env} {R : Room} {s : State} {m : MethodId} {args : Array Value} {below : List Frame} {meth : Method} {c : Code} {H : Heap} {locs : List Loc} {cells slots : Nat} {Q : State → Prop}
variable {cc bytes : ByteArray} {pc nL maxL n index : Nat} {ret : Option FieldType} {ls : Array Slot} {rest st0 As : List Value} {b : Nat} {own C : String} {y : MethodName} {rm : Room} {D : va_G} {ac cs : Nat → Nat} {A : Nat → Prop} {ws wsc wsc' wr : va_W}
theorem zp_RV (hKX : KX D ac s) (hC : CX cs A s s.heap) (hS : va_S A s.heap H locs) (hPc : va_P D vwCl wsc H) (recv : ∃ cellB : Cell, H[b]? = some cellB ∧ cellB.vm.isStatics = false ∧ s.vm.findClass C = some cellB.cls) : PreV s H C b (zR D ac cs (.ref b :: As) wsc) As :=
  ⟨zR.blind, recv, fun U hU hW => ⟨rfl, by rw [hU]; exact hPc, hKX.warm hW, by rw [hU]; exact ((hC.kept hS.2.1).narrow (fun _ h => h.elim)).warm hW⟩⟩
theorem zp_RS (hKX : KX D ac s) (hC : CX cs A s s.heap) (hS : va_S A s.heap H locs) (hPc : va_P D vwCl wsc H) : PreS s H (zR D ac cs As wsc) As :=
  ⟨zR.blind, fun U hU hW => ⟨rfl, by rw [hU]; exact hPc, hKX.warm hW, by rw [hU]; exact ((hC.kept hS.2.1).narrow (fun _ h => h.elim)).warm hW⟩⟩
theorem zp_MV (hKX : KX D ac s) (hC : CX cs A s s.heap) (hS : va_S A s.heap H locs) (hPc : va_P D vwCl wsc H) (hDc : va_D A wsc) (hF : ∀ q, va_A wsc H.size q → A q) (recv : ∃ cellB : Cell, H[b]? = some cellB ∧ cellB.vm.isStatics = false ∧ s.vm.findClass C = some cellB.cls) : PreV s H C b (zM D ac cs (.ref b :: As) wsc H.size) As :=
  ⟨zM.blind, recv, fun U hU hW => ⟨rfl, by rw [hU], by rw [hU]; exact hPc, hKX.warm hW, hDc.weaken (fun _ _ _ _ => trivial), by rw [hU]; exact ((hC.kept hS.2.1).narrow hF).warm hW⟩⟩
theorem zp_MS (hKX : KX D ac s) (hC : CX cs A s s.heap) (hS : va_S A s.heap H locs) (hPc : va_P D vwCl wsc H) (hDc : va_D A wsc) (hF : ∀ q, va_A wsc H.size q → A q) : PreS s H (zM D ac cs As wsc H.size) As :=
  ⟨zM.blind, fun U hU hW => ⟨rfl, by rw [hU], by rw [hU]; exact hPc, hKX.warm hW, hDc.weaken (fun _ _ _ _ => trivial), by rw [hU]; exact ((hC.kept hS.2.1).narrow hF).warm hW⟩⟩
theorem zsubP (hP : va_P D vwCl ws H) (isC : List Nat) (hCw : isC.map (fun i => ws[i]?) = wsc.map some) : va_P D vwCl wsc H := by
  intro k q hk
  have h1 : (isC.map (fun i => ws[i]?))[k]? = some (some q) := by rw [hCw, List.getElem?_map, hk]; rfl
  rw [List.getElem?_map] at h1
  cases hi : isC[k]? with
  | none => rw [hi] at h1; cases h1
  | some i => rw [hi] at h1; exact hP i q (Option.some.inj h1)
theorem zrun {mc ms : Nat} {g : JFrame} {Qa : State → Outcome → State → Prop} {free : Addr → Prop} (h : va_Run p l e R s m args below meth c H locs cells slots mc ms g rest Qa free) : CallRun p l e R s m args below meth c H locs cells slots mc ms g rest Qa free := fun T hT X => by
  obtain ⟨v, st₀, t, T', L, h0, h1, h2, h3, _, h5⟩ := h T hT X
  exact ⟨v, st₀, t, T', L, h0, h1, h2, h3, h5⟩
theorem va_joinT {A0 : Nat → Prop} {E T wc wr w1 : va_W} {H1 : Heap} (hP : va_P D vwCl (E ++ T) H) (hD : va_D A0 (E ++ T)) (isC isR : List Nat) (hC : isC.map (fun i => E[i]?) = wc.map some) (hR : isR.map (fun i => E[i]?) = wr.map some) (hn : va_nd isR = true) (hdis : ∀ i ∈ isR, i ∉ isC)
    (hk : ∀ q : Nat, q < H.size → ¬ va_A wc H.size q → H1[q]? = H[q]?) (hF : ∀ q, va_A wc H.size q → A0 q) (hP1 : va_P D vwCl w1 H1) (hD1 : va_D (va_A wc H.size) w1) : va_P D vwCl ((wr ++ w1) ++ T) H1 ∧ va_D A0 ((wr ++ w1) ++ T) := by
  have hPE : va_P D vwCl E H := fun k q h => hP k q (by rw [List.getElem?_append_left (List.getElem?_eq_some_iff.mp h).1]; exact h)
  have hDE : va_D A0 E := ⟨fun i j x y hi hj => hD.1 i j x y (by rw [List.getElem?_append_left (List.getElem?_eq_some_iff.mp hi).1]; exact hi) (by rw [List.getElem?_append_left (List.getElem?_eq_some_iff.mp hj).1]; exact hj), fun k q h => hD.2 k q (by rw [List.getElem?_append_left (List.getElem?_eq_some_iff.mp h).1]; exact h)⟩
  have tl : ∀ (k : Nat) (q : Nat × va_E), T[k]? = some q → (E ++ T)[E.length + k]? = some q := fun k q h => by rw [List.getElem?_append_right (by omega)]; rw [show E.length + k - E.length = k by omega]; exact h
  have cin : ∀ (k : Nat) (q : Nat) (e : va_E), wc[k]? = some (q, e) → ∃ i : Nat, E[i]? = some (q, e) := by
    intro k q e h
    have h1 : (isC.map (fun i => E[i]?))[k]? = some (some (q, e)) := by rw [hC, List.getElem?_map, h]; rfl
    rw [List.getElem?_map] at h1
    cases hi : isC[k]? with
    | none => rw [hi] at h1; cases h1
    | some i => rw [hi] at h1; exact ⟨i, Option.some.inj h1⟩
  have rin : ∀ (k : Nat) (q : Nat × va_E), wr[k]? = some q → ∃ i : Nat, E[i]? = some q := by
    intro k q h
    have h1 : (isR.map (fun i => E[i]?))[k]? = some (some q) := by rw [hR, List.getElem?_map, h]; rfl
    rw [List.getElem?_map] at h1
    cases hi : isR[k]? with
    | none => rw [hi] at h1; cases h1
    | some i => rw [hi] at h1; exact ⟨i, Option.some.inj h1⟩
  have apart : ∀ (k : Nat) (q : Nat × va_E), T[k]? = some q → q.1 < H.size ∧ ¬ va_A wc H.size q.1 := by
    intro k q hq
    have hl := (hP _ q (tl k q hq)).lt
    refine ⟨hl, fun h => ?_⟩
    rcases h with ⟨k2, e, h⟩ | h
    · obtain ⟨i, hi⟩ := cin k2 q.1 e h
      have hlt := (List.getElem?_eq_some_iff.mp hi).1
      have := hD.1 i (E.length + k) (q.1, e) q (by rw [List.getElem?_append_left hlt]; exact hi) (tl k q hq) rfl
      omega
    · omega
  obtain ⟨g1, g2⟩ := va_join hPE hDE isC isR hC hR hn hdis hk hF hP1 hD1
  refine ⟨va_P.app g1 (fun k q hq => (hP _ q (tl k q hq)).kept (hk q.1 (apart k q hq).1 (apart k q hq).2)), va_D.app g2 ⟨fun i j x y hi hj e => ?_, fun k q hq => hD.2 _ q (tl k q hq)⟩ (fun i j x y hx hy e => ?_)⟩
  · have := hD.1 _ _ x y (tl i x hi) (tl j y hj) e
    omega
  · rcases List.mem_append.mp (List.mem_of_getElem? hx) with h | h
    · obtain ⟨k, hk2⟩ := List.getElem?_of_mem h
      obtain ⟨i2, hi2⟩ := rin k x hk2
      have hlt := (List.getElem?_eq_some_iff.mp hi2).1
      have := hD.1 i2 _ x y (by rw [List.getElem?_append_left hlt]; exact hi2) (tl j y hy) e
      omega
    · obtain ⟨k, hk2⟩ := List.getElem?_of_mem h
      exact (apart j y hy).2 (by rw [← e]; exact hD1.2 k x hk2)
theorem zsubPT {E E' T : va_W} (h : va_P D vwCl (E ++ T) H) (is : List Nat) (hs : is.map (fun i => E[i]?) = E'.map some) : va_P D vwCl (E' ++ T) H := by
  refine va_P.app (fun k q hk => ?_) (fun k q hk => h (E.length + k) q (by rw [List.getElem?_append_right (by omega), show E.length + k - E.length = k by omega]; exact hk))
  have h1 : (is.map (fun i => E[i]?))[k]? = some (some q) := by rw [hs, List.getElem?_map, hk]; rfl
  rw [List.getElem?_map] at h1
  cases hi : is[k]? with
  | none => rw [hi] at h1; cases h1
  | some i =>
    rw [hi] at h1
    have h2 : E[i]? = some q := Option.some.inj h1
    exact h i q (by rw [List.getElem?_append_left (List.getElem?_eq_some_iff.mp h2).1]; exact h2)
theorem zsubDT {E E' T : va_W} (h : va_D A (E ++ T)) (is : List Nat) (hn : va_nd is = true) (hs : is.map (fun i => E[i]?) = E'.map some) : va_D A (E' ++ T) := by
  have hDE : va_D A E := ⟨fun i j x y hi hj => h.1 i j x y (by rw [List.getElem?_append_left (List.getElem?_eq_some_iff.mp hi).1]; exact hi) (by rw [List.getElem?_append_left (List.getElem?_eq_some_iff.mp hj).1]; exact hj), fun k q hk => h.2 k q (by rw [List.getElem?_append_left (List.getElem?_eq_some_iff.mp hk).1]; exact hk)⟩
  have tl : ∀ (k : Nat) (q : Nat × va_E), T[k]? = some q → (E ++ T)[E.length + k]? = some q := fun k q hk => by rw [List.getElem?_append_right (by omega)]; rw [show E.length + k - E.length = k by omega]; exact hk
  refine va_D.app (hDE.sub is hn hs) ⟨fun i j x y hi hj e => ?_, fun k q hq => h.2 _ q (tl k q hq)⟩ (fun i j x y hx hy e => ?_)
  · have := h.1 _ _ x y (tl i x hi) (tl j y hj) e
    omega
  · have h1 : (is.map (fun i => E[i]?))[i]? = some (some x) := by rw [hs, List.getElem?_map, hx]; rfl
    rw [List.getElem?_map] at h1
    cases hi : is[i]? with
    | none => rw [hi] at h1; cases h1
    | some i2 =>
      rw [hi] at h1
      have h2 : E[i2]? = some x := Option.some.inj h1
      have hlt := (List.getElem?_eq_some_iff.mp h2).1
      have := h.1 i2 _ x y (by rw [List.getElem?_append_left hlt]; exact h2) (tl j y hy) e
      omega
theorem zc_RVi {v : Int32} (hx : p.tables.exec = Jvm.exec) (hb : c.code = cc) (hml : c.maxLocals = nL) (hown : s.vm.findClass own = some m.cls) (hts : ∀ w ∈ WW, w.before args s = true) (M : Met l y (cWW y bytes maxL ret) rm (zR D ac cs (.ref b :: As) wsc) (vp_Si (fun r => r = v)) 0 0 (fun _ => False)) (hg : GoodIn WW (wsV own index C y (cWW y bytes maxL ret))) (hyc : y.cls = C) (hd : hdY y n) (hrm : rm.cells = 0 ∧ rm.slots = 0) (hR : rm.frames + 1 ≤ R.frames ∧ 8 + (maxL + 11) + rm.locals ≤ R.locals) (hKX : KX D ac s) (hC : CX cs A s s.heap) (hS : va_S A s.heap H locs) (hPc : va_P D vwCl wsc H) (ci : Nat) {T : u_T} {N : Nat} {fs : List Value} (hcl : vwCl[ci]? = some (C, T, N)) (hrec : wsc[0]? = some (b, .inr (ci, fs))) (hn : As.length = n) (hsz : ls.size = nL) (hst : st0 = As.reverse ++ .ref b :: rest) (hrw : (rest.map fun v => v.category).sum ≤ 8) (hcs : cells ≤ R.cells ∧ slots ≤ R.slots) (hdg : decode cc pc = .ok (.invokevirtual index, 3)) (k : W p l e R s m args below meth c H locs cells slots Q (F0 m (pc + 3) ls (.int v :: rest))) : W p l e R s m args below meth c H locs cells slots Q (F0 m pc ls st0) := by
  exact vp_callSi (zrun (va_runV ⟨hx, hb, hml, hown, hts⟩ M (cwV n hts hg rfl hrm.1 hrm.2 ⟨hyc, hd⟩ hR) (zp_RV hKX hC hS hPc (va_recv (hKX.1) hPc hcl hrec)) rfl hn hsz hst (lv_room hrw) hdg hcs)) (fun r hr => by subst hr; exact k)

theorem zc_RVl {v : Int64} (hx : p.tables.exec = Jvm.exec) (hb : c.code = cc) (hml : c.maxLocals = nL) (hown : s.vm.findClass own = some m.cls) (hts : ∀ w ∈ WW, w.before args s = true) (M : Met l y (cWW y bytes maxL ret) rm (zR D ac cs (.ref b :: As) wsc) (vp_Sl (fun r => r = v)) 0 0 (fun _ => False)) (hg : GoodIn WW (wsV own index C y (cWW y bytes maxL ret))) (hyc : y.cls = C) (hd : hdY y n) (hrm : rm.cells = 0 ∧ rm.slots = 0) (hR : rm.frames + 1 ≤ R.frames ∧ 8 + (maxL + 11) + rm.locals ≤ R.locals) (hKX : KX D ac s) (hC : CX cs A s s.heap) (hS : va_S A s.heap H locs) (hPc : va_P D vwCl wsc H) (ci : Nat) {T : u_T} {N : Nat} {fs : List Value} (hcl : vwCl[ci]? = some (C, T, N)) (hrec : wsc[0]? = some (b, .inr (ci, fs))) (hn : As.length = n) (hsz : ls.size = nL) (hst : st0 = As.reverse ++ .ref b :: rest) (hrw : (rest.map fun v => v.category).sum ≤ 8) (hcs : cells ≤ R.cells ∧ slots ≤ R.slots) (hdg : decode cc pc = .ok (.invokevirtual index, 3)) (k : W p l e R s m args below meth c H locs cells slots Q (F0 m (pc + 3) ls (.long v :: rest))) : W p l e R s m args below meth c H locs cells slots Q (F0 m pc ls st0) := by
  exact vp_callSl (zrun (va_runV ⟨hx, hb, hml, hown, hts⟩ M (cwV n hts hg rfl hrm.1 hrm.2 ⟨hyc, hd⟩ hR) (zp_RV hKX hC hS hPc (va_recv (hKX.1) hPc hcl hrec)) rfl hn hsz hst (lv_room hrw) hdg hcs)) (fun r hr => by subst hr; exact k)

theorem zc_RSi {v : Int32} (hx : p.tables.exec = Jvm.exec) (hb : c.code = cc) (hml : c.maxLocals = nL) (hown : s.vm.findClass own = some m.cls) (hts : ∀ w ∈ WW, w.before args s = true) (M : Met l y (cWW y bytes maxL ret) rm (zR D ac cs As wsc) (vp_Si (fun r => r = v)) 0 0 (fun _ => False)) (hg : GoodIn WW (va_wsS own index y (cWW y bytes maxL ret))) (hd : hdY y n) (hrm : rm.cells = 0 ∧ rm.slots = 0) (hR : rm.frames + 1 ≤ R.frames ∧ 8 + (maxL + 11) + rm.locals ≤ R.locals) (hKX : KX D ac s) (hC : CX cs A s s.heap) (hS : va_S A s.heap H locs) (hPc : va_P D vwCl wsc H) (hn : As.length = n) (hsz : ls.size = nL) (hst : st0 = As.reverse ++ rest) (hrw : (rest.map fun v => v.category).sum ≤ 8) (hcs : cells ≤ R.cells ∧ slots ≤ R.slots) (hdg : decode cc pc = .ok (.invokestatic index, 3)) (k : W p l e R s m args below meth c H locs cells slots Q (F0 m (pc + 3) ls (.int v :: rest))) : W p l e R s m args below meth c H locs cells slots Q (F0 m pc ls st0) := by
  exact vp_callSi (zrun (va_runS ⟨hx, hb, hml, hown, hts⟩ M (va_cwS n hts hg rfl hrm.1 hrm.2 hd hR) (zp_RS hKX hC hS hPc ) rfl hn hsz hst (lv_room hrw) hdg hcs)) (fun r hr => by subst hr; exact k)

theorem zc_RSl {v : Int64} (hx : p.tables.exec = Jvm.exec) (hb : c.code = cc) (hml : c.maxLocals = nL) (hown : s.vm.findClass own = some m.cls) (hts : ∀ w ∈ WW, w.before args s = true) (M : Met l y (cWW y bytes maxL ret) rm (zR D ac cs As wsc) (vp_Sl (fun r => r = v)) 0 0 (fun _ => False)) (hg : GoodIn WW (va_wsS own index y (cWW y bytes maxL ret))) (hd : hdY y n) (hrm : rm.cells = 0 ∧ rm.slots = 0) (hR : rm.frames + 1 ≤ R.frames ∧ 8 + (maxL + 11) + rm.locals ≤ R.locals) (hKX : KX D ac s) (hC : CX cs A s s.heap) (hS : va_S A s.heap H locs) (hPc : va_P D vwCl wsc H) (hn : As.length = n) (hsz : ls.size = nL) (hst : st0 = As.reverse ++ rest) (hrw : (rest.map fun v => v.category).sum ≤ 8) (hcs : cells ≤ R.cells ∧ slots ≤ R.slots) (hdg : decode cc pc = .ok (.invokestatic index, 3)) (k : W p l e R s m args below meth c H locs cells slots Q (F0 m (pc + 3) ls (.long v :: rest))) : W p l e R s m args below meth c H locs cells slots Q (F0 m pc ls st0) := by
  exact vp_callSl (zrun (va_runS ⟨hx, hb, hml, hown, hts⟩ M (va_cwS n hts hg rfl hrm.1 hrm.2 hd hR) (zp_RS hKX hC hS hPc ) rfl hn hsz hst (lv_room hrw) hdg hcs)) (fun r hr => by subst hr; exact k)

theorem zc_RSNi {v : Int32} (hx : p.tables.exec = Jvm.exec) (hb : c.code = cc) (hml : c.maxLocals = nL) (hown : s.vm.findClass own = some m.cls) (hts : ∀ w ∈ WW, w.before args s = true) (M : Met l y (cWW y bytes maxL ret) rm (zR D ac cs As wsc) (vp_Si (fun r => r = v)) 0 0 (fun _ => False)) {host : String} (hnl : va_Nw (.methodLinkNest own index y host) s) (hini : Cond.initialized y.cls ∈ WW) (hst2 : Cond.static y ∈ WW) (hcd : Cond.code y bytes maxL ret ∈ WW) (hd : hdY y n) (hrm : rm.cells = 0 ∧ rm.slots = 0) (hR : rm.frames + 1 ≤ R.frames ∧ 8 + (maxL + 11) + rm.locals ≤ R.locals) (hKX : KX D ac s) (hC : CX cs A s s.heap) (hS : va_S A s.heap H locs) (hPc : va_P D vwCl wsc H) (hn : As.length = n) (hsz : ls.size = nL) (hst : st0 = As.reverse ++ rest) (hrw : (rest.map fun v => v.category).sum ≤ 8) (hcs : cells ≤ R.cells ∧ slots ≤ R.slots) (hdg : decode cc pc = .ok (.invokestatic index, 3)) (k : W p l e R s m args below meth c H locs cells slots Q (F0 m (pc + 3) ls (.int v :: rest))) : W p l e R s m args below meth c H locs cells slots Q (F0 m pc ls st0) := by
  exact vp_callSi (zrun (va_runSN ⟨hx, hb, hml, hown, hts⟩ M ⟨va_cnB n hts (g_c hcd WW_GI) rfl hrm.1 hrm.2 hnl (hts _ hini) hd hR, hts _ hst2, trivial⟩ (zp_RS hKX hC hS hPc ) rfl hn hsz hst (lv_room hrw) hdg hcs)) (fun r hr => by subst hr; exact k)

theorem zc_RSNl {v : Int64} (hx : p.tables.exec = Jvm.exec) (hb : c.code = cc) (hml : c.maxLocals = nL) (hown : s.vm.findClass own = some m.cls) (hts : ∀ w ∈ WW, w.before args s = true) (M : Met l y (cWW y bytes maxL ret) rm (zR D ac cs As wsc) (vp_Sl (fun r => r = v)) 0 0 (fun _ => False)) {host : String} (hnl : va_Nw (.methodLinkNest own index y host) s) (hini : Cond.initialized y.cls ∈ WW) (hst2 : Cond.static y ∈ WW) (hcd : Cond.code y bytes maxL ret ∈ WW) (hd : hdY y n) (hrm : rm.cells = 0 ∧ rm.slots = 0) (hR : rm.frames + 1 ≤ R.frames ∧ 8 + (maxL + 11) + rm.locals ≤ R.locals) (hKX : KX D ac s) (hC : CX cs A s s.heap) (hS : va_S A s.heap H locs) (hPc : va_P D vwCl wsc H) (hn : As.length = n) (hsz : ls.size = nL) (hst : st0 = As.reverse ++ rest) (hrw : (rest.map fun v => v.category).sum ≤ 8) (hcs : cells ≤ R.cells ∧ slots ≤ R.slots) (hdg : decode cc pc = .ok (.invokestatic index, 3)) (k : W p l e R s m args below meth c H locs cells slots Q (F0 m (pc + 3) ls (.long v :: rest))) : W p l e R s m args below meth c H locs cells slots Q (F0 m pc ls st0) := by
  exact vp_callSl (zrun (va_runSN ⟨hx, hb, hml, hown, hts⟩ M ⟨va_cnB n hts (g_c hcd WW_GI) rfl hrm.1 hrm.2 hnl (hts _ hini) hd hR, hts _ hst2, trivial⟩ (zp_RS hKX hC hS hPc ) rfl hn hsz hst (lv_room hrw) hdg hcs)) (fun r hr => by subst hr; exact k)

theorem zc_MVi {v : Int32} (hx : p.tables.exec = Jvm.exec) (hb : c.code = cc) (hml : c.maxLocals = nL) (hown : s.vm.findClass own = some m.cls) (hts : ∀ w ∈ WW, w.before args s = true) (M : Met l y (cWW y bytes maxL ret) rm (zM D ac cs (.ref b :: As) wsc H.size) (va_Qi (fun r (_ : Unit) => r = v) (fun _ => zB D (va_A wsc H.size) wsc') (va_A wsc H.size)) 0 0 (va_A wsc H.size)) (hg : GoodIn WW (wsV own index C y (cWW y bytes maxL ret))) (hyc : y.cls = C) (hd : hdY y n) (hrm : rm.cells = 0 ∧ rm.slots = 0) (hR : rm.frames + 1 ≤ R.frames ∧ 8 + (maxL + 11) + rm.locals ≤ R.locals) (hKX : KX D ac s) (hC : CX cs A s s.heap) (hS : va_S A s.heap H locs) (hA : ∀ q, s.heap.size ≤ q → A q) (hP : va_P D vwCl ws H) (hD : va_D A ws) (isC isR : List Nat) (hCw : isC.map (fun i => ws[i]?) = wsc.map some) (hnC : va_nd isC = true) (hRw : isR.map (fun i => ws[i]?) = wr.map some) (hnR : va_nd isR = true) (hdis : ∀ i ∈ isR, i ∉ isC) (ci : Nat) {T : u_T} {N : Nat} {fs : List Value} (hcl : vwCl[ci]? = some (C, T, N)) (hrec : wsc[0]? = some (b, .inr (ci, fs))) (hn : As.length = n) (hsz : ls.size = nL) (hst : st0 = As.reverse ++ .ref b :: rest) (hrw : (rest.map fun v => v.category).sum ≤ 8) (hcs : cells ≤ R.cells ∧ slots ≤ R.slots) (hdg : decode cc pc = .ok (.invokevirtual index, 3)) (k : ∀ (H1 : Heap) (locs1 : List Loc), va_P D vwCl (wr ++ wsc') H1 → va_D A (wr ++ wsc') → va_S A s.heap H1 locs1 → W p l e R s m args below meth c H1 locs1 cells slots Q (F0 m (pc + 3) ls (.int v :: rest))) : W p l e R s m args below meth c H locs cells slots Q (F0 m pc ls st0) := by
  have hPc : va_P D vwCl wsc H := zsubP hP isC hCw
  have hDc : va_D A wsc := hD.sub isC hnC hCw
  have hF := va_free (wc := wsc) hD hS hA isC hCw
  refine va_calli (va_runV ⟨hx, hb, hml, hown, hts⟩ M (cwV n hts hg rfl hrm.1 hrm.2 ⟨hyc, hd⟩ hR) (zp_MV hKX hC hS hPc hDc hF (va_recv (hKX.1) hPc hcl hrec)) rfl hn hsz hst (lv_room hrw) hdg hcs) hS (fun q _ h => hF q h) hF (fun r u t H1 locs1 ht hvm hw hB hz1 hk1 hS => ?_)
  subst hw
  obtain ⟨hP1, hD1⟩ := hB
  rw [ht] at hP1
  obtain ⟨hP2, hD2⟩ := va_join (wr := wr) (w1 := wsc') hP hD isC isR hCw hRw hnR hdis hk1 hF hP1 hD1
  exact k H1 locs1 hP2 hD2 hS

theorem zc_MVl {v : Int64} (hx : p.tables.exec = Jvm.exec) (hb : c.code = cc) (hml : c.maxLocals = nL) (hown : s.vm.findClass own = some m.cls) (hts : ∀ w ∈ WW, w.before args s = true) (M : Met l y (cWW y bytes maxL ret) rm (zM D ac cs (.ref b :: As) wsc H.size) (va_Ql (fun r (_ : Unit) => r = v) (fun _ => zB D (va_A wsc H.size) wsc') (va_A wsc H.size)) 0 0 (va_A wsc H.size)) (hg : GoodIn WW (wsV own index C y (cWW y bytes maxL ret))) (hyc : y.cls = C) (hd : hdY y n) (hrm : rm.cells = 0 ∧ rm.slots = 0) (hR : rm.frames + 1 ≤ R.frames ∧ 8 + (maxL + 11) + rm.locals ≤ R.locals) (hKX : KX D ac s) (hC : CX cs A s s.heap) (hS : va_S A s.heap H locs) (hA : ∀ q, s.heap.size ≤ q → A q) (hP : va_P D vwCl ws H) (hD : va_D A ws) (isC isR : List Nat) (hCw : isC.map (fun i => ws[i]?) = wsc.map some) (hnC : va_nd isC = true) (hRw : isR.map (fun i => ws[i]?) = wr.map some) (hnR : va_nd isR = true) (hdis : ∀ i ∈ isR, i ∉ isC) (ci : Nat) {T : u_T} {N : Nat} {fs : List Value} (hcl : vwCl[ci]? = some (C, T, N)) (hrec : wsc[0]? = some (b, .inr (ci, fs))) (hn : As.length = n) (hsz : ls.size = nL) (hst : st0 = As.reverse ++ .ref b :: rest) (hrw : (rest.map fun v => v.category).sum ≤ 8) (hcs : cells ≤ R.cells ∧ slots ≤ R.slots) (hdg : decode cc pc = .ok (.invokevirtual index, 3)) (k : ∀ (H1 : Heap) (locs1 : List Loc), va_P D vwCl (wr ++ wsc') H1 → va_D A (wr ++ wsc') → va_S A s.heap H1 locs1 → W p l e R s m args below meth c H1 locs1 cells slots Q (F0 m (pc + 3) ls (.long v :: rest))) : W p l e R s m args below meth c H locs cells slots Q (F0 m pc ls st0) := by
  have hPc : va_P D vwCl wsc H := zsubP hP isC hCw
  have hDc : va_D A wsc := hD.sub isC hnC hCw
  have hF := va_free (wc := wsc) hD hS hA isC hCw
  refine va_calll (va_runV ⟨hx, hb, hml, hown, hts⟩ M (cwV n hts hg rfl hrm.1 hrm.2 ⟨hyc, hd⟩ hR) (zp_MV hKX hC hS hPc hDc hF (va_recv (hKX.1) hPc hcl hrec)) rfl hn hsz hst (lv_room hrw) hdg hcs) hS (fun q _ h => hF q h) hF (fun r u t H1 locs1 ht hvm hw hB hz1 hk1 hS => ?_)
  subst hw
  obtain ⟨hP1, hD1⟩ := hB
  rw [ht] at hP1
  obtain ⟨hP2, hD2⟩ := va_join (wr := wr) (w1 := wsc') hP hD isC isR hCw hRw hnR hdis hk1 hF hP1 hD1
  exact k H1 locs1 hP2 hD2 hS

theorem zc_MVv (hx : p.tables.exec = Jvm.exec) (hb : c.code = cc) (hml : c.maxLocals = nL) (hown : s.vm.findClass own = some m.cls) (hts : ∀ w ∈ WW, w.before args s = true) (M : Met l y (cWW y bytes maxL ret) rm (zM D ac cs (.ref b :: As) wsc H.size) (va_Qv (fun _ : Unit => True) (fun _ => zB D (va_A wsc H.size) wsc') (va_A wsc H.size)) 0 0 (va_A wsc H.size)) (hg : GoodIn WW (wsV own index C y (cWW y bytes maxL ret))) (hyc : y.cls = C) (hd : hdY y n) (hrm : rm.cells = 0 ∧ rm.slots = 0) (hR : rm.frames + 1 ≤ R.frames ∧ 8 + (maxL + 11) + rm.locals ≤ R.locals) (hKX : KX D ac s) (hC : CX cs A s s.heap) (hS : va_S A s.heap H locs) (hA : ∀ q, s.heap.size ≤ q → A q) (hP : va_P D vwCl ws H) (hD : va_D A ws) (isC isR : List Nat) (hCw : isC.map (fun i => ws[i]?) = wsc.map some) (hnC : va_nd isC = true) (hRw : isR.map (fun i => ws[i]?) = wr.map some) (hnR : va_nd isR = true) (hdis : ∀ i ∈ isR, i ∉ isC) (ci : Nat) {T : u_T} {N : Nat} {fs : List Value} (hcl : vwCl[ci]? = some (C, T, N)) (hrec : wsc[0]? = some (b, .inr (ci, fs))) (hn : As.length = n) (hsz : ls.size = nL) (hst : st0 = As.reverse ++ .ref b :: rest) (hrw : (rest.map fun v => v.category).sum ≤ 8) (hcs : cells ≤ R.cells ∧ slots ≤ R.slots) (hdg : decode cc pc = .ok (.invokevirtual index, 3)) (k : ∀ (H1 : Heap) (locs1 : List Loc), va_P D vwCl (wr ++ wsc') H1 → va_D A (wr ++ wsc') → va_S A s.heap H1 locs1 → W p l e R s m args below meth c H1 locs1 cells slots Q (F0 m (pc + 3) ls (rest))) : W p l e R s m args below meth c H locs cells slots Q (F0 m pc ls st0) := by
  have hPc : va_P D vwCl wsc H := zsubP hP isC hCw
  have hDc : va_D A wsc := hD.sub isC hnC hCw
  have hF := va_free (wc := wsc) hD hS hA isC hCw
  refine va_callv (va_runV ⟨hx, hb, hml, hown, hts⟩ M (cwV n hts hg rfl hrm.1 hrm.2 ⟨hyc, hd⟩ hR) (zp_MV hKX hC hS hPc hDc hF (va_recv (hKX.1) hPc hcl hrec)) rfl hn hsz hst (lv_room hrw) hdg hcs) hS (fun q _ h => hF q h) hF (fun u t H1 locs1 ht hvm hw hB hz1 hk1 hS => ?_)
  obtain ⟨hP1, hD1⟩ := hB
  rw [ht] at hP1
  obtain ⟨hP2, hD2⟩ := va_join (wr := wr) (w1 := wsc') hP hD isC isR hCw hRw hnR hdis hk1 hF hP1 hD1
  exact k H1 locs1 hP2 hD2 hS

theorem zc_MSi {v : Int32} (hx : p.tables.exec = Jvm.exec) (hb : c.code = cc) (hml : c.maxLocals = nL) (hown : s.vm.findClass own = some m.cls) (hts : ∀ w ∈ WW, w.before args s = true) (M : Met l y (cWW y bytes maxL ret) rm (zM D ac cs As wsc H.size) (va_Qi (fun r (_ : Unit) => r = v) (fun _ => zB D (va_A wsc H.size) wsc') (va_A wsc H.size)) 0 0 (va_A wsc H.size)) (hg : GoodIn WW (va_wsS own index y (cWW y bytes maxL ret))) (hd : hdY y n) (hrm : rm.cells = 0 ∧ rm.slots = 0) (hR : rm.frames + 1 ≤ R.frames ∧ 8 + (maxL + 11) + rm.locals ≤ R.locals) (hKX : KX D ac s) (hC : CX cs A s s.heap) (hS : va_S A s.heap H locs) (hA : ∀ q, s.heap.size ≤ q → A q) (hP : va_P D vwCl ws H) (hD : va_D A ws) (isC isR : List Nat) (hCw : isC.map (fun i => ws[i]?) = wsc.map some) (hnC : va_nd isC = true) (hRw : isR.map (fun i => ws[i]?) = wr.map some) (hnR : va_nd isR = true) (hdis : ∀ i ∈ isR, i ∉ isC) (hn : As.length = n) (hsz : ls.size = nL) (hst : st0 = As.reverse ++ rest) (hrw : (rest.map fun v => v.category).sum ≤ 8) (hcs : cells ≤ R.cells ∧ slots ≤ R.slots) (hdg : decode cc pc = .ok (.invokestatic index, 3)) (k : ∀ (H1 : Heap) (locs1 : List Loc), va_P D vwCl (wr ++ wsc') H1 → va_D A (wr ++ wsc') → va_S A s.heap H1 locs1 → W p l e R s m args below meth c H1 locs1 cells slots Q (F0 m (pc + 3) ls (.int v :: rest))) : W p l e R s m args below meth c H locs cells slots Q (F0 m pc ls st0) := by
  have hPc : va_P D vwCl wsc H := zsubP hP isC hCw
  have hDc : va_D A wsc := hD.sub isC hnC hCw
  have hF := va_free (wc := wsc) hD hS hA isC hCw
  refine va_calli (va_runS ⟨hx, hb, hml, hown, hts⟩ M (va_cwS n hts hg rfl hrm.1 hrm.2 hd hR) (zp_MS hKX hC hS hPc hDc hF ) rfl hn hsz hst (lv_room hrw) hdg hcs) hS (fun q _ h => hF q h) hF (fun r u t H1 locs1 ht hvm hw hB hz1 hk1 hS => ?_)
  subst hw
  obtain ⟨hP1, hD1⟩ := hB
  rw [ht] at hP1
  obtain ⟨hP2, hD2⟩ := va_join (wr := wr) (w1 := wsc') hP hD isC isR hCw hRw hnR hdis hk1 hF hP1 hD1
  exact k H1 locs1 hP2 hD2 hS

theorem zc_MSl {v : Int64} (hx : p.tables.exec = Jvm.exec) (hb : c.code = cc) (hml : c.maxLocals = nL) (hown : s.vm.findClass own = some m.cls) (hts : ∀ w ∈ WW, w.before args s = true) (M : Met l y (cWW y bytes maxL ret) rm (zM D ac cs As wsc H.size) (va_Ql (fun r (_ : Unit) => r = v) (fun _ => zB D (va_A wsc H.size) wsc') (va_A wsc H.size)) 0 0 (va_A wsc H.size)) (hg : GoodIn WW (va_wsS own index y (cWW y bytes maxL ret))) (hd : hdY y n) (hrm : rm.cells = 0 ∧ rm.slots = 0) (hR : rm.frames + 1 ≤ R.frames ∧ 8 + (maxL + 11) + rm.locals ≤ R.locals) (hKX : KX D ac s) (hC : CX cs A s s.heap) (hS : va_S A s.heap H locs) (hA : ∀ q, s.heap.size ≤ q → A q) (hP : va_P D vwCl ws H) (hD : va_D A ws) (isC isR : List Nat) (hCw : isC.map (fun i => ws[i]?) = wsc.map some) (hnC : va_nd isC = true) (hRw : isR.map (fun i => ws[i]?) = wr.map some) (hnR : va_nd isR = true) (hdis : ∀ i ∈ isR, i ∉ isC) (hn : As.length = n) (hsz : ls.size = nL) (hst : st0 = As.reverse ++ rest) (hrw : (rest.map fun v => v.category).sum ≤ 8) (hcs : cells ≤ R.cells ∧ slots ≤ R.slots) (hdg : decode cc pc = .ok (.invokestatic index, 3)) (k : ∀ (H1 : Heap) (locs1 : List Loc), va_P D vwCl (wr ++ wsc') H1 → va_D A (wr ++ wsc') → va_S A s.heap H1 locs1 → W p l e R s m args below meth c H1 locs1 cells slots Q (F0 m (pc + 3) ls (.long v :: rest))) : W p l e R s m args below meth c H locs cells slots Q (F0 m pc ls st0) := by
  have hPc : va_P D vwCl wsc H := zsubP hP isC hCw
  have hDc : va_D A wsc := hD.sub isC hnC hCw
  have hF := va_free (wc := wsc) hD hS hA isC hCw
  refine va_calll (va_runS ⟨hx, hb, hml, hown, hts⟩ M (va_cwS n hts hg rfl hrm.1 hrm.2 hd hR) (zp_MS hKX hC hS hPc hDc hF ) rfl hn hsz hst (lv_room hrw) hdg hcs) hS (fun q _ h => hF q h) hF (fun r u t H1 locs1 ht hvm hw hB hz1 hk1 hS => ?_)
  subst hw
  obtain ⟨hP1, hD1⟩ := hB
  rw [ht] at hP1
  obtain ⟨hP2, hD2⟩ := va_join (wr := wr) (w1 := wsc') hP hD isC isR hCw hRw hnR hdis hk1 hF hP1 hD1
  exact k H1 locs1 hP2 hD2 hS

theorem zc_MSv (hx : p.tables.exec = Jvm.exec) (hb : c.code = cc) (hml : c.maxLocals = nL) (hown : s.vm.findClass own = some m.cls) (hts : ∀ w ∈ WW, w.before args s = true) (M : Met l y (cWW y bytes maxL ret) rm (zM D ac cs As wsc H.size) (va_Qv (fun _ : Unit => True) (fun _ => zB D (va_A wsc H.size) wsc') (va_A wsc H.size)) 0 0 (va_A wsc H.size)) (hg : GoodIn WW (va_wsS own index y (cWW y bytes maxL ret))) (hd : hdY y n) (hrm : rm.cells = 0 ∧ rm.slots = 0) (hR : rm.frames + 1 ≤ R.frames ∧ 8 + (maxL + 11) + rm.locals ≤ R.locals) (hKX : KX D ac s) (hC : CX cs A s s.heap) (hS : va_S A s.heap H locs) (hA : ∀ q, s.heap.size ≤ q → A q) (hP : va_P D vwCl ws H) (hD : va_D A ws) (isC isR : List Nat) (hCw : isC.map (fun i => ws[i]?) = wsc.map some) (hnC : va_nd isC = true) (hRw : isR.map (fun i => ws[i]?) = wr.map some) (hnR : va_nd isR = true) (hdis : ∀ i ∈ isR, i ∉ isC) (hn : As.length = n) (hsz : ls.size = nL) (hst : st0 = As.reverse ++ rest) (hrw : (rest.map fun v => v.category).sum ≤ 8) (hcs : cells ≤ R.cells ∧ slots ≤ R.slots) (hdg : decode cc pc = .ok (.invokestatic index, 3)) (k : ∀ (H1 : Heap) (locs1 : List Loc), va_P D vwCl (wr ++ wsc') H1 → va_D A (wr ++ wsc') → va_S A s.heap H1 locs1 → W p l e R s m args below meth c H1 locs1 cells slots Q (F0 m (pc + 3) ls (rest))) : W p l e R s m args below meth c H locs cells slots Q (F0 m pc ls st0) := by
  have hPc : va_P D vwCl wsc H := zsubP hP isC hCw
  have hDc : va_D A wsc := hD.sub isC hnC hCw
  have hF := va_free (wc := wsc) hD hS hA isC hCw
  refine va_callv (va_runS ⟨hx, hb, hml, hown, hts⟩ M (va_cwS n hts hg rfl hrm.1 hrm.2 hd hR) (zp_MS hKX hC hS hPc hDc hF ) rfl hn hsz hst (lv_room hrw) hdg hcs) hS (fun q _ h => hF q h) hF (fun u t H1 locs1 ht hvm hw hB hz1 hk1 hS => ?_)
  obtain ⟨hP1, hD1⟩ := hB
  rw [ht] at hP1
  obtain ⟨hP2, hD2⟩ := va_join (wr := wr) (w1 := wsc') hP hD isC isR hCw hRw hnR hdis hk1 hF hP1 hD1
  exact k H1 locs1 hP2 hD2 hS

theorem zc_MViX {S : Type} {wsc' : S → va_W} {v : Int32} (hx : p.tables.exec = Jvm.exec) (hb : c.code = cc) (hml : c.maxLocals = nL) (hown : s.vm.findClass own = some m.cls) (hts : ∀ w ∈ WW, w.before args s = true) (M : Met l y (cWW y bytes maxL ret) rm (zM D ac cs (.ref b :: As) wsc H.size) (va_Qi (fun r (_ : S) => r = v) (fun u => zB D (va_A wsc H.size) (wsc' u)) (va_A wsc H.size)) 0 0 (va_A wsc H.size)) (hg : GoodIn WW (wsV own index C y (cWW y bytes maxL ret))) (hyc : y.cls = C) (hd : hdY y n) (hrm : rm.cells = 0 ∧ rm.slots = 0) (hR : rm.frames + 1 ≤ R.frames ∧ 8 + (maxL + 11) + rm.locals ≤ R.locals) (hKX : KX D ac s) (hC : CX cs A s s.heap) (hS : va_S A s.heap H locs) (hA : ∀ q, s.heap.size ≤ q → A q) (hP : va_P D vwCl ws H) (hD : va_D A ws) (isC isR : List Nat) (hCw : isC.map (fun i => ws[i]?) = wsc.map some) (hnC : va_nd isC = true) (hRw : isR.map (fun i => ws[i]?) = wr.map some) (hnR : va_nd isR = true) (hdis : ∀ i ∈ isR, i ∉ isC) (ci : Nat) {T : u_T} {N : Nat} {fs : List Value} (hcl : vwCl[ci]? = some (C, T, N)) (hrec : wsc[0]? = some (b, .inr (ci, fs))) (hn : As.length = n) (hsz : ls.size = nL) (hst : st0 = As.reverse ++ .ref b :: rest) (hrw : (rest.map fun v => v.category).sum ≤ 8) (hcs : cells ≤ R.cells ∧ slots ≤ R.slots) (hdg : decode cc pc = .ok (.invokevirtual index, 3)) (k : ∀ (u : S) (H1 : Heap) (locs1 : List Loc), va_P D vwCl (wr ++ wsc' u) H1 → va_D A (wr ++ wsc' u) → va_S A s.heap H1 locs1 → W p l e R s m args below meth c H1 locs1 cells slots Q (F0 m (pc + 3) ls (.int v :: rest))) : W p l e R s m args below meth c H locs cells slots Q (F0 m pc ls st0) := by
  have hPc : va_P D vwCl wsc H := zsubP hP isC hCw
  have hDc : va_D A wsc := hD.sub isC hnC hCw
  have hF := va_free (wc := wsc) hD hS hA isC hCw
  refine va_calli (va_runV ⟨hx, hb, hml, hown, hts⟩ M (cwV n hts hg rfl hrm.1 hrm.2 ⟨hyc, hd⟩ hR) (zp_MV hKX hC hS hPc hDc hF (va_recv (hKX.1) hPc hcl hrec)) rfl hn hsz hst (lv_room hrw) hdg hcs) hS (fun q _ h => hF q h) hF (fun r u t H1 locs1 ht hvm hw hB hz1 hk1 hS => ?_)
  subst hw
  obtain ⟨hP1, hD1⟩ := hB
  rw [ht] at hP1
  obtain ⟨hP2, hD2⟩ := va_join (wr := wr) (w1 := wsc' u) hP hD isC isR hCw hRw hnR hdis hk1 hF hP1 hD1
  exact k u H1 locs1 hP2 hD2 hS

theorem zc_MVlX {S : Type} {wsc' : S → va_W} {v : Int64} (hx : p.tables.exec = Jvm.exec) (hb : c.code = cc) (hml : c.maxLocals = nL) (hown : s.vm.findClass own = some m.cls) (hts : ∀ w ∈ WW, w.before args s = true) (M : Met l y (cWW y bytes maxL ret) rm (zM D ac cs (.ref b :: As) wsc H.size) (va_Ql (fun r (_ : S) => r = v) (fun u => zB D (va_A wsc H.size) (wsc' u)) (va_A wsc H.size)) 0 0 (va_A wsc H.size)) (hg : GoodIn WW (wsV own index C y (cWW y bytes maxL ret))) (hyc : y.cls = C) (hd : hdY y n) (hrm : rm.cells = 0 ∧ rm.slots = 0) (hR : rm.frames + 1 ≤ R.frames ∧ 8 + (maxL + 11) + rm.locals ≤ R.locals) (hKX : KX D ac s) (hC : CX cs A s s.heap) (hS : va_S A s.heap H locs) (hA : ∀ q, s.heap.size ≤ q → A q) (hP : va_P D vwCl ws H) (hD : va_D A ws) (isC isR : List Nat) (hCw : isC.map (fun i => ws[i]?) = wsc.map some) (hnC : va_nd isC = true) (hRw : isR.map (fun i => ws[i]?) = wr.map some) (hnR : va_nd isR = true) (hdis : ∀ i ∈ isR, i ∉ isC) (ci : Nat) {T : u_T} {N : Nat} {fs : List Value} (hcl : vwCl[ci]? = some (C, T, N)) (hrec : wsc[0]? = some (b, .inr (ci, fs))) (hn : As.length = n) (hsz : ls.size = nL) (hst : st0 = As.reverse ++ .ref b :: rest) (hrw : (rest.map fun v => v.category).sum ≤ 8) (hcs : cells ≤ R.cells ∧ slots ≤ R.slots) (hdg : decode cc pc = .ok (.invokevirtual index, 3)) (k : ∀ (u : S) (H1 : Heap) (locs1 : List Loc), va_P D vwCl (wr ++ wsc' u) H1 → va_D A (wr ++ wsc' u) → va_S A s.heap H1 locs1 → W p l e R s m args below meth c H1 locs1 cells slots Q (F0 m (pc + 3) ls (.long v :: rest))) : W p l e R s m args below meth c H locs cells slots Q (F0 m pc ls st0) := by
  have hPc : va_P D vwCl wsc H := zsubP hP isC hCw
  have hDc : va_D A wsc := hD.sub isC hnC hCw
  have hF := va_free (wc := wsc) hD hS hA isC hCw
  refine va_calll (va_runV ⟨hx, hb, hml, hown, hts⟩ M (cwV n hts hg rfl hrm.1 hrm.2 ⟨hyc, hd⟩ hR) (zp_MV hKX hC hS hPc hDc hF (va_recv (hKX.1) hPc hcl hrec)) rfl hn hsz hst (lv_room hrw) hdg hcs) hS (fun q _ h => hF q h) hF (fun r u t H1 locs1 ht hvm hw hB hz1 hk1 hS => ?_)
  subst hw
  obtain ⟨hP1, hD1⟩ := hB
  rw [ht] at hP1
  obtain ⟨hP2, hD2⟩ := va_join (wr := wr) (w1 := wsc' u) hP hD isC isR hCw hRw hnR hdis hk1 hF hP1 hD1
  exact k u H1 locs1 hP2 hD2 hS

theorem zc_MVvX {S : Type} {wsc' : S → va_W} (hx : p.tables.exec = Jvm.exec) (hb : c.code = cc) (hml : c.maxLocals = nL) (hown : s.vm.findClass own = some m.cls) (hts : ∀ w ∈ WW, w.before args s = true) (M : Met l y (cWW y bytes maxL ret) rm (zM D ac cs (.ref b :: As) wsc H.size) (va_Qv (fun _ : S => True) (fun u => zB D (va_A wsc H.size) (wsc' u)) (va_A wsc H.size)) 0 0 (va_A wsc H.size)) (hg : GoodIn WW (wsV own index C y (cWW y bytes maxL ret))) (hyc : y.cls = C) (hd : hdY y n) (hrm : rm.cells = 0 ∧ rm.slots = 0) (hR : rm.frames + 1 ≤ R.frames ∧ 8 + (maxL + 11) + rm.locals ≤ R.locals) (hKX : KX D ac s) (hC : CX cs A s s.heap) (hS : va_S A s.heap H locs) (hA : ∀ q, s.heap.size ≤ q → A q) (hP : va_P D vwCl ws H) (hD : va_D A ws) (isC isR : List Nat) (hCw : isC.map (fun i => ws[i]?) = wsc.map some) (hnC : va_nd isC = true) (hRw : isR.map (fun i => ws[i]?) = wr.map some) (hnR : va_nd isR = true) (hdis : ∀ i ∈ isR, i ∉ isC) (ci : Nat) {T : u_T} {N : Nat} {fs : List Value} (hcl : vwCl[ci]? = some (C, T, N)) (hrec : wsc[0]? = some (b, .inr (ci, fs))) (hn : As.length = n) (hsz : ls.size = nL) (hst : st0 = As.reverse ++ .ref b :: rest) (hrw : (rest.map fun v => v.category).sum ≤ 8) (hcs : cells ≤ R.cells ∧ slots ≤ R.slots) (hdg : decode cc pc = .ok (.invokevirtual index, 3)) (k : ∀ (u : S) (H1 : Heap) (locs1 : List Loc), va_P D vwCl (wr ++ wsc' u) H1 → va_D A (wr ++ wsc' u) → va_S A s.heap H1 locs1 → W p l e R s m args below meth c H1 locs1 cells slots Q (F0 m (pc + 3) ls (rest))) : W p l e R s m args below meth c H locs cells slots Q (F0 m pc ls st0) := by
  have hPc : va_P D vwCl wsc H := zsubP hP isC hCw
  have hDc : va_D A wsc := hD.sub isC hnC hCw
  have hF := va_free (wc := wsc) hD hS hA isC hCw
  refine va_callv (va_runV ⟨hx, hb, hml, hown, hts⟩ M (cwV n hts hg rfl hrm.1 hrm.2 ⟨hyc, hd⟩ hR) (zp_MV hKX hC hS hPc hDc hF (va_recv (hKX.1) hPc hcl hrec)) rfl hn hsz hst (lv_room hrw) hdg hcs) hS (fun q _ h => hF q h) hF (fun u t H1 locs1 ht hvm hw hB hz1 hk1 hS => ?_)
  obtain ⟨hP1, hD1⟩ := hB
  rw [ht] at hP1
  obtain ⟨hP2, hD2⟩ := va_join (wr := wr) (w1 := wsc' u) hP hD isC isR hCw hRw hnR hdis hk1 hF hP1 hD1
  exact k u H1 locs1 hP2 hD2 hS

theorem zc_MSiX {S : Type} {wsc' : S → va_W} {v : Int32} (hx : p.tables.exec = Jvm.exec) (hb : c.code = cc) (hml : c.maxLocals = nL) (hown : s.vm.findClass own = some m.cls) (hts : ∀ w ∈ WW, w.before args s = true) (M : Met l y (cWW y bytes maxL ret) rm (zM D ac cs As wsc H.size) (va_Qi (fun r (_ : S) => r = v) (fun u => zB D (va_A wsc H.size) (wsc' u)) (va_A wsc H.size)) 0 0 (va_A wsc H.size)) (hg : GoodIn WW (va_wsS own index y (cWW y bytes maxL ret))) (hd : hdY y n) (hrm : rm.cells = 0 ∧ rm.slots = 0) (hR : rm.frames + 1 ≤ R.frames ∧ 8 + (maxL + 11) + rm.locals ≤ R.locals) (hKX : KX D ac s) (hC : CX cs A s s.heap) (hS : va_S A s.heap H locs) (hA : ∀ q, s.heap.size ≤ q → A q) (hP : va_P D vwCl ws H) (hD : va_D A ws) (isC isR : List Nat) (hCw : isC.map (fun i => ws[i]?) = wsc.map some) (hnC : va_nd isC = true) (hRw : isR.map (fun i => ws[i]?) = wr.map some) (hnR : va_nd isR = true) (hdis : ∀ i ∈ isR, i ∉ isC) (hn : As.length = n) (hsz : ls.size = nL) (hst : st0 = As.reverse ++ rest) (hrw : (rest.map fun v => v.category).sum ≤ 8) (hcs : cells ≤ R.cells ∧ slots ≤ R.slots) (hdg : decode cc pc = .ok (.invokestatic index, 3)) (k : ∀ (u : S) (H1 : Heap) (locs1 : List Loc), va_P D vwCl (wr ++ wsc' u) H1 → va_D A (wr ++ wsc' u) → va_S A s.heap H1 locs1 → W p l e R s m args below meth c H1 locs1 cells slots Q (F0 m (pc + 3) ls (.int v :: rest))) : W p l e R s m args below meth c H locs cells slots Q (F0 m pc ls st0) := by
  have hPc : va_P D vwCl wsc H := zsubP hP isC hCw
  have hDc : va_D A wsc := hD.sub isC hnC hCw
  have hF := va_free (wc := wsc) hD hS hA isC hCw
  refine va_calli (va_runS ⟨hx, hb, hml, hown, hts⟩ M (va_cwS n hts hg rfl hrm.1 hrm.2 hd hR) (zp_MS hKX hC hS hPc hDc hF ) rfl hn hsz hst (lv_room hrw) hdg hcs) hS (fun q _ h => hF q h) hF (fun r u t H1 locs1 ht hvm hw hB hz1 hk1 hS => ?_)
  subst hw
  obtain ⟨hP1, hD1⟩ := hB
  rw [ht] at hP1
  obtain ⟨hP2, hD2⟩ := va_join (wr := wr) (w1 := wsc' u) hP hD isC isR hCw hRw hnR hdis hk1 hF hP1 hD1
  exact k u H1 locs1 hP2 hD2 hS

theorem zc_MSlX {S : Type} {wsc' : S → va_W} {v : Int64} (hx : p.tables.exec = Jvm.exec) (hb : c.code = cc) (hml : c.maxLocals = nL) (hown : s.vm.findClass own = some m.cls) (hts : ∀ w ∈ WW, w.before args s = true) (M : Met l y (cWW y bytes maxL ret) rm (zM D ac cs As wsc H.size) (va_Ql (fun r (_ : S) => r = v) (fun u => zB D (va_A wsc H.size) (wsc' u)) (va_A wsc H.size)) 0 0 (va_A wsc H.size)) (hg : GoodIn WW (va_wsS own index y (cWW y bytes maxL ret))) (hd : hdY y n) (hrm : rm.cells = 0 ∧ rm.slots = 0) (hR : rm.frames + 1 ≤ R.frames ∧ 8 + (maxL + 11) + rm.locals ≤ R.locals) (hKX : KX D ac s) (hC : CX cs A s s.heap) (hS : va_S A s.heap H locs) (hA : ∀ q, s.heap.size ≤ q → A q) (hP : va_P D vwCl ws H) (hD : va_D A ws) (isC isR : List Nat) (hCw : isC.map (fun i => ws[i]?) = wsc.map some) (hnC : va_nd isC = true) (hRw : isR.map (fun i => ws[i]?) = wr.map some) (hnR : va_nd isR = true) (hdis : ∀ i ∈ isR, i ∉ isC) (hn : As.length = n) (hsz : ls.size = nL) (hst : st0 = As.reverse ++ rest) (hrw : (rest.map fun v => v.category).sum ≤ 8) (hcs : cells ≤ R.cells ∧ slots ≤ R.slots) (hdg : decode cc pc = .ok (.invokestatic index, 3)) (k : ∀ (u : S) (H1 : Heap) (locs1 : List Loc), va_P D vwCl (wr ++ wsc' u) H1 → va_D A (wr ++ wsc' u) → va_S A s.heap H1 locs1 → W p l e R s m args below meth c H1 locs1 cells slots Q (F0 m (pc + 3) ls (.long v :: rest))) : W p l e R s m args below meth c H locs cells slots Q (F0 m pc ls st0) := by
  have hPc : va_P D vwCl wsc H := zsubP hP isC hCw
  have hDc : va_D A wsc := hD.sub isC hnC hCw
  have hF := va_free (wc := wsc) hD hS hA isC hCw
  refine va_calll (va_runS ⟨hx, hb, hml, hown, hts⟩ M (va_cwS n hts hg rfl hrm.1 hrm.2 hd hR) (zp_MS hKX hC hS hPc hDc hF ) rfl hn hsz hst (lv_room hrw) hdg hcs) hS (fun q _ h => hF q h) hF (fun r u t H1 locs1 ht hvm hw hB hz1 hk1 hS => ?_)
  subst hw
  obtain ⟨hP1, hD1⟩ := hB
  rw [ht] at hP1
  obtain ⟨hP2, hD2⟩ := va_join (wr := wr) (w1 := wsc' u) hP hD isC isR hCw hRw hnR hdis hk1 hF hP1 hD1
  exact k u H1 locs1 hP2 hD2 hS

theorem zc_MSvX {S : Type} {wsc' : S → va_W} (hx : p.tables.exec = Jvm.exec) (hb : c.code = cc) (hml : c.maxLocals = nL) (hown : s.vm.findClass own = some m.cls) (hts : ∀ w ∈ WW, w.before args s = true) (M : Met l y (cWW y bytes maxL ret) rm (zM D ac cs As wsc H.size) (va_Qv (fun _ : S => True) (fun u => zB D (va_A wsc H.size) (wsc' u)) (va_A wsc H.size)) 0 0 (va_A wsc H.size)) (hg : GoodIn WW (va_wsS own index y (cWW y bytes maxL ret))) (hd : hdY y n) (hrm : rm.cells = 0 ∧ rm.slots = 0) (hR : rm.frames + 1 ≤ R.frames ∧ 8 + (maxL + 11) + rm.locals ≤ R.locals) (hKX : KX D ac s) (hC : CX cs A s s.heap) (hS : va_S A s.heap H locs) (hA : ∀ q, s.heap.size ≤ q → A q) (hP : va_P D vwCl ws H) (hD : va_D A ws) (isC isR : List Nat) (hCw : isC.map (fun i => ws[i]?) = wsc.map some) (hnC : va_nd isC = true) (hRw : isR.map (fun i => ws[i]?) = wr.map some) (hnR : va_nd isR = true) (hdis : ∀ i ∈ isR, i ∉ isC) (hn : As.length = n) (hsz : ls.size = nL) (hst : st0 = As.reverse ++ rest) (hrw : (rest.map fun v => v.category).sum ≤ 8) (hcs : cells ≤ R.cells ∧ slots ≤ R.slots) (hdg : decode cc pc = .ok (.invokestatic index, 3)) (k : ∀ (u : S) (H1 : Heap) (locs1 : List Loc), va_P D vwCl (wr ++ wsc' u) H1 → va_D A (wr ++ wsc' u) → va_S A s.heap H1 locs1 → W p l e R s m args below meth c H1 locs1 cells slots Q (F0 m (pc + 3) ls (rest))) : W p l e R s m args below meth c H locs cells slots Q (F0 m pc ls st0) := by
  have hPc : va_P D vwCl wsc H := zsubP hP isC hCw
  have hDc : va_D A wsc := hD.sub isC hnC hCw
  have hF := va_free (wc := wsc) hD hS hA isC hCw
  refine va_callv (va_runS ⟨hx, hb, hml, hown, hts⟩ M (va_cwS n hts hg rfl hrm.1 hrm.2 hd hR) (zp_MS hKX hC hS hPc hDc hF ) rfl hn hsz hst (lv_room hrw) hdg hcs) hS (fun q _ h => hF q h) hF (fun u t H1 locs1 ht hvm hw hB hz1 hk1 hS => ?_)
  obtain ⟨hP1, hD1⟩ := hB
  rw [ht] at hP1
  obtain ⟨hP2, hD2⟩ := va_join (wr := wr) (w1 := wsc' u) hP hD isC isR hCw hRw hnR hdis hk1 hF hP1 hD1
  exact k u H1 locs1 hP2 hD2 hS

theorem zc_MViT {E TT : va_W} {v : Int32} (hx : p.tables.exec = Jvm.exec) (hb : c.code = cc) (hml : c.maxLocals = nL) (hown : s.vm.findClass own = some m.cls) (hts : ∀ w ∈ WW, w.before args s = true) (M : Met l y (cWW y bytes maxL ret) rm (zM D ac cs (.ref b :: As) wsc H.size) (va_Qi (fun r (_ : Unit) => r = v) (fun _ => zB D (va_A wsc H.size) wsc') (va_A wsc H.size)) 0 0 (va_A wsc H.size)) (hg : GoodIn WW (wsV own index C y (cWW y bytes maxL ret))) (hyc : y.cls = C) (hd : hdY y n) (hrm : rm.cells = 0 ∧ rm.slots = 0) (hR : rm.frames + 1 ≤ R.frames ∧ 8 + (maxL + 11) + rm.locals ≤ R.locals) (hKX : KX D ac s) (hC : CX cs A s s.heap) (hS : va_S A s.heap H locs) (hA : ∀ q, s.heap.size ≤ q → A q) (hP : va_P D vwCl (E ++ TT) H) (hD : va_D A (E ++ TT)) (isC isR : List Nat) (hCw : isC.map (fun i => E[i]?) = wsc.map some) (hnC : va_nd isC = true) (hRw : isR.map (fun i => E[i]?) = wr.map some) (hnR : va_nd isR = true) (hdis : ∀ i ∈ isR, i ∉ isC) (ci : Nat) {T : u_T} {N : Nat} {fs : List Value} (hcl : vwCl[ci]? = some (C, T, N)) (hrec : wsc[0]? = some (b, .inr (ci, fs))) (hn : As.length = n) (hsz : ls.size = nL) (hst : st0 = As.reverse ++ .ref b :: rest) (hrw : (rest.map fun v => v.category).sum ≤ 8) (hcs : cells ≤ R.cells ∧ slots ≤ R.slots) (hdg : decode cc pc = .ok (.invokevirtual index, 3)) (k : ∀ (H1 : Heap) (locs1 : List Loc), va_P D vwCl ((wr ++ wsc') ++ TT) H1 → va_D A ((wr ++ wsc') ++ TT) → va_S A s.heap H1 locs1 → W p l e R s m args below meth c H1 locs1 cells slots Q (F0 m (pc + 3) ls (.int v :: rest))) : W p l e R s m args below meth c H locs cells slots Q (F0 m pc ls st0) := by
  have hPE : va_P D vwCl E H := fun k q h => hP k q (by rw [List.getElem?_append_left (List.getElem?_eq_some_iff.mp h).1]; exact h)
  have hDE : va_D A E := ⟨fun i j x y hi hj => hD.1 i j x y (by rw [List.getElem?_append_left (List.getElem?_eq_some_iff.mp hi).1]; exact hi) (by rw [List.getElem?_append_left (List.getElem?_eq_some_iff.mp hj).1]; exact hj), fun k q h => hD.2 k q (by rw [List.getElem?_append_left (List.getElem?_eq_some_iff.mp h).1]; exact h)⟩
  have hPc : va_P D vwCl wsc H := zsubP hPE isC hCw
  have hDc : va_D A wsc := hDE.sub isC hnC hCw
  have hF := va_free (wc := wsc) hDE hS hA isC hCw
  refine va_calli (va_runV ⟨hx, hb, hml, hown, hts⟩ M (cwV n hts hg rfl hrm.1 hrm.2 ⟨hyc, hd⟩ hR) (zp_MV hKX hC hS hPc hDc hF (va_recv (hKX.1) hPc hcl hrec)) rfl hn hsz hst (lv_room hrw) hdg hcs) hS (fun q _ h => hF q h) hF (fun r u t H1 locs1 ht hvm hw hB hz1 hk1 hS => ?_)
  subst hw
  obtain ⟨hP1, hD1⟩ := hB
  rw [ht] at hP1
  obtain ⟨hP2, hD2⟩ := va_joinT (wr := wr) (w1 := wsc') hP hD isC isR hCw hRw hnR hdis hk1 hF hP1 hD1
  exact k H1 locs1 hP2 hD2 hS

theorem zc_MViXT {E TT : va_W} {S : Type} {wsc' : S → va_W} {v : Int32} (hx : p.tables.exec = Jvm.exec) (hb : c.code = cc) (hml : c.maxLocals = nL) (hown : s.vm.findClass own = some m.cls) (hts : ∀ w ∈ WW, w.before args s = true) (M : Met l y (cWW y bytes maxL ret) rm (zM D ac cs (.ref b :: As) wsc H.size) (va_Qi (fun r (_ : S) => r = v) (fun u => zB D (va_A wsc H.size) (wsc' u)) (va_A wsc H.size)) 0 0 (va_A wsc H.size)) (hg : GoodIn WW (wsV own index C y (cWW y bytes maxL ret))) (hyc : y.cls = C) (hd : hdY y n) (hrm : rm.cells = 0 ∧ rm.slots = 0) (hR : rm.frames + 1 ≤ R.frames ∧ 8 + (maxL + 11) + rm.locals ≤ R.locals) (hKX : KX D ac s) (hC : CX cs A s s.heap) (hS : va_S A s.heap H locs) (hA : ∀ q, s.heap.size ≤ q → A q) (hP : va_P D vwCl (E ++ TT) H) (hD : va_D A (E ++ TT)) (isC isR : List Nat) (hCw : isC.map (fun i => E[i]?) = wsc.map some) (hnC : va_nd isC = true) (hRw : isR.map (fun i => E[i]?) = wr.map some) (hnR : va_nd isR = true) (hdis : ∀ i ∈ isR, i ∉ isC) (ci : Nat) {T : u_T} {N : Nat} {fs : List Value} (hcl : vwCl[ci]? = some (C, T, N)) (hrec : wsc[0]? = some (b, .inr (ci, fs))) (hn : As.length = n) (hsz : ls.size = nL) (hst : st0 = As.reverse ++ .ref b :: rest) (hrw : (rest.map fun v => v.category).sum ≤ 8) (hcs : cells ≤ R.cells ∧ slots ≤ R.slots) (hdg : decode cc pc = .ok (.invokevirtual index, 3)) (k : ∀ (u : S) (H1 : Heap) (locs1 : List Loc), va_P D vwCl ((wr ++ wsc' u) ++ TT) H1 → va_D A ((wr ++ wsc' u) ++ TT) → va_S A s.heap H1 locs1 → W p l e R s m args below meth c H1 locs1 cells slots Q (F0 m (pc + 3) ls (.int v :: rest))) : W p l e R s m args below meth c H locs cells slots Q (F0 m pc ls st0) := by
  have hPE : va_P D vwCl E H := fun k q h => hP k q (by rw [List.getElem?_append_left (List.getElem?_eq_some_iff.mp h).1]; exact h)
  have hDE : va_D A E := ⟨fun i j x y hi hj => hD.1 i j x y (by rw [List.getElem?_append_left (List.getElem?_eq_some_iff.mp hi).1]; exact hi) (by rw [List.getElem?_append_left (List.getElem?_eq_some_iff.mp hj).1]; exact hj), fun k q h => hD.2 k q (by rw [List.getElem?_append_left (List.getElem?_eq_some_iff.mp h).1]; exact h)⟩
  have hPc : va_P D vwCl wsc H := zsubP hPE isC hCw
  have hDc : va_D A wsc := hDE.sub isC hnC hCw
  have hF := va_free (wc := wsc) hDE hS hA isC hCw
  refine va_calli (va_runV ⟨hx, hb, hml, hown, hts⟩ M (cwV n hts hg rfl hrm.1 hrm.2 ⟨hyc, hd⟩ hR) (zp_MV hKX hC hS hPc hDc hF (va_recv (hKX.1) hPc hcl hrec)) rfl hn hsz hst (lv_room hrw) hdg hcs) hS (fun q _ h => hF q h) hF (fun r u t H1 locs1 ht hvm hw hB hz1 hk1 hS => ?_)
  subst hw
  obtain ⟨hP1, hD1⟩ := hB
  rw [ht] at hP1
  obtain ⟨hP2, hD2⟩ := va_joinT (wr := wr) (w1 := wsc' u) hP hD isC isR hCw hRw hnR hdis hk1 hF hP1 hD1
  exact k u H1 locs1 hP2 hD2 hS

theorem zc_MVlT {E TT : va_W} {v : Int64} (hx : p.tables.exec = Jvm.exec) (hb : c.code = cc) (hml : c.maxLocals = nL) (hown : s.vm.findClass own = some m.cls) (hts : ∀ w ∈ WW, w.before args s = true) (M : Met l y (cWW y bytes maxL ret) rm (zM D ac cs (.ref b :: As) wsc H.size) (va_Ql (fun r (_ : Unit) => r = v) (fun _ => zB D (va_A wsc H.size) wsc') (va_A wsc H.size)) 0 0 (va_A wsc H.size)) (hg : GoodIn WW (wsV own index C y (cWW y bytes maxL ret))) (hyc : y.cls = C) (hd : hdY y n) (hrm : rm.cells = 0 ∧ rm.slots = 0) (hR : rm.frames + 1 ≤ R.frames ∧ 8 + (maxL + 11) + rm.locals ≤ R.locals) (hKX : KX D ac s) (hC : CX cs A s s.heap) (hS : va_S A s.heap H locs) (hA : ∀ q, s.heap.size ≤ q → A q) (hP : va_P D vwCl (E ++ TT) H) (hD : va_D A (E ++ TT)) (isC isR : List Nat) (hCw : isC.map (fun i => E[i]?) = wsc.map some) (hnC : va_nd isC = true) (hRw : isR.map (fun i => E[i]?) = wr.map some) (hnR : va_nd isR = true) (hdis : ∀ i ∈ isR, i ∉ isC) (ci : Nat) {T : u_T} {N : Nat} {fs : List Value} (hcl : vwCl[ci]? = some (C, T, N)) (hrec : wsc[0]? = some (b, .inr (ci, fs))) (hn : As.length = n) (hsz : ls.size = nL) (hst : st0 = As.reverse ++ .ref b :: rest) (hrw : (rest.map fun v => v.category).sum ≤ 8) (hcs : cells ≤ R.cells ∧ slots ≤ R.slots) (hdg : decode cc pc = .ok (.invokevirtual index, 3)) (k : ∀ (H1 : Heap) (locs1 : List Loc), va_P D vwCl ((wr ++ wsc') ++ TT) H1 → va_D A ((wr ++ wsc') ++ TT) → va_S A s.heap H1 locs1 → W p l e R s m args below meth c H1 locs1 cells slots Q (F0 m (pc + 3) ls (.long v :: rest))) : W p l e R s m args below meth c H locs cells slots Q (F0 m pc ls st0) := by
  have hPE : va_P D vwCl E H := fun k q h => hP k q (by rw [List.getElem?_append_left (List.getElem?_eq_some_iff.mp h).1]; exact h)
  have hDE : va_D A E := ⟨fun i j x y hi hj => hD.1 i j x y (by rw [List.getElem?_append_left (List.getElem?_eq_some_iff.mp hi).1]; exact hi) (by rw [List.getElem?_append_left (List.getElem?_eq_some_iff.mp hj).1]; exact hj), fun k q h => hD.2 k q (by rw [List.getElem?_append_left (List.getElem?_eq_some_iff.mp h).1]; exact h)⟩
  have hPc : va_P D vwCl wsc H := zsubP hPE isC hCw
  have hDc : va_D A wsc := hDE.sub isC hnC hCw
  have hF := va_free (wc := wsc) hDE hS hA isC hCw
  refine va_calll (va_runV ⟨hx, hb, hml, hown, hts⟩ M (cwV n hts hg rfl hrm.1 hrm.2 ⟨hyc, hd⟩ hR) (zp_MV hKX hC hS hPc hDc hF (va_recv (hKX.1) hPc hcl hrec)) rfl hn hsz hst (lv_room hrw) hdg hcs) hS (fun q _ h => hF q h) hF (fun r u t H1 locs1 ht hvm hw hB hz1 hk1 hS => ?_)
  subst hw
  obtain ⟨hP1, hD1⟩ := hB
  rw [ht] at hP1
  obtain ⟨hP2, hD2⟩ := va_joinT (wr := wr) (w1 := wsc') hP hD isC isR hCw hRw hnR hdis hk1 hF hP1 hD1
  exact k H1 locs1 hP2 hD2 hS

theorem zc_MVlXT {E TT : va_W} {S : Type} {wsc' : S → va_W} {v : Int64} (hx : p.tables.exec = Jvm.exec) (hb : c.code = cc) (hml : c.maxLocals = nL) (hown : s.vm.findClass own = some m.cls) (hts : ∀ w ∈ WW, w.before args s = true) (M : Met l y (cWW y bytes maxL ret) rm (zM D ac cs (.ref b :: As) wsc H.size) (va_Ql (fun r (_ : S) => r = v) (fun u => zB D (va_A wsc H.size) (wsc' u)) (va_A wsc H.size)) 0 0 (va_A wsc H.size)) (hg : GoodIn WW (wsV own index C y (cWW y bytes maxL ret))) (hyc : y.cls = C) (hd : hdY y n) (hrm : rm.cells = 0 ∧ rm.slots = 0) (hR : rm.frames + 1 ≤ R.frames ∧ 8 + (maxL + 11) + rm.locals ≤ R.locals) (hKX : KX D ac s) (hC : CX cs A s s.heap) (hS : va_S A s.heap H locs) (hA : ∀ q, s.heap.size ≤ q → A q) (hP : va_P D vwCl (E ++ TT) H) (hD : va_D A (E ++ TT)) (isC isR : List Nat) (hCw : isC.map (fun i => E[i]?) = wsc.map some) (hnC : va_nd isC = true) (hRw : isR.map (fun i => E[i]?) = wr.map some) (hnR : va_nd isR = true) (hdis : ∀ i ∈ isR, i ∉ isC) (ci : Nat) {T : u_T} {N : Nat} {fs : List Value} (hcl : vwCl[ci]? = some (C, T, N)) (hrec : wsc[0]? = some (b, .inr (ci, fs))) (hn : As.length = n) (hsz : ls.size = nL) (hst : st0 = As.reverse ++ .ref b :: rest) (hrw : (rest.map fun v => v.category).sum ≤ 8) (hcs : cells ≤ R.cells ∧ slots ≤ R.slots) (hdg : decode cc pc = .ok (.invokevirtual index, 3)) (k : ∀ (u : S) (H1 : Heap) (locs1 : List Loc), va_P D vwCl ((wr ++ wsc' u) ++ TT) H1 → va_D A ((wr ++ wsc' u) ++ TT) → va_S A s.heap H1 locs1 → W p l e R s m args below meth c H1 locs1 cells slots Q (F0 m (pc + 3) ls (.long v :: rest))) : W p l e R s m args below meth c H locs cells slots Q (F0 m pc ls st0) := by
  have hPE : va_P D vwCl E H := fun k q h => hP k q (by rw [List.getElem?_append_left (List.getElem?_eq_some_iff.mp h).1]; exact h)
  have hDE : va_D A E := ⟨fun i j x y hi hj => hD.1 i j x y (by rw [List.getElem?_append_left (List.getElem?_eq_some_iff.mp hi).1]; exact hi) (by rw [List.getElem?_append_left (List.getElem?_eq_some_iff.mp hj).1]; exact hj), fun k q h => hD.2 k q (by rw [List.getElem?_append_left (List.getElem?_eq_some_iff.mp h).1]; exact h)⟩
  have hPc : va_P D vwCl wsc H := zsubP hPE isC hCw
  have hDc : va_D A wsc := hDE.sub isC hnC hCw
  have hF := va_free (wc := wsc) hDE hS hA isC hCw
  refine va_calll (va_runV ⟨hx, hb, hml, hown, hts⟩ M (cwV n hts hg rfl hrm.1 hrm.2 ⟨hyc, hd⟩ hR) (zp_MV hKX hC hS hPc hDc hF (va_recv (hKX.1) hPc hcl hrec)) rfl hn hsz hst (lv_room hrw) hdg hcs) hS (fun q _ h => hF q h) hF (fun r u t H1 locs1 ht hvm hw hB hz1 hk1 hS => ?_)
  subst hw
  obtain ⟨hP1, hD1⟩ := hB
  rw [ht] at hP1
  obtain ⟨hP2, hD2⟩ := va_joinT (wr := wr) (w1 := wsc' u) hP hD isC isR hCw hRw hnR hdis hk1 hF hP1 hD1
  exact k u H1 locs1 hP2 hD2 hS

theorem zc_MVvT {E TT : va_W} (hx : p.tables.exec = Jvm.exec) (hb : c.code = cc) (hml : c.maxLocals = nL) (hown : s.vm.findClass own = some m.cls) (hts : ∀ w ∈ WW, w.before args s = true) (M : Met l y (cWW y bytes maxL ret) rm (zM D ac cs (.ref b :: As) wsc H.size) (va_Qv (fun _ : Unit => True) (fun _ => zB D (va_A wsc H.size) wsc') (va_A wsc H.size)) 0 0 (va_A wsc H.size)) (hg : GoodIn WW (wsV own index C y (cWW y bytes maxL ret))) (hyc : y.cls = C) (hd : hdY y n) (hrm : rm.cells = 0 ∧ rm.slots = 0) (hR : rm.frames + 1 ≤ R.frames ∧ 8 + (maxL + 11) + rm.locals ≤ R.locals) (hKX : KX D ac s) (hC : CX cs A s s.heap) (hS : va_S A s.heap H locs) (hA : ∀ q, s.heap.size ≤ q → A q) (hP : va_P D vwCl (E ++ TT) H) (hD : va_D A (E ++ TT)) (isC isR : List Nat) (hCw : isC.map (fun i => E[i]?) = wsc.map some) (hnC : va_nd isC = true) (hRw : isR.map (fun i => E[i]?) = wr.map some) (hnR : va_nd isR = true) (hdis : ∀ i ∈ isR, i ∉ isC) (ci : Nat) {T : u_T} {N : Nat} {fs : List Value} (hcl : vwCl[ci]? = some (C, T, N)) (hrec : wsc[0]? = some (b, .inr (ci, fs))) (hn : As.length = n) (hsz : ls.size = nL) (hst : st0 = As.reverse ++ .ref b :: rest) (hrw : (rest.map fun v => v.category).sum ≤ 8) (hcs : cells ≤ R.cells ∧ slots ≤ R.slots) (hdg : decode cc pc = .ok (.invokevirtual index, 3)) (k : ∀ (H1 : Heap) (locs1 : List Loc), va_P D vwCl ((wr ++ wsc') ++ TT) H1 → va_D A ((wr ++ wsc') ++ TT) → va_S A s.heap H1 locs1 → W p l e R s m args below meth c H1 locs1 cells slots Q (F0 m (pc + 3) ls (rest))) : W p l e R s m args below meth c H locs cells slots Q (F0 m pc ls st0) := by
  have hPE : va_P D vwCl E H := fun k q h => hP k q (by rw [List.getElem?_append_left (List.getElem?_eq_some_iff.mp h).1]; exact h)
  have hDE : va_D A E := ⟨fun i j x y hi hj => hD.1 i j x y (by rw [List.getElem?_append_left (List.getElem?_eq_some_iff.mp hi).1]; exact hi) (by rw [List.getElem?_append_left (List.getElem?_eq_some_iff.mp hj).1]; exact hj), fun k q h => hD.2 k q (by rw [List.getElem?_append_left (List.getElem?_eq_some_iff.mp h).1]; exact h)⟩
  have hPc : va_P D vwCl wsc H := zsubP hPE isC hCw
  have hDc : va_D A wsc := hDE.sub isC hnC hCw
  have hF := va_free (wc := wsc) hDE hS hA isC hCw
  refine va_callv (va_runV ⟨hx, hb, hml, hown, hts⟩ M (cwV n hts hg rfl hrm.1 hrm.2 ⟨hyc, hd⟩ hR) (zp_MV hKX hC hS hPc hDc hF (va_recv (hKX.1) hPc hcl hrec)) rfl hn hsz hst (lv_room hrw) hdg hcs) hS (fun q _ h => hF q h) hF (fun u t H1 locs1 ht hvm hw hB hz1 hk1 hS => ?_)
  obtain ⟨hP1, hD1⟩ := hB
  rw [ht] at hP1
  obtain ⟨hP2, hD2⟩ := va_joinT (wr := wr) (w1 := wsc') hP hD isC isR hCw hRw hnR hdis hk1 hF hP1 hD1
  exact k H1 locs1 hP2 hD2 hS

theorem zc_MVvXT {E TT : va_W} {S : Type} {wsc' : S → va_W} (hx : p.tables.exec = Jvm.exec) (hb : c.code = cc) (hml : c.maxLocals = nL) (hown : s.vm.findClass own = some m.cls) (hts : ∀ w ∈ WW, w.before args s = true) (M : Met l y (cWW y bytes maxL ret) rm (zM D ac cs (.ref b :: As) wsc H.size) (va_Qv (fun _ : S => True) (fun u => zB D (va_A wsc H.size) (wsc' u)) (va_A wsc H.size)) 0 0 (va_A wsc H.size)) (hg : GoodIn WW (wsV own index C y (cWW y bytes maxL ret))) (hyc : y.cls = C) (hd : hdY y n) (hrm : rm.cells = 0 ∧ rm.slots = 0) (hR : rm.frames + 1 ≤ R.frames ∧ 8 + (maxL + 11) + rm.locals ≤ R.locals) (hKX : KX D ac s) (hC : CX cs A s s.heap) (hS : va_S A s.heap H locs) (hA : ∀ q, s.heap.size ≤ q → A q) (hP : va_P D vwCl (E ++ TT) H) (hD : va_D A (E ++ TT)) (isC isR : List Nat) (hCw : isC.map (fun i => E[i]?) = wsc.map some) (hnC : va_nd isC = true) (hRw : isR.map (fun i => E[i]?) = wr.map some) (hnR : va_nd isR = true) (hdis : ∀ i ∈ isR, i ∉ isC) (ci : Nat) {T : u_T} {N : Nat} {fs : List Value} (hcl : vwCl[ci]? = some (C, T, N)) (hrec : wsc[0]? = some (b, .inr (ci, fs))) (hn : As.length = n) (hsz : ls.size = nL) (hst : st0 = As.reverse ++ .ref b :: rest) (hrw : (rest.map fun v => v.category).sum ≤ 8) (hcs : cells ≤ R.cells ∧ slots ≤ R.slots) (hdg : decode cc pc = .ok (.invokevirtual index, 3)) (k : ∀ (u : S) (H1 : Heap) (locs1 : List Loc), va_P D vwCl ((wr ++ wsc' u) ++ TT) H1 → va_D A ((wr ++ wsc' u) ++ TT) → va_S A s.heap H1 locs1 → W p l e R s m args below meth c H1 locs1 cells slots Q (F0 m (pc + 3) ls (rest))) : W p l e R s m args below meth c H locs cells slots Q (F0 m pc ls st0) := by
  have hPE : va_P D vwCl E H := fun k q h => hP k q (by rw [List.getElem?_append_left (List.getElem?_eq_some_iff.mp h).1]; exact h)
  have hDE : va_D A E := ⟨fun i j x y hi hj => hD.1 i j x y (by rw [List.getElem?_append_left (List.getElem?_eq_some_iff.mp hi).1]; exact hi) (by rw [List.getElem?_append_left (List.getElem?_eq_some_iff.mp hj).1]; exact hj), fun k q h => hD.2 k q (by rw [List.getElem?_append_left (List.getElem?_eq_some_iff.mp h).1]; exact h)⟩
  have hPc : va_P D vwCl wsc H := zsubP hPE isC hCw
  have hDc : va_D A wsc := hDE.sub isC hnC hCw
  have hF := va_free (wc := wsc) hDE hS hA isC hCw
  refine va_callv (va_runV ⟨hx, hb, hml, hown, hts⟩ M (cwV n hts hg rfl hrm.1 hrm.2 ⟨hyc, hd⟩ hR) (zp_MV hKX hC hS hPc hDc hF (va_recv (hKX.1) hPc hcl hrec)) rfl hn hsz hst (lv_room hrw) hdg hcs) hS (fun q _ h => hF q h) hF (fun u t H1 locs1 ht hvm hw hB hz1 hk1 hS => ?_)
  obtain ⟨hP1, hD1⟩ := hB
  rw [ht] at hP1
  obtain ⟨hP2, hD2⟩ := va_joinT (wr := wr) (w1 := wsc' u) hP hD isC isR hCw hRw hnR hdis hk1 hF hP1 hD1
  exact k u H1 locs1 hP2 hD2 hS

theorem zc_RViS {v : Int32} (hx : p.tables.exec = Jvm.exec) (hb : c.code = cc) (hml : c.maxLocals = nL) (hown : s.vm.findClass own = some m.cls) (hts : ∀ w ∈ WW, w.before args s = true) (M : Met l y (cWW y bytes maxL ret) rm (zR D ac cs (.ref b :: As) wsc) (vp_Si (fun r => r = v)) 0 0 (fun _ => False)) (hg : GoodIn WW (wsV own index C y (cWW y bytes maxL ret))) (hyc : y.cls = C) (hd : hdY y n) (hrm : rm.cells = 0 ∧ rm.slots = 0) (hR : rm.frames + 1 ≤ R.frames ∧ 8 + (maxL + 11) + rm.locals ≤ R.locals) (hKX : KX D ac s) (hC : CX cs A s s.heap) (hS : va_S A s.heap H locs) (hPc : va_P D vwCl wsc H) (recv : ∃ cellB : Cell, H[b]? = some cellB ∧ cellB.vm.isStatics = false ∧ s.vm.findClass C = some cellB.cls) (hn : As.length = n) (hsz : ls.size = nL) (hst : st0 = As.reverse ++ .ref b :: rest) (hrw : (rest.map fun v => v.category).sum ≤ 8) (hcs : cells ≤ R.cells ∧ slots ≤ R.slots) (hdg : decode cc pc = .ok (.invokevirtual index, 3)) (k : W p l e R s m args below meth c H locs cells slots Q (F0 m (pc + 3) ls (.int v :: rest))) : W p l e R s m args below meth c H locs cells slots Q (F0 m pc ls st0) := by
  exact vp_callSi (zrun (va_runV ⟨hx, hb, hml, hown, hts⟩ M (cwV n hts hg rfl hrm.1 hrm.2 ⟨hyc, hd⟩ hR) (zp_RV hKX hC hS hPc recv) rfl hn hsz hst (lv_room hrw) hdg hcs)) (fun r hr => by subst hr; exact k)

theorem zc_RSv (hx : p.tables.exec = Jvm.exec) (hb : c.code = cc) (hml : c.maxLocals = nL) (hown : s.vm.findClass own = some m.cls) (hts : ∀ w ∈ WW, w.before args s = true) (M : Met l y (cWW y bytes maxL ret) rm (zR D ac cs As wsc) (va_Sv (fun _ => True)) 0 0 (fun _ => False)) (hg : GoodIn WW (va_wsS own index y (cWW y bytes maxL ret))) (hd : hdY y n) (hrm : rm.cells = 0 ∧ rm.slots = 0) (hR : rm.frames + 1 ≤ R.frames ∧ 8 + (maxL + 11) + rm.locals ≤ R.locals) (hKX : KX D ac s) (hC : CX cs A s s.heap) (hS : va_S A s.heap H locs) (hPc : va_P D vwCl wsc H) (hn : As.length = n) (hsz : ls.size = nL) (hst : st0 = As.reverse ++ rest) (hrw : (rest.map fun v => v.category).sum ≤ 8) (hcs : cells ≤ R.cells ∧ slots ≤ R.slots) (hdg : decode cc pc = .ok (.invokestatic index, 3)) (k : W p l e R s m args below meth c H locs cells slots Q (F0 m (pc + 3) ls rest)) : W p l e R s m args below meth c H locs cells slots Q (F0 m pc ls st0) := by
  exact va_csv (zrun (va_runS ⟨hx, hb, hml, hown, hts⟩ M (va_cwS n hts hg rfl hrm.1 hrm.2 hd hR) (zp_RS hKX hC hS hPc ) rfl hn hsz hst (lv_room hrw) hdg hcs)) (fun _ => k)

end ZCALL

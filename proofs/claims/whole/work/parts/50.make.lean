/-! making: arrays, objects, constructors' calls -/
def zq (l : List Nat) (i : Nat) : Nat := l.getD i 0
section ZNEW
variable {p : Program} {l : Launch} {e : Env} {R : Room} {s : State} {m : MethodId} {args : Array Value} {below : List Frame} {meth : Method} {c : Code} {H : Heap} {locs : List Loc} {cells slots : Nat} {Q : State → Prop}
variable {cc bytes : ByteArray} {pc nL maxL n index mc ms : Nat} {ls : Array Slot} {rest st0 As : List Value} {b : Nat} {own C : String} {y : MethodName} {rm : Room} {D : va_G} {ac cs : Nat → Nat} {A : Nat → Prop} {ws wsc wr : va_W} {H0 : Heap}
theorem zac_p {cA : ClassId} {ty : FieldType} (k : Nat) (htk : (tyK ac)[k]? = some (ac k, ty)) (hp : ∀ (U : State) (c : ClassId), va_RA U c ty → U.vm.findClass ("[" ++ ty.toString) = some c) (hK : va_K D vwCl (tyK ac) s) (hK2 : va_K D vwCl (tyK ac ++ [(cA, ty)]) s) : cA = ac k := by
  have h1 := hp _ _ (hK.2 k _ htk).2
  have h2 := hp _ _ (hK2.2 6 (cA, ty) rfl).2
  exact Option.some.inj (h2.symm.trans h1)
theorem zn_arr {atype : ArrayType} {ty : FieldType} (k : Nat) (htk : (tyK ac)[k]? = some (ac k, ty)) (hp : ∀ (U : State) (c : ClassId), va_RA U c ty → U.vm.findClass ("[" ++ ty.toString) = some c) (hx : p.tables.exec = Jvm.exec) (hb : c.code = cc) (harr : (Cond.arrayClass (newarray.typeOf atype)).before args s = true) (hty : newarray.typeOf atype = ty) (hKX : KX D ac s) (hP : va_P D vwCl ws H) (hD : va_D A ws) (hS : va_S A H0 H locs) (hA : ∀ q, H0.size ≤ q → A q)
    {n : Int32} {N' : Nat} {a0 : vp_A} (ha : ∀ cA : ClassId, vp_cell cA a0 = arrV cA N' (fun _ => defaultValue ty)) (hn : ¬ n < 0) (hN : n.toNatClampNeg = N') (hbytes : N' * componentBytes ty ≤ 536870912) (hcells : cells + 1 ≤ R.cells) (hslots : slots + N' ≤ R.slots) (hdg : decode cc pc = .ok (.newarray atype, 2))
    (kk : ∀ (q : Nat) (H1 : Heap), va_P D vwCl (ws ++ [(q, .inl (ac k, a0))]) H1 → va_D A (ws ++ [(q, .inl (ac k, a0))]) → va_S A H0 H1 locs → W p l e R s m args below meth c H1 locs (cells + 1) (slots + N') Q (F0 m (pc + 2) ls (.ref q :: rest))) : W p l e R s m args below meth c H locs cells slots Q (F0 m pc ls (.int n :: rest)) := by
  refine va_newa hx hb harr hty hKX.1 hP hD hS hA ha hn hN hbytes hcells hslots hdg (fun q cA H1 hK2 hP2 hD2 hS2 => ?_)
  obtain rfl := zac_p k htk hp hKX.1 hK2
  exact kk q H1 hP2 hD2 hS2
theorem zn_refs (hx : p.tables.exec = Jvm.exec) (hb : c.code = cc) (hown : s.vm.findClass own = some m.cls) (hcl : (Cond.classLink own index "KickOdds$Shootout").before args s = true) (hAO : va_AO "KickOdds$Shootout" s) (hKX : KX D ac s) (hP : va_P D vwCl ws H) (hD : va_D A ws) (hS : va_S A H0 H locs) (hA : ∀ q, H0.size ≤ q → A q)
    {n : Int32} {N' : Nat} (hn : ¬ n < 0) (hN : n.toNatClampNeg = N') (hbytes : N' * 4 ≤ 536870912) (hcells : cells + 1 ≤ R.cells) (hslots : slots + N' ≤ R.slots) (hdg : decode cc pc = .ok (.anewarray index, 3))
    (kk : ∀ (q : Nat) (H1 : Heap), va_P D vwCl (ws ++ [(q, .inl (ac 5, N', .inr (.inr (.inr (.inr (fun _ => none))))))]) H1 → va_D A (ws ++ [(q, .inl (ac 5, N', .inr (.inr (.inr (.inr (fun _ => none))))))]) → va_S A H0 H1 locs → W p l e R s m args below meth c H1 locs (cells + 1) (slots + N') Q (F0 m (pc + 3) ls (.ref q :: rest))) : W p l e R s m args below meth c H locs cells slots Q (F0 m pc ls (.int n :: rest)) := by
  refine va_newq hx hb hown hcl hAO hKX.1 hP hD hS hA hn hN hbytes hcells hslots hdg (fun q cA H1 hK2 hP2 hD2 hS2 => ?_)
  obtain rfl := zac_p (ty := .object "KickOdds$Shootout") 5 rfl (fun U c h => by obtain ⟨_, _, _, _, _, h⟩ := h; exact h) hKX.1 hK2
  exact kk q H1 hP2 hD2 hS2
/-- a constructor's call; what it makes is counted -/
theorem zc_I0 {S : Type} {post : S → Prop} {wf : S → va_W} {ci : Nat} {fs : List Value} (hrun : va_Run p l e R s m args below meth c H locs cells slots mc ms (F0 m pc ls st0) rest (va_Qv post (fun u => zB D (va_A wsc H.size) (wf u)) (va_A wsc H.size) (Value.ref b :: As).toArray) (va_A wsc H.size)) (hS : va_S A s.heap H locs) (hA : ∀ q, s.heap.size ≤ q → A q) (hP : va_P D vwCl ws H) (hD : va_D A ws) (isC isR : List Nat) (hCw : isC.map (fun i => ws[i]?) = wsc.map some) (hRw : isR.map (fun i => ws[i]?) = wr.map some) (hnR : va_nd isR = true) (hdis : ∀ i ∈ isR, i ∉ isC)
    (k : ∀ (u : S) (H1 : Heap) (locs1 : List Loc), post u → va_P D vwCl (wr ++ wf u) H1 → va_D A (wr ++ wf u) → va_S A s.heap H1 locs1 → W p l e R s m args below meth c H1 locs1 (cells + mc) (slots + ms) Q (F0 m (pc + 3) ls rest)) : W p l e R s m args below meth c H locs cells slots Q (F0 m pc ls st0) := by
  have hF := va_free (wc := wsc) hD hS hA isC hCw
  refine va_callv hrun hS (fun q _ h => hF q h) hF (fun u t H1 locs1 ht hvm hw hB hz1 hk1 hS => ?_)
  obtain ⟨hP1, hD1⟩ := hB
  rw [ht] at hP1
  obtain ⟨hP2, hD2⟩ := va_join (wr := wr) (w1 := wf u) hP hD isC isR hCw hRw hnR hdis hk1 hF hP1 hD1
  exact k u H1 locs1 hw hP2 hD2 hS
theorem zp_I (hKX : KX D ac s) (hC : CX cs A s s.heap) (hS : va_S A s.heap H locs) (hA : ∀ q, s.heap.size ≤ q → A q) (hP : va_P D vwCl ws H) (hD : va_D A ws) (isC : List Nat) (hCw : isC.map (fun i => ws[i]?) = wsc.map some) (hnC : va_nd isC = true) : PreS s H (zM D ac cs (.ref b :: As) wsc H.size) (.ref b :: As) :=
  zp_MS hKX hC hS (zsubP hP isC hCw) (hD.sub isC hnC hCw) (va_free (wc := wsc) hD hS hA isC hCw)
end ZNEW
/-! first states -/
def Sh0 : Sh := (0, 0, 0, 0, 0, 0, 0, 0, (fun _ => 0), (fun _ => 0))
def Fr0 : Fr := (0, 1)
def Tx0 : Tx := ((fun _ => 0), 0)
def Te0 : Te := ((fun _ => 0), 0, 0, 0)
def Fc0 : Fc := ((fun _ => 0), (fun _ => 0), (fun _ => 0), (fun _ => 0), 0, 0, 0, 0, 0, 0, 0, 0, 0, 0, 1)
def Re0 : Re := ((fun _ => 0), (fun _ => 0), (fun _ => 0), (fun _ => 0), (fun _ => 0), 0, 0, 0, 0, 0)

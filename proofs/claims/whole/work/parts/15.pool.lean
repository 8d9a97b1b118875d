/-! worlds up to their order; a ring of shootouts -/
def ringW (ac : Nat → Nat) (a : Nat → Nat → Nat) (rg : Nat → Sh) : va_W := (List.range 20).flatMap (fun i => shW ac (a (20 + i)) (rg i))
def ringR (ac : Nat → Nat) (a : Nat → Nat → Nat) (rg : Nat → Sh) (j : Nat) : va_W := ((List.range 20).erase j).flatMap (fun i => shW ac (a (20 + i)) (rg i))
theorem zring {ac : Nat → Nat} {a : Nat → Nat → Nat} {rg : Nat → Sh} {j : Nat} (hj : j < 20) : (ringW ac a rg).Perm (shW ac (a (20 + j)) (rg j) ++ ringR ac a rg j) :=
  List.Perm.flatMap_right (fun i => shW ac (a (20 + i)) (rg i)) (List.perm_cons_erase (List.mem_range.mpr hj))
theorem zringR {ac : Nat → Nat} {a : Nat → Nat → Nat} {rg : Nat → Sh} {j : Nat} (x : Sh) : ringR ac a (va_up rg j x) j = ringR ac a rg j := by
  have h : ∀ l : List Nat, (∀ i ∈ l, i ≠ j) → l.flatMap (fun i => shW ac (a (20 + i)) (va_up rg j x i)) = l.flatMap (fun i => shW ac (a (20 + i)) (rg i)) := by
    intro l
    induction l with
    | nil => intro _; rfl
    | cons y l ih =>
      intro hl
      rw [List.flatMap_cons, List.flatMap_cons, ih (fun i hi => hl i (List.mem_cons_of_mem _ hi)), va_up_ne _ _ (hl y List.mem_cons_self)]
  exact h _ (fun i hi => ((List.nodup_range (n := 20)).mem_erase_iff.mp hi).1)
theorem zring2 {ac : Nat → Nat} {a : Nat → Nat → Nat} {rg : Nat → Sh} {j : Nat} (hj : j < 20) (x : Sh) : (ringW ac a (va_up rg j x)).Perm (shW ac (a (20 + j)) x ++ ringR ac a rg j) := by
  have h := zring (ac := ac) (a := a) (rg := va_up rg j x) hj
  rw [zringR, va_up_self] at h
  exact h
section ZPERM
variable {D : va_G} {A : Nat → Prop} {H : Heap} {ws ws' : va_W}
theorem zP_iff : va_P D vwCl ws H ↔ ∀ q ∈ ws, va_at D vwCl q H := ⟨fun h q hq => by obtain ⟨k, hk⟩ := List.getElem?_of_mem hq; exact h k q hk, fun h k q hk => h q (List.mem_of_getElem? hk)⟩
theorem zP_perm (h : ws.Perm ws') (hP : va_P D vwCl ws H) : va_P D vwCl ws' H := zP_iff.mpr (fun q hq => zP_iff.mp hP q (h.mem_iff.mpr hq))
theorem zD_iff : va_D A ws ↔ (ws.map (fun q => q.1)).Nodup ∧ ∀ q ∈ ws, A q.1 := by
  constructor
  · intro h
    refine ⟨?_, fun q hq => by obtain ⟨k, hk⟩ := List.getElem?_of_mem hq; exact h.2 k q hk⟩
    rw [List.Nodup, List.pairwise_iff_getElem]
    intro i j hi hj hij e
    simp only [List.length_map] at hi hj
    simp only [List.getElem_map] at e
    have := h.1 i j ws[i] ws[j] (List.getElem?_eq_getElem hi) (List.getElem?_eq_getElem hj) e
    omega
  · intro h
    refine ⟨fun i j p q hi hj e => ?_, fun k q hk => h.2 q (List.mem_of_getElem? hk)⟩
    obtain ⟨hi1, hi2⟩ := List.getElem?_eq_some_iff.mp hi
    obtain ⟨hj1, hj2⟩ := List.getElem?_eq_some_iff.mp hj
    have hn := h.1
    rw [List.Nodup, List.pairwise_iff_getElem] at hn
    have e2 : ws[i].1 = ws[j].1 := by rw [hi2, hj2]; exact e
    rcases Nat.lt_trichotomy i j with hlt | heq | hgt
    · exact absurd (by rw [List.getElem_map, List.getElem_map]; exact e2) (hn i j (by simpa using hi1) (by simpa using hj1) hlt)
    · exact heq
    · exact absurd (by rw [List.getElem_map, List.getElem_map]; exact e2.symm) (hn j i (by simpa using hj1) (by simpa using hi1) hgt)
theorem zD_perm (h : ws.Perm ws') (hD : va_D A ws) : va_D A ws' := zD_iff.mpr ⟨(h.map _).nodup_iff.mp (zD_iff.mp hD).1, fun q hq => (zD_iff.mp hD).2 q (h.mem_iff.mpr hq)⟩
theorem zP_nil (hP : va_P D vwCl ws H) : va_P D vwCl (ws ++ []) H := by rw [List.append_nil]; exact hP
theorem zD_nil (hD : va_D A ws) : va_D A (ws ++ []) := by rw [List.append_nil]; exact hD
theorem zP_un (hP : va_P D vwCl (([] ++ ws) ++ []) H) : va_P D vwCl ws H := by rw [List.append_nil, List.nil_append] at hP; exact hP
theorem zD_un (hD : va_D A (([] ++ ws) ++ [])) : va_D A ws := by rw [List.append_nil, List.nil_append] at hD; exact hD
theorem zrange (l : va_W) : (List.range l.length).map (fun i => l[i]?) = l.map some := by
  apply List.ext_getElem?
  intro i
  rw [List.getElem?_map, List.getElem?_map]
  by_cases hi : i < l.length
  · rw [List.getElem?_range hi, List.getElem?_eq_getElem hi]; simp [hi]
  · rw [List.getElem?_eq_none (by simpa using hi), List.getElem?_eq_none (by simpa using hi)]; rfl
theorem znd_of : ∀ {l : List Nat}, l.Nodup → va_nd l = true
  | [], _ => rfl
  | x :: l, h => by
    have h1 := List.nodup_cons.mp h
    simp [va_nd, znd_of h1.2, h1.1]
theorem zndr (n : Nat) : va_nd (List.range n) = true := znd_of List.nodup_range
theorem zidx {E E' : va_W} (is : List Nat) (hs : is.map (fun i => E[i]?) = E'.map some) {n : Nat} (hl : E.length = n) (hp : (List.range n).Perm is) : E.Perm E' := by
  subst hl
  have h1 : (E.map some).Perm (E'.map some) := by rw [← hs, ← zrange E]; exact hp.map _
  have h2 := h1.filterMap (fun o => o)
  have hh : ∀ l : va_W, (l.map some).filterMap (fun o => o) = l := by
    intro l
    induction l with
    | nil => rfl
    | cons x l ih => rw [List.map_cons, List.filterMap_cons]; exact congrArg (x :: ·) ih
  rw [hh, hh] at h2
  exact h2
theorem zpermT {E C Rr T : va_W} (is : List Nat) (hs : is.map (fun i => E[i]?) = (C ++ Rr).map some) {n : Nat} (hl : E.length = n) (hp : (List.range n).Perm is) : (E ++ T).Perm ((C ++ T) ++ Rr) := by
  refine ((zidx is hs hl hp).append_right T).trans ?_
  rw [List.append_assoc, List.append_assoc]
  exact List.Perm.append_left C List.perm_append_comm
theorem zpush {P S J Rr T : va_W} (h : T.Perm (J ++ Rr)) : ((P ++ S) ++ T).Perm ((J ++ S) ++ (P ++ Rr)) := by
  refine (List.Perm.append_left (P ++ S) h).trans ?_
  rw [List.append_assoc, List.append_assoc]
  refine (List.Perm.append_left P (List.perm_append_comm_assoc S J Rr)).trans ?_
  refine (List.perm_append_comm_assoc P J (S ++ Rr)).trans ?_
  exact List.Perm.append_left J (List.perm_append_comm_assoc P S Rr)
theorem zpop {P S J Rr T : va_W} (h : T.Perm (J ++ Rr)) : ((P ++ S) ++ T).Perm ((S ++ J) ++ (P ++ Rr)) := by
  refine (zpush h).trans ?_
  exact List.Perm.append_right (P ++ Rr) List.perm_append_comm
theorem z_k1 {k : Int32} {a : Nat → Nat → Nat} (h : ¬ k = 0) (hin : vp_in k 2) : (fun i : Nat => if i = 0 then some (a 40 0) else if i = 1 then some (a 41 0) else none) k.toNatClampNeg = some (a 41 0) := by
  obtain ⟨j, hj, rfl⟩ := vp_in_of hin (by decide)
  have hj1 : j = 1 := by
    rcases (show j = 0 ∨ j = 1 by omega) with e | e
    · subst e; exact absurd nI_0 h
    · exact e
  subst hj1
  rw [nI_clamp (by decide)]
  rfl
theorem z_in_lt {i : Int32} {n : Nat} (h : vp_in i n) : i.toNatClampNeg < n := Nat.not_le.mp fun q => h (Or.inr q)
end ZPERM
section ZALD
variable {p : Program} {l : Launch} {e : Env} {R : Room} {s : State} {m : MethodId} {args : Array Value} {below : List Frame} {meth : Method} {c : Code} {H : Heap} {locs : List Loc} {cells slots : Nat} {Q : State → Prop}
variable {cc : ByteArray} {pc : Nat} {ls : Array Slot} {rest : List Value} {D : va_G} {cl : List vw_C} {A : Nat → Prop} {a : Nat} {tys : List (ClassId × FieldType)} {ws : va_W} {H0 : Heap}
theorem zv_aldq (hx : p.tables.exec = Jvm.exec) (hb : c.code = cc) (hK : va_K D cl tys s) (hP : va_P D cl ws H) (q0 t0 : Nat) {cA : ClassId} {C : String} {n b : Nat} {f : Nat → Option Nat} (ha : ws[q0]? = some (a, .inl (cA, n, .inr (.inr (.inr (.inr f)))))) (ht : tys[t0]? = some (cA, .object C)) {i : Int32} (hin : vp_in i n) (hv : f i.toNatClampNeg = some b) (hdg : decode cc pc = .ok (.aaload, 1))
    (kk : W p l e R s m args below meth c H locs cells slots Q (F0 m (pc + 1) ls (.ref b :: rest))) : W p l e R s m args below meth c H locs cells slots Q (F0 m pc ls (.int i :: .ref a :: rest)) := va_aldq hx hb hK hP q0 t0 ha ht hin hdg (by rw [hv]; exact kk)
theorem zv_ldcwS (hx : p.tables.exec = Jvm.exec) (hb : c.code = cc) {own tx : String} {index q : Nat} (hown : s.vm.findClass own = some m.cls) (hZ : vk_R own index tx q s) (hdg : decode cc pc = .ok (.ldc_w index, 3))
    (k : W p l e R s m args below meth c H locs cells slots Q (F0 m (pc + 3) ls (.ref q :: rest))) : W p l e R s m args below meth c H locs cells slots Q (F0 m pc ls rest) := by
  intro T hT X
  obtain ⟨t, a1, b1⟩ := k T hT X
  refine ⟨t, ?_, b1⟩
  have hconst : (Cond.stringRef own index tx).before args s = true := hZ.1
  have hev : (Term.string own index).eval args s none [] s = some (.ref q) := hZ.2
  obtain ⟨k', cf, i, a', hk, hcf, hcp, -, hr, hev'⟩ := Cond.stringRef_spec hown hconst
  cases hev.symm.trans hev'
  obtain ⟨k2, hk2, he⟩ := X.warmed.alike.2.2 _ _ hk
  have hr' : k2.resolved[index]? = some (some (.string q)) := by
    rcases X.warmed.entry hk hk2 index with h | ⟨h, -⟩
    · rw [h]; exact hr
    · rw [hr] at h; cases h
  subst hb
  jvm_step X.here [hx, hdg, ldc_w.wp_string (e := e) (s := T) (f := F0 m pc ls rest) X.here.top hk2 (by rw [he]; exact hcf) hcp hr']
  exact a1
end ZALD

/-! the words of a walk: the pure functions' own combinators, worlds, contracts -/
def z_let {α β : Type} (e : α) (f : α → β) : β := f e
theorem z_let_u {α β : Type} {e v : α} {f : α → β} {r : β} (hv : v = e) (h : z_let e f = r) : f v = r := by subst hv; exact h
def z_gd {β : Type} (c : Bool) (k : Option β) : Option β := if c = true then k else none
theorem z_gd_u {β : Type} {c : Bool} {k : Option β} {r : β} (h : z_gd c k = some r) : c = true ∧ k = some r := by
  unfold z_gd at h
  split at h
  · exact ⟨by assumption, h⟩
  · cases h
def z_bd {α β : Type} (x : Option α) (f : α → Option β) : Option β := match x with
  | none => none
  | some a => f a
theorem z_bd_u {α β : Type} {x : Option α} {f : α → Option β} {r : β} (h : z_bd x f = some r) : ∃ a, x = some a ∧ f a = some r := by
  cases x with
  | none => cases h
  | some a => exact ⟨a, rfl, h⟩
theorem z_p {β : Type} {c : Prop} {d : Decidable c} {a b r : β} (hc : c) (h : (@ite β c d a b) = r) : a = r := by rw [if_pos hc] at h; exact h
theorem z_n {β : Type} {c : Prop} {d : Decidable c} {a b r : β} (hc : ¬ c) (h : (@ite β c d a b) = r) : b = r := by rw [if_neg hc] at h; exact h
def z_jn {α β : Type} (k : α → β) (t : (α → β) → β) : β := t k
theorem z_jn_u {α β : Type} {K : α → β} {t : (α → β) → β} {r : β} (h : z_jn K t = r) : ∃ k : α → β, (∀ v, k v = r → K v = r) ∧ t k = r := ⟨K, fun _ h => h, h⟩
def z_in (i : Int32) (n : Nat) : Bool := decide (¬ (i < 0 ∨ n ≤ i.toNatClampNeg))
theorem z_in_u {i : Int32} {n : Nat} (h : z_in i n = true) : vp_in i n := (of_decide_eq_true h : ¬ (i < 0 ∨ n ≤ i.toNatClampNeg))
def z_nz (y : Int32) : Bool := decide (¬ y = 0)
theorem z_nz_u {y : Int32} (h : z_nz y = true) : ¬ y = 0 := of_decide_eq_true h
def z_nzl (y : Int64) : Bool := decide (¬ y = 0)
theorem z_nzl_u {y : Int64} (h : z_nzl y = true) : ¬ y = 0 := of_decide_eq_true h
def z_b (y : Int32) : Bool := decide (y = 0 ∨ y = 1)
theorem z_b_n {y : Int32} (h : z_b y = true) : narrow .boolean (.int y) = .int y := by
  rcases (of_decide_eq_true h : y = 0 ∨ y = 1) with h | h <;> subst h <;> decide +kernel
theorem z_b_f {y : Int32} (h : z_b y = true) : fits .boolean (.int y) = true := by
  rcases (of_decide_eq_true h : y = 0 ∨ y = 1) with h | h <;> subst h <;> decide +kernel
def z_rem (x y : Int32) : Int32 := x - x / y * y
def z_reml (x y : Int64) : Int64 := x - x / y * y
theorem z_in_c {i : Int32} {n : Nat} {v : Int32} (hv : Int32.ofNat n = v) (hn : n < 2 ^ 31) (h0 : ¬ i < 0) (h1 : ¬ v ≤ i) : vp_in i n := by
  subst hv
  obtain ⟨j, hj, rfl⟩ := nI_of h0
  refine vp_in_nI ?_ hn
  rcases Nat.lt_or_ge j n with h | h
  · exact h
  · exact absurd (nI_le h hj) h1
/-! nest mates' links are no good words: they ride in the contracts -/
def NWL : List Cond := [.fieldLinkNest "KickOdds" 82 "KickOdds$Text" "length" "I" "KickOdds", .fieldLinkNest "KickOdds$Teller" 49 "KickOdds$Text" "length" "I" "KickOdds", .fieldLinkNest "KickOdds$Teller" 58 "KickOdds$Shootout" "shooters" "I" "KickOdds", .fieldLinkNest "KickOdds" 104 "KickOdds$Shootout" "shooters" "I" "KickOdds", .fieldLinkNest "KickOdds$Forecast" 64 "KickOdds$Shootout" "shooters" "I" "KickOdds", .fieldLinkNest "KickOdds" 162 "KickOdds$Shootout" "order" "I" "KickOdds", .fieldLinkNest "KickOdds$Teller" 123 "KickOdds$Shootout" "order" "I" "KickOdds", .fieldLinkNest "KickOdds$Forecast" 116 "KickOdds$Shootout" "first" "I" "KickOdds", .fieldLinkNest "KickOdds" 165 "KickOdds$Shootout" "first" "I" "KickOdds", .fieldLinkNest "KickOdds$Teller" 125 "KickOdds$Shootout" "first" "I" "KickOdds", .fieldLinkNest "KickOdds$Forecast" 60 "KickOdds$Shootout" "kicks" "I" "KickOdds", .fieldLinkNest "KickOdds" 152 "KickOdds$Shootout" "kicks" "I" "KickOdds", .fieldLinkNest "KickOdds" 18 "KickOdds$Teller" "text" "LKickOdds$Text;" "KickOdds", .fieldLinkNest "KickOdds" 90 "KickOdds$Teller" "into" "LKickOdds$Shootout;" "KickOdds", .fieldLinkNest "KickOdds" 308 "KickOdds$Past" "size" "I" "KickOdds", .fieldLinkNest "KickOdds" 239 "KickOdds$Forecast" "level" "J" "KickOdds", .fieldLinkNest "KickOdds$Rests" 38 "KickOdds$Forecast" "winsOfA" "J" "KickOdds", .fieldLinkNest "KickOdds$Rests" 43 "KickOdds$Forecast" "winsOfB" "J" "KickOdds", .fieldLinkNest "KickOdds$Rests" 45 "KickOdds$Forecast" "whole" "J" "KickOdds", .fieldLinkNest "KickOdds" 198 "KickOdds$Forecast" "whole" "J" "KickOdds", .fieldLinkNest "KickOdds$Forecast" 38 "KickOdds$Fraction" "up" "J" "KickOdds", .fieldLinkNest "KickOdds" 229 "KickOdds$Fraction" "up" "J" "KickOdds", .fieldLinkNest "KickOdds$Forecast" 43 "KickOdds$Fraction" "low" "J" "KickOdds", .fieldLinkNest "KickOdds" 232 "KickOdds$Fraction" "low" "J" "KickOdds", .fieldLinkNest "KickOdds" 100 "KickOdds$Rests" "known" "Z" "KickOdds", .fieldLinkNest "KickOdds" 277 "KickOdds$Rests" "pairs" "I" "KickOdds", .fieldLinkNest "KickOdds" 280 "KickOdds$Rests" "rowOfA" "I" "KickOdds", .fieldLinkNest "KickOdds" 283 "KickOdds$Rests" "rowOfB" "I" "KickOdds", .methodLinkNest "KickOdds" 11 ⟨"KickOdds$Teller", "<init>", "()V"⟩ "KickOdds", .methodLinkNest "KickOdds$Teller" 11 ⟨"KickOdds$Text", "<init>", "()V"⟩ "KickOdds", .methodLinkNest "KickOdds$Teller" 24 ⟨"KickOdds$Shootout", "<init>", "()V"⟩ "KickOdds", .methodLinkNest "KickOdds" 25 ⟨"KickOdds$Shootout", "<init>", "()V"⟩ "KickOdds", .methodLinkNest "KickOdds$Past" 17 ⟨"KickOdds$Shootout", "<init>", "()V"⟩ "KickOdds", .methodLinkNest "KickOdds" 50 ⟨"KickOdds$Forecast", "<init>", "()V"⟩ "KickOdds", .methodLinkNest "KickOdds" 57 ⟨"KickOdds$Fraction", "<init>", "()V"⟩ "KickOdds", .methodLinkNest "KickOdds" 67 ⟨"KickOdds$Rests", "<init>", "()V"⟩ "KickOdds", .methodLinkNest "KickOdds$Forecast" 95 ⟨"KickOdds", "sixes", "(I)J"⟩ "KickOdds"]
def NW (U : State) : Prop := ∀ w ∈ NWL, va_Nw w U
def isNest : Cond → Bool
  | .fieldLinkNest _ _ _ _ _ _ => true
  | .methodLinkNest _ _ _ _ => true
  | _ => false
theorem NWL_nest : NWL.all isNest = true := by decide +kernel
theorem nest_warm {w : Cond} (hn : isNest w = true) {s U : State} (hW : s.WarmedH U.vm) (h : va_Nw w s) : va_Nw w U := by
  cases w <;> first | (simp [isNest] at hn; done) | exact va_Nw.warmF hW h | exact va_Nw.warmM hW h
theorem NW.warm {s U : State} (hW : s.WarmedH U.vm) (h : NW s) : NW U := fun w hw => nest_warm (List.all_eq_true.mp NWL_nest w hw) hW (h w hw)
def tyK (ac : Nat → ClassId) : List (ClassId × FieldType) := [(ac 0, .int), (ac 1, .long), (ac 2, .char), (ac 3, .byte), (ac 4, .boolean), (ac 5, .object "KickOdds$Shootout")]
def KX (D : va_G) (ac : Nat → ClassId) (U : State) : Prop := va_K D vwCl (tyK ac) U ∧ NW U
theorem KX.warm {D : va_G} {ac : Nat → ClassId} {s U : State} (hW : s.WarmedH U.vm) (h : KX D ac s) : KX D ac U := ⟨va_K.moved hW.alike h.1, NW.warm hW h.2⟩
theorem KX.calling {D : va_G} {ac : Nat → ClassId} {U : State} {g : JFrame} {mk : MethodId} {a : Array Value} (h : KX D ac U) : KX D ac (U.calling g mk a) := h.warm (U := U.calling g mk a) (State.WarmedH.refl U)

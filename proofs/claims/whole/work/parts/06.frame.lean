/-! an object's picture: whole numbers by field, int arrays by field, long arrays by field -/
abbrev Ob : Type := (Nat → Int32) × (Nat → Nat → Int32) × (Nat → Nat → Int64)
def oS (o : Ob) (k : Nat) : Int32 := o.1 k
def oA (o : Ob) (k : Nat) : Nat → Int32 := o.2.1 k
def oL (o : Ob) (k : Nat) : Nat → Int64 := o.2.2 k
def pS (o : Ob) (k : Nat) (v : Int32) : Ob := (va_up o.1 k v, o.2.1, o.2.2)
/-- a whole int array anew -/
def pR (o : Ob) (k : Nat) (f : Nat → Int32) : Ob := (o.1, va_up o.2.1 k f, o.2.2)
def pA (o : Ob) (k : Nat) (i v : Int32) : Ob := (o.1, va_up o.2.1 k (upd (o.2.1 k) i.toNatClampNeg v), o.2.2)
def pL (o : Ob) (k : Nat) (i : Int32) (v : Int64) : Ob := (o.1, o.2.1, va_up o.2.2 k (vp_updL (o.2.2 k) i.toNatClampNeg v))
def ix (f : Nat → Int32) (i : Int32) : Int32 := f i.toNatClampNeg
def ixL (f : Nat → Int64) (i : Int32) : Int64 := f i.toNatClampNeg
def inb (i : Int32) (n : Nat) : Bool := !(decide (i < 0) || decide (n ≤ i.toNatClampNeg))
theorem inb_vp {i : Int32} {n : Nat} (h : inb i n = true) : vp_in i n := by
  simp only [inb, Bool.not_eq_true', Bool.or_eq_false_iff, decide_eq_false_iff_not] at h
  exact fun q => q.elim h.1 h.2
/-- a guard -/
def gd {α : Type} (b : Bool) (k : Option α) : Option α := match b with
  | true => k
  | false => none
theorem gd_some {α : Type} {b : Bool} {k : Option α} {r : α} (h : gd b k = some r) : b = true ∧ k = some r := by
  cases b
  · cases h
  · exact ⟨rfl, h⟩
/-- a name for a value -/
def nm {α β : Type} (a : α) (k : α → Option β) : Option β := k a
theorem nm_some {α β : Type} {a x : α} {k : α → Option β} {r : β} (hx : x = a) (h : nm a k = some r) : k x = some r := by
  subst hx
  exact h
/-- one after the other -/
def bd {α β : Type} (x : Option α) (k : α → Option β) : Option β := match x with
  | some a => k a
  | none => none
theorem bd_some {α β : Type} {x : Option α} {k : α → Option β} {r : β} (h : bd x k = some r) : ∃ a, x = some a ∧ k a = some r := by
  cases x with
  | none => cases h
  | some a => exact ⟨a, rfl, h⟩
def bd2 {α α2 β : Type} (x : Option (α × α2)) (k : α → α2 → Option β) : Option β := match x with
  | some (a, b) => k a b
  | none => none
theorem bd2_some {α α2 β : Type} {x : Option (α × α2)} {k : α → α2 → Option β} {r : β} (h : bd2 x k = some r) : ∃ a b, x = some (a, b) ∧ k a b = some r := by
  cases x with
  | none => cases h
  | some a => exact ⟨a.1, a.2, rfl, h⟩
def bd3 {α α2 α3 β : Type} (x : Option (α × α2 × α3)) (k : α → α2 → α3 → Option β) : Option β := match x with
  | some (a, b, c) => k a b c
  | none => none
theorem bd3_some {α α2 α3 β : Type} {x : Option (α × α2 × α3)} {k : α → α2 → α3 → Option β} {r : β} (h : bd3 x k = some r) : ∃ a b c, x = some (a, b, c) ∧ k a b c = some r := by
  cases x with
  | none => cases h
  | some a => exact ⟨a.1, a.2.1, a.2.2, rfl, h⟩
def bd4 {α α2 α3 α4 β : Type} (x : Option (α × α2 × α3 × α4)) (k : α → α2 → α3 → α4 → Option β) : Option β := match x with
  | some (a, b, c, d) => k a b c d
  | none => none
theorem bd4_some {α α2 α3 α4 β : Type} {x : Option (α × α2 × α3 × α4)} {k : α → α2 → α3 → α4 → Option β} {r : β} (h : bd4 x k = some r) : ∃ a b c d, x = some (a, b, c, d) ∧ k a b c d = some r := by
  cases x with
  | none => cases h
  | some a => exact ⟨a.1, a.2.1, a.2.2.1, a.2.2.2, rfl, h⟩
/-- a place that several roads come to -/
def jn {α β : Type} (k : α) (f : α → Option β) : Option β := f k
theorem jn_some {α β : Type} {k : α} {f : α → Option β} {r : β} (h : jn k f = some r) : ∃ k', k' = k ∧ f k' = some r := ⟨k, rfl, h⟩
/-- a loop's fuel -/
def FU : Nat := 10000
theorem it_some {c : Prop} [Decidable c] {α : Type} {a b : Option α} {r : α} (h : (if c then a else b) = some r) (hc : c) : a = some r := by
  rw [if_pos hc] at h; exact h
theorem if_some {c : Prop} [Decidable c] {α : Type} {a b : Option α} {r : α} (h : (if c then a else b) = some r) (hc : ¬ c) : b = some r := by
  rw [if_neg hc] at h; exact h
def rem32 (x y : Int32) : Int32 := x - x / y * y
def rem64 (x y : Int64) : Int64 := x - x / y * y
def shl32 (x y : Int32) : Int32 := x <<< (y &&& 31)
def shr32 (x y : Int32) : Int32 := x >>> (y &&& 31)
def max32 (x y : Int32) : Int32 := if x < y then y else x
def isZ (v : Int32) : Bool := v == 0 || v == 1
theorem isZ_narrow {v : Int32} (h : isZ v = true) : narrow .boolean (.int v) = .int v := by
  simp only [isZ, Bool.or_eq_true, beq_iff_eq] at h
  rcases h with rfl | rfl <;> rfl
/-! a world's layout: how many cells, what each is by its number, its address, the classes of arrays -/
abbrev Wl (Wd : Type) : Type := Nat × (Wd → Nat → va_E) × (Nat → Nat) × (Nat → ClassId)
def wl_ws {Wd : Type} (Γ : Wl Wd) (w : Wd) : va_W := (List.range Γ.1).map (fun h => (Γ.2.2.1 h, Γ.2.1 w h))
def wl_A {Wd : Type} (Γ : Wl Wd) : Nat → Prop := fun q => ∃ h, h < Γ.1 ∧ q = Γ.2.2.1 h
def wl_inj {Wd : Type} (Γ : Wl Wd) : Prop := ∀ i j, i < Γ.1 → j < Γ.1 → Γ.2.2.1 i = Γ.2.2.1 j → i = j
theorem wl_get {Wd : Type} {Γ : Wl Wd} {w : Wd} {h : Nat} (hh : h < Γ.1) : (wl_ws Γ w)[h]? = some (Γ.2.2.1 h, Γ.2.1 w h) := by
  simp [wl_ws, hh]
theorem wl_at {Wd : Type} {Γ : Wl Wd} {w : Wd} {h : Nat} {e : va_E} (hh : h < Γ.1) (he : Γ.2.1 w h = e) : (wl_ws Γ w)[h]? = some (Γ.2.2.1 h, e) := by
  rw [wl_get hh, he]
theorem wl_lt {Wd : Type} {Γ : Wl Wd} {w : Wd} {h : Nat} {q : Nat × va_E} (hq : (wl_ws Γ w)[h]? = some q) : h < Γ.1 ∧ q = (Γ.2.2.1 h, Γ.2.1 w h) := by
  have h1 : h < (wl_ws Γ w).length := (List.getElem?_eq_some_iff.mp hq).1
  have h2 : h < Γ.1 := by simpa [wl_ws] using h1
  rw [wl_get h2] at hq
  exact ⟨h2, (Option.some.inj hq).symm⟩
theorem wl_D {Wd : Type} {Γ : Wl Wd} {w : Wd} (hi : wl_inj Γ) : va_D (wl_A Γ) (wl_ws Γ w) := by
  refine ⟨fun i j p q h1 h2 h3 => ?_, fun k q h => ?_⟩
  · obtain ⟨a1, rfl⟩ := wl_lt h1
    obtain ⟨a2, rfl⟩ := wl_lt h2
    exact hi i j a1 a2 h3
  · obtain ⟨a1, rfl⟩ := wl_lt h
    exact ⟨k, a1, rfl⟩
theorem wl_set {Wd : Type} {Γ : Wl Wd} {w w' : Wd} {h : Nat} {e : va_E} (he : Γ.2.1 w' h = e) (ho : ∀ j, j < Γ.1 → j ≠ h → Γ.2.1 w' j = Γ.2.1 w j) : (wl_ws Γ w).set h (Γ.2.2.1 h, e) = wl_ws Γ w' := by
  apply List.ext_getElem?
  intro i
  rw [List.getElem?_set]
  by_cases hl : i < Γ.1
  · by_cases hi : h = i
    · subst hi
      have : h < (wl_ws Γ w).length := by simpa [wl_ws] using hl
      rw [if_pos rfl, if_pos this, wl_at hl he]
    · rw [if_neg hi, wl_get hl, wl_get hl, ho i hl (fun q => hi q.symm)]
  · have e1 : (wl_ws Γ w)[i]? = none := by simp [wl_ws]; omega
    have e2 : (wl_ws Γ w')[i]? = none := by simp [wl_ws]; omega
    have e3 : ¬ i < (wl_ws Γ w).length := by simpa [wl_ws] using hl
    rw [e1, e2]
    by_cases hi : h = i
    · subst hi; rw [if_pos rfl, if_neg e3]
    · rw [if_neg hi]
def tysL (cy : Nat → ClassId) : List (ClassId × FieldType) := [(cy 0, .int), (cy 1, .long), (cy 2, .object RX3), (cy 3, .object RX7), (cy 4, .object RX10)]
def nestL : List (Nat × MethodName) := [(56, yX11_isThing), (60, yX11_within), (64, yX11_isCare)]
def wl_N (U : State) : Prop := ∀ q ∈ nestL, va_Nw (.methodLinkNest RX10 q.1 q.2 "ToldWhereItWas") U
def wl_K (D : va_G) (cy : Nat → ClassId) (U : State) : Prop := va_K D vwCl (tysL cy) U ∧ wl_N U
theorem wl_K.warm {D : va_G} {cy : Nat → ClassId} {s U : State} (hW : s.WarmedH U.vm) (h : wl_K D cy s) : wl_K D cy U := ⟨va_K.moved hW.alike h.1, fun q hq => va_Nw.warmM hW (h.2 q hq)⟩
theorem wl_K.call {D : va_G} {cy : Nat → ClassId} {U : State} {g : JFrame} {mk : MethodId} {a : Array Value} (h : wl_K D cy U) : wl_K D cy (U.calling g mk a) := ⟨va_K.moved (u := U) (U := U.calling g mk a) (Vm.Alike.refl U.vm) h.1, fun q hq => va_Nw.same (U := U.calling g mk a) rfl rfl (h.2 q hq)⟩
def wl_Q {Wd : Type} (D : va_G) (Γ : Wl Wd) (r : Option Value × Wd) : Array Value → State → Outcome → State → Prop := fun _ st o t => o = .returned r.1 ∧ va_P D vwCl (wl_ws Γ r.2) t.heap ∧ va_F (wl_A Γ) st t
def wl_P {Wd : Type} (D : va_G) (Γ : Wl Wd) (av : List Value) (w : Wd) : Array Value → State → Prop := va_Pc av (fun U => va_P D vwCl (wl_ws Γ w) U.heap ∧ wl_K D Γ.2.2.2 U)
theorem wl_blind {Wd : Type} {D : va_G} {Γ : Wl Wd} {av : List Value} {w : Wd} : FrameBlind (wl_P D Γ av w) := fun _ _ _ _ h => ⟨h.1, h.2.1, h.2.2.call⟩
/-- a method's contract over a world that keeps its cells -/
def Cm {Wd : Type} (l : Launch) (D : va_G) (Γ : Wl Wd) (y : MethodName) (cc : ByteArray) (nL : Nat) (rt : Option FieldType) (fr lc : Nat) (av : List Value) (w : Wd) (r : Option Value × Wd) : Prop :=
  Met l y (Cond.code y cc nL rt :: wU) { frames := fr, cells := 0, slots := 0, locals := lc } (wl_P D Γ av w) (wl_Q D Γ r) 0 0 (wl_A Γ)
abbrev Ec : Type := Program × Launch × Env × Room × State × MethodId × Array Value × List Frame × Method × Code × va_G
def Jw {Wd : Type} (E : Ec) (Γ : Wl Wd) (own : String) (cc : ByteArray) (nL : Nat) (rt : Option FieldType) (r : Option Value × Wd) (pc : Nat) (lv : List (Nat × Value)) (st : List Value) (w : Wd) : Prop :=
  match E with
  | (p, l, e, R, s, m, args, below, meth, c, D) => CallFix p m c cc nL s args wU own → wl_K D Γ.2.2.2 s → meth.locks = false → meth.sig.returnType = rt → wl_inj Γ → ∀ (H : Heap) (locs : List Loc) (ls : Array Slot), va_P D vwCl (wl_ws Γ w) H → va_S (wl_A Γ) s.heap H locs → lv_has ls nL lv →
    W p l e R s m args below meth c H locs 0 0 (MQ below (wl_Q D Γ r) args s 0 0 (wl_A Γ)) (F0 m pc ls st)
def Er (E : Ec) : Room := E.2.2.2.1
def El (E : Ec) : Launch := E.2.1
def Ed (E : Ec) : va_G := E.2.2.2.2.2.2.2.2.2.2

section
variable {Wd : Type} {E : Ec} {Γ : Wl Wd} {own : String} {cc : ByteArray} {nL : Nat} {rt : Option FieldType} {r : Option Value × Wd} {pc : Nat} {lv : List (Nat × Value)} {st : List Value} {w : Wd}

theorem J_iconst {n : Int} {v : Int32} (hd : decode cc pc = .ok (.iconst n, 1)) (hv : Int32.ofInt n = v) (k : Jw E Γ own cc nL rt r (pc + 1) lv (.int v :: st) w) : Jw E Γ own cc nL rt r pc lv (st) w := by
  obtain ⟨p, l, e, R, s, m, args, below, meth, c, D⟩ := E
  intro F HK hlk hrt hinj H locs ls hP hS hl
  exact lv_iconst F.1 F.2.1 hd hv (k F HK hlk hrt hinj H locs ls hP hS hl)
theorem J_bipush {n : Int} {v : Int32} (hd : decode cc pc = .ok (.bipush n, 2)) (hv : (Int8.ofInt n).toInt32 = v) (k : Jw E Γ own cc nL rt r (pc + 2) lv (.int v :: st) w) : Jw E Γ own cc nL rt r pc lv (st) w := by
  obtain ⟨p, l, e, R, s, m, args, below, meth, c, D⟩ := E
  intro F HK hlk hrt hinj H locs ls hP hS hl
  exact lv_bipush F.1 F.2.1 hd hv (k F HK hlk hrt hinj H locs ls hP hS hl)
theorem J_sipush {n : Int} {v : Int32} (hd : decode cc pc = .ok (.sipush n, 3)) (hv : (Int16.ofInt n).toInt32 = v) (k : Jw E Γ own cc nL rt r (pc + 3) lv (.int v :: st) w) : Jw E Γ own cc nL rt r pc lv (st) w := by
  obtain ⟨p, l, e, R, s, m, args, below, meth, c, D⟩ := E
  intro F HK hlk hrt hinj H locs ls hP hS hl
  exact lv_sipush F.1 F.2.1 hd hv (k F HK hlk hrt hinj H locs ls hP hS hl)
theorem J_lconst {n : Fin 2} {v : Int64} (hd : decode cc pc = .ok (.lconst n, 1)) (hv : Int64.ofNat (n : Nat) = v) (k : Jw E Γ own cc nL rt r (pc + 1) lv (.long v :: st) w) : Jw E Γ own cc nL rt r pc lv (st) w := by
  obtain ⟨p, l, e, R, s, m, args, below, meth, c, D⟩ := E
  intro F HK hlk hrt hinj H locs ls hP hS hl
  exact lv_lconst F.1 F.2.1 hd hv (k F HK hlk hrt hinj H locs ls hP hS hl)
theorem J_ldc {index : Nat} {v : Int32} (hd : decode cc pc = .ok (.ldc index, 2)) (hw : Cond.constant own index v ∈ wU) (k : Jw E Γ own cc nL rt r (pc + 2) lv (.int v :: st) w) : Jw E Γ own cc nL rt r pc lv st w := by
  obtain ⟨p, l, e, R, s, m, args, below, meth, c, D⟩ := E
  intro F HK hlk hrt hinj H locs ls hP hS hl
  exact lv_ldc F.1 F.2.1 F.2.2.2.1 (F.2.2.2.2 _ hw) hd (k F HK hlk hrt hinj H locs ls hP hS hl)
theorem J_ldcw {index : Nat} {v : Int32} (hd : decode cc pc = .ok (.ldc_w index, 3)) (hw : Cond.constant own index v ∈ wU) (k : Jw E Γ own cc nL rt r (pc + 3) lv (.int v :: st) w) : Jw E Γ own cc nL rt r pc lv st w := by
  obtain ⟨p, l, e, R, s, m, args, below, meth, c, D⟩ := E
  intro F HK hlk hrt hinj H locs ls hP hS hl
  exact lv_ldcw F.1 F.2.1 F.2.2.2.1 (F.2.2.2.2 _ hw) hd (k F HK hlk hrt hinj H locs ls hP hS hl)
theorem J_ldc2 {index : Nat} {v : Int64} (hd : decode cc pc = .ok (.ldc2_w index, 3)) (hw : Cond.constantLong own index v ∈ wU) (k : Jw E Γ own cc nL rt r (pc + 3) lv (.long v :: st) w) : Jw E Γ own cc nL rt r pc lv st w := by
  obtain ⟨p, l, e, R, s, m, args, below, meth, c, D⟩ := E
  intro F HK hlk hrt hinj H locs ls hP hS hl
  exact lv_ldc2 F.1 F.2.1 F.2.2.2.1 (F.2.2.2.2 _ hw) hd (k F HK hlk hrt hinj H locs ls hP hS hl)
theorem J_iload_n {j : Fin 4} {i q : Nat} {x : Int32} (hd : decode cc pc = .ok (.iload_n j, 1)) (hi : (j : Nat) = i) (hq : lv[q]? = some (i, .int x)) (k : Jw E Γ own cc nL rt r (pc + 1) lv (.int x :: st) w) : Jw E Γ own cc nL rt r pc lv st w := by
  obtain ⟨p, l, e, R, s, m, args, below, meth, c, D⟩ := E
  intro F HK hlk hrt hinj H locs ls hP hS hl
  exact lv_iload_n F.1 F.2.1 hd hi (lv_at hl q hq) (k F HK hlk hrt hinj H locs ls hP hS hl)
theorem J_iload {i q : Nat} {x : Int32} (hd : decode cc pc = .ok (.iload i, 2)) (hq : lv[q]? = some (i, .int x)) (k : Jw E Γ own cc nL rt r (pc + 2) lv (.int x :: st) w) : Jw E Γ own cc nL rt r pc lv st w := by
  obtain ⟨p, l, e, R, s, m, args, below, meth, c, D⟩ := E
  intro F HK hlk hrt hinj H locs ls hP hS hl
  exact lv_iload F.1 F.2.1 hd (lv_at hl q hq) (k F HK hlk hrt hinj H locs ls hP hS hl)
theorem J_istore_n {j : Fin 4} {i : Nat} {x : Int32} {lv' : List (Nat × Value)} (hd : decode cc pc = .ok (.istore_n j, 1)) (hi : (j : Nat) = i) (hn : i < nL) (h' : (i, Value.int x) :: lv.filter (fun q => !(q.1 == i) && !(q.1 + 1 == i && q.2.category == 2)) = lv') (k : Jw E Γ own cc nL rt r (pc + 1) lv' st w) : Jw E Γ own cc nL rt r pc lv (.int x :: st) w := by
  obtain ⟨p, l, e, R, s, m, args, below, meth, c, D⟩ := E
  intro F HK hlk hrt hinj H locs ls hP hS hl
  exact lv_istore_n F.1 F.2.1 hd hi hl hn h' (fun ls hl => k F HK hlk hrt hinj H locs ls hP hS hl)
theorem J_istore {i : Nat} {x : Int32} {lv' : List (Nat × Value)} (hd : decode cc pc = .ok (.istore i, 2)) (hn : i < nL) (h' : (i, Value.int x) :: lv.filter (fun q => !(q.1 == i) && !(q.1 + 1 == i && q.2.category == 2)) = lv') (k : Jw E Γ own cc nL rt r (pc + 2) lv' st w) : Jw E Γ own cc nL rt r pc lv (.int x :: st) w := by
  obtain ⟨p, l, e, R, s, m, args, below, meth, c, D⟩ := E
  intro F HK hlk hrt hinj H locs ls hP hS hl
  exact lv_istore F.1 F.2.1 hd hl hn h' (fun ls hl => k F HK hlk hrt hinj H locs ls hP hS hl)
theorem J_lload_n {j : Fin 4} {i q : Nat} {x : Int64} (hd : decode cc pc = .ok (.lload_n j, 1)) (hi : (j : Nat) = i) (hq : lv[q]? = some (i, .long x)) (k : Jw E Γ own cc nL rt r (pc + 1) lv (.long x :: st) w) : Jw E Γ own cc nL rt r pc lv st w := by
  obtain ⟨p, l, e, R, s, m, args, below, meth, c, D⟩ := E
  intro F HK hlk hrt hinj H locs ls hP hS hl
  exact lv_lload_n F.1 F.2.1 hd hi (lv_at hl q hq) (k F HK hlk hrt hinj H locs ls hP hS hl)
theorem J_lload {i q : Nat} {x : Int64} (hd : decode cc pc = .ok (.lload i, 2)) (hq : lv[q]? = some (i, .long x)) (k : Jw E Γ own cc nL rt r (pc + 2) lv (.long x :: st) w) : Jw E Γ own cc nL rt r pc lv st w := by
  obtain ⟨p, l, e, R, s, m, args, below, meth, c, D⟩ := E
  intro F HK hlk hrt hinj H locs ls hP hS hl
  exact lv_lload F.1 F.2.1 hd (lv_at hl q hq) (k F HK hlk hrt hinj H locs ls hP hS hl)
theorem J_lstore_n {j : Fin 4} {i : Nat} {x : Int64} {lv' : List (Nat × Value)} (hd : decode cc pc = .ok (.lstore_n j, 1)) (hi : (j : Nat) = i) (hn : i + 1 < nL) (h' : (i, Value.long x) :: lv.filter (fun q => !(q.1 == i) && (!(q.1 == i + 1) && !(q.1 + 1 == i && q.2.category == 2))) = lv') (k : Jw E Γ own cc nL rt r (pc + 1) lv' st w) : Jw E Γ own cc nL rt r pc lv (.long x :: st) w := by
  obtain ⟨p, l, e, R, s, m, args, below, meth, c, D⟩ := E
  intro F HK hlk hrt hinj H locs ls hP hS hl
  exact lv_lstore_n F.1 F.2.1 hd hi hl hn h' (fun ls hl => k F HK hlk hrt hinj H locs ls hP hS hl)
theorem J_lstore {i : Nat} {x : Int64} {lv' : List (Nat × Value)} (hd : decode cc pc = .ok (.lstore i, 2)) (hn : i + 1 < nL) (h' : (i, Value.long x) :: lv.filter (fun q => !(q.1 == i) && (!(q.1 == i + 1) && !(q.1 + 1 == i && q.2.category == 2))) = lv') (k : Jw E Γ own cc nL rt r (pc + 2) lv' st w) : Jw E Γ own cc nL rt r pc lv (.long x :: st) w := by
  obtain ⟨p, l, e, R, s, m, args, below, meth, c, D⟩ := E
  intro F HK hlk hrt hinj H locs ls hP hS hl
  exact lv_lstore F.1 F.2.1 hd hl hn h' (fun ls hl => k F HK hlk hrt hinj H locs ls hP hS hl)
theorem J_aload_n {j : Fin 4} {i q : Nat} {x : Nat} (hd : decode cc pc = .ok (.aload_n j, 1)) (hi : (j : Nat) = i) (hq : lv[q]? = some (i, .ref x)) (k : Jw E Γ own cc nL rt r (pc + 1) lv (.ref x :: st) w) : Jw E Γ own cc nL rt r pc lv st w := by
  obtain ⟨p, l, e, R, s, m, args, below, meth, c, D⟩ := E
  intro F HK hlk hrt hinj H locs ls hP hS hl
  exact lv_aload_n F.1 F.2.1 hd hi (lv_at hl q hq) (k F HK hlk hrt hinj H locs ls hP hS hl)
theorem J_aload {i q : Nat} {x : Nat} (hd : decode cc pc = .ok (.aload i, 2)) (hq : lv[q]? = some (i, .ref x)) (k : Jw E Γ own cc nL rt r (pc + 2) lv (.ref x :: st) w) : Jw E Γ own cc nL rt r pc lv st w := by
  obtain ⟨p, l, e, R, s, m, args, below, meth, c, D⟩ := E
  intro F HK hlk hrt hinj H locs ls hP hS hl
  exact lv_aload F.1 F.2.1 hd (lv_at hl q hq) (k F HK hlk hrt hinj H locs ls hP hS hl)
theorem J_astore_n {j : Fin 4} {i : Nat} {x : Nat} {lv' : List (Nat × Value)} (hd : decode cc pc = .ok (.astore_n j, 1)) (hi : (j : Nat) = i) (hn : i < nL) (h' : (i, Value.ref x) :: lv.filter (fun q => !(q.1 == i) && !(q.1 + 1 == i && q.2.category == 2)) = lv') (k : Jw E Γ own cc nL rt r (pc + 1) lv' st w) : Jw E Γ own cc nL rt r pc lv (.ref x :: st) w := by
  obtain ⟨p, l, e, R, s, m, args, below, meth, c, D⟩ := E
  intro F HK hlk hrt hinj H locs ls hP hS hl
  exact lv_astore_n F.1 F.2.1 hd hi hl hn h' (fun ls hl => k F HK hlk hrt hinj H locs ls hP hS hl)
theorem J_astore {i : Nat} {x : Nat} {lv' : List (Nat × Value)} (hd : decode cc pc = .ok (.astore i, 2)) (hn : i < nL) (h' : (i, Value.ref x) :: lv.filter (fun q => !(q.1 == i) && !(q.1 + 1 == i && q.2.category == 2)) = lv') (k : Jw E Γ own cc nL rt r (pc + 2) lv' st w) : Jw E Γ own cc nL rt r pc lv (.ref x :: st) w := by
  obtain ⟨p, l, e, R, s, m, args, below, meth, c, D⟩ := E
  intro F HK hlk hrt hinj H locs ls hP hS hl
  exact lv_astore F.1 F.2.1 hd hl hn h' (fun ls hl => k F HK hlk hrt hinj H locs ls hP hS hl)
theorem J_iinc {i q : Nat} {n : Int} {x v : Int32} {lv' : List (Nat × Value)} (hd : decode cc pc = .ok (.iinc i n, 3)) (hq : lv[q]? = some (i, .int x)) (hv : x + Int32.ofInt n = v) (hn : i < nL) (h' : (i, Value.int v) :: lv.filter (fun q => !(q.1 == i) && !(q.1 + 1 == i && q.2.category == 2)) = lv') (k : Jw E Γ own cc nL rt r (pc + 3) lv' st w) : Jw E Γ own cc nL rt r pc lv st w := by
  obtain ⟨p, l, e, R, s, m, args, below, meth, c, D⟩ := E
  intro F HK hlk hrt hinj H locs ls hP hS hl
  exact lv_iinc F.1 F.2.1 hd hl hq hv hn h' (fun ls hl => k F HK hlk hrt hinj H locs ls hP hS hl)
theorem J_iadd {x y : Int32} (hd : decode cc pc = .ok (.iadd, 1)) (k : Jw E Γ own cc nL rt r (pc + 1) lv (.int (x + y) :: st) w) : Jw E Γ own cc nL rt r pc lv (.int y :: .int x :: st) w := by
  obtain ⟨p, l, e, R, s, m, args, below, meth, c, D⟩ := E
  intro F HK hlk hrt hinj H locs ls hP hS hl
  exact lv_iadd F.1 F.2.1 hd (k F HK hlk hrt hinj H locs ls hP hS hl)
theorem J_isub {x y : Int32} (hd : decode cc pc = .ok (.isub, 1)) (k : Jw E Γ own cc nL rt r (pc + 1) lv (.int (x - y) :: st) w) : Jw E Γ own cc nL rt r pc lv (.int y :: .int x :: st) w := by
  obtain ⟨p, l, e, R, s, m, args, below, meth, c, D⟩ := E
  intro F HK hlk hrt hinj H locs ls hP hS hl
  exact lv_isub F.1 F.2.1 hd (k F HK hlk hrt hinj H locs ls hP hS hl)
theorem J_imul {x y : Int32} (hd : decode cc pc = .ok (.imul, 1)) (k : Jw E Γ own cc nL rt r (pc + 1) lv (.int (x * y) :: st) w) : Jw E Γ own cc nL rt r pc lv (.int y :: .int x :: st) w := by
  obtain ⟨p, l, e, R, s, m, args, below, meth, c, D⟩ := E
  intro F HK hlk hrt hinj H locs ls hP hS hl
  exact lv_imul F.1 F.2.1 hd (k F HK hlk hrt hinj H locs ls hP hS hl)
theorem J_iand {x y : Int32} (hd : decode cc pc = .ok (.iand, 1)) (k : Jw E Γ own cc nL rt r (pc + 1) lv (.int (x &&& y) :: st) w) : Jw E Γ own cc nL rt r pc lv (.int y :: .int x :: st) w := by
  obtain ⟨p, l, e, R, s, m, args, below, meth, c, D⟩ := E
  intro F HK hlk hrt hinj H locs ls hP hS hl
  exact lv_iand F.1 F.2.1 hd (k F HK hlk hrt hinj H locs ls hP hS hl)
theorem J_ior {x y : Int32} (hd : decode cc pc = .ok (.ior, 1)) (k : Jw E Γ own cc nL rt r (pc + 1) lv (.int (x ||| y) :: st) w) : Jw E Γ own cc nL rt r pc lv (.int y :: .int x :: st) w := by
  obtain ⟨p, l, e, R, s, m, args, below, meth, c, D⟩ := E
  intro F HK hlk hrt hinj H locs ls hP hS hl
  exact lv_ior F.1 F.2.1 hd (k F HK hlk hrt hinj H locs ls hP hS hl)
theorem J_ixor {x y : Int32} (hd : decode cc pc = .ok (.ixor, 1)) (k : Jw E Γ own cc nL rt r (pc + 1) lv (.int (x ^^^ y) :: st) w) : Jw E Γ own cc nL rt r pc lv (.int y :: .int x :: st) w := by
  obtain ⟨p, l, e, R, s, m, args, below, meth, c, D⟩ := E
  intro F HK hlk hrt hinj H locs ls hP hS hl
  exact lv_ixor F.1 F.2.1 hd (k F HK hlk hrt hinj H locs ls hP hS hl)
theorem J_ishl {x y : Int32} (hd : decode cc pc = .ok (.ishl, 1)) (k : Jw E Γ own cc nL rt r (pc + 1) lv (.int (shl32 x y) :: st) w) : Jw E Γ own cc nL rt r pc lv (.int y :: .int x :: st) w := by
  obtain ⟨p, l, e, R, s, m, args, below, meth, c, D⟩ := E
  intro F HK hlk hrt hinj H locs ls hP hS hl
  exact lv_ishl F.1 F.2.1 hd (k F HK hlk hrt hinj H locs ls hP hS hl)
theorem J_ishr {x y : Int32} (hd : decode cc pc = .ok (.ishr, 1)) (k : Jw E Γ own cc nL rt r (pc + 1) lv (.int (shr32 x y) :: st) w) : Jw E Γ own cc nL rt r pc lv (.int y :: .int x :: st) w := by
  obtain ⟨p, l, e, R, s, m, args, below, meth, c, D⟩ := E
  intro F HK hlk hrt hinj H locs ls hP hS hl
  exact lv_ishr F.1 F.2.1 hd (k F HK hlk hrt hinj H locs ls hP hS hl)
theorem J_ladd {x y : Int64} (hd : decode cc pc = .ok (.ladd, 1)) (k : Jw E Γ own cc nL rt r (pc + 1) lv (.long (x + y) :: st) w) : Jw E Γ own cc nL rt r pc lv (.long y :: .long x :: st) w := by
  obtain ⟨p, l, e, R, s, m, args, below, meth, c, D⟩ := E
  intro F HK hlk hrt hinj H locs ls hP hS hl
  exact lv_ladd F.1 F.2.1 hd (k F HK hlk hrt hinj H locs ls hP hS hl)
theorem J_lsub {x y : Int64} (hd : decode cc pc = .ok (.lsub, 1)) (k : Jw E Γ own cc nL rt r (pc + 1) lv (.long (x - y) :: st) w) : Jw E Γ own cc nL rt r pc lv (.long y :: .long x :: st) w := by
  obtain ⟨p, l, e, R, s, m, args, below, meth, c, D⟩ := E
  intro F HK hlk hrt hinj H locs ls hP hS hl
  exact lv_lsub F.1 F.2.1 hd (k F HK hlk hrt hinj H locs ls hP hS hl)
theorem J_lmul {x y : Int64} (hd : decode cc pc = .ok (.lmul, 1)) (k : Jw E Γ own cc nL rt r (pc + 1) lv (.long (x * y) :: st) w) : Jw E Γ own cc nL rt r pc lv (.long y :: .long x :: st) w := by
  obtain ⟨p, l, e, R, s, m, args, below, meth, c, D⟩ := E
  intro F HK hlk hrt hinj H locs ls hP hS hl
  exact lv_lmul F.1 F.2.1 hd (k F HK hlk hrt hinj H locs ls hP hS hl)
theorem J_idiv {x y : Int32} (hd : decode cc pc = .ok (.idiv, 1)) (hne : ¬ y = 0) (k : Jw E Γ own cc nL rt r (pc + 1) lv (.int (x / y) :: st) w) : Jw E Γ own cc nL rt r pc lv (.int y :: .int x :: st) w := by
  obtain ⟨p, l, e, R, s, m, args, below, meth, c, D⟩ := E
  intro F HK hlk hrt hinj H locs ls hP hS hl
  exact lv_idiv F.1 F.2.1 hd hne (k F HK hlk hrt hinj H locs ls hP hS hl)
theorem J_irem {x y : Int32} (hd : decode cc pc = .ok (.irem, 1)) (hne : ¬ y = 0) (k : Jw E Γ own cc nL rt r (pc + 1) lv (.int (rem32 x y) :: st) w) : Jw E Γ own cc nL rt r pc lv (.int y :: .int x :: st) w := by
  obtain ⟨p, l, e, R, s, m, args, below, meth, c, D⟩ := E
  intro F HK hlk hrt hinj H locs ls hP hS hl
  exact lv_irem F.1 F.2.1 hd hne (k F HK hlk hrt hinj H locs ls hP hS hl)
theorem J_ldiv {x y : Int64} (hd : decode cc pc = .ok (.ldiv, 1)) (hne : ¬ y = 0) (k : Jw E Γ own cc nL rt r (pc + 1) lv (.long (x / y) :: st) w) : Jw E Γ own cc nL rt r pc lv (.long y :: .long x :: st) w := by
  obtain ⟨p, l, e, R, s, m, args, below, meth, c, D⟩ := E
  intro F HK hlk hrt hinj H locs ls hP hS hl
  exact lv_ldiv F.1 F.2.1 hd hne (k F HK hlk hrt hinj H locs ls hP hS hl)
theorem J_lrem {x y : Int64} (hd : decode cc pc = .ok (.lrem, 1)) (hne : ¬ y = 0) (k : Jw E Γ own cc nL rt r (pc + 1) lv (.long (rem64 x y) :: st) w) : Jw E Γ own cc nL rt r pc lv (.long y :: .long x :: st) w := by
  obtain ⟨p, l, e, R, s, m, args, below, meth, c, D⟩ := E
  intro F HK hlk hrt hinj H locs ls hP hS hl
  exact lv_lrem F.1 F.2.1 hd hne (k F HK hlk hrt hinj H locs ls hP hS hl)
theorem J_ineg {x : Int32} (hd : decode cc pc = .ok (.ineg, 1)) (k : Jw E Γ own cc nL rt r (pc + 1) lv (.int (-x) :: st) w) : Jw E Γ own cc nL rt r pc lv (.int x :: st) w := by
  obtain ⟨p, l, e, R, s, m, args, below, meth, c, D⟩ := E
  intro F HK hlk hrt hinj H locs ls hP hS hl
  exact lv_ineg F.1 F.2.1 hd (k F HK hlk hrt hinj H locs ls hP hS hl)
theorem J_i2l {x : Int32} (hd : decode cc pc = .ok (.i2l, 1)) (k : Jw E Γ own cc nL rt r (pc + 1) lv (.long x.toInt64 :: st) w) : Jw E Γ own cc nL rt r pc lv (.int x :: st) w := by
  obtain ⟨p, l, e, R, s, m, args, below, meth, c, D⟩ := E
  intro F HK hlk hrt hinj H locs ls hP hS hl
  exact lv_i2l F.1 F.2.1 hd rfl (k F HK hlk hrt hinj H locs ls hP hS hl)
theorem J_l2i {x : Int64} (hd : decode cc pc = .ok (.l2i, 1)) (k : Jw E Γ own cc nL rt r (pc + 1) lv (.int x.toInt32 :: st) w) : Jw E Γ own cc nL rt r pc lv (.long x :: st) w := by
  obtain ⟨p, l, e, R, s, m, args, below, meth, c, D⟩ := E
  intro F HK hlk hrt hinj H locs ls hP hS hl
  exact lv_l2i F.1 F.2.1 hd rfl (k F HK hlk hrt hinj H locs ls hP hS hl)
theorem J_i2b {x : Int32} (hd : decode cc pc = .ok (.i2b, 1)) (k : Jw E Γ own cc nL rt r (pc + 1) lv (.int x.toInt8.toInt32 :: st) w) : Jw E Γ own cc nL rt r pc lv (.int x :: st) w := by
  obtain ⟨p, l, e, R, s, m, args, below, meth, c, D⟩ := E
  intro F HK hlk hrt hinj H locs ls hP hS hl
  exact lv_i2b F.1 F.2.1 hd rfl (k F HK hlk hrt hinj H locs ls hP hS hl)
theorem J_i2s {x : Int32} (hd : decode cc pc = .ok (.i2s, 1)) (k : Jw E Γ own cc nL rt r (pc + 1) lv (.int x.toInt16.toInt32 :: st) w) : Jw E Γ own cc nL rt r pc lv (.int x :: st) w := by
  obtain ⟨p, l, e, R, s, m, args, below, meth, c, D⟩ := E
  intro F HK hlk hrt hinj H locs ls hP hS hl
  exact lv_i2s F.1 F.2.1 hd rfl (k F HK hlk hrt hinj H locs ls hP hS hl)
theorem J_lcmp {x y : Int64} (hd : decode cc pc = .ok (.lcmp, 1)) (k : Jw E Γ own cc nL rt r (pc + 1) lv (.int (lg_cmp x y) :: st) w) : Jw E Γ own cc nL rt r pc lv (.long y :: .long x :: st) w := by
  obtain ⟨p, l, e, R, s, m, args, below, meth, c, D⟩ := E
  intro F HK hlk hrt hinj H locs ls hP hS hl
  exact W.lcmp F.1 F.2.1 hd (k F HK hlk hrt hinj H locs ls hP hS hl)
theorem J_dup {va : Value} (hd : decode cc pc = .ok (.dup, 1)) (hva : va.category = 1) (k : Jw E Γ own cc nL rt r (pc + 1) lv (va :: va :: st) w) : Jw E Γ own cc nL rt r pc lv (va :: st) w := by
  obtain ⟨p, l, e, R, s, m, args, below, meth, c, D⟩ := E
  intro F HK hlk hrt hinj H locs ls hP hS hl
  exact lv_dup F.1 F.2.1 hd hva (k F HK hlk hrt hinj H locs ls hP hS hl)
theorem J_pop {va : Value} (hd : decode cc pc = .ok (.pop, 1)) (hva : va.category = 1) (k : Jw E Γ own cc nL rt r (pc + 1) lv (st) w) : Jw E Γ own cc nL rt r pc lv (va :: st) w := by
  obtain ⟨p, l, e, R, s, m, args, below, meth, c, D⟩ := E
  intro F HK hlk hrt hinj H locs ls hP hS hl
  exact lv_pop F.1 F.2.1 hd hva (k F HK hlk hrt hinj H locs ls hP hS hl)
theorem J_dup2 {va vb : Value} (hd : decode cc pc = .ok (.dup2, 1)) (hva : va.category = 1) (hvb : vb.category = 1) (k : Jw E Γ own cc nL rt r (pc + 1) lv (va :: vb :: va :: vb :: st) w) : Jw E Γ own cc nL rt r pc lv (va :: vb :: st) w := by
  obtain ⟨p, l, e, R, s, m, args, below, meth, c, D⟩ := E
  intro F HK hlk hrt hinj H locs ls hP hS hl
  exact lv_dup2_11 F.1 F.2.1 hd hva hvb (k F HK hlk hrt hinj H locs ls hP hS hl)
theorem J_dup_x1 {va vb : Value} (hd : decode cc pc = .ok (.dup_x1, 1)) (hva : va.category = 1) (hvb : vb.category = 1) (k : Jw E Γ own cc nL rt r (pc + 1) lv (va :: vb :: va :: st) w) : Jw E Γ own cc nL rt r pc lv (va :: vb :: st) w := by
  obtain ⟨p, l, e, R, s, m, args, below, meth, c, D⟩ := E
  intro F HK hlk hrt hinj H locs ls hP hS hl
  exact lv_dup_x1 F.1 F.2.1 hd hva hvb (k F HK hlk hrt hinj H locs ls hP hS hl)
theorem J_if_eq {x : Int32} {off : Int} {tgt : Nat} (hd : decode cc pc = .ok (.ifCond .eq off, 3)) (ht : (pc : Int) + off = (tgt : Int)) (kt : x = 0 → Jw E Γ own cc nL rt r tgt lv st w) (kf : ¬ (x = 0) → Jw E Γ own cc nL rt r (pc + 3) lv st w) : Jw E Γ own cc nL rt r pc lv (.int x :: st) w := by
  obtain ⟨p, l, e, R, s, m, args, below, meth, c, D⟩ := E
  intro F HK hlk hrt hinj H locs ls hP hS hl
  exact lv_if_eq F.1 F.2.1 hd ht (fun z => kt z F HK hlk hrt hinj H locs ls hP hS hl) (fun z => kf z F HK hlk hrt hinj H locs ls hP hS hl)
theorem J_icmp_eq {x y : Int32} {off : Int} {tgt : Nat} (hd : decode cc pc = .ok (.if_icmp .eq off, 3)) (ht : (pc : Int) + off = (tgt : Int)) (kt : x = y → Jw E Γ own cc nL rt r tgt lv st w) (kf : ¬ (x = y) → Jw E Γ own cc nL rt r (pc + 3) lv st w) : Jw E Γ own cc nL rt r pc lv (.int y :: .int x :: st) w := by
  obtain ⟨p, l, e, R, s, m, args, below, meth, c, D⟩ := E
  intro F HK hlk hrt hinj H locs ls hP hS hl
  exact lv_icmp_eq F.1 F.2.1 hd ht (fun z => kt z F HK hlk hrt hinj H locs ls hP hS hl) (fun z => kf z F HK hlk hrt hinj H locs ls hP hS hl)
theorem J_if_ne {x : Int32} {off : Int} {tgt : Nat} (hd : decode cc pc = .ok (.ifCond .ne off, 3)) (ht : (pc : Int) + off = (tgt : Int)) (kt : ¬ x = 0 → Jw E Γ own cc nL rt r tgt lv st w) (kf : x = 0 → Jw E Γ own cc nL rt r (pc + 3) lv st w) : Jw E Γ own cc nL rt r pc lv (.int x :: st) w := by
  obtain ⟨p, l, e, R, s, m, args, below, meth, c, D⟩ := E
  intro F HK hlk hrt hinj H locs ls hP hS hl
  exact lv_if_ne F.1 F.2.1 hd ht (fun z => kt z F HK hlk hrt hinj H locs ls hP hS hl) (fun z => kf z F HK hlk hrt hinj H locs ls hP hS hl)
theorem J_icmp_ne {x y : Int32} {off : Int} {tgt : Nat} (hd : decode cc pc = .ok (.if_icmp .ne off, 3)) (ht : (pc : Int) + off = (tgt : Int)) (kt : ¬ x = y → Jw E Γ own cc nL rt r tgt lv st w) (kf : x = y → Jw E Γ own cc nL rt r (pc + 3) lv st w) : Jw E Γ own cc nL rt r pc lv (.int y :: .int x :: st) w := by
  obtain ⟨p, l, e, R, s, m, args, below, meth, c, D⟩ := E
  intro F HK hlk hrt hinj H locs ls hP hS hl
  exact lv_icmp_ne F.1 F.2.1 hd ht (fun z => kt z F HK hlk hrt hinj H locs ls hP hS hl) (fun z => kf z F HK hlk hrt hinj H locs ls hP hS hl)
theorem J_if_lt {x : Int32} {off : Int} {tgt : Nat} (hd : decode cc pc = .ok (.ifCond .lt off, 3)) (ht : (pc : Int) + off = (tgt : Int)) (kt : x < 0 → Jw E Γ own cc nL rt r tgt lv st w) (kf : ¬ (x < 0) → Jw E Γ own cc nL rt r (pc + 3) lv st w) : Jw E Γ own cc nL rt r pc lv (.int x :: st) w := by
  obtain ⟨p, l, e, R, s, m, args, below, meth, c, D⟩ := E
  intro F HK hlk hrt hinj H locs ls hP hS hl
  exact lv_if_lt F.1 F.2.1 hd ht (fun z => kt z F HK hlk hrt hinj H locs ls hP hS hl) (fun z => kf z F HK hlk hrt hinj H locs ls hP hS hl)
theorem J_icmp_lt {x y : Int32} {off : Int} {tgt : Nat} (hd : decode cc pc = .ok (.if_icmp .lt off, 3)) (ht : (pc : Int) + off = (tgt : Int)) (kt : x < y → Jw E Γ own cc nL rt r tgt lv st w) (kf : ¬ (x < y) → Jw E Γ own cc nL rt r (pc + 3) lv st w) : Jw E Γ own cc nL rt r pc lv (.int y :: .int x :: st) w := by
  obtain ⟨p, l, e, R, s, m, args, below, meth, c, D⟩ := E
  intro F HK hlk hrt hinj H locs ls hP hS hl
  exact lv_icmp_lt F.1 F.2.1 hd ht (fun z => kt z F HK hlk hrt hinj H locs ls hP hS hl) (fun z => kf z F HK hlk hrt hinj H locs ls hP hS hl)
theorem J_if_ge {x : Int32} {off : Int} {tgt : Nat} (hd : decode cc pc = .ok (.ifCond .ge off, 3)) (ht : (pc : Int) + off = (tgt : Int)) (kt : 0 ≤ x → Jw E Γ own cc nL rt r tgt lv st w) (kf : ¬ (0 ≤ x) → Jw E Γ own cc nL rt r (pc + 3) lv st w) : Jw E Γ own cc nL rt r pc lv (.int x :: st) w := by
  obtain ⟨p, l, e, R, s, m, args, below, meth, c, D⟩ := E
  intro F HK hlk hrt hinj H locs ls hP hS hl
  exact lv_if_ge F.1 F.2.1 hd ht (fun z => kt z F HK hlk hrt hinj H locs ls hP hS hl) (fun z => kf z F HK hlk hrt hinj H locs ls hP hS hl)
theorem J_icmp_ge {x y : Int32} {off : Int} {tgt : Nat} (hd : decode cc pc = .ok (.if_icmp .ge off, 3)) (ht : (pc : Int) + off = (tgt : Int)) (kt : y ≤ x → Jw E Γ own cc nL rt r tgt lv st w) (kf : ¬ (y ≤ x) → Jw E Γ own cc nL rt r (pc + 3) lv st w) : Jw E Γ own cc nL rt r pc lv (.int y :: .int x :: st) w := by
  obtain ⟨p, l, e, R, s, m, args, below, meth, c, D⟩ := E
  intro F HK hlk hrt hinj H locs ls hP hS hl
  exact lv_icmp_ge F.1 F.2.1 hd ht (fun z => kt z F HK hlk hrt hinj H locs ls hP hS hl) (fun z => kf z F HK hlk hrt hinj H locs ls hP hS hl)
theorem J_if_gt {x : Int32} {off : Int} {tgt : Nat} (hd : decode cc pc = .ok (.ifCond .gt off, 3)) (ht : (pc : Int) + off = (tgt : Int)) (kt : 0 < x → Jw E Γ own cc nL rt r tgt lv st w) (kf : ¬ (0 < x) → Jw E Γ own cc nL rt r (pc + 3) lv st w) : Jw E Γ own cc nL rt r pc lv (.int x :: st) w := by
  obtain ⟨p, l, e, R, s, m, args, below, meth, c, D⟩ := E
  intro F HK hlk hrt hinj H locs ls hP hS hl
  exact lv_if_gt F.1 F.2.1 hd ht (fun z => kt z F HK hlk hrt hinj H locs ls hP hS hl) (fun z => kf z F HK hlk hrt hinj H locs ls hP hS hl)
theorem J_icmp_gt {x y : Int32} {off : Int} {tgt : Nat} (hd : decode cc pc = .ok (.if_icmp .gt off, 3)) (ht : (pc : Int) + off = (tgt : Int)) (kt : y < x → Jw E Γ own cc nL rt r tgt lv st w) (kf : ¬ (y < x) → Jw E Γ own cc nL rt r (pc + 3) lv st w) : Jw E Γ own cc nL rt r pc lv (.int y :: .int x :: st) w := by
  obtain ⟨p, l, e, R, s, m, args, below, meth, c, D⟩ := E
  intro F HK hlk hrt hinj H locs ls hP hS hl
  exact lv_icmp_gt F.1 F.2.1 hd ht (fun z => kt z F HK hlk hrt hinj H locs ls hP hS hl) (fun z => kf z F HK hlk hrt hinj H locs ls hP hS hl)
theorem J_if_le {x : Int32} {off : Int} {tgt : Nat} (hd : decode cc pc = .ok (.ifCond .le off, 3)) (ht : (pc : Int) + off = (tgt : Int)) (kt : x ≤ 0 → Jw E Γ own cc nL rt r tgt lv st w) (kf : ¬ (x ≤ 0) → Jw E Γ own cc nL rt r (pc + 3) lv st w) : Jw E Γ own cc nL rt r pc lv (.int x :: st) w := by
  obtain ⟨p, l, e, R, s, m, args, below, meth, c, D⟩ := E
  intro F HK hlk hrt hinj H locs ls hP hS hl
  exact lv_if_le F.1 F.2.1 hd ht (fun z => kt z F HK hlk hrt hinj H locs ls hP hS hl) (fun z => kf z F HK hlk hrt hinj H locs ls hP hS hl)
theorem J_icmp_le {x y : Int32} {off : Int} {tgt : Nat} (hd : decode cc pc = .ok (.if_icmp .le off, 3)) (ht : (pc : Int) + off = (tgt : Int)) (kt : x ≤ y → Jw E Γ own cc nL rt r tgt lv st w) (kf : ¬ (x ≤ y) → Jw E Γ own cc nL rt r (pc + 3) lv st w) : Jw E Γ own cc nL rt r pc lv (.int y :: .int x :: st) w := by
  obtain ⟨p, l, e, R, s, m, args, below, meth, c, D⟩ := E
  intro F HK hlk hrt hinj H locs ls hP hS hl
  exact lv_icmp_le F.1 F.2.1 hd ht (fun z => kt z F HK hlk hrt hinj H locs ls hP hS hl) (fun z => kf z F HK hlk hrt hinj H locs ls hP hS hl)
theorem J_goto {off : Int} {tgt : Nat} (hd : decode cc pc = .ok (.goto off, 3)) (ht : (pc : Int) + off = (tgt : Int)) (k : Jw E Γ own cc nL rt r tgt lv st w) : Jw E Γ own cc nL rt r pc lv st w := by
  obtain ⟨p, l, e, R, s, m, args, below, meth, c, D⟩ := E
  intro F HK hlk hrt hinj H locs ls hP hS hl
  exact lv_goto F.1 F.2.1 hd ht (k F HK hlk hrt hinj H locs ls hP hS hl)
theorem J_tin {dflt lo hi : Int} {offs : Array Int} {len : Nat} {x : Int32} {off : Int} {tgt : Nat} (hd : decode cc pc = .ok (.tableswitch dflt lo hi offs, len)) (h1 : ¬ x.toInt < lo) (h2 : ¬ hi < x.toInt) (ho : offs[(x.toInt - lo).toNat]? = some off) (ht : (pc : Int) + off = (tgt : Int)) (k : Jw E Γ own cc nL rt r tgt lv st w) : Jw E Γ own cc nL rt r pc lv (.int x :: st) w := by
  obtain ⟨p, l, e, R, s, m, args, below, meth, c, D⟩ := E
  intro F HK hlk hrt hinj H locs ls hP hS hl
  exact lv_tableIn F.1 F.2.1 hd h1 h2 ho ht (k F HK hlk hrt hinj H locs ls hP hS hl)
theorem J_tout {dflt lo hi : Int} {offs : Array Int} {len : Nat} {x : Int32} {tgt : Nat} (hd : decode cc pc = .ok (.tableswitch dflt lo hi offs, len)) (h1 : x.toInt < lo ∨ hi < x.toInt) (ht : (pc : Int) + dflt = (tgt : Int)) (k : Jw E Γ own cc nL rt r tgt lv st w) : Jw E Γ own cc nL rt r pc lv (.int x :: st) w := by
  obtain ⟨p, l, e, R, s, m, args, below, meth, c, D⟩ := E
  intro F HK hlk hrt hinj H locs ls hP hS hl
  exact lv_tableOut F.1 F.2.1 hd h1 ht (k F HK hlk hrt hinj H locs ls hP hS hl)
theorem J_lsw {dflt : Int} {ps : Array (Int × Int)} {len : Nat} {x : Int32} {off : Int} {tgt : Nat} (hd : decode cc pc = .ok (.lookupswitch dflt ps, len)) (hp : (ps.toList.zip (ps.toList.drop 1)).all (fun (a, next) => a.1 < next.1) = true) (ho : Op.lookupswitch.offset ps.toList dflt x.toInt = off) (ht : (pc : Int) + off = (tgt : Int)) (k : Jw E Γ own cc nL rt r tgt lv st w) : Jw E Γ own cc nL rt r pc lv (.int x :: st) w := by
  obtain ⟨p, l, e, R, s, m, args, below, meth, c, D⟩ := E
  intro F HK hlk hrt hinj H locs ls hP hS hl
  exact lv_lookup F.1 F.2.1 hd hp ho ht (k F HK hlk hrt hinj H locs ls hP hS hl)
theorem J_sub {lv' : List (Nat × Value)} (ks : List Nat) (h' : lv_pick lv ks = lv') (k : Jw E Γ own cc nL rt r pc lv' st w) : Jw E Γ own cc nL rt r pc lv st w := by
  obtain ⟨p, l, e, R, s, m, args, below, meth, c, D⟩ := E
  intro F HK hlk hrt hinj H locs ls hP hS hl
  exact k F HK hlk hrt hinj H locs ls hP hS (lv_sub hl ks h')
theorem J_ti {x : Int32} (k : ∀ y : Int32, y = x → Jw E Γ own cc nL rt r pc lv (.int y :: st) w) : Jw E Γ own cc nL rt r pc lv (.int x :: st) w := k x rfl
theorem J_tl {x : Int64} (k : ∀ y : Int64, y = x → Jw E Γ own cc nL rt r pc lv (.long y :: st) w) : Jw E Γ own cc nL rt r pc lv (.long x :: st) w := k x rfl
theorem J_tw (k : ∀ w' : Wd, w' = w → Jw E Γ own cc nL rt r pc lv st w') : Jw E Γ own cc nL rt r pc lv st w := k w rfl
theorem J_tv {i : Nat} {x : Int32} {lv0 : List (Nat × Value)} (k : ∀ y : Int32, y = x → Jw E Γ own cc nL rt r pc ((i, .int y) :: lv0) st w) : Jw E Γ own cc nL rt r pc ((i, .int x) :: lv0) st w := k x rfl
theorem J_iret {v : Int32} (hd : decode cc pc = .ok (.ireturn, 1)) (hr : (some (Value.int v), w) = r) (ht : rt = some .int) : Jw E Γ own cc nL rt r pc lv [.int v] w := by
  obtain ⟨p, l, e, R, s, m, args, below, meth, c, D⟩ := E
  intro F HK hlk hrt hinj H locs ls hP hS hl
  subst hr; subst ht
  exact W.iret F.1 F.2.1 hrt (fun t ht hW => ⟨rfl, by rw [ht]; exact hP, hS.F ht⟩) hS.2.2 hd hlk
theorem J_zret {v : Int32} (hd : decode cc pc = .ok (.ireturn, 1)) (hr : (some (Value.int v), w) = r) (ht : rt = some .boolean) (hz : isZ v = true) : Jw E Γ own cc nL rt r pc lv [.int v] w := by
  obtain ⟨p, l, e, R, s, m, args, below, meth, c, D⟩ := E
  intro F HK hlk hrt hinj H locs ls hP hS hl
  subst hr; subst ht
  exact W.zret F.1 F.2.1 hrt (isZ_narrow hz) (fun t ht hW => ⟨rfl, by rw [ht]; exact hP, hS.F ht⟩) hS.2.2 hd hlk
theorem J_lret {v : Int64} (hd : decode cc pc = .ok (.lreturn, 1)) (hr : (some (Value.long v), w) = r) (ht : rt = some .long) : Jw E Γ own cc nL rt r pc lv [.long v] w := by
  obtain ⟨p, l, e, R, s, m, args, below, meth, c, D⟩ := E
  intro F HK hlk hrt hinj H locs ls hP hS hl
  subst hr; subst ht
  exact W.lret F.1 F.2.1 hrt (fun t ht hW => ⟨rfl, by rw [ht]; exact hP, hS.F ht⟩) hS.2.2 hd hlk
theorem J_vret (hd : decode cc pc = .ok (.return_, 1)) (hr : (none, w) = r) (ht : rt = none) : Jw E Γ own cc nL rt r pc lv [] w := by
  obtain ⟨p, l, e, R, s, m, args, below, meth, c, D⟩ := E
  intro F HK hlk hrt hinj H locs ls hP hS hl
  subst hr; subst ht
  exact W.vret F.1 F.2.1 hrt (fun t ht hW => ⟨rfl, by rw [ht]; exact hP, hS.F ht⟩) hS.2.2 hd hlk

end

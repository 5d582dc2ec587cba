/-! objects being made: a judgement over a growing list of cells -/
def fA (b sz : Nat) : Nat → Prop := fun q => q = b ∨ sz ≤ q
def nestX : List (String × Nat × MethodName) := [(RX11, 9, yX3_init), (RX11, 12, yX4_init), (RX4, 1, yX3_init), (RX11, 15, yX2_init), (RX2, 3, yX3_init), (RX11, 18, yX6_init), (RX6, 3, yX3_init), (RX11, 21, yX1_init), (RX1, 1, yX4_init), (RX11, 24, yX5_init), (RX5, 1, yX2_init), (RX11, 27, yX0_init), (RX0, 1, yX6_init), (RX11, 30, yX8_init), (RX8, 1, yX4_init)]
def castX : List String := [RX4, RX2, RX6, RX1, RX5, RX0, RX8]
/-- the words that are not the tables' own -/
def wl_X (U : State) : Prop := (∀ q ∈ nestX, va_Nw (.methodLinkNest q.1 q.2.1 q.2.2 "ToldWhereItWas") U) ∧ (va_AO RX3 U ∧ va_AO RX10 U ∧ va_AO RX7 U) ∧ ∀ C ∈ castX, va_Nw (.castable C RX3) U
theorem wl_X.warm {s U : State} (hW : s.WarmedH U.vm) (h : wl_X s) : wl_X U :=
  ⟨fun q hq => va_Nw.warmM hW (h.1 q hq), ⟨va_AO.moved hW.alike h.2.1.1, va_AO.moved hW.alike h.2.1.2.1, va_AO.moved hW.alike h.2.1.2.2⟩, fun C hC => va_Nw.warmC hW (h.2.2 C hC)⟩
theorem wl_X.call {U : State} {g : JFrame} {mk : MethodId} {a : Array Value} (h : wl_X U) : wl_X (U.calling g mk a) :=
  ⟨fun q hq => va_Nw.same (U := U.calling g mk a) rfl rfl (h.1 q hq), ⟨va_AO.moved (u := U) (U := U.calling g mk a) (Vm.Alike.refl U.vm) h.2.1.1, va_AO.moved (u := U) (U := U.calling g mk a) (Vm.Alike.refl U.vm) h.2.1.2.1, va_AO.moved (u := U) (U := U.calling g mk a) (Vm.Alike.refl U.vm) h.2.1.2.2⟩, fun C hC => va_Nw.same (U := U.calling g mk a) rfl rfl (h.2.2 C hC)⟩
/-- a constructor's end: its object, and the cells that it made -/
def Qk (D : va_G) (b sz : Nat) (res : (Nat → Nat) → va_E × va_W) : Array Value → State → Outcome → State → Prop := fun _ st o t => o = .returned none ∧ (∃ q : Nat → Nat, va_P D vwCl ((b, (res q).1) :: (res q).2) t.heap ∧ va_D (fA b sz) ((b, (res q).1) :: (res q).2) ∧ ∀ x ∈ (res q).2, sz ≤ x.1) ∧ va_F (fA b sz) st t
def Pk (D : va_G) (cy : Nat → ClassId) (b sz : Nat) (av : List Value) (e0 : va_E) : Array Value → State → Prop := va_Pc (.ref b :: av) (fun U => U.heap.size = sz ∧ b < sz ∧ va_P D vwCl [(b, e0)] U.heap ∧ wl_K D cy U ∧ wl_X U)
theorem Pk_blind {D : va_G} {cy : Nat → ClassId} {b sz : Nat} {av : List Value} {e0 : va_E} : FrameBlind (Pk D cy b sz av e0) := fun _ _ _ _ h => ⟨h.1, h.2.1, h.2.2.1, h.2.2.2.1, h.2.2.2.2.1.call, h.2.2.2.2.2.call⟩
/-- a constructor's contract -/
def Ct (l : Launch) (D : va_G) (cy : Nat → ClassId) (y : MethodName) (cc : ByteArray) (nL k mc ms : Nat) (av : List Value) (e0 : va_E) (res : (Nat → Nat) → va_E × va_W) : Prop :=
  ∀ b sz : Nat, Met l y (Cond.code y cc nL none :: wU) { frames := k, cells := mc, slots := ms, locals := 40 * k } (Pk D cy b sz av e0) (Qk D b sz res) mc ms (fA b sz)
def Kw (E : Ec) (cy : Nat → ClassId) (b sz : Nat) (res : (Nat → Nat) → va_E × va_W) (mc ms : Nat) (own : String) (cc : ByteArray) (nL : Nat) (pc : Nat) (lv : List (Nat × Value)) (st : List Value) (ws : va_W) (k n : Nat) : Prop :=
  match E with
  | (p, l, e, R, s, m, args, below, meth, c, D) => CallFix p m c cc nL s args wU own → wl_K D cy s → wl_X s → meth.locks = false → meth.sig.returnType = none → meth.name = "<init>" → R.cells = mc → R.slots = ms → s.heap.size = sz → b < sz → ∀ (H : Heap) (locs : List Loc) (ls : Array Slot), va_P D vwCl ws H → va_D (fA b sz) ws → va_S (fA b sz) s.heap H locs → lv_has ls nL lv →
    W p l e R s m args below meth c H locs k n (MQ below (Qk D b sz res) args s mc ms (fA b sz)) (F0 m pc ls st)
theorem Ct.of {l : Launch} {D : va_G} {cy : Nat → ClassId} {y : MethodName} {cc : ByteArray} {nL k mc ms : Nat} {av : List Value} {e0 : va_E} {res : (Nat → Nat) → va_E × va_W} (hy : plainName y.cls = true) (hn : y.name = "<init>") (hav : ∀ b : Nat, (lg_sl (.ref b :: av)).length ≤ nL)
    (h : ∀ (E : Ec) (b sz : Nat), El E = l → Ed E = D → Lv E k → Kw E cy b sz res mc ms y.cls cc nL 0 (lv_args 0 (.ref b :: av)) [] [(b, e0)] 0 0) : Ct l D cy y cc nL k mc ms av e0 res := by
  intro b sz
  refine Met.ofW (cc := cc) (maxL := nL) (ret := none) hy rfl ?_
  intro p e s m args below meth c s₁ B hml hv
  obtain ⟨rfl, hsz, hb, hP, hK, hX⟩ := hv
  have hts := atoms_spec (ws := Cond.code y cc nL none :: wU) B.pre
  have hown : s.vm.findClass y.cls = some m.cls := findClass_of_methodNamed B.named
  have hl := lv_entry (.ref b :: av) (n := nL) (hav b)
  rw [lg_entry_eq]
  refine h (p, l, e, ({ frames := k, cells := mc, slots := ms, locals := 40 * k } : Room), s, m, (.ref b :: av).toArray, below, meth, c, D) b sz rfl rfl ⟨Nat.le_refl _, Nat.le_refl _⟩ ⟨B.exec, B.bytes, hml, hown, fun w hw => hts w (List.mem_cons_of_mem _ hw)⟩ hK hX B.notSynchronized B.returns ?_ (by rfl) (by rfl) hsz hb s.heap [] _ hP ?_ va_S.rf hl
  · exact (name_of_methodNamed B.named B.method).1.trans hn
  · refine ⟨fun i j p q h1 h2 _ => ?_, fun k q h => ?_⟩
    · have z1 : i < 1 := (List.getElem?_eq_some_iff.mp h1).1
      have z2 : j < 1 := (List.getElem?_eq_some_iff.mp h2).1
      omega
    · have z1 : k < 1 := (List.getElem?_eq_some_iff.mp h).1
      rw [show k = 0 by omega] at h
      cases h
      exact Or.inl rfl
section
variable {E : Ec} {cy : Nat → ClassId} {b sz : Nat} {res : (Nat → Nat) → va_E × va_W} {mc ms : Nat} {own : String} {cc : ByteArray} {nL : Nat} {pc : Nat} {lv : List (Nat × Value)} {st : List Value} {ws : va_W} {k n : Nat}
theorem K_ws {ws' : va_W} (h : ws = ws') (kk : Kw E cy b sz res mc ms own cc nL pc lv st ws' k n) : Kw E cy b sz res mc ms own cc nL pc lv st ws k n := by rw [h]; exact kk
theorem K_iconst {a : Int} {v : Int32} (hd : decode cc pc = .ok (.iconst a, 1)) (hv : Int32.ofInt a = v) (kk : Kw E cy b sz res mc ms own cc nL (pc + 1) lv (.int v :: st) ws k n) : Kw E cy b sz res mc ms own cc nL pc lv (st) ws k n := by
  obtain ⟨p, l, e, R, s, m, args, below, meth, c, D⟩ := E
  intro F HK HX hlk hrt hni hmc hms hsz hb H locs ls hP hD hS hl
  exact lv_iconst F.1 F.2.1 hd hv (kk F HK HX hlk hrt hni hmc hms hsz hb H locs ls hP hD hS hl)
theorem K_bipush {a : Int} {v : Int32} (hd : decode cc pc = .ok (.bipush a, 2)) (hv : (Int8.ofInt a).toInt32 = v) (kk : Kw E cy b sz res mc ms own cc nL (pc + 2) lv (.int v :: st) ws k n) : Kw E cy b sz res mc ms own cc nL pc lv (st) ws k n := by
  obtain ⟨p, l, e, R, s, m, args, below, meth, c, D⟩ := E
  intro F HK HX hlk hrt hni hmc hms hsz hb H locs ls hP hD hS hl
  exact lv_bipush F.1 F.2.1 hd hv (kk F HK HX hlk hrt hni hmc hms hsz hb H locs ls hP hD hS hl)
theorem K_sipush {a : Int} {v : Int32} (hd : decode cc pc = .ok (.sipush a, 3)) (hv : (Int16.ofInt a).toInt32 = v) (kk : Kw E cy b sz res mc ms own cc nL (pc + 3) lv (.int v :: st) ws k n) : Kw E cy b sz res mc ms own cc nL pc lv (st) ws k n := by
  obtain ⟨p, l, e, R, s, m, args, below, meth, c, D⟩ := E
  intro F HK HX hlk hrt hni hmc hms hsz hb H locs ls hP hD hS hl
  exact lv_sipush F.1 F.2.1 hd hv (kk F HK HX hlk hrt hni hmc hms hsz hb H locs ls hP hD hS hl)
theorem K_aload_n {j : Fin 4} {i q : Nat} {x : Nat} (hd : decode cc pc = .ok (.aload_n j, 1)) (hi : (j : Nat) = i) (hq : lv[q]? = some (i, .ref x)) (kk : Kw E cy b sz res mc ms own cc nL (pc + 1) lv (.ref x :: st) ws k n) : Kw E cy b sz res mc ms own cc nL pc lv (st) ws k n := by
  obtain ⟨p, l, e, R, s, m, args, below, meth, c, D⟩ := E
  intro F HK HX hlk hrt hni hmc hms hsz hb H locs ls hP hD hS hl
  exact lv_aload_n F.1 F.2.1 hd hi (lv_at hl q hq) (kk F HK HX hlk hrt hni hmc hms hsz hb H locs ls hP hD hS hl)
theorem K_iload_n {j : Fin 4} {i q : Nat} {x : Int32} (hd : decode cc pc = .ok (.iload_n j, 1)) (hi : (j : Nat) = i) (hq : lv[q]? = some (i, .int x)) (kk : Kw E cy b sz res mc ms own cc nL (pc + 1) lv (.int x :: st) ws k n) : Kw E cy b sz res mc ms own cc nL pc lv (st) ws k n := by
  obtain ⟨p, l, e, R, s, m, args, below, meth, c, D⟩ := E
  intro F HK HX hlk hrt hni hmc hms hsz hb H locs ls hP hD hS hl
  exact lv_iload_n F.1 F.2.1 hd hi (lv_at hl q hq) (kk F HK HX hlk hrt hni hmc hms hsz hb H locs ls hP hD hS hl)
theorem K_dup {va : Value} (hd : decode cc pc = .ok (.dup, 1)) (hva : va.category = 1) (kk : Kw E cy b sz res mc ms own cc nL (pc + 1) lv (va :: va :: st) ws k n) : Kw E cy b sz res mc ms own cc nL pc lv (va :: st) ws k n := by
  obtain ⟨p, l, e, R, s, m, args, below, meth, c, D⟩ := E
  intro F HK HX hlk hrt hni hmc hms hsz hb H locs ls hP hD hS hl
  exact lv_dup F.1 F.2.1 hd hva (kk F HK HX hlk hrt hni hmc hms hsz hb H locs ls hP hD hS hl)
theorem K_goto {off : Int} {tgt : Nat} (hd : decode cc pc = .ok (.goto off, 3)) (ht : (pc : Int) + off = (tgt : Int)) (kk : Kw E cy b sz res mc ms own cc nL (tgt) lv (st) ws k n) : Kw E cy b sz res mc ms own cc nL pc lv (st) ws k n := by
  obtain ⟨p, l, e, R, s, m, args, below, meth, c, D⟩ := E
  intro F HK HX hlk hrt hni hmc hms hsz hb H locs ls hP hD hS hl
  exact lv_goto F.1 F.2.1 hd ht (kk F HK HX hlk hrt hni hmc hms hsz hb H locs ls hP hD hS hl)
theorem K_istore_n {j : Fin 4} {i : Nat} {x : Int32} {lv' : List (Nat × Value)} (hd : decode cc pc = .ok (.istore_n j, 1)) (hi : (j : Nat) = i) (hn : i < nL) (h' : (i, Value.int x) :: lv.filter (fun q => !(q.1 == i) && !(q.1 + 1 == i && q.2.category == 2)) = lv') (kk : Kw E cy b sz res mc ms own cc nL (pc + 1) lv' st ws k n) : Kw E cy b sz res mc ms own cc nL pc lv (.int x :: st) ws k n := by
  obtain ⟨p, l, e, R, s, m, args, below, meth, c, D⟩ := E
  intro F HK HX hlk hrt hni hmc hms hsz hb H locs ls hP hD hS hl
  exact lv_istore_n F.1 F.2.1 hd hi hl hn h' (fun ls hl => kk F HK HX hlk hrt hni hmc hms hsz hb H locs ls hP hD hS hl)
theorem K_astore_n {j : Fin 4} {i : Nat} {x : Nat} {lv' : List (Nat × Value)} (hd : decode cc pc = .ok (.astore_n j, 1)) (hi : (j : Nat) = i) (hn : i < nL) (h' : (i, Value.ref x) :: lv.filter (fun q => !(q.1 == i) && !(q.1 + 1 == i && q.2.category == 2)) = lv') (kk : Kw E cy b sz res mc ms own cc nL (pc + 1) lv' st ws k n) : Kw E cy b sz res mc ms own cc nL pc lv (.ref x :: st) ws k n := by
  obtain ⟨p, l, e, R, s, m, args, below, meth, c, D⟩ := E
  intro F HK HX hlk hrt hni hmc hms hsz hb H locs ls hP hD hS hl
  exact lv_astore_n F.1 F.2.1 hd hi hl hn h' (fun ls hl => kk F HK HX hlk hrt hni hmc hms hsz hb H locs ls hP hD hS hl)
theorem K_iinc {i q : Nat} {a : Int} {x v : Int32} {lv' : List (Nat × Value)} (hd : decode cc pc = .ok (.iinc i a, 3)) (hq : lv[q]? = some (i, .int x)) (hv : x + Int32.ofInt a = v) (hn : i < nL) (h' : (i, Value.int v) :: lv.filter (fun q => !(q.1 == i) && !(q.1 + 1 == i && q.2.category == 2)) = lv') (kk : Kw E cy b sz res mc ms own cc nL (pc + 3) lv' st ws k n) : Kw E cy b sz res mc ms own cc nL pc lv st ws k n := by
  obtain ⟨p, l, e, R, s, m, args, below, meth, c, D⟩ := E
  intro F HK HX hlk hrt hni hmc hms hsz hb H locs ls hP hD hS hl
  exact lv_iinc F.1 F.2.1 hd hl hq hv hn h' (fun ls hl => kk F HK HX hlk hrt hni hmc hms hsz hb H locs ls hP hD hS hl)
theorem K_ge_t {x y : Int32} {off : Int} {tgt : Nat} (hd : decode cc pc = .ok (.if_icmp .ge off, 3)) (ht : (pc : Int) + off = (tgt : Int)) (hxy : y ≤ x) (kk : Kw E cy b sz res mc ms own cc nL tgt lv st ws k n) : Kw E cy b sz res mc ms own cc nL pc lv (.int y :: .int x :: st) ws k n := by
  obtain ⟨p, l, e, R, s, m, args, below, meth, c, D⟩ := E
  intro F HK HX hlk hrt hni hmc hms hsz hb H locs ls hP hD hS hl
  exact lv_icmp_ge F.1 F.2.1 hd ht (fun _ => kk F HK HX hlk hrt hni hmc hms hsz hb H locs ls hP hD hS hl) (fun z => absurd hxy z)
theorem K_ge_f {x y : Int32} {off : Int} (hd : decode cc pc = .ok (.if_icmp .ge off, 3)) (ht : ∃ tgt : Nat, (pc : Int) + off = (tgt : Int)) (hxy : ¬ y ≤ x) (kk : Kw E cy b sz res mc ms own cc nL (pc + 3) lv st ws k n) : Kw E cy b sz res mc ms own cc nL pc lv (.int y :: .int x :: st) ws k n := by
  obtain ⟨p, l, e, R, s, m, args, below, meth, c, D⟩ := E
  intro F HK HX hlk hrt hni hmc hms hsz hb H locs ls hP hD hS hl
  obtain ⟨tgt, ht⟩ := ht
  exact lv_icmp_ge F.1 F.2.1 hd ht (fun z => absurd z hxy) (fun _ => kk F HK HX hlk hrt hni hmc hms hsz hb H locs ls hP hD hS hl)
theorem K_get {ref C : String} {T : u_T} {N ci index q0 j a : Nat} {fs : List Value} {v : Value} (hd : decode cc pc = .ok (.getfield index, 3)) (hin : ∀ x ∈ u_ws C T N, x ∈ wU) (hc : vwCl[ci]? = some (C, T, N)) (hk : j < N) (href : (T j).1 = ref) (hlink : Cond.fieldLink own index ref (T j).2.1 (T j).2.2.1 ∈ wU) (he : ws[q0]? = some (a, .inr (ci, fs))) (hv : fs[j]? = some v) (kk : Kw E cy b sz res mc ms own cc nL (pc + 3) lv (v :: st) ws k n) : Kw E cy b sz res mc ms own cc nL pc lv (.ref a :: st) ws k n := by
  obtain ⟨p, l, e, R, s, m, args, below, meth, c, D⟩ := E
  intro F HK HX hlk hrt hni hmc hms hsz hb H locs ls hP hD hS hl
  exact va_get F.1 F.2.1 F.2.2.2.2 hin F.2.2.2.1 HK.1 hP q0 he hc j hk (F.2.2.2.2 _ hlink) (fun _ h9 => by rw [← href]; exact h9) hv hd (kk F HK HX hlk hrt hni hmc hms hsz hb H locs ls hP hD hS hl)
theorem K_put {ref C : String} {T : u_T} {N ci index q0 j a : Nat} {fs : List Value} {v : Value} {ty : FieldType} {ty0 : Nat → FieldType} (hd : decode cc pc = .ok (.putfield index, 3)) (hin : ∀ x ∈ u_ws C T N, x ∈ wU) (hty : ∀ k, k < N → parseFieldDescriptor (T k).2.2.1 = some (ty0 k)) (hnm : ∀ a, a < N → ∀ b, b < N → a ≠ b → (T a).2.1 ≠ (T b).2.1) (hc : vwCl[ci]? = some (C, T, N)) (hk : j < N) (href : (T j).1 = ref) (hlink : Cond.fieldLink own index ref (T j).2.1 (T j).2.2.1 ∈ wU) (hfin : (T j).2.2.2 = false) (hdt : parseFieldDescriptor (T j).2.2.1 = some ty) (hn : narrow ty v = v) (hfit : fits ty v = true) (he : ws[q0]? = some (a, .inr (ci, fs))) (hfl : j < fs.length) (kk : Kw E cy b sz res mc ms own cc nL (pc + 3) lv st (ws.set q0 (a, .inr (ci, fs.set j v))) k n) : Kw E cy b sz res mc ms own cc nL pc lv (v :: .ref a :: st) ws k n := by
  obtain ⟨p, l, e, R, s, m, args, below, meth, c, D⟩ := E
  intro F HK HX hlk hrt hni hmc hms hsz hb H locs ls hP hD hS hl
  exact va_put F.1 F.2.1 F.2.2.2.2 hin ty0 hty hnm F.2.2.2.1 HK.1 hP hD hS q0 he hc j hk (F.2.2.2.2 _ hlink) (fun _ h9 => by rw [← href]; exact h9) hfin hdt hn hfit hfl hd (fun H1 locs1 hP1 hD1 hS1 => kk F HK HX hlk hrt hni hmc hms hsz hb H1 locs1 ls hP1 hD1 hS1 hl)
theorem K_putF {ref C : String} {T : u_T} {N ci index q0 j a : Nat} {fs : List Value} {v : Value} {ty : FieldType} {ty0 : Nat → FieldType} (hd : decode cc pc = .ok (.putfield index, 3)) (hin : ∀ x ∈ u_ws C T N, x ∈ wU) (hty : ∀ k, k < N → parseFieldDescriptor (T k).2.2.1 = some (ty0 k)) (hnm : ∀ a, a < N → ∀ b, b < N → a ≠ b → (T a).2.1 ≠ (T b).2.1) (hc : vwCl[ci]? = some (C, T, N)) (hk : j < N) (href : (T j).1 = ref) (hlink : Cond.fieldLink own index ref (T j).2.1 (T j).2.2.1 ∈ wU) (hfin : (T j).2.2.2 = true) (hdecl : (T j).1 = own) (hdt : parseFieldDescriptor (T j).2.2.1 = some ty) (hn : narrow ty v = v) (hfit : fits ty v = true) (he : ws[q0]? = some (a, .inr (ci, fs))) (hfl : j < fs.length) (kk : Kw E cy b sz res mc ms own cc nL (pc + 3) lv st (ws.set q0 (a, .inr (ci, fs.set j v))) k n) : Kw E cy b sz res mc ms own cc nL pc lv (v :: .ref a :: st) ws k n := by
  obtain ⟨p, l, e, R, s, m, args, below, meth, c, D⟩ := E
  intro F HK HX hlk hrt hni hmc hms hsz hb H locs ls hP hD hS hl
  exact va_putF F.1 F.2.1 F.2.2.2.2 hin ty0 hty hnm F.2.2.2.1 HK.1 hP hD hS q0 he hc j hk (F.2.2.2.2 _ hlink) (fun _ h9 => by rw [← href]; exact h9) hfin hni hdecl hdt hn hfit hfl hd (fun H1 locs1 hP1 hD1 hS1 => kk F HK HX hlk hrt hni hmc hms hsz hb H1 locs1 ls hP1 hD1 hS1 hl)
theorem K_newI {x : Int32} {N : Nat} (hd : decode cc pc = .ok (.newarray .int, 2)) (hw : Cond.arrayClass .int ∈ wU) (hx : ¬ x < 0) (hN : x.toNatClampNeg = N) (hb8 : N * componentBytes .int ≤ 536870912) (h1 : k + 1 ≤ mc) (h2 : n + N ≤ ms) (kk : ∀ q : Nat, Kw E cy b sz res mc ms own cc nL (pc + 2) lv (.ref q :: st) (ws ++ [(q, .inl (cy 0, N, .inl (fun _ => 0)))]) (k + 1) (n + N)) : Kw E cy b sz res mc ms own cc nL pc lv (.int x :: st) ws k n := by
  obtain ⟨p, l, e, R, s, m, args, below, meth, c, D⟩ := E
  intro F HK HX hlk hrt hni hmc hms hsz hb H locs ls hP hD hS hl
  subst hsz
  have hKt := (HK.1.2 0 _ rfl).2
  refine va_newaK F.1 F.2.1 (atype := .int) (F.2.2.2.2 _ hw) rfl hd rfl hx hN hb8 (by rw [hmc]; exact h1) (by rw [hms]; exact h2) rfl fun H1 cA e1 z1 o1 hAr hNm => ?_
  have hcA : cA = cy 0 := Option.some.inj (hNm.symm.trans hKt)
  subst hcA
  have hkp : ∀ (i : Nat) (x : Nat × va_E), ws[i]? = some x → H1[x.1]? = H[x.1]? := fun i x hx => o1 x.1 ((hP i x hx).lt)
  exact kk H.size F HK HX hlk hrt hni hmc hms rfl hb H1 locs ls ((hP.kept hkp).app (fun i x hx => by
    have hz : i < 1 := (List.getElem?_eq_some_iff.mp hx).1
    rw [show i = 0 by omega] at hx
    cases hx
    exact e1)) (hD.push hP rfl (Or.inr hS.1)) ⟨Nat.le_trans hS.1 (by omega), fun x h1 h2 => (o1 x (Nat.lt_of_lt_of_le h1 hS.1)).trans (hS.2.1 x h1 h2), hS.2.2⟩ hl
theorem K_newL {x : Int32} {N : Nat} (hd : decode cc pc = .ok (.newarray .long, 2)) (hw : Cond.arrayClass .long ∈ wU) (hx : ¬ x < 0) (hN : x.toNatClampNeg = N) (hb8 : N * componentBytes .long ≤ 536870912) (h1 : k + 1 ≤ mc) (h2 : n + N ≤ ms) (kk : ∀ q : Nat, Kw E cy b sz res mc ms own cc nL (pc + 2) lv (.ref q :: st) (ws ++ [(q, .inl (cy 1, N, .inr (.inl (fun _ => 0))))]) (k + 1) (n + N)) : Kw E cy b sz res mc ms own cc nL pc lv (.int x :: st) ws k n := by
  obtain ⟨p, l, e, R, s, m, args, below, meth, c, D⟩ := E
  intro F HK HX hlk hrt hni hmc hms hsz hb H locs ls hP hD hS hl
  subst hsz
  have hKt := (HK.1.2 1 _ rfl).2
  refine va_newaK F.1 F.2.1 (atype := .long) (F.2.2.2.2 _ hw) rfl hd rfl hx hN hb8 (by rw [hmc]; exact h1) (by rw [hms]; exact h2) rfl fun H1 cA e1 z1 o1 hAr hNm => ?_
  have hcA : cA = cy 1 := Option.some.inj (hNm.symm.trans hKt)
  subst hcA
  have hkp : ∀ (i : Nat) (x : Nat × va_E), ws[i]? = some x → H1[x.1]? = H[x.1]? := fun i x hx => o1 x.1 ((hP i x hx).lt)
  exact kk H.size F HK HX hlk hrt hni hmc hms rfl hb H1 locs ls ((hP.kept hkp).app (fun i x hx => by
    have hz : i < 1 := (List.getElem?_eq_some_iff.mp hx).1
    rw [show i = 0 by omega] at hx
    cases hx
    exact e1)) (hD.push hP rfl (Or.inr hS.1)) ⟨Nat.le_trans hS.1 (by omega), fun x h1 h2 => (o1 x (Nat.lt_of_lt_of_le h1 hS.1)).trans (hS.2.1 x h1 h2), hS.2.2⟩ hl
theorem K_newq {C : String} {t : Nat} {x : Int32} {N index : Nat} (hd : decode cc pc = .ok (.anewarray index, 3)) (hw : Cond.classLink own index C ∈ wU) (hao : ∀ U, wl_X U → va_AO C U) (ht : (tysL cy)[t]? = some (cy t, .object C)) (hx : ¬ x < 0) (hN : x.toNatClampNeg = N) (hb8 : N * 4 ≤ 536870912) (h1 : k + 1 ≤ mc) (h2 : n + N ≤ ms) (kk : ∀ q : Nat, Kw E cy b sz res mc ms own cc nL (pc + 3) lv (.ref q :: st) (ws ++ [(q, .inl (cy t, N, .inr (.inr (.inr (.inr (fun _ => none))))))]) (k + 1) (n + N)) : Kw E cy b sz res mc ms own cc nL pc lv (.int x :: st) ws k n := by
  obtain ⟨p, l, e, R, s, m, args, below, meth, c, D⟩ := E
  intro F HK HX hlk hrt hni hmc hms hsz hb H locs ls hP hD hS hl
  subst hsz
  subst hN
  obtain ⟨_, _, -, -, -, hKt⟩ := (HK.1.2 t _ ht).2
  refine W.anew F.1 F.2.1 F.2.2.2.1 (F.2.2.2.2 _ hw) (va_AO.use (hao _ HX)) rfl hd rfl hx hb8 (by rw [hmc]; exact h1) (by rw [hms]; exact h2) fun cA kA comp f1 f2 f3 f4 => ?_
  have hcA : cA = cy t := Option.some.inj (f1.symm.trans hKt)
  subst hcA
  generalize hH1 : H.push ({ cls := cy t, slots := Array.replicate x.toNatClampNeg .null, vm := .none } : Cell) = H1
  have z1 : H1.size = H.size + 1 := by rw [← hH1, Array.size_push]
  have e1 : H1[H.size]? = some (arrV (cy t) x.toNatClampNeg (fun _ => .null)) := by rw [← hH1, Array.getElem?_push_size, ← arrV_new]
  have o1 : ∀ q : Nat, q < H.size → H1[q]? = H[q]? := fun q hq => by rw [← hH1, Array.getElem?_push, if_neg (Nat.ne_of_lt hq)]
  have hkp : ∀ (i : Nat) (x : Nat × va_E), ws[i]? = some x → H1[x.1]? = H[x.1]? := fun i x hx => o1 x.1 ((hP i x hx).lt)
  exact kk H.size F HK HX hlk hrt hni hmc hms rfl hb H1 locs ls ((hP.kept hkp).app (fun i x hx => by
    have hz : i < 1 := (List.getElem?_eq_some_iff.mp hx).1
    rw [show i = 0 by omega] at hx
    cases hx
    exact e1)) (hD.push hP rfl (Or.inr hS.1)) ⟨Nat.le_trans hS.1 (by omega), fun x h1 h2 => (o1 x (Nat.lt_of_lt_of_le h1 hS.1)).trans (hS.2.1 x h1 h2), hS.2.2⟩ hl
theorem K_new {C : String} {T : u_T} {N ci index : Nat} {fs : List Value} {ty : Nat → FieldType} (hd : decode cc pc = .ok (.new index, 3)) (hin : ∀ w ∈ u_ws C T N, w ∈ wU) (hty : ∀ k, k < N → parseFieldDescriptor (T k).2.2.1 = some (ty k)) (hw1 : Cond.classLink own index C ∈ wU) (hw2 : Cond.instantiable C N ∈ wU) (hw3 : Cond.initialized C ∈ wU) (hc : vwCl[ci]? = some (C, T, N)) (hfs : ∀ j, j < N → defaultValue (ty j) = vp_V fs j) (h1 : k + 1 ≤ mc) (h2 : n + N ≤ ms) (kk : ∀ q : Nat, Kw E cy b sz res mc ms own cc nL (pc + 3) lv (.ref q :: st) (ws ++ [(q, .inr (ci, fs))]) (k + 1) (n + N)) : Kw E cy b sz res mc ms own cc nL pc lv st ws k n := by
  obtain ⟨p, l, e, R, s, m, args, below, meth, c, D⟩ := E
  intro F HK HX hlk hrt hni hmc hms hsz hb H locs ls hP hD hS hl
  subst hsz
  have hKn := HK.1.1 ci _ hc
  refine W.newcK F.1 F.2.1 F.2.2.2.1 (F.2.2.2.2 _ hw1) (F.2.2.2.2 _ hw2) (F.2.2.2.2 _ hw3) rfl hd (by rw [hmc]; exact h1) (by rw [hms]; exact h2) hKn.2.1 rfl fun H1 kC hkC e1 z1 o1 => ?_
  have hkp : ∀ (i : Nat) (x : Nat × va_E), ws[i]? = some x → H1[x.1]? = H[x.1]? := fun i x hx => o1 x.1 ((hP i x hx).lt)
  exact kk H.size F HK HX hlk hrt hni hmc hms rfl hb H1 locs ls ((hP.kept hkp).app (fun i x hx => by
    have hz : i < 1 := (List.getElem?_eq_some_iff.mp hx).1
    rw [show i = 0 by omega] at hx
    cases hx
    exact ⟨_, hc, (u_born ty F.2.2.2.2 hin hKn hkC e1 hty).to hfs⟩)) (hD.push hP rfl (Or.inr hS.1)) ⟨Nat.le_trans hS.1 (by omega), fun x h1 h2 => (o1 x (Nat.lt_of_lt_of_le h1 hS.1)).trans (hS.2.1 x h1 h2), hS.2.2⟩ hl
theorem K_alenq {C : String} {q0 t a N : Nat} {f : Nat → Option Nat} {v : Int32} (hd : decode cc pc = .ok (.arraylength, 1)) (he : ws[q0]? = some (a, .inl (cy t, N, .inr (.inr (.inr (.inr f)))))) (ht : (tysL cy)[t]? = some (cy t, .object C)) (hv : Int32.ofNat N = v) (kk : Kw E cy b sz res mc ms own cc nL (pc + 1) lv (.int v :: st) ws k n) : Kw E cy b sz res mc ms own cc nL pc lv (.ref a :: st) ws k n := by
  obtain ⟨p, l, e, R, s, m, args, below, meth, c, D⟩ := E
  intro F HK HX hlk hrt hni hmc hms hsz hb H locs ls hP hD hS hl
  exact va_alen F.1 F.2.1 HK.1 hP q0 t (x := (N, .inr (.inr (.inr (.inr f))))) (ty := .object C) he ht hv hd (kk F HK HX hlk hrt hni hmc hms hsz hb H locs ls hP hD hS hl)
theorem K_aald {C : String} {q0 t a N : Nat} {f : Nat → Option Nat} {i : Int32} {v : Nat} (hd : decode cc pc = .ok (.aaload, 1)) (hb8 : inb i N = true) (he : ws[q0]? = some (a, .inl (cy t, N, .inr (.inr (.inr (.inr f)))))) (ht : (tysL cy)[t]? = some (cy t, .object C)) (hf : f i.toNatClampNeg = some v) (kk : Kw E cy b sz res mc ms own cc nL (pc + 1) lv (.ref v :: st) ws k n) : Kw E cy b sz res mc ms own cc nL pc lv (.int i :: .ref a :: st) ws k n := by
  obtain ⟨p, l, e, R, s, m, args, below, meth, c, D⟩ := E
  intro F HK HX hlk hrt hni hmc hms hsz hb H locs ls hP hD hS hl
  refine va_aldq F.1 F.2.1 HK.1 hP q0 t he ht (inb_vp hb8) hd ?_
  rw [hf]
  exact kk F HK HX hlk hrt hni hmc hms hsz hb H locs ls hP hD hS hl
theorem K_aast {r : vw_C} {q0 t qk ci a v N : Nat} {vs : List Value} {f : Nat → Option Nat} {i : Int32} (hd : decode cc pc = .ok (.aastore, 1)) (hb8 : inb i N = true) (he : ws[q0]? = some (a, .inl (cy t, N, .inr (.inr (.inr (.inr f)))))) (ht : (tysL cy)[t]? = some (cy t, .object r.1)) (hv : ws[qk]? = some (v, .inr (ci, vs))) (hc : vwCl[ci]? = some r) (kk : Kw E cy b sz res mc ms own cc nL (pc + 1) lv st (ws.set q0 (a, .inl (cy t, N, .inr (.inr (.inr (.inr (va_up f i.toNatClampNeg (some v)))))))) k n) : Kw E cy b sz res mc ms own cc nL pc lv (.ref v :: .int i :: .ref a :: st) ws k n := by
  obtain ⟨p, l, e, R, s, m, args, below, meth, c, D⟩ := E
  intro F HK HX hlk hrt hni hmc hms hsz hb H locs ls hP hD hS hl
  exact va_astq F.1 F.2.1 HK.1 hP hD hS q0 t qk ci he ht hv hc (inb_vp hb8) hd (fun H1 locs1 hP1 hD1 hS1 => kk F HK HX hlk hrt hni hmc hms hsz hb H1 locs1 ls hP1 hD1 hS1 hl)
theorem K_aastO {C : String} {r : vw_C} {q0 t qk ci a v N : Nat} {vs : List Value} {f : Nat → Option Nat} {i : Int32} (hd : decode cc pc = .ok (.aastore, 1)) (hb8 : inb i N = true) (he : ws[q0]? = some (a, .inl (cy t, N, .inr (.inr (.inr (.inr f)))))) (ht : (tysL cy)[t]? = some (cy t, .object C)) (hca : ∀ U, wl_X U → va_Nw (.castable r.1 C) U) (hv : ws[qk]? = some (v, .inr (ci, vs))) (hc : vwCl[ci]? = some r) (kk : Kw E cy b sz res mc ms own cc nL (pc + 1) lv st (ws.set q0 (a, .inl (cy t, N, .inr (.inr (.inr (.inr (va_up f i.toNatClampNeg (some v)))))))) k n) : Kw E cy b sz res mc ms own cc nL pc lv (.ref v :: .int i :: .ref a :: st) ws k n := by
  obtain ⟨p, l, e, R, s, m, args, below, meth, c, D⟩ := E
  intro F HK HX hlk hrt hni hmc hms hsz hb H locs ls hP hD hS hl
  exact va_astqO F.1 F.2.1 HK.1 hP hD hS q0 t qk ci he ht (hca _ HX) hv hc (inb_vp hb8) hd (fun H1 locs1 hP1 hD1 hS1 => kk F HK HX hlk hrt hni hmc hms hsz hb H1 locs1 ls hP1 hD1 hS1 hl)
theorem K_iast {q0 a N : Nat} {f : Nat → Int32} {i x : Int32} (hd : decode cc pc = .ok (.iastore, 1)) (hb8 : inb i N = true) (he : ws[q0]? = some (a, .inl (cy 0, N, .inl f))) (kk : Kw E cy b sz res mc ms own cc nL (pc + 1) lv st (ws.set q0 (a, .inl (cy 0, N, .inl (upd f i.toNatClampNeg x)))) k n) : Kw E cy b sz res mc ms own cc nL pc lv (.int x :: .int i :: .ref a :: st) ws k n := by
  obtain ⟨p, l, e, R, s, m, args, below, meth, c, D⟩ := E
  intro F HK HX hlk hrt hni hmc hms hsz hb H locs ls hP hD hS hl
  exact va_iast F.1 F.2.1 HK.1 hP hD hS q0 0 he rfl (inb_vp hb8) hd (fun H1 locs1 hP1 hD1 hS1 => kk F HK HX hlk hrt hni hmc hms hsz hb H1 locs1 ls hP1 hD1 hS1 hl)
theorem K_obj {index a N : Nat} (hd : decode cc pc = .ok (.invokespecial index, 3)) (hw1 : Cond.methodLink own index Lib.objectInit ∈ wU) (hL : Lv E N) (hN : 1 ≤ N) (hW : (st.map fun v => v.category).sum ≤ 8) (kk : Kw E cy b sz res mc ms own cc nL (pc + 3) lv st ws k n) : Kw E cy b sz res mc ms own cc nL pc lv (.ref a :: st) ws k n := by
  obtain ⟨p, l, e, R, s, m, args, below, meth, c, D⟩ := E
  intro F HK HX hlk hrt hni hmc hms hsz hb H locs ls hP hD hS hl
  have h1 : N ≤ R.frames := hL.1
  have h2 : 40 * N ≤ R.locals := hL.2
  have hr := lv_room (m := m) (pc := pc) (ls := ls) (rest := .ref a :: st) hW
  exact W.objInit F.1 F.2.1 F.2.2.2.1 (F.2.2.2.2 _ hw1) (F.2.2.2.2 _ tw_1_30) (F.2.2.2.2 _ tw_1_31) rfl (hl.1.trans F.2.2.1.symm) rfl hd (by omega) (by omega) (kk F HK HX hlk hrt hni hmc hms hsz hb H locs ls hP hD hS hl)
theorem K_vret (hd : decode cc pc = .ok (.return_, 1)) (hk : k = mc) (hn : n = ms) (f : Nat → Nat) (hr : ws = (b, (res f).1) :: (res f).2)  : Kw E cy b sz res mc ms own cc nL pc lv [] ws k n := by
  obtain ⟨p, l, e, R, s, m, args, below, meth, c, D⟩ := E
  intro F HK HX hlk hrt hni hmc hms hsz hb H locs ls hP hD hS hl
  subst hk
  subst hn
  exact W.vret F.1 F.2.1 hrt (fun t ht hW => ⟨rfl, ⟨f, by rw [← hr, ht]; exact hP, by rw [← hr]; exact hD, fun x hx => by
    obtain ⟨i, hi⟩ := List.getElem?_of_mem hx
    have h9 : ws[i + 1]? = some x := by rw [hr]; simpa using hi
    rcases hD.2 _ _ h9 with h | h
    · have h8 := hD.1 (i + 1) 0 x (b, (res f).1) h9 (by rw [hr]; rfl) h
      omega
    · exact h⟩, hS.F ht⟩) hS.2.2 hd hlk
/-- behind a constructor -/
theorem ct_join {A : Nat → Prop} {D : va_G} {ws nw : va_W} {a q0 z : Nat} {e0 e1 : va_E} {H H1 : Heap} (hP : va_P D vwCl ws H) (hD : va_D A ws) (hq : ws[q0]? = some (a, e0)) (hz : H.size = z) (hk : ∀ q : Nat, q < H.size → ¬ fA a z q → H1[q]? = H[q]?) (hP1 : va_P D vwCl ((a, e1) :: nw) H1) (hD1 : va_D (fA a z) ((a, e1) :: nw)) (hn : ∀ x ∈ nw, z ≤ x.1) (hA : ∀ q, z ≤ q → A q) : va_P D vwCl (ws.set q0 (a, e1) ++ nw) H1 ∧ va_D A (ws.set q0 (a, e1) ++ nw) := by
  have hl : q0 < ws.length := (List.getElem?_eq_some_iff.mp hq).1
  have hs : ∀ (i : Nat) (x : Nat × va_E), (ws.set q0 (a, e1))[i]? = some x → (i = q0 ∧ x = (a, e1)) ∨ (i ≠ q0 ∧ ws[i]? = some x) := by
    intro i x hx
    by_cases h : i = q0
    · subst h
      rw [List.getElem?_set_self hl] at hx
      cases hx
      exact Or.inl ⟨rfl, rfl⟩
    · rw [List.getElem?_set_ne (Ne.symm h)] at hx
      exact Or.inr ⟨h, hx⟩
  have hN : ∀ (i : Nat) (x : Nat × va_E), nw[i]? = some x → ((a, e1) :: nw)[i + 1]? = some x := fun i x h => by simpa using h
  refine ⟨va_P.app (fun i x hx => ?_) (fun i x hx => hP1 (i + 1) x (hN i x hx)), va_D.app (hD.set hq) ⟨fun i j x y h1 h2 h3 => ?_, fun i x h => hA _ (hn x (List.mem_of_getElem? h))⟩ (fun i j x y h1 h2 h3 => ?_)⟩
  · rcases hs i x hx with ⟨-, rfl⟩ | ⟨h1, h2⟩
    · exact hP1 0 _ rfl
    · have h3 := (hP i x h2).lt
      refine (hP i x h2).kept (hk x.1 h3 (fun h => ?_))
      rcases h with h | h
      · exact h1 (hD.1 i q0 x (a, e0) h2 hq h)
      · omega
  · have := hD1.1 (i + 1) (j + 1) x y (hN i x h1) (hN j y h2) h3
    omega
  · have h4 := hn y (List.mem_of_getElem? h2)
    rcases hs i x h1 with ⟨-, rfl⟩ | ⟨-, h5⟩
    · have h6 := (hP q0 _ hq).lt
      have h7 : a = y.1 := h3
      have h8 : a < H.size := h6
      omega
    · have h6 := (hP i x h5).lt
      omega
theorem K_ctor {index maxL kk mc' ms' N q0 a : Nat} {y : MethodName} {bytes : ByteArray} {av : List Value} {e0 : va_E} {res' : (Nat → Nat) → va_E × va_W} {st0 : List Value} (hd : decode cc pc = .ok (.invokespecial index, 3)) (hM : Ct (El E) (Ed E) cy y bytes maxL kk mc' ms' av e0 res') (hl1 : Cond.methodLink own index y ∈ wU) (hl2 : Cond.instanceMethod y ∈ wU) (hl3 : Cond.initialized y.cls ∈ wU) (hl4 : Cond.code y bytes maxL none ∈ wU) (hy : y.cls ≠ "java/lang/invoke/MethodHandle" ∧ y.cls ≠ "java/lang/invoke/VarHandle" ∧ (parseMethodDescriptor y.desc).map (fun d => d.parameters.length) = some av.length) (hyn : y.name = "<init>")
    (he : ws[q0]? = some (a, e0)) (hs : st0 = av.reverse ++ .ref a :: st) (hmx : maxL ≤ 21) (hL : Lv E N) (hN : kk + 1 ≤ N) (h1 : k + mc' ≤ mc) (h2 : n + ms' ≤ ms) (hW : (st.map fun v => v.category).sum ≤ 8)
    (kk2 : ∀ f : Nat → Nat, Kw E cy b sz res mc ms own cc nL (pc + 3) lv st (ws.set q0 (a, (res' f).1) ++ (res' f).2) (k + mc') (n + ms') ) : Kw E cy b sz res mc ms own cc nL pc lv st0 ws k n := by
  obtain ⟨p, l, e, R, s, m, args, below, meth, c, D⟩ := E
  intro F HK HX hlk hrt hni hmc hms hsz hb H locs ls hP hD hS hl
  have g1 : N ≤ R.frames := hL.1
  have g2 : 40 * N ≤ R.locals := hL.2
  have hr := va_runI (As := av) (rest := st) (locs := locs) (cells := k) (slots := n) (p := p) (e := e) (below := below) (meth := meth) F (hM a H.size) ⟨callB_of av.length F.2.2.2.2 (wl_goodIn hl4) rfl rfl rfl (F.2.2.2.2 _ hl3) (F.2.2.2.2 _ hl1) hy ⟨by show kk + 1 ≤ R.frames; omega, by show 8 + (maxL + 11) + 40 * kk ≤ R.locals; omega⟩, hyn, F.2.2.2.2 _ hl2⟩ ⟨Pk_blind, fun U hU hW => ⟨rfl, by rw [hU], (hP q0 _ he).lt, fun i x hx => by
    have hz : i < 1 := (List.getElem?_eq_some_iff.mp hx).1
    rw [show i = 0 by omega] at hx
    cases hx
    rw [hU]
    exact hP q0 _ he, HK.warm hW, HX.warm hW⟩⟩ rfl rfl hl.1 (g := F0 m pc ls st0) hs (lv_room hW) hd ⟨by rw [hmc]; exact h1, by rw [hms]; exact h2⟩
  intro T hT X
  obtain ⟨v, st₀, t, T', L, h0, X', hL', e1, e2, ⟨hv, ⟨f, hP1, hD1, hn1⟩, hz, hk⟩, stp⟩ := hr T hT X
  cases hv
  rw [h0] at hz hk
  have ha : fA b sz a := hD.2 q0 _ he
  have hsub : ∀ q, fA a H.size q → fA b sz q := fun q h => h.elim (fun h => by rw [h]; exact ha) (fun h => Or.inr (by rw [← hsz]; exact Nat.le_trans hS.1 h))
  obtain ⟨J1, J2⟩ := ct_join hP hD he rfl hk hP1 hD1 hn1 (fun q h => Or.inr (by rw [← hsz]; exact Nat.le_trans hS.1 h))
  obtain ⟨t2, a1, b1⟩ := kk2 f F HK HX hlk hrt hni hmc hms hsz hb T'.heap (locs ++ L) ls (by rw [e1]; exact J1) J2
    ⟨Nat.le_trans hS.1 (by rw [e1]; exact hz), fun q h1 h2 => by rw [e1, hk q (Nat.lt_of_lt_of_le h1 hS.1) (fun h => h2 (hsub q h))]; exact hS.2.1 q h1 h2, fun q hq => by
      rcases List.mem_append.mp hq with h | h
      · exact hS.2.2 q h
      · exact hsub _ (hL' q h)⟩ hl T' rfl X'
  exact ⟨t2, stp t2 a1, b1⟩
theorem K_ctorN {index maxL kk mc' ms' N q0 a : Nat} {y : MethodName} {bytes : ByteArray} {av : List Value} {e0 : va_E} {res' : (Nat → Nat) → va_E × va_W} {st0 : List Value} (hd : decode cc pc = .ok (.invokespecial index, 3)) (hM : Ct (El E) (Ed E) cy y bytes maxL kk mc' ms' av e0 res') (hl1 : (own, index, y) ∈ nestX) (hl2 : Cond.instanceMethod y ∈ wU) (hl3 : Cond.initialized y.cls ∈ wU) (hl4 : Cond.code y bytes maxL none ∈ wU) (hy : y.cls ≠ "java/lang/invoke/MethodHandle" ∧ y.cls ≠ "java/lang/invoke/VarHandle" ∧ (parseMethodDescriptor y.desc).map (fun d => d.parameters.length) = some av.length) (hyn : y.name = "<init>")
    (he : ws[q0]? = some (a, e0)) (hs : st0 = av.reverse ++ .ref a :: st) (hmx : maxL ≤ 21) (hL : Lv E N) (hN : kk + 1 ≤ N) (h1 : k + mc' ≤ mc) (h2 : n + ms' ≤ ms) (hW : (st.map fun v => v.category).sum ≤ 8)
    (kk2 : ∀ f : Nat → Nat, Kw E cy b sz res mc ms own cc nL (pc + 3) lv st (ws.set q0 (a, (res' f).1) ++ (res' f).2) (k + mc') (n + ms') ) : Kw E cy b sz res mc ms own cc nL pc lv st0 ws k n := by
  obtain ⟨p, l, e, R, s, m, args, below, meth, c, D⟩ := E
  intro F HK HX hlk hrt hni hmc hms hsz hb H locs ls hP hD hS hl
  have g1 : N ≤ R.frames := hL.1
  have g2 : 40 * N ≤ R.locals := hL.2
  have hr := va_runIN (host := "ToldWhereItWas") (As := av) (rest := st) (locs := locs) (cells := k) (slots := n) (p := p) (e := e) (below := below) (meth := meth) F (hM a H.size) ⟨va_cnB av.length F.2.2.2.2 (wl_goodIn hl4) rfl rfl rfl (HX.1 _ hl1) (F.2.2.2.2 _ hl3) hy ⟨by show kk + 1 ≤ R.frames; omega, by show 8 + (maxL + 11) + 40 * kk ≤ R.locals; omega⟩, hyn, F.2.2.2.2 _ hl2⟩ ⟨Pk_blind, fun U hU hW => ⟨rfl, by rw [hU], (hP q0 _ he).lt, fun i x hx => by
    have hz : i < 1 := (List.getElem?_eq_some_iff.mp hx).1
    rw [show i = 0 by omega] at hx
    cases hx
    rw [hU]
    exact hP q0 _ he, HK.warm hW, HX.warm hW⟩⟩ rfl rfl hl.1 (g := F0 m pc ls st0) hs (lv_room hW) hd ⟨by rw [hmc]; exact h1, by rw [hms]; exact h2⟩
  intro T hT X
  obtain ⟨v, st₀, t, T', L, h0, X', hL', e1, e2, ⟨hv, ⟨f, hP1, hD1, hn1⟩, hz, hk⟩, stp⟩ := hr T hT X
  cases hv
  rw [h0] at hz hk
  have ha : fA b sz a := hD.2 q0 _ he
  have hsub : ∀ q, fA a H.size q → fA b sz q := fun q h => h.elim (fun h => by rw [h]; exact ha) (fun h => Or.inr (by rw [← hsz]; exact Nat.le_trans hS.1 h))
  obtain ⟨J1, J2⟩ := ct_join hP hD he rfl hk hP1 hD1 hn1 (fun q h => Or.inr (by rw [← hsz]; exact Nat.le_trans hS.1 h))
  obtain ⟨t2, a1, b1⟩ := kk2 f F HK HX hlk hrt hni hmc hms hsz hb T'.heap (locs ++ L) ls (by rw [e1]; exact J1) J2
    ⟨Nat.le_trans hS.1 (by rw [e1]; exact hz), fun q h1 h2 => by rw [e1, hk q (Nat.lt_of_lt_of_le h1 hS.1) (fun h => h2 (hsub q h))]; exact hS.2.1 q h1 h2, fun q hq => by
      rcases List.mem_append.mp hq with h | h
      · exact hS.2.2 q h
      · exact hsub _ (hL' q h)⟩ hl T' rfl X'
  exact ⟨t2, stp t2 a1, b1⟩
/-- Arrays.fill of an int array -/
def Γf (cy : Nat → ClassId) (N a : Nat) : Wl (Nat → Int32) := (1, fun w _ => .inl (cy 0, N, .inl w), fun _ => a, cy)
theorem K_fill {index kk maxL N q0 a M : Nat} {y : MethodName} {bytes : ByteArray} {f f' : Nat → Int32} {x : Int32} (hd : decode cc pc = .ok (.invokestatic index, 3)) (hM : ∀ a, Cn (El E) (Ed E) (Γf cy M a) y bytes maxL none kk [.ref a, .int x] f (none, f')) (hl1 : Cond.methodLink own index y ∈ wU) (hl2 : Cond.static y ∈ wU) (hl3 : Cond.initialized y.cls ∈ wU) (hl4 : Cond.code y bytes maxL none ∈ wU) (hy : y.cls ≠ "java/lang/invoke/MethodHandle" ∧ y.cls ≠ "java/lang/invoke/VarHandle" ∧ (parseMethodDescriptor y.desc).map (fun d => d.parameters.length) = some 2)
    (he : ws[q0]? = some (a, .inl (cy 0, M, .inl f))) (hmx : maxL ≤ 21) (hL : Lv E N) (hN : kk + 1 ≤ N) (h1 : k ≤ mc) (h2 : n ≤ ms) (hW : (st.map fun v => v.category).sum ≤ 8)
    (kk2 : Kw E cy b sz res mc ms own cc nL (pc + 3) lv st (ws.set q0 (a, .inl (cy 0, M, .inl f'))) k n) : Kw E cy b sz res mc ms own cc nL pc lv (.int x :: .ref a :: st) ws k n := by
  obtain ⟨p, l, e, R, s, m, args, below, meth, c, D⟩ := E
  intro F HK HX hlk hrt hni hmc hms hsz hb H locs ls hP hD hS hl
  have g1 : N ≤ R.frames := hL.1
  have g2 : 40 * N ≤ R.locals := hL.2
  have hr := va_runS (As := [.ref a, .int x]) (rest := st) (locs := locs) (cells := k) (slots := n) (p := p) (e := e) (below := below) (meth := meth) F (hM a) ⟨callB_of 2 F.2.2.2.2 (wl_goodIn hl4) rfl rfl rfl (F.2.2.2.2 _ hl3) (F.2.2.2.2 _ hl1) hy ⟨by show kk + 1 ≤ R.frames; omega, by show 8 + (maxL + 11) + 40 * kk ≤ R.locals; omega⟩, F.2.2.2.2 _ hl2⟩ ⟨wl_blind, fun U hU hW => ⟨rfl, fun i x hx => by
    have hz : i < 1 := (List.getElem?_eq_some_iff.mp hx).1
    rw [show i = 0 by omega] at hx
    cases hx
    rw [hU]
    exact hP q0 _ he, HK.warm hW⟩⟩ rfl rfl hl.1 (g := F0 m pc ls (.int x :: .ref a :: st)) rfl (lv_room hW) hd ⟨by rw [hmc]; exact h1, by rw [hms]; exact h2⟩
  intro T hT X
  obtain ⟨v, st₀, t, T', L, h0, X', hL', e1, e2, ⟨hv, hP1, hz, hk⟩, stp⟩ := hr T hT X
  cases hv
  rw [h0] at hz hk
  have hin : ∀ q, wl_A (Γf cy M a) q → q = a := fun q ⟨_, _, h⟩ => h
  have hfa : fA b sz a := hD.2 q0 _ he
  have hsub : ∀ q, wl_A (Γf cy M a) q → fA b sz q := fun q h => by rw [hin q h]; exact hfa
  have hat : va_at D vwCl (a, .inl (cy 0, M, .inl f')) t.heap := hP1 0 _ rfl
  obtain ⟨t2, a1, b1⟩ := kk2 F HK HX hlk hrt hni hmc hms hsz hb T'.heap (locs ++ L) ls (by
      rw [e1]
      intro i x hx
      by_cases h : i = q0
      · subst h
        rw [List.getElem?_set_self (List.getElem?_eq_some_iff.mp he).1] at hx
        cases hx
        exact hat
      · rw [List.getElem?_set_ne (Ne.symm h)] at hx
        exact (hP i x hx).kept (hk x.1 (hP i x hx).lt (fun z => h (hD.1 i q0 x _ hx he (hin _ z))))) (hD.set he)
    ⟨Nat.le_trans hS.1 (by rw [e1]; exact hz), fun q h1 h2 => by rw [e1, hk q (Nat.lt_of_lt_of_le h1 hS.1) (fun h => h2 (hsub q h))]; exact hS.2.1 q h1 h2, fun q hq => by
      rcases List.mem_append.mp hq with h | h
      · exact hS.2.2 q h
      · exact hsub _ (hL' q h)⟩ hl T' rfl X'
  exact ⟨t2, stp t2 a1, b1⟩
end

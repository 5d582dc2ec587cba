def Lv (E : Ec) (n : Nat) : Prop := n ≤ (Er E).frames ∧ 40 * n ≤ (Er E).locals
theorem Lv.le {E : Ec} {n k : Nat} (h : Lv E n) (hk : k ≤ n) : Lv E k := ⟨Nat.le_trans hk h.1, Nat.le_trans (Nat.mul_le_mul_left 40 hk) h.2⟩
theorem wl_goodIn {c : Cond} (hc : c ∈ wU) : GoodIn wU (c :: wU) := fun w hw => (List.mem_cons.mp hw).elim (fun e => by subst e; exact ⟨hc, wU_good _ hc⟩) (fun h => ⟨h, wU_good w h⟩)
/-- a contract of level k: its room by its level -/
abbrev Cn {Wd : Type} (l : Launch) (D : va_G) (Γ : Wl Wd) (y : MethodName) (cc : ByteArray) (nL : Nat) (rt : Option FieldType) (k : Nat) (av : List Value) (w : Wd) (r : Option Value × Wd) : Prop := Cm l D Γ y cc nL rt k (40 * k) av w r
/-- a contract out of the walk -/
theorem Cn.of {Wd : Type} {l : Launch} {D : va_G} {Γ : Wl Wd} {y : MethodName} {cc : ByteArray} {nL : Nat} {rt : Option FieldType} {k : Nat} {av : List Value} {w : Wd} {r : Option Value × Wd} (hinj : wl_inj Γ) (hy : plainName y.cls = true) (hav : (lg_sl av).length ≤ nL)
    (h : ∀ E : Ec, El E = l → Ed E = D → Lv E k → Jw E Γ y.cls cc nL rt r 0 (lv_args 0 av) [] w) : Cn l D Γ y cc nL rt k av w r := by
  refine Met.ofW (cc := cc) (maxL := nL) (ret := rt) hy rfl ?_
  intro p e s m args below meth c s₁ B hml hv
  obtain ⟨rfl, hP, hK⟩ := hv
  have hts := atoms_spec (ws := Cond.code y cc nL rt :: wU) B.pre
  have hown : s.vm.findClass y.cls = some m.cls := findClass_of_methodNamed B.named
  have hl := lv_entry av (n := nL) hav
  rw [lg_entry_eq]
  exact h (p, l, e, _, s, m, av.toArray, below, meth, c, D) rfl rfl ⟨Nat.le_refl _, Nat.le_refl _⟩ ⟨B.exec, B.bytes, hml, hown, fun w hw => hts w (List.mem_cons_of_mem _ hw)⟩ hK B.notSynchronized B.returns hinj s.heap [] _ hP va_S.rf hl
section
variable {Wd : Type} {E : Ec} {Γ : Wl Wd} {own : String} {cc : ByteArray} {nL : Nat} {rt : Option FieldType} {r : Option Value × Wd} {pc : Nat} {lv : List (Nat × Value)} {st : List Value} {w : Wd}
theorem J_get {ref C : String} {T : u_T} {N ci index h k : Nat} {fs : List Value} {v : Value} (hd : decode cc pc = .ok (.getfield index, 3)) (hin : ∀ x ∈ u_ws C T N, x ∈ wU) (hc : vwCl[ci]? = some (C, T, N)) (hk : k < N) (href : (T k).1 = ref) (hlink : Cond.fieldLink own index ref (T k).2.1 (T k).2.2.1 ∈ wU) (hh : h < Γ.1) (he : Γ.2.1 w h = .inr (ci, fs)) (hv : fs[k]? = some v)
    (kk : Jw E Γ own cc nL rt r (pc + 3) lv (v :: st) w) : Jw E Γ own cc nL rt r pc lv (.ref (Γ.2.2.1 h) :: st) w := by
  obtain ⟨p, l, e, R, s, m, args, below, meth, c, D⟩ := E
  intro F HK hlk hrt hinj H locs ls hP hS hl
  exact va_get F.1 F.2.1 F.2.2.2.2 hin F.2.2.2.1 HK.1 hP h (wl_at hh he) hc k hk (F.2.2.2.2 _ hlink) (fun _ h9 => by rw [← href]; exact h9) hv hd (kk F HK hlk hrt hinj H locs ls hP hS hl)
theorem J_put {ref C : String} {T : u_T} {N ci index h k : Nat} {fs : List Value} {v : Value} {ty : FieldType} {w' : Wd} {ty0 : Nat → FieldType} (hd : decode cc pc = .ok (.putfield index, 3)) (hin : ∀ x ∈ u_ws C T N, x ∈ wU) (hty : ∀ k, k < N → parseFieldDescriptor (T k).2.2.1 = some (ty0 k)) (hnm : ∀ a, a < N → ∀ b, b < N → a ≠ b → (T a).2.1 ≠ (T b).2.1) (hc : vwCl[ci]? = some (C, T, N)) (hk : k < N) (href : (T k).1 = ref) (hlink : Cond.fieldLink own index ref (T k).2.1 (T k).2.2.1 ∈ wU) (hfin : (T k).2.2.2 = false) (hdt : parseFieldDescriptor (T k).2.2.1 = some ty) (hn : narrow ty v = v) (hfit : fits ty v = true) (hh : h < Γ.1) (he : Γ.2.1 w h = .inr (ci, fs)) (hfl : k < fs.length) (he' : Γ.2.1 w' h = .inr (ci, fs.set k v)) (ho : ∀ j, j < Γ.1 → j ≠ h → Γ.2.1 w' j = Γ.2.1 w j)
    (kk : Jw E Γ own cc nL rt r (pc + 3) lv st w') : Jw E Γ own cc nL rt r pc lv (v :: .ref (Γ.2.2.1 h) :: st) w := by
  obtain ⟨p, l, e, R, s, m, args, below, meth, c, D⟩ := E
  intro F HK hlk hrt hinj H locs ls hP hS hl
  refine va_put F.1 F.2.1 F.2.2.2.2 hin ty0 hty hnm F.2.2.2.1 HK.1 hP (wl_D hinj) hS h (wl_at hh he) hc k hk (F.2.2.2.2 _ hlink) (fun _ h9 => by rw [← href]; exact h9) hfin hdt hn hfit hfl hd (fun H1 locs1 hP1 hD1 hS1 => ?_)
  rw [wl_set he' ho] at hP1
  exact kk F HK hlk hrt hinj H1 locs1 ls hP1 hS1 hl
theorem J_iald {h n : Nat} {f : Nat → Int32} {i : Int32} (hd : decode cc pc = .ok (.iaload, 1)) (hb : inb i n = true) (hh : h < Γ.1) (he : Γ.2.1 w h = .inl (Γ.2.2.2 0, n, .inl f))
    (kk : Jw E Γ own cc nL rt r (pc + 1) lv (.int (ix f i) :: st) w) : Jw E Γ own cc nL rt r pc lv (.int i :: .ref (Γ.2.2.1 h) :: st) w := by
  obtain ⟨p, l, e, R, s, m, args, below, meth, c, D⟩ := E
  intro F HK hlk hrt hinj H locs ls hP hS hl
  exact va_iald F.1 F.2.1 HK.1 hP h 0 (wl_at hh he) rfl (inb_vp hb) hd (kk F HK hlk hrt hinj H locs ls hP hS hl)
theorem J_lald {h n : Nat} {f : Nat → Int64} {i : Int32} (hd : decode cc pc = .ok (.laload, 1)) (hb : inb i n = true) (hh : h < Γ.1) (he : Γ.2.1 w h = .inl (Γ.2.2.2 1, n, .inr (.inl f)))
    (kk : Jw E Γ own cc nL rt r (pc + 1) lv (.long (ixL f i) :: st) w) : Jw E Γ own cc nL rt r pc lv (.int i :: .ref (Γ.2.2.1 h) :: st) w := by
  obtain ⟨p, l, e, R, s, m, args, below, meth, c, D⟩ := E
  intro F HK hlk hrt hinj H locs ls hP hS hl
  exact va_lald F.1 F.2.1 HK.1 hP h 1 (wl_at hh he) rfl (inb_vp hb) hd (kk F HK hlk hrt hinj H locs ls hP hS hl)
theorem J_aald {h n t : Nat} {C : String} {f : Nat → Option Nat} {i : Int32} {a : Nat} (hd : decode cc pc = .ok (.aaload, 1)) (hb : inb i n = true) (hh : h < Γ.1) (he : Γ.2.1 w h = .inl (Γ.2.2.2 t, n, .inr (.inr (.inr (.inr f))))) (ht : (tysL Γ.2.2.2)[t]? = some (Γ.2.2.2 t, .object C)) (hf : f i.toNatClampNeg = some a)
    (kk : Jw E Γ own cc nL rt r (pc + 1) lv (.ref a :: st) w) : Jw E Γ own cc nL rt r pc lv (.int i :: .ref (Γ.2.2.1 h) :: st) w := by
  obtain ⟨p, l, e, R, s, m, args, below, meth, c, D⟩ := E
  intro F HK hlk hrt hinj H locs ls hP hS hl
  refine va_aldq F.1 F.2.1 HK.1 hP h t (wl_at hh he) ht (inb_vp hb) hd ?_
  rw [hf]
  exact kk F HK hlk hrt hinj H locs ls hP hS hl
theorem J_iast {h n : Nat} {f : Nat → Int32} {i x : Int32} {w' : Wd} (hd : decode cc pc = .ok (.iastore, 1)) (hb : inb i n = true) (hh : h < Γ.1) (he : Γ.2.1 w h = .inl (Γ.2.2.2 0, n, .inl f)) (he' : Γ.2.1 w' h = .inl (Γ.2.2.2 0, n, .inl (upd f i.toNatClampNeg x))) (ho : ∀ j, j < Γ.1 → j ≠ h → Γ.2.1 w' j = Γ.2.1 w j)
    (kk : Jw E Γ own cc nL rt r (pc + 1) lv st w') : Jw E Γ own cc nL rt r pc lv (.int x :: .int i :: .ref (Γ.2.2.1 h) :: st) w := by
  obtain ⟨p, l, e, R, s, m, args, below, meth, c, D⟩ := E
  intro F HK hlk hrt hinj H locs ls hP hS hl
  refine va_iast F.1 F.2.1 HK.1 hP (wl_D hinj) hS h 0 (wl_at hh he) rfl (inb_vp hb) hd (fun H1 locs1 hP1 hD1 hS1 => ?_)
  rw [wl_set he' ho] at hP1
  exact kk F HK hlk hrt hinj H1 locs1 ls hP1 hS1 hl
theorem J_last {h n : Nat} {f : Nat → Int64} {i : Int32} {x : Int64} {w' : Wd} (hd : decode cc pc = .ok (.lastore, 1)) (hb : inb i n = true) (hh : h < Γ.1) (he : Γ.2.1 w h = .inl (Γ.2.2.2 1, n, .inr (.inl f))) (he' : Γ.2.1 w' h = .inl (Γ.2.2.2 1, n, .inr (.inl (vp_updL f i.toNatClampNeg x)))) (ho : ∀ j, j < Γ.1 → j ≠ h → Γ.2.1 w' j = Γ.2.1 w j)
    (kk : Jw E Γ own cc nL rt r (pc + 1) lv st w') : Jw E Γ own cc nL rt r pc lv (.long x :: .int i :: .ref (Γ.2.2.1 h) :: st) w := by
  obtain ⟨p, l, e, R, s, m, args, below, meth, c, D⟩ := E
  intro F HK hlk hrt hinj H locs ls hP hS hl
  refine va_last F.1 F.2.1 HK.1 hP (wl_D hinj) hS h 1 (wl_at hh he) rfl (inb_vp hb) hd (fun H1 locs1 hP1 hD1 hS1 => ?_)
  rw [wl_set he' ho] at hP1
  exact kk F HK hlk hrt hinj H1 locs1 ls hP1 hS1 hl
theorem J_max {index : Nat} {x y : Int32} (hd : decode cc pc = .ok (.invokestatic index, 3)) (hl1 : Cond.methodLink own index Lib.Math.max.name ∈ wU) (hl2 : Cond.static Lib.Math.max.name ∈ wU) (hl3 : Cond.initialized "java/lang/Math" ∈ wU) (hl4 : Cond.code Lib.Math.max.name Lib.Math.max.code 2 (some .int) ∈ wU) {n : Nat} (hL : Lv E n) (hn : 1 ≤ n) (hW : (st.map fun v => v.category).sum ≤ 8)
    (k : Jw E Γ own cc nL rt r (pc + 3) lv (.int (max32 x y) :: st) w) : Jw E Γ own cc nL rt r pc lv (.int y :: .int x :: st) w := by
  obtain ⟨p, l, e, R, s, m, args, below, meth, c, D⟩ := E
  intro F HK hlk hrt hinj H locs ls hP hS hl
  have h1 : n ≤ R.frames := hL.1
  have h2 : 40 * n ≤ R.locals := hL.2
  exact va_mmax F.1 F.2.1 (F.2.2.1.trans hl.1.symm) F.2.2.2.1 (F.2.2.2.2 _ hl1) (F.2.2.2.2 _ hl2) (F.2.2.2.2 _ hl3) (F.2.2.2.2 _ hl4) (by omega) (by omega) (Nat.zero_le _) (Nat.zero_le _) hd (k F HK hlk hrt hinj H locs ls hP hS hl)
/-- behind a call -/
theorem J_back {p : Program} {l : Launch} {e : Env} {R : Room} {s : State} {m : MethodId} {args : Array Value} {below : List Frame} {meth : Method} {c : Code} {D : va_G} {H : Heap} {locs : List Loc} {ls : Array Slot} {st0 : List Value} {q : Option Value × Wd} {a : Array Value} {Q : State → Prop}
    (hr : va_Run p l e R s m args below meth c H locs 0 0 0 0 (F0 m pc ls st0) st (wl_Q D Γ q a) (wl_A Γ)) (hS : va_S (wl_A Γ) s.heap H locs)
    (k : ∀ (H1 : Heap) (locs1 : List Loc), va_P D vwCl (wl_ws Γ q.2) H1 → va_S (wl_A Γ) s.heap H1 locs1 → W p l e R s m args below meth c H1 locs1 0 0 Q (F0 m (pc + 3) ls (q.1.toList ++ st))) : W p l e R s m args below meth c H locs 0 0 Q (F0 m pc ls st0) := by
  intro T hT X
  obtain ⟨v, st₀, t, T', L, h0, X', hL, e1, e2, ⟨hv, hP1, hz, hk⟩, stp⟩ := hr T hT X
  cases hv
  rw [h0] at hz hk
  obtain ⟨t2, a1, b1⟩ := k T'.heap (locs ++ L) (by rw [e1]; exact hP1)
    ⟨Nat.le_trans hS.1 (by rw [e1]; exact hz), fun q h1 h2 => by rw [e1, hk q (Nat.lt_of_lt_of_le h1 hS.1) h2]; exact hS.2.1 q h1 h2, fun q hq => by
      rcases List.mem_append.mp hq with h | h
      · exact hS.2.2 q h
      · exact hL q h⟩ T' rfl X'
  exact ⟨t2, stp t2 a1, b1⟩
theorem J_callS {index kk maxL n : Nat} {y : MethodName} {bytes : ByteArray} {ret : Option FieldType} {av : List Value} {q : Option Value × Wd} {st0 : List Value} (hd : decode cc pc = .ok (.invokestatic index, 3)) (hM : Cn (El E) (Ed E) Γ y bytes maxL ret kk av w q) (hl1 : Cond.methodLink own index y ∈ wU) (hl2 : Cond.static y ∈ wU) (hl3 : Cond.initialized y.cls ∈ wU) (hl4 : Cond.code y bytes maxL ret ∈ wU) (hy : y.cls ≠ "java/lang/invoke/MethodHandle" ∧ y.cls ≠ "java/lang/invoke/VarHandle" ∧ (parseMethodDescriptor y.desc).map (fun d => d.parameters.length) = some av.length)
    (hs : st0 = av.reverse ++ st) (hmx : maxL ≤ 21) (hL : Lv E n) (hn : kk + 1 ≤ n) (hW : (st.map fun v => v.category).sum ≤ 8) (k : Jw E Γ own cc nL rt r (pc + 3) lv (q.1.toList ++ st) q.2) : Jw E Γ own cc nL rt r pc lv st0 w := by
  obtain ⟨p, l, e, R, s, m, args, below, meth, c, D⟩ := E
  intro F HK hlk hrt hinj H locs ls hP hS hl
  have h1 : n ≤ R.frames := hL.1
  have h2 : 40 * n ≤ R.locals := hL.2
  refine J_back (va_runS (As := av) (rest := st) F hM ⟨callB_of av.length F.2.2.2.2 (wl_goodIn hl4) rfl rfl rfl (F.2.2.2.2 _ hl3) (F.2.2.2.2 _ hl1) hy ⟨by show kk + 1 ≤ R.frames; omega, by show 8 + (maxL + 11) + 40 * kk ≤ R.locals; omega⟩, F.2.2.2.2 _ hl2⟩ ⟨wl_blind, fun U hU hW => ⟨rfl, by rw [hU]; exact hP, HK.warm hW⟩⟩ rfl rfl hl.1 hs (lv_room hW) hd ⟨Nat.zero_le _, Nat.zero_le _⟩) hS (fun H1 locs1 hP1 hS1 => ?_)
  exact k F HK hlk hrt hinj H1 locs1 ls hP1 hS1 hl
/-- a static method of the nest's host -/
theorem J_callSN {index kk maxL n : Nat} {y : MethodName} {bytes : ByteArray} {ret : Option FieldType} {av : List Value} {q : Option Value × Wd} {st0 : List Value} (hd : decode cc pc = .ok (.invokestatic index, 3)) (hM : Cn (El E) (Ed E) Γ y bytes maxL ret kk av w q) (how : own = RX10) (hl1 : (index, y) ∈ nestL) (hl2 : Cond.static y ∈ wU) (hl3 : Cond.initialized y.cls ∈ wU) (hl4 : Cond.code y bytes maxL ret ∈ wU) (hy : y.cls ≠ "java/lang/invoke/MethodHandle" ∧ y.cls ≠ "java/lang/invoke/VarHandle" ∧ (parseMethodDescriptor y.desc).map (fun d => d.parameters.length) = some av.length)
    (hs : st0 = av.reverse ++ st) (hmx : maxL ≤ 21) (hL : Lv E n) (hn : kk + 1 ≤ n) (hW : (st.map fun v => v.category).sum ≤ 8) (k : Jw E Γ own cc nL rt r (pc + 3) lv (q.1.toList ++ st) q.2) : Jw E Γ own cc nL rt r pc lv st0 w := by
  subst how
  obtain ⟨p, l, e, R, s, m, args, below, meth, c, D⟩ := E
  intro F HK hlk hrt hinj H locs ls hP hS hl
  have h1 : n ≤ R.frames := hL.1
  have h2 : 40 * n ≤ R.locals := hL.2
  refine J_back (va_runSN (As := av) (rest := st) (host := "ToldWhereItWas") F hM ⟨va_cnB av.length F.2.2.2.2 (wl_goodIn hl4) rfl rfl rfl (HK.2 _ hl1) (F.2.2.2.2 _ hl3) hy ⟨by show kk + 1 ≤ R.frames; omega, by show 8 + (maxL + 11) + 40 * kk ≤ R.locals; omega⟩, F.2.2.2.2 _ hl2, trivial⟩ ⟨wl_blind, fun U hU hW => ⟨rfl, by rw [hU]; exact hP, HK.warm hW⟩⟩ rfl rfl hl.1 hs (lv_room hW) hd ⟨Nat.zero_le _, Nat.zero_le _⟩) hS (fun H1 locs1 hP1 hS1 => ?_)
  exact k F HK hlk hrt hinj H1 locs1 ls hP1 hS1 hl
/-- a method of the receiver's own class -/
theorem J_callV {index kk maxL n h ci : Nat} {y : MethodName} {bytes : ByteArray} {ret : Option FieldType} {av : List Value} {q : Option Value × Wd} {st0 : List Value} {qc : vw_C} {fs : List Value} (hd : decode cc pc = .ok (.invokevirtual index, 3)) (hM : Cn (El E) (Ed E) Γ y bytes maxL ret kk (.ref (Γ.2.2.1 h) :: av) w q) (hl1 : Cond.methodLink own index y ∈ wU) (hl2 : Cond.instanceMethod y ∈ wU) (hl3 : Cond.initialized y.cls ∈ wU) (hl4 : Cond.code y bytes maxL ret ∈ wU) (hl5 : Cond.selects y.cls y y ∈ wU) (hy : y.cls ≠ "java/lang/invoke/MethodHandle" ∧ y.cls ≠ "java/lang/invoke/VarHandle" ∧ (parseMethodDescriptor y.desc).map (fun d => d.parameters.length) = some av.length)
    (hh : h < Γ.1) (he : Γ.2.1 w h = .inr (ci, fs)) (hc : vwCl[ci]? = some qc) (hq : qc.1 = y.cls)
    (hs : st0 = av.reverse ++ .ref (Γ.2.2.1 h) :: st) (hmx : maxL ≤ 21) (hL : Lv E n) (hn : kk + 1 ≤ n) (hW : (st.map fun v => v.category).sum ≤ 8) (k : Jw E Γ own cc nL rt r (pc + 3) lv (q.1.toList ++ st) q.2) : Jw E Γ own cc nL rt r pc lv st0 w := by
  obtain ⟨p, l, e, R, s, m, args, below, meth, c, D⟩ := E
  intro F HK hlk hrt hinj H locs ls hP hS hl
  have h1 : n ≤ R.frames := hL.1
  have h2 : 40 * n ≤ R.locals := hL.2
  have hrec := va_recv HK.1 hP hc (wl_at hh he)
  rw [hq] at hrec
  refine J_back (va_runV (As := av) (rest := st) (C := y.cls) F hM ⟨callB_of av.length F.2.2.2.2 (wl_goodIn hl4) rfl rfl rfl (F.2.2.2.2 _ hl3) (F.2.2.2.2 _ hl1) hy ⟨by show kk + 1 ≤ R.frames; omega, by show 8 + (maxL + 11) + 40 * kk ≤ R.locals; omega⟩, F.2.2.2.2 _ hl2, F.2.2.2.2 _ hl5⟩ ⟨wl_blind, hrec, fun U hU hW => ⟨rfl, by rw [hU]; exact hP, HK.warm hW⟩⟩ rfl rfl hl.1 hs (lv_room hW) hd ⟨Nat.zero_le _, Nat.zero_le _⟩) hS (fun H1 locs1 hP1 hS1 => ?_)
  exact k F HK hlk hrt hinj H1 locs1 ls hP1 hS1 hl
end

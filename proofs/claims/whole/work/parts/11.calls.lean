def ushr32 (x y : Int32) : Int32 := (x.toUInt32 >>> (y.toUInt32 &&& Int32.toUInt32 31)).toInt32
section
variable {Wd : Type} {E : Ec} {Γ : Wl Wd} {own : String} {cc : ByteArray} {nL : Nat} {rt : Option FieldType} {r : Option Value × Wd} {pc : Nat} {lv : List (Nat × Value)} {st : List Value} {w : Wd}
theorem J_iushr {x y : Int32} (hd : decode cc pc = .ok (.iushr, 1)) (k : Jw E Γ own cc nL rt r (pc + 1) lv (.int (ushr32 x y) :: st) w) : Jw E Γ own cc nL rt r pc lv (.int y :: .int x :: st) w := by
  obtain ⟨p, l, e, R, s, m, args, below, meth, c, D⟩ := E
  intro F HK hlk hrt hinj H locs ls hP hS hl
  exact lv_iushr F.1 F.2.1 hd rfl (k F HK hlk hrt hinj H locs ls hP hS hl)
theorem J_alen {h n : Nat} {f : Nat → Int32} {v : Int32} (hd : decode cc pc = .ok (.arraylength, 1)) (hh : h < Γ.1) (he : Γ.2.1 w h = .inl (Γ.2.2.2 0, n, .inl f)) (hv : Int32.ofNat n = v)
    (kk : Jw E Γ own cc nL rt r (pc + 1) lv (.int v :: st) w) : Jw E Γ own cc nL rt r pc lv (.ref (Γ.2.2.1 h) :: st) w := by
  obtain ⟨p, l, e, R, s, m, args, below, meth, c, D⟩ := E
  intro F HK hlk hrt hinj H locs ls hP hS hl
  exact va_alen F.1 F.2.1 HK.1 hP h 0 (x := (n, .inl f)) (ty := .int) (wl_at hh he) rfl hv hd (kk F HK hlk hrt hinj H locs ls hP hS hl)
/-- System.arraycopy of ints between two arrays, or within one -/
theorem J_copy {index h0 h1 n0 n1 : Nat} {f g : Nat → Int32} {sp dp n : Int32} {w' : Wd} {nl : Nat} (hd : decode cc pc = .ok (.invokestatic index, 3)) (hl1 : Cond.methodLink own index arraycopyName ∈ wU) (hl2 : Cond.native arraycopyName ∈ wU) (hl3 : Cond.static arraycopyName ∈ wU) (hl4 : Cond.initialized "java/lang/System" ∈ wU)
    (hh0 : h0 < Γ.1) (he0 : Γ.2.1 w h0 = .inl (Γ.2.2.2 0, n0, .inl f)) (hh1 : h1 < Γ.1) (he1 : Γ.2.1 w h1 = .inl (Γ.2.2.2 0, n1, .inl g)) (c1 : ¬ sp < 0) (c2 : ¬ dp < 0) (c3 : ¬ n < 0) (c4 : sp.toNatClampNeg + n.toNatClampNeg ≤ n0) (c5 : dp.toNatClampNeg + n.toNatClampNeg ≤ n1)
    (he' : Γ.2.1 w' h1 = .inl (Γ.2.2.2 0, n1, .inl (va_cpy f g sp.toNatClampNeg dp.toNatClampNeg n.toNatClampNeg))) (ho : ∀ j, j < Γ.1 → j ≠ h1 → Γ.2.1 w' j = Γ.2.1 w j) (hL : Lv E nl) (hn : 1 ≤ nl) (hW : (st.map fun v => v.category).sum ≤ 8)
    (k : Jw E Γ own cc nL rt r (pc + 3) lv st w') : Jw E Γ own cc nL rt r pc lv (.int n :: .int dp :: .ref (Γ.2.2.1 h1) :: .int sp :: .ref (Γ.2.2.1 h0) :: st) w := by
  obtain ⟨p, l, e, R, s, m, args, below, meth, c, D⟩ := E
  intro F HK hlk hrt hinj H locs ls hP hS hl
  have g1 : nl ≤ R.frames := hL.1
  have g2 : 40 * nl ≤ R.locals := hL.2
  have g3 : nativeFrameWords "java/lang/System" "arraycopy" 5 ≤ 16 := by decide +kernel
  refine va_copyi F.1 F.2.1 (F.2.2.1.trans hl.1.symm) F.2.2.2.1 (F.2.2.2.2 _ hl1) (F.2.2.2.2 _ hl2) (F.2.2.2.2 _ hl3) (F.2.2.2.2 _ hl4) HK.1 hP (wl_D hinj) hS h0 h1 0 0 (ty := .int) (wl_at hh0 he0) (wl_at hh1 he1) rfl rfl rfl c1 c2 c3 c4 c5 (fun _ _ => rfl) (by omega) (by omega) hd (fun H1 locs1 hP1 hD1 hS1 => ?_)
  rw [wl_set he' ho] at hP1
  exact k F HK hlk hrt hinj H1 locs1 ls hP1 hS1 hl
/-- a method that the receiver's class has by its kind: named by x, run as y -/
theorem J_callU {index kk maxL n h ci : Nat} {C : String} {x y : MethodName} {bytes b0 : ByteArray} {m0 : Nat} {ret r0 : Option FieldType} {av : List Value} {q : Option Value × Wd} {st0 : List Value} {qc : vw_C} {fs : List Value} (hd : decode cc pc = .ok (.invokevirtual index, 3)) (hM : Cn (El E) (Ed E) Γ y bytes maxL ret kk (.ref (Γ.2.2.1 h) :: av) w q) (hl1 : Cond.methodLink own index x ∈ wU) (hls : Cond.sameMethod x.cls x.cls x.name x.desc ∈ wU) (hl0 : Cond.instanceMethod x ∈ wU) (hc0 : Cond.code x b0 m0 r0 ∈ wU) (hl2 : Cond.instanceMethod y ∈ wU) (hl3 : Cond.initialized y.cls ∈ wU) (hl4 : Cond.code y bytes maxL ret ∈ wU) (hl5 : Cond.selects C x y ∈ wU) (hy : x.cls ≠ "java/lang/invoke/MethodHandle" ∧ x.cls ≠ "java/lang/invoke/VarHandle" ∧ (parseMethodDescriptor x.desc).map (fun d => d.parameters.length) = some av.length)
    (hh : h < Γ.1) (he : Γ.2.1 w h = .inr (ci, fs)) (hc : vwCl[ci]? = some qc) (hq : qc.1 = C)
    (hs : st0 = av.reverse ++ .ref (Γ.2.2.1 h) :: st) (hmx : maxL ≤ 21) (hL : Lv E n) (hn : kk + 1 ≤ n) (hW : (st.map fun v => v.category).sum ≤ 8) (k : Jw E Γ own cc nL rt r (pc + 3) lv (q.1.toList ++ st) q.2) : Jw E Γ own cc nL rt r pc lv st0 w := by
  obtain ⟨p, l, e, R, s, m, args, below, meth, c, D⟩ := E
  intro F HK hlk hrt hinj H locs ls hP hS hl
  have h1 : n ≤ R.frames := hL.1
  have h2 : 40 * n ≤ R.locals := hL.2
  have hrec := va_recv HK.1 hP hc (wl_at hh he)
  rw [hq] at hrec
  have ht := F.2.2.2.2
  refine J_back (va_runU (As := av) (rest := st) (C := C) (owner := x.cls) (x := x) (n := av.length) F hM ⟨⟨rfl, rfl, by show kk + 1 ≤ R.frames; omega, by show 8 + (maxL + 11) + 40 * kk ≤ R.locals; omega, pay_in ht (wl_goodIn hl4), List.mem_cons_self⟩, ht _ hl4, ht _ hl3, ⟨hy.1, hy.2.1⟩, fun sig h9 => by have h8 := hy.2.2; rw [h9] at h8; exact (Option.some.inj h8).symm, ht _ hl1, ht _ hls, va_Decl.of (ht _ hl0) (ht _ hc0), ht _ hl5, ht _ hl2⟩ ⟨wl_blind, hrec, fun U hU hW => ⟨rfl, by rw [hU]; exact hP, HK.warm hW⟩⟩ rfl rfl hl.1 hs (lv_room hW) hd ⟨Nat.zero_le _, Nat.zero_le _⟩) hS (fun H1 locs1 hP1 hS1 => ?_)
  exact k F HK hlk hrt hinj H1 locs1 ls hP1 hS1 hl
/-- super's method -/
theorem J_callSU {index kk maxL n h ci : Nat} {y : MethodName} {bytes : ByteArray} {ret : Option FieldType} {av : List Value} {q : Option Value × Wd} {st0 : List Value} {qc : vw_C} {fs : List Value} (hd : decode cc pc = .ok (.invokespecial index, 3)) (hM : Cn (El E) (Ed E) Γ y bytes maxL ret kk (.ref (Γ.2.2.1 h) :: av) w q) (hl1 : Cond.methodLink own index y ∈ wU) (hls : Cond.sameMethod y.cls y.cls y.name y.desc ∈ wU) (hlp : Cond.superclass own y.cls ∈ wU) (hl2 : Cond.instanceMethod y ∈ wU) (hl3 : Cond.initialized y.cls ∈ wU) (hl4 : Cond.code y bytes maxL ret ∈ wU) (hy : y.name ≠ "<init>" ∧ (parseMethodDescriptor y.desc).map (fun d => d.parameters.length) = some av.length)
    (hh : h < Γ.1) (he : Γ.2.1 w h = .inr (ci, fs)) (hc : vwCl[ci]? = some qc)
    (hs : st0 = av.reverse ++ .ref (Γ.2.2.1 h) :: st) (hmx : maxL ≤ 21) (hL : Lv E n) (hn : kk + 1 ≤ n) (hW : (st.map fun v => v.category).sum ≤ 8) (k : Jw E Γ own cc nL rt r (pc + 3) lv (q.1.toList ++ st) q.2) : Jw E Γ own cc nL rt r pc lv st0 w := by
  obtain ⟨p, l, e, R, s, m, args, below, meth, c, D⟩ := E
  intro F HK hlk hrt hinj H locs ls hP hS hl
  have h1 : n ≤ R.frames := hL.1
  have h2 : 40 * n ≤ R.locals := hL.2
  have hrec := va_recv HK.1 hP hc (wl_at hh he)
  have hat : ClassAt s qc.1 (D.1 ci) := (HK.1.1 ci qc hc).2
  have ht := F.2.2.2.2
  refine J_back (va_runSU (As := av) (rest := st) (C := qc.1) (n := av.length) hat F hM ⟨⟨rfl, rfl, by show kk + 1 ≤ R.frames; omega, by show 8 + (maxL + 11) + 40 * kk ≤ R.locals; omega, pay_in ht (wl_goodIn hl4), List.mem_cons_self⟩, ht _ hl1, ht _ hls, ht _ hlp, ht _ hl2, ht _ hl3, ht _ hl4, hy.1, fun sig h9 => by have h8 := hy.2; rw [h9] at h8; exact (Option.some.inj h8).symm⟩ ⟨wl_blind, hrec, fun U hU hW => ⟨rfl, by rw [hU]; exact hP, HK.warm hW⟩⟩ rfl rfl hl.1 hs (lv_room hW) hd ⟨Nat.zero_le _, Nat.zero_le _⟩) hS (fun H1 locs1 hP1 hS1 => ?_)
  exact k F HK hlk hrt hinj H1 locs1 ls hP1 hS1 hl
end

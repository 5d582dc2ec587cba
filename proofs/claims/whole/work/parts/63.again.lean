/-! the judgement again, for bodies that throw or catch, and for the law: any end, any set of cells, counters -/
def Jx {Wd : Type} (E : Ec) (Γ : Wl Wd) (A : Nat → Prop) (fin : Ec → State → Prop) (kc ks : Nat) (own : String) (cc : ByteArray) (nL : Nat) (rt : Option FieldType) (pc : Nat) (lv : List (Nat × Value)) (st : List Value) (w : Wd) : Prop :=
  match E with
  | (p, l, e, R, s, m, args, below, meth, c, D) => CallFix p m c cc nL s args wU own → wl_K D Γ.2.2.2 s → meth.locks = false → meth.sig.returnType = rt → (wl_inj Γ ∧ ∀ h, h < Γ.1 → A (Γ.2.2.1 h)) → (kc ≤ R.cells ∧ ks ≤ R.slots) → ∀ (H : Heap) (locs : List Loc) (ls : Array Slot), va_P D vwCl (wl_ws Γ w) H → va_S A s.heap H locs → lv_has ls nL lv →
    W p l e R s m args below meth c H locs kc ks (fin (p, l, e, R, s, m, args, below, meth, c, D)) (F0 m pc ls st)
theorem wl_DA {Wd : Type} {Γ : Wl Wd} {A : Nat → Prop} {w : Wd} (h : wl_inj Γ ∧ ∀ h, h < Γ.1 → A (Γ.2.2.1 h)) : va_D A (wl_ws Γ w) :=
  (wl_D h.1).weaken (fun k q hk _ => by obtain ⟨a1, a2⟩ := wl_lt hk; rw [a2]; exact h.2 k a1)
theorem wl_AA {Wd : Type} {Γ : Wl Wd} {A : Nat → Prop} (h : wl_inj Γ ∧ ∀ h, h < Γ.1 → A (Γ.2.2.1 h)) : ∀ q, wl_A Γ q → A q := fun q ⟨k, h1, h2⟩ => by rw [h2]; exact h.2 k h1
section
variable {Wd : Type} {E : Ec} {Γ : Wl Wd} {A : Nat → Prop} {fin : Ec → State → Prop} {kc ks : Nat} {own : String} {cc : ByteArray} {nL : Nat} {rt : Option FieldType} {pc : Nat} {lv : List (Nat × Value)} {st : List Value} {w : Wd}
theorem Y_back {p : Program} {l : Launch} {e : Env} {R : Room} {s : State} {m : MethodId} {args : Array Value} {below : List Frame} {meth : Method} {c : Code} {D : va_G} {H : Heap} {locs : List Loc} {ls : Array Slot} {st0 : List Value} {q : Option Value × Wd} {a : Array Value} {Q : State → Prop}
    (hr : va_Run p l e R s m args below meth c H locs kc ks 0 0 (F0 m pc ls st0) st (wl_Q D Γ q a) (wl_A Γ)) (hA : ∀ q, wl_A Γ q → A q) (hS : va_S A s.heap H locs)
    (k : ∀ (H1 : Heap) (locs1 : List Loc), va_P D vwCl (wl_ws Γ q.2) H1 → va_S A s.heap H1 locs1 → W p l e R s m args below meth c H1 locs1 kc ks Q (F0 m (pc + 3) ls (q.1.toList ++ st))) : W p l e R s m args below meth c H locs kc ks Q (F0 m pc ls st0) := by
  intro T hT X
  obtain ⟨v, st₀, t, T', L, h0, X', hL, e1, e2, ⟨hv, hP1, hz, hk⟩, stp⟩ := hr T hT X
  cases hv
  rw [h0] at hz hk
  obtain ⟨t2, a1, b1⟩ := k T'.heap (locs ++ L) (by rw [e1]; exact hP1)
    ⟨Nat.le_trans hS.1 (by rw [e1]; exact hz), fun q h1 h2 => by rw [e1, hk q (Nat.lt_of_lt_of_le h1 hS.1) (fun z => h2 (hA q z))]; exact hS.2.1 q h1 h2, fun q hq => by
      rcases List.mem_append.mp hq with h | h
      · exact hS.2.2 q h
      · exact hA _ (hL q h)⟩ T' rfl X'
  exact ⟨t2, stp t2 a1, b1⟩
theorem Y_iconst {n : Int} {v : Int32} (hd : decode cc pc = .ok (.iconst n, 1)) (hv : Int32.ofInt n = v) (k : Jx E Γ A fin kc ks own cc nL rt (pc + 1) lv (.int v :: st) w) : Jx E Γ A fin kc ks own cc nL rt pc lv (st) w := by
  obtain ⟨p, l, e, R, s, m, args, below, meth, c, D⟩ := E
  intro F HK hlk hrt hinj hcs H locs ls hP hS hl
  exact lv_iconst F.1 F.2.1 hd hv (k F HK hlk hrt hinj hcs H locs ls hP hS hl)
theorem Y_bipush {n : Int} {v : Int32} (hd : decode cc pc = .ok (.bipush n, 2)) (hv : (Int8.ofInt n).toInt32 = v) (k : Jx E Γ A fin kc ks own cc nL rt (pc + 2) lv (.int v :: st) w) : Jx E Γ A fin kc ks own cc nL rt pc lv (st) w := by
  obtain ⟨p, l, e, R, s, m, args, below, meth, c, D⟩ := E
  intro F HK hlk hrt hinj hcs H locs ls hP hS hl
  exact lv_bipush F.1 F.2.1 hd hv (k F HK hlk hrt hinj hcs H locs ls hP hS hl)
theorem Y_sipush {n : Int} {v : Int32} (hd : decode cc pc = .ok (.sipush n, 3)) (hv : (Int16.ofInt n).toInt32 = v) (k : Jx E Γ A fin kc ks own cc nL rt (pc + 3) lv (.int v :: st) w) : Jx E Γ A fin kc ks own cc nL rt pc lv (st) w := by
  obtain ⟨p, l, e, R, s, m, args, below, meth, c, D⟩ := E
  intro F HK hlk hrt hinj hcs H locs ls hP hS hl
  exact lv_sipush F.1 F.2.1 hd hv (k F HK hlk hrt hinj hcs H locs ls hP hS hl)
theorem Y_lconst {n : Fin 2} {v : Int64} (hd : decode cc pc = .ok (.lconst n, 1)) (hv : Int64.ofNat (n : Nat) = v) (k : Jx E Γ A fin kc ks own cc nL rt (pc + 1) lv (.long v :: st) w) : Jx E Γ A fin kc ks own cc nL rt pc lv (st) w := by
  obtain ⟨p, l, e, R, s, m, args, below, meth, c, D⟩ := E
  intro F HK hlk hrt hinj hcs H locs ls hP hS hl
  exact lv_lconst F.1 F.2.1 hd hv (k F HK hlk hrt hinj hcs H locs ls hP hS hl)
theorem Y_ldc {index : Nat} {v : Int32} (hd : decode cc pc = .ok (.ldc index, 2)) (hw : Cond.constant own index v ∈ wU) (k : Jx E Γ A fin kc ks own cc nL rt (pc + 2) lv (.int v :: st) w) : Jx E Γ A fin kc ks own cc nL rt pc lv st w := by
  obtain ⟨p, l, e, R, s, m, args, below, meth, c, D⟩ := E
  intro F HK hlk hrt hinj hcs H locs ls hP hS hl
  exact lv_ldc F.1 F.2.1 F.2.2.2.1 (F.2.2.2.2 _ hw) hd (k F HK hlk hrt hinj hcs H locs ls hP hS hl)
theorem Y_ldcw {index : Nat} {v : Int32} (hd : decode cc pc = .ok (.ldc_w index, 3)) (hw : Cond.constant own index v ∈ wU) (k : Jx E Γ A fin kc ks own cc nL rt (pc + 3) lv (.int v :: st) w) : Jx E Γ A fin kc ks own cc nL rt pc lv st w := by
  obtain ⟨p, l, e, R, s, m, args, below, meth, c, D⟩ := E
  intro F HK hlk hrt hinj hcs H locs ls hP hS hl
  exact lv_ldcw F.1 F.2.1 F.2.2.2.1 (F.2.2.2.2 _ hw) hd (k F HK hlk hrt hinj hcs H locs ls hP hS hl)
theorem Y_ldc2 {index : Nat} {v : Int64} (hd : decode cc pc = .ok (.ldc2_w index, 3)) (hw : Cond.constantLong own index v ∈ wU) (k : Jx E Γ A fin kc ks own cc nL rt (pc + 3) lv (.long v :: st) w) : Jx E Γ A fin kc ks own cc nL rt pc lv st w := by
  obtain ⟨p, l, e, R, s, m, args, below, meth, c, D⟩ := E
  intro F HK hlk hrt hinj hcs H locs ls hP hS hl
  exact lv_ldc2 F.1 F.2.1 F.2.2.2.1 (F.2.2.2.2 _ hw) hd (k F HK hlk hrt hinj hcs H locs ls hP hS hl)
theorem Y_iload_n {j : Fin 4} {i q : Nat} {x : Int32} (hd : decode cc pc = .ok (.iload_n j, 1)) (hi : (j : Nat) = i) (hq : lv[q]? = some (i, .int x)) (k : Jx E Γ A fin kc ks own cc nL rt (pc + 1) lv (.int x :: st) w) : Jx E Γ A fin kc ks own cc nL rt pc lv st w := by
  obtain ⟨p, l, e, R, s, m, args, below, meth, c, D⟩ := E
  intro F HK hlk hrt hinj hcs H locs ls hP hS hl
  exact lv_iload_n F.1 F.2.1 hd hi (lv_at hl q hq) (k F HK hlk hrt hinj hcs H locs ls hP hS hl)
theorem Y_iload {i q : Nat} {x : Int32} (hd : decode cc pc = .ok (.iload i, 2)) (hq : lv[q]? = some (i, .int x)) (k : Jx E Γ A fin kc ks own cc nL rt (pc + 2) lv (.int x :: st) w) : Jx E Γ A fin kc ks own cc nL rt pc lv st w := by
  obtain ⟨p, l, e, R, s, m, args, below, meth, c, D⟩ := E
  intro F HK hlk hrt hinj hcs H locs ls hP hS hl
  exact lv_iload F.1 F.2.1 hd (lv_at hl q hq) (k F HK hlk hrt hinj hcs H locs ls hP hS hl)
theorem Y_istore_n {j : Fin 4} {i : Nat} {x : Int32} {lv' : List (Nat × Value)} (hd : decode cc pc = .ok (.istore_n j, 1)) (hi : (j : Nat) = i) (hn : i < nL) (h' : (i, Value.int x) :: lv.filter (fun q => !(q.1 == i) && !(q.1 + 1 == i && q.2.category == 2)) = lv') (k : Jx E Γ A fin kc ks own cc nL rt (pc + 1) lv' st w) : Jx E Γ A fin kc ks own cc nL rt pc lv (.int x :: st) w := by
  obtain ⟨p, l, e, R, s, m, args, below, meth, c, D⟩ := E
  intro F HK hlk hrt hinj hcs H locs ls hP hS hl
  exact lv_istore_n F.1 F.2.1 hd hi hl hn h' (fun ls hl => k F HK hlk hrt hinj hcs H locs ls hP hS hl)
theorem Y_istore {i : Nat} {x : Int32} {lv' : List (Nat × Value)} (hd : decode cc pc = .ok (.istore i, 2)) (hn : i < nL) (h' : (i, Value.int x) :: lv.filter (fun q => !(q.1 == i) && !(q.1 + 1 == i && q.2.category == 2)) = lv') (k : Jx E Γ A fin kc ks own cc nL rt (pc + 2) lv' st w) : Jx E Γ A fin kc ks own cc nL rt pc lv (.int x :: st) w := by
  obtain ⟨p, l, e, R, s, m, args, below, meth, c, D⟩ := E
  intro F HK hlk hrt hinj hcs H locs ls hP hS hl
  exact lv_istore F.1 F.2.1 hd hl hn h' (fun ls hl => k F HK hlk hrt hinj hcs H locs ls hP hS hl)
theorem Y_lload_n {j : Fin 4} {i q : Nat} {x : Int64} (hd : decode cc pc = .ok (.lload_n j, 1)) (hi : (j : Nat) = i) (hq : lv[q]? = some (i, .long x)) (k : Jx E Γ A fin kc ks own cc nL rt (pc + 1) lv (.long x :: st) w) : Jx E Γ A fin kc ks own cc nL rt pc lv st w := by
  obtain ⟨p, l, e, R, s, m, args, below, meth, c, D⟩ := E
  intro F HK hlk hrt hinj hcs H locs ls hP hS hl
  exact lv_lload_n F.1 F.2.1 hd hi (lv_at hl q hq) (k F HK hlk hrt hinj hcs H locs ls hP hS hl)
theorem Y_lload {i q : Nat} {x : Int64} (hd : decode cc pc = .ok (.lload i, 2)) (hq : lv[q]? = some (i, .long x)) (k : Jx E Γ A fin kc ks own cc nL rt (pc + 2) lv (.long x :: st) w) : Jx E Γ A fin kc ks own cc nL rt pc lv st w := by
  obtain ⟨p, l, e, R, s, m, args, below, meth, c, D⟩ := E
  intro F HK hlk hrt hinj hcs H locs ls hP hS hl
  exact lv_lload F.1 F.2.1 hd (lv_at hl q hq) (k F HK hlk hrt hinj hcs H locs ls hP hS hl)
theorem Y_lstore_n {j : Fin 4} {i : Nat} {x : Int64} {lv' : List (Nat × Value)} (hd : decode cc pc = .ok (.lstore_n j, 1)) (hi : (j : Nat) = i) (hn : i + 1 < nL) (h' : (i, Value.long x) :: lv.filter (fun q => !(q.1 == i) && (!(q.1 == i + 1) && !(q.1 + 1 == i && q.2.category == 2))) = lv') (k : Jx E Γ A fin kc ks own cc nL rt (pc + 1) lv' st w) : Jx E Γ A fin kc ks own cc nL rt pc lv (.long x :: st) w := by
  obtain ⟨p, l, e, R, s, m, args, below, meth, c, D⟩ := E
  intro F HK hlk hrt hinj hcs H locs ls hP hS hl
  exact lv_lstore_n F.1 F.2.1 hd hi hl hn h' (fun ls hl => k F HK hlk hrt hinj hcs H locs ls hP hS hl)
theorem Y_lstore {i : Nat} {x : Int64} {lv' : List (Nat × Value)} (hd : decode cc pc = .ok (.lstore i, 2)) (hn : i + 1 < nL) (h' : (i, Value.long x) :: lv.filter (fun q => !(q.1 == i) && (!(q.1 == i + 1) && !(q.1 + 1 == i && q.2.category == 2))) = lv') (k : Jx E Γ A fin kc ks own cc nL rt (pc + 2) lv' st w) : Jx E Γ A fin kc ks own cc nL rt pc lv (.long x :: st) w := by
  obtain ⟨p, l, e, R, s, m, args, below, meth, c, D⟩ := E
  intro F HK hlk hrt hinj hcs H locs ls hP hS hl
  exact lv_lstore F.1 F.2.1 hd hl hn h' (fun ls hl => k F HK hlk hrt hinj hcs H locs ls hP hS hl)
theorem Y_aload_n {j : Fin 4} {i q : Nat} {x : Nat} (hd : decode cc pc = .ok (.aload_n j, 1)) (hi : (j : Nat) = i) (hq : lv[q]? = some (i, .ref x)) (k : Jx E Γ A fin kc ks own cc nL rt (pc + 1) lv (.ref x :: st) w) : Jx E Γ A fin kc ks own cc nL rt pc lv st w := by
  obtain ⟨p, l, e, R, s, m, args, below, meth, c, D⟩ := E
  intro F HK hlk hrt hinj hcs H locs ls hP hS hl
  exact lv_aload_n F.1 F.2.1 hd hi (lv_at hl q hq) (k F HK hlk hrt hinj hcs H locs ls hP hS hl)
theorem Y_aload {i q : Nat} {x : Nat} (hd : decode cc pc = .ok (.aload i, 2)) (hq : lv[q]? = some (i, .ref x)) (k : Jx E Γ A fin kc ks own cc nL rt (pc + 2) lv (.ref x :: st) w) : Jx E Γ A fin kc ks own cc nL rt pc lv st w := by
  obtain ⟨p, l, e, R, s, m, args, below, meth, c, D⟩ := E
  intro F HK hlk hrt hinj hcs H locs ls hP hS hl
  exact lv_aload F.1 F.2.1 hd (lv_at hl q hq) (k F HK hlk hrt hinj hcs H locs ls hP hS hl)
theorem Y_astore_n {j : Fin 4} {i : Nat} {x : Nat} {lv' : List (Nat × Value)} (hd : decode cc pc = .ok (.astore_n j, 1)) (hi : (j : Nat) = i) (hn : i < nL) (h' : (i, Value.ref x) :: lv.filter (fun q => !(q.1 == i) && !(q.1 + 1 == i && q.2.category == 2)) = lv') (k : Jx E Γ A fin kc ks own cc nL rt (pc + 1) lv' st w) : Jx E Γ A fin kc ks own cc nL rt pc lv (.ref x :: st) w := by
  obtain ⟨p, l, e, R, s, m, args, below, meth, c, D⟩ := E
  intro F HK hlk hrt hinj hcs H locs ls hP hS hl
  exact lv_astore_n F.1 F.2.1 hd hi hl hn h' (fun ls hl => k F HK hlk hrt hinj hcs H locs ls hP hS hl)
theorem Y_astore {i : Nat} {x : Nat} {lv' : List (Nat × Value)} (hd : decode cc pc = .ok (.astore i, 2)) (hn : i < nL) (h' : (i, Value.ref x) :: lv.filter (fun q => !(q.1 == i) && !(q.1 + 1 == i && q.2.category == 2)) = lv') (k : Jx E Γ A fin kc ks own cc nL rt (pc + 2) lv' st w) : Jx E Γ A fin kc ks own cc nL rt pc lv (.ref x :: st) w := by
  obtain ⟨p, l, e, R, s, m, args, below, meth, c, D⟩ := E
  intro F HK hlk hrt hinj hcs H locs ls hP hS hl
  exact lv_astore F.1 F.2.1 hd hl hn h' (fun ls hl => k F HK hlk hrt hinj hcs H locs ls hP hS hl)
theorem Y_iinc {i q : Nat} {n : Int} {x v : Int32} {lv' : List (Nat × Value)} (hd : decode cc pc = .ok (.iinc i n, 3)) (hq : lv[q]? = some (i, .int x)) (hv : x + Int32.ofInt n = v) (hn : i < nL) (h' : (i, Value.int v) :: lv.filter (fun q => !(q.1 == i) && !(q.1 + 1 == i && q.2.category == 2)) = lv') (k : Jx E Γ A fin kc ks own cc nL rt (pc + 3) lv' st w) : Jx E Γ A fin kc ks own cc nL rt pc lv st w := by
  obtain ⟨p, l, e, R, s, m, args, below, meth, c, D⟩ := E
  intro F HK hlk hrt hinj hcs H locs ls hP hS hl
  exact lv_iinc F.1 F.2.1 hd hl hq hv hn h' (fun ls hl => k F HK hlk hrt hinj hcs H locs ls hP hS hl)
theorem Y_iadd {x y : Int32} (hd : decode cc pc = .ok (.iadd, 1)) (k : Jx E Γ A fin kc ks own cc nL rt (pc + 1) lv (.int (x + y) :: st) w) : Jx E Γ A fin kc ks own cc nL rt pc lv (.int y :: .int x :: st) w := by
  obtain ⟨p, l, e, R, s, m, args, below, meth, c, D⟩ := E
  intro F HK hlk hrt hinj hcs H locs ls hP hS hl
  exact lv_iadd F.1 F.2.1 hd (k F HK hlk hrt hinj hcs H locs ls hP hS hl)
theorem Y_isub {x y : Int32} (hd : decode cc pc = .ok (.isub, 1)) (k : Jx E Γ A fin kc ks own cc nL rt (pc + 1) lv (.int (x - y) :: st) w) : Jx E Γ A fin kc ks own cc nL rt pc lv (.int y :: .int x :: st) w := by
  obtain ⟨p, l, e, R, s, m, args, below, meth, c, D⟩ := E
  intro F HK hlk hrt hinj hcs H locs ls hP hS hl
  exact lv_isub F.1 F.2.1 hd (k F HK hlk hrt hinj hcs H locs ls hP hS hl)
theorem Y_imul {x y : Int32} (hd : decode cc pc = .ok (.imul, 1)) (k : Jx E Γ A fin kc ks own cc nL rt (pc + 1) lv (.int (x * y) :: st) w) : Jx E Γ A fin kc ks own cc nL rt pc lv (.int y :: .int x :: st) w := by
  obtain ⟨p, l, e, R, s, m, args, below, meth, c, D⟩ := E
  intro F HK hlk hrt hinj hcs H locs ls hP hS hl
  exact lv_imul F.1 F.2.1 hd (k F HK hlk hrt hinj hcs H locs ls hP hS hl)
theorem Y_iand {x y : Int32} (hd : decode cc pc = .ok (.iand, 1)) (k : Jx E Γ A fin kc ks own cc nL rt (pc + 1) lv (.int (x &&& y) :: st) w) : Jx E Γ A fin kc ks own cc nL rt pc lv (.int y :: .int x :: st) w := by
  obtain ⟨p, l, e, R, s, m, args, below, meth, c, D⟩ := E
  intro F HK hlk hrt hinj hcs H locs ls hP hS hl
  exact lv_iand F.1 F.2.1 hd (k F HK hlk hrt hinj hcs H locs ls hP hS hl)
theorem Y_ior {x y : Int32} (hd : decode cc pc = .ok (.ior, 1)) (k : Jx E Γ A fin kc ks own cc nL rt (pc + 1) lv (.int (x ||| y) :: st) w) : Jx E Γ A fin kc ks own cc nL rt pc lv (.int y :: .int x :: st) w := by
  obtain ⟨p, l, e, R, s, m, args, below, meth, c, D⟩ := E
  intro F HK hlk hrt hinj hcs H locs ls hP hS hl
  exact lv_ior F.1 F.2.1 hd (k F HK hlk hrt hinj hcs H locs ls hP hS hl)
theorem Y_ixor {x y : Int32} (hd : decode cc pc = .ok (.ixor, 1)) (k : Jx E Γ A fin kc ks own cc nL rt (pc + 1) lv (.int (x ^^^ y) :: st) w) : Jx E Γ A fin kc ks own cc nL rt pc lv (.int y :: .int x :: st) w := by
  obtain ⟨p, l, e, R, s, m, args, below, meth, c, D⟩ := E
  intro F HK hlk hrt hinj hcs H locs ls hP hS hl
  exact lv_ixor F.1 F.2.1 hd (k F HK hlk hrt hinj hcs H locs ls hP hS hl)
theorem Y_ishl {x y : Int32} (hd : decode cc pc = .ok (.ishl, 1)) (k : Jx E Γ A fin kc ks own cc nL rt (pc + 1) lv (.int (shl32 x y) :: st) w) : Jx E Γ A fin kc ks own cc nL rt pc lv (.int y :: .int x :: st) w := by
  obtain ⟨p, l, e, R, s, m, args, below, meth, c, D⟩ := E
  intro F HK hlk hrt hinj hcs H locs ls hP hS hl
  exact lv_ishl F.1 F.2.1 hd (k F HK hlk hrt hinj hcs H locs ls hP hS hl)
theorem Y_ishr {x y : Int32} (hd : decode cc pc = .ok (.ishr, 1)) (k : Jx E Γ A fin kc ks own cc nL rt (pc + 1) lv (.int (shr32 x y) :: st) w) : Jx E Γ A fin kc ks own cc nL rt pc lv (.int y :: .int x :: st) w := by
  obtain ⟨p, l, e, R, s, m, args, below, meth, c, D⟩ := E
  intro F HK hlk hrt hinj hcs H locs ls hP hS hl
  exact lv_ishr F.1 F.2.1 hd (k F HK hlk hrt hinj hcs H locs ls hP hS hl)
theorem Y_ladd {x y : Int64} (hd : decode cc pc = .ok (.ladd, 1)) (k : Jx E Γ A fin kc ks own cc nL rt (pc + 1) lv (.long (x + y) :: st) w) : Jx E Γ A fin kc ks own cc nL rt pc lv (.long y :: .long x :: st) w := by
  obtain ⟨p, l, e, R, s, m, args, below, meth, c, D⟩ := E
  intro F HK hlk hrt hinj hcs H locs ls hP hS hl
  exact lv_ladd F.1 F.2.1 hd (k F HK hlk hrt hinj hcs H locs ls hP hS hl)
theorem Y_lsub {x y : Int64} (hd : decode cc pc = .ok (.lsub, 1)) (k : Jx E Γ A fin kc ks own cc nL rt (pc + 1) lv (.long (x - y) :: st) w) : Jx E Γ A fin kc ks own cc nL rt pc lv (.long y :: .long x :: st) w := by
  obtain ⟨p, l, e, R, s, m, args, below, meth, c, D⟩ := E
  intro F HK hlk hrt hinj hcs H locs ls hP hS hl
  exact lv_lsub F.1 F.2.1 hd (k F HK hlk hrt hinj hcs H locs ls hP hS hl)
theorem Y_lmul {x y : Int64} (hd : decode cc pc = .ok (.lmul, 1)) (k : Jx E Γ A fin kc ks own cc nL rt (pc + 1) lv (.long (x * y) :: st) w) : Jx E Γ A fin kc ks own cc nL rt pc lv (.long y :: .long x :: st) w := by
  obtain ⟨p, l, e, R, s, m, args, below, meth, c, D⟩ := E
  intro F HK hlk hrt hinj hcs H locs ls hP hS hl
  exact lv_lmul F.1 F.2.1 hd (k F HK hlk hrt hinj hcs H locs ls hP hS hl)
theorem Y_idiv {x y : Int32} (hd : decode cc pc = .ok (.idiv, 1)) (hne : ¬ y = 0) (k : Jx E Γ A fin kc ks own cc nL rt (pc + 1) lv (.int (x / y) :: st) w) : Jx E Γ A fin kc ks own cc nL rt pc lv (.int y :: .int x :: st) w := by
  obtain ⟨p, l, e, R, s, m, args, below, meth, c, D⟩ := E
  intro F HK hlk hrt hinj hcs H locs ls hP hS hl
  exact lv_idiv F.1 F.2.1 hd hne (k F HK hlk hrt hinj hcs H locs ls hP hS hl)
theorem Y_irem {x y : Int32} (hd : decode cc pc = .ok (.irem, 1)) (hne : ¬ y = 0) (k : Jx E Γ A fin kc ks own cc nL rt (pc + 1) lv (.int (rem32 x y) :: st) w) : Jx E Γ A fin kc ks own cc nL rt pc lv (.int y :: .int x :: st) w := by
  obtain ⟨p, l, e, R, s, m, args, below, meth, c, D⟩ := E
  intro F HK hlk hrt hinj hcs H locs ls hP hS hl
  exact lv_irem F.1 F.2.1 hd hne (k F HK hlk hrt hinj hcs H locs ls hP hS hl)
theorem Y_ldiv {x y : Int64} (hd : decode cc pc = .ok (.ldiv, 1)) (hne : ¬ y = 0) (k : Jx E Γ A fin kc ks own cc nL rt (pc + 1) lv (.long (x / y) :: st) w) : Jx E Γ A fin kc ks own cc nL rt pc lv (.long y :: .long x :: st) w := by
  obtain ⟨p, l, e, R, s, m, args, below, meth, c, D⟩ := E
  intro F HK hlk hrt hinj hcs H locs ls hP hS hl
  exact lv_ldiv F.1 F.2.1 hd hne (k F HK hlk hrt hinj hcs H locs ls hP hS hl)
theorem Y_lrem {x y : Int64} (hd : decode cc pc = .ok (.lrem, 1)) (hne : ¬ y = 0) (k : Jx E Γ A fin kc ks own cc nL rt (pc + 1) lv (.long (rem64 x y) :: st) w) : Jx E Γ A fin kc ks own cc nL rt pc lv (.long y :: .long x :: st) w := by
  obtain ⟨p, l, e, R, s, m, args, below, meth, c, D⟩ := E
  intro F HK hlk hrt hinj hcs H locs ls hP hS hl
  exact lv_lrem F.1 F.2.1 hd hne (k F HK hlk hrt hinj hcs H locs ls hP hS hl)
theorem Y_ineg {x : Int32} (hd : decode cc pc = .ok (.ineg, 1)) (k : Jx E Γ A fin kc ks own cc nL rt (pc + 1) lv (.int (-x) :: st) w) : Jx E Γ A fin kc ks own cc nL rt pc lv (.int x :: st) w := by
  obtain ⟨p, l, e, R, s, m, args, below, meth, c, D⟩ := E
  intro F HK hlk hrt hinj hcs H locs ls hP hS hl
  exact lv_ineg F.1 F.2.1 hd (k F HK hlk hrt hinj hcs H locs ls hP hS hl)
theorem Y_i2l {x : Int32} (hd : decode cc pc = .ok (.i2l, 1)) (k : Jx E Γ A fin kc ks own cc nL rt (pc + 1) lv (.long x.toInt64 :: st) w) : Jx E Γ A fin kc ks own cc nL rt pc lv (.int x :: st) w := by
  obtain ⟨p, l, e, R, s, m, args, below, meth, c, D⟩ := E
  intro F HK hlk hrt hinj hcs H locs ls hP hS hl
  exact lv_i2l F.1 F.2.1 hd rfl (k F HK hlk hrt hinj hcs H locs ls hP hS hl)
theorem Y_l2i {x : Int64} (hd : decode cc pc = .ok (.l2i, 1)) (k : Jx E Γ A fin kc ks own cc nL rt (pc + 1) lv (.int x.toInt32 :: st) w) : Jx E Γ A fin kc ks own cc nL rt pc lv (.long x :: st) w := by
  obtain ⟨p, l, e, R, s, m, args, below, meth, c, D⟩ := E
  intro F HK hlk hrt hinj hcs H locs ls hP hS hl
  exact lv_l2i F.1 F.2.1 hd rfl (k F HK hlk hrt hinj hcs H locs ls hP hS hl)
theorem Y_i2b {x : Int32} (hd : decode cc pc = .ok (.i2b, 1)) (k : Jx E Γ A fin kc ks own cc nL rt (pc + 1) lv (.int x.toInt8.toInt32 :: st) w) : Jx E Γ A fin kc ks own cc nL rt pc lv (.int x :: st) w := by
  obtain ⟨p, l, e, R, s, m, args, below, meth, c, D⟩ := E
  intro F HK hlk hrt hinj hcs H locs ls hP hS hl
  exact lv_i2b F.1 F.2.1 hd rfl (k F HK hlk hrt hinj hcs H locs ls hP hS hl)
theorem Y_i2s {x : Int32} (hd : decode cc pc = .ok (.i2s, 1)) (k : Jx E Γ A fin kc ks own cc nL rt (pc + 1) lv (.int x.toInt16.toInt32 :: st) w) : Jx E Γ A fin kc ks own cc nL rt pc lv (.int x :: st) w := by
  obtain ⟨p, l, e, R, s, m, args, below, meth, c, D⟩ := E
  intro F HK hlk hrt hinj hcs H locs ls hP hS hl
  exact lv_i2s F.1 F.2.1 hd rfl (k F HK hlk hrt hinj hcs H locs ls hP hS hl)
theorem Y_lcmp {x y : Int64} (hd : decode cc pc = .ok (.lcmp, 1)) (k : Jx E Γ A fin kc ks own cc nL rt (pc + 1) lv (.int (lg_cmp x y) :: st) w) : Jx E Γ A fin kc ks own cc nL rt pc lv (.long y :: .long x :: st) w := by
  obtain ⟨p, l, e, R, s, m, args, below, meth, c, D⟩ := E
  intro F HK hlk hrt hinj hcs H locs ls hP hS hl
  exact W.lcmp F.1 F.2.1 hd (k F HK hlk hrt hinj hcs H locs ls hP hS hl)
theorem Y_dup {va : Value} (hd : decode cc pc = .ok (.dup, 1)) (hva : va.category = 1) (k : Jx E Γ A fin kc ks own cc nL rt (pc + 1) lv (va :: va :: st) w) : Jx E Γ A fin kc ks own cc nL rt pc lv (va :: st) w := by
  obtain ⟨p, l, e, R, s, m, args, below, meth, c, D⟩ := E
  intro F HK hlk hrt hinj hcs H locs ls hP hS hl
  exact lv_dup F.1 F.2.1 hd hva (k F HK hlk hrt hinj hcs H locs ls hP hS hl)
theorem Y_pop {va : Value} (hd : decode cc pc = .ok (.pop, 1)) (hva : va.category = 1) (k : Jx E Γ A fin kc ks own cc nL rt (pc + 1) lv (st) w) : Jx E Γ A fin kc ks own cc nL rt pc lv (va :: st) w := by
  obtain ⟨p, l, e, R, s, m, args, below, meth, c, D⟩ := E
  intro F HK hlk hrt hinj hcs H locs ls hP hS hl
  exact lv_pop F.1 F.2.1 hd hva (k F HK hlk hrt hinj hcs H locs ls hP hS hl)
theorem Y_dup2 {va vb : Value} (hd : decode cc pc = .ok (.dup2, 1)) (hva : va.category = 1) (hvb : vb.category = 1) (k : Jx E Γ A fin kc ks own cc nL rt (pc + 1) lv (va :: vb :: va :: vb :: st) w) : Jx E Γ A fin kc ks own cc nL rt pc lv (va :: vb :: st) w := by
  obtain ⟨p, l, e, R, s, m, args, below, meth, c, D⟩ := E
  intro F HK hlk hrt hinj hcs H locs ls hP hS hl
  exact lv_dup2_11 F.1 F.2.1 hd hva hvb (k F HK hlk hrt hinj hcs H locs ls hP hS hl)
theorem Y_dup_x1 {va vb : Value} (hd : decode cc pc = .ok (.dup_x1, 1)) (hva : va.category = 1) (hvb : vb.category = 1) (k : Jx E Γ A fin kc ks own cc nL rt (pc + 1) lv (va :: vb :: va :: st) w) : Jx E Γ A fin kc ks own cc nL rt pc lv (va :: vb :: st) w := by
  obtain ⟨p, l, e, R, s, m, args, below, meth, c, D⟩ := E
  intro F HK hlk hrt hinj hcs H locs ls hP hS hl
  exact lv_dup_x1 F.1 F.2.1 hd hva hvb (k F HK hlk hrt hinj hcs H locs ls hP hS hl)
theorem Y_if_eq {x : Int32} {off : Int} {tgt : Nat} (hd : decode cc pc = .ok (.ifCond .eq off, 3)) (ht : (pc : Int) + off = (tgt : Int)) (kt : x = 0 → Jx E Γ A fin kc ks own cc nL rt tgt lv st w) (kf : ¬ (x = 0) → Jx E Γ A fin kc ks own cc nL rt (pc + 3) lv st w) : Jx E Γ A fin kc ks own cc nL rt pc lv (.int x :: st) w := by
  obtain ⟨p, l, e, R, s, m, args, below, meth, c, D⟩ := E
  intro F HK hlk hrt hinj hcs H locs ls hP hS hl
  exact lv_if_eq F.1 F.2.1 hd ht (fun z => kt z F HK hlk hrt hinj hcs H locs ls hP hS hl) (fun z => kf z F HK hlk hrt hinj hcs H locs ls hP hS hl)
theorem Y_icmp_eq {x y : Int32} {off : Int} {tgt : Nat} (hd : decode cc pc = .ok (.if_icmp .eq off, 3)) (ht : (pc : Int) + off = (tgt : Int)) (kt : x = y → Jx E Γ A fin kc ks own cc nL rt tgt lv st w) (kf : ¬ (x = y) → Jx E Γ A fin kc ks own cc nL rt (pc + 3) lv st w) : Jx E Γ A fin kc ks own cc nL rt pc lv (.int y :: .int x :: st) w := by
  obtain ⟨p, l, e, R, s, m, args, below, meth, c, D⟩ := E
  intro F HK hlk hrt hinj hcs H locs ls hP hS hl
  exact lv_icmp_eq F.1 F.2.1 hd ht (fun z => kt z F HK hlk hrt hinj hcs H locs ls hP hS hl) (fun z => kf z F HK hlk hrt hinj hcs H locs ls hP hS hl)
theorem Y_if_ne {x : Int32} {off : Int} {tgt : Nat} (hd : decode cc pc = .ok (.ifCond .ne off, 3)) (ht : (pc : Int) + off = (tgt : Int)) (kt : ¬ x = 0 → Jx E Γ A fin kc ks own cc nL rt tgt lv st w) (kf : x = 0 → Jx E Γ A fin kc ks own cc nL rt (pc + 3) lv st w) : Jx E Γ A fin kc ks own cc nL rt pc lv (.int x :: st) w := by
  obtain ⟨p, l, e, R, s, m, args, below, meth, c, D⟩ := E
  intro F HK hlk hrt hinj hcs H locs ls hP hS hl
  exact lv_if_ne F.1 F.2.1 hd ht (fun z => kt z F HK hlk hrt hinj hcs H locs ls hP hS hl) (fun z => kf z F HK hlk hrt hinj hcs H locs ls hP hS hl)
theorem Y_icmp_ne {x y : Int32} {off : Int} {tgt : Nat} (hd : decode cc pc = .ok (.if_icmp .ne off, 3)) (ht : (pc : Int) + off = (tgt : Int)) (kt : ¬ x = y → Jx E Γ A fin kc ks own cc nL rt tgt lv st w) (kf : x = y → Jx E Γ A fin kc ks own cc nL rt (pc + 3) lv st w) : Jx E Γ A fin kc ks own cc nL rt pc lv (.int y :: .int x :: st) w := by
  obtain ⟨p, l, e, R, s, m, args, below, meth, c, D⟩ := E
  intro F HK hlk hrt hinj hcs H locs ls hP hS hl
  exact lv_icmp_ne F.1 F.2.1 hd ht (fun z => kt z F HK hlk hrt hinj hcs H locs ls hP hS hl) (fun z => kf z F HK hlk hrt hinj hcs H locs ls hP hS hl)
theorem Y_if_lt {x : Int32} {off : Int} {tgt : Nat} (hd : decode cc pc = .ok (.ifCond .lt off, 3)) (ht : (pc : Int) + off = (tgt : Int)) (kt : x < 0 → Jx E Γ A fin kc ks own cc nL rt tgt lv st w) (kf : ¬ (x < 0) → Jx E Γ A fin kc ks own cc nL rt (pc + 3) lv st w) : Jx E Γ A fin kc ks own cc nL rt pc lv (.int x :: st) w := by
  obtain ⟨p, l, e, R, s, m, args, below, meth, c, D⟩ := E
  intro F HK hlk hrt hinj hcs H locs ls hP hS hl
  exact lv_if_lt F.1 F.2.1 hd ht (fun z => kt z F HK hlk hrt hinj hcs H locs ls hP hS hl) (fun z => kf z F HK hlk hrt hinj hcs H locs ls hP hS hl)
theorem Y_icmp_lt {x y : Int32} {off : Int} {tgt : Nat} (hd : decode cc pc = .ok (.if_icmp .lt off, 3)) (ht : (pc : Int) + off = (tgt : Int)) (kt : x < y → Jx E Γ A fin kc ks own cc nL rt tgt lv st w) (kf : ¬ (x < y) → Jx E Γ A fin kc ks own cc nL rt (pc + 3) lv st w) : Jx E Γ A fin kc ks own cc nL rt pc lv (.int y :: .int x :: st) w := by
  obtain ⟨p, l, e, R, s, m, args, below, meth, c, D⟩ := E
  intro F HK hlk hrt hinj hcs H locs ls hP hS hl
  exact lv_icmp_lt F.1 F.2.1 hd ht (fun z => kt z F HK hlk hrt hinj hcs H locs ls hP hS hl) (fun z => kf z F HK hlk hrt hinj hcs H locs ls hP hS hl)
theorem Y_if_ge {x : Int32} {off : Int} {tgt : Nat} (hd : decode cc pc = .ok (.ifCond .ge off, 3)) (ht : (pc : Int) + off = (tgt : Int)) (kt : 0 ≤ x → Jx E Γ A fin kc ks own cc nL rt tgt lv st w) (kf : ¬ (0 ≤ x) → Jx E Γ A fin kc ks own cc nL rt (pc + 3) lv st w) : Jx E Γ A fin kc ks own cc nL rt pc lv (.int x :: st) w := by
  obtain ⟨p, l, e, R, s, m, args, below, meth, c, D⟩ := E
  intro F HK hlk hrt hinj hcs H locs ls hP hS hl
  exact lv_if_ge F.1 F.2.1 hd ht (fun z => kt z F HK hlk hrt hinj hcs H locs ls hP hS hl) (fun z => kf z F HK hlk hrt hinj hcs H locs ls hP hS hl)
theorem Y_icmp_ge {x y : Int32} {off : Int} {tgt : Nat} (hd : decode cc pc = .ok (.if_icmp .ge off, 3)) (ht : (pc : Int) + off = (tgt : Int)) (kt : y ≤ x → Jx E Γ A fin kc ks own cc nL rt tgt lv st w) (kf : ¬ (y ≤ x) → Jx E Γ A fin kc ks own cc nL rt (pc + 3) lv st w) : Jx E Γ A fin kc ks own cc nL rt pc lv (.int y :: .int x :: st) w := by
  obtain ⟨p, l, e, R, s, m, args, below, meth, c, D⟩ := E
  intro F HK hlk hrt hinj hcs H locs ls hP hS hl
  exact lv_icmp_ge F.1 F.2.1 hd ht (fun z => kt z F HK hlk hrt hinj hcs H locs ls hP hS hl) (fun z => kf z F HK hlk hrt hinj hcs H locs ls hP hS hl)
theorem Y_if_gt {x : Int32} {off : Int} {tgt : Nat} (hd : decode cc pc = .ok (.ifCond .gt off, 3)) (ht : (pc : Int) + off = (tgt : Int)) (kt : 0 < x → Jx E Γ A fin kc ks own cc nL rt tgt lv st w) (kf : ¬ (0 < x) → Jx E Γ A fin kc ks own cc nL rt (pc + 3) lv st w) : Jx E Γ A fin kc ks own cc nL rt pc lv (.int x :: st) w := by
  obtain ⟨p, l, e, R, s, m, args, below, meth, c, D⟩ := E
  intro F HK hlk hrt hinj hcs H locs ls hP hS hl
  exact lv_if_gt F.1 F.2.1 hd ht (fun z => kt z F HK hlk hrt hinj hcs H locs ls hP hS hl) (fun z => kf z F HK hlk hrt hinj hcs H locs ls hP hS hl)
theorem Y_icmp_gt {x y : Int32} {off : Int} {tgt : Nat} (hd : decode cc pc = .ok (.if_icmp .gt off, 3)) (ht : (pc : Int) + off = (tgt : Int)) (kt : y < x → Jx E Γ A fin kc ks own cc nL rt tgt lv st w) (kf : ¬ (y < x) → Jx E Γ A fin kc ks own cc nL rt (pc + 3) lv st w) : Jx E Γ A fin kc ks own cc nL rt pc lv (.int y :: .int x :: st) w := by
  obtain ⟨p, l, e, R, s, m, args, below, meth, c, D⟩ := E
  intro F HK hlk hrt hinj hcs H locs ls hP hS hl
  exact lv_icmp_gt F.1 F.2.1 hd ht (fun z => kt z F HK hlk hrt hinj hcs H locs ls hP hS hl) (fun z => kf z F HK hlk hrt hinj hcs H locs ls hP hS hl)
theorem Y_if_le {x : Int32} {off : Int} {tgt : Nat} (hd : decode cc pc = .ok (.ifCond .le off, 3)) (ht : (pc : Int) + off = (tgt : Int)) (kt : x ≤ 0 → Jx E Γ A fin kc ks own cc nL rt tgt lv st w) (kf : ¬ (x ≤ 0) → Jx E Γ A fin kc ks own cc nL rt (pc + 3) lv st w) : Jx E Γ A fin kc ks own cc nL rt pc lv (.int x :: st) w := by
  obtain ⟨p, l, e, R, s, m, args, below, meth, c, D⟩ := E
  intro F HK hlk hrt hinj hcs H locs ls hP hS hl
  exact lv_if_le F.1 F.2.1 hd ht (fun z => kt z F HK hlk hrt hinj hcs H locs ls hP hS hl) (fun z => kf z F HK hlk hrt hinj hcs H locs ls hP hS hl)
theorem Y_icmp_le {x y : Int32} {off : Int} {tgt : Nat} (hd : decode cc pc = .ok (.if_icmp .le off, 3)) (ht : (pc : Int) + off = (tgt : Int)) (kt : x ≤ y → Jx E Γ A fin kc ks own cc nL rt tgt lv st w) (kf : ¬ (x ≤ y) → Jx E Γ A fin kc ks own cc nL rt (pc + 3) lv st w) : Jx E Γ A fin kc ks own cc nL rt pc lv (.int y :: .int x :: st) w := by
  obtain ⟨p, l, e, R, s, m, args, below, meth, c, D⟩ := E
  intro F HK hlk hrt hinj hcs H locs ls hP hS hl
  exact lv_icmp_le F.1 F.2.1 hd ht (fun z => kt z F HK hlk hrt hinj hcs H locs ls hP hS hl) (fun z => kf z F HK hlk hrt hinj hcs H locs ls hP hS hl)
theorem Y_goto {off : Int} {tgt : Nat} (hd : decode cc pc = .ok (.goto off, 3)) (ht : (pc : Int) + off = (tgt : Int)) (k : Jx E Γ A fin kc ks own cc nL rt tgt lv st w) : Jx E Γ A fin kc ks own cc nL rt pc lv st w := by
  obtain ⟨p, l, e, R, s, m, args, below, meth, c, D⟩ := E
  intro F HK hlk hrt hinj hcs H locs ls hP hS hl
  exact lv_goto F.1 F.2.1 hd ht (k F HK hlk hrt hinj hcs H locs ls hP hS hl)
theorem Y_tin {dflt lo hi : Int} {offs : Array Int} {len : Nat} {x : Int32} {off : Int} {tgt : Nat} (hd : decode cc pc = .ok (.tableswitch dflt lo hi offs, len)) (h1 : ¬ x.toInt < lo) (h2 : ¬ hi < x.toInt) (ho : offs[(x.toInt - lo).toNat]? = some off) (ht : (pc : Int) + off = (tgt : Int)) (k : Jx E Γ A fin kc ks own cc nL rt tgt lv st w) : Jx E Γ A fin kc ks own cc nL rt pc lv (.int x :: st) w := by
  obtain ⟨p, l, e, R, s, m, args, below, meth, c, D⟩ := E
  intro F HK hlk hrt hinj hcs H locs ls hP hS hl
  exact lv_tableIn F.1 F.2.1 hd h1 h2 ho ht (k F HK hlk hrt hinj hcs H locs ls hP hS hl)
theorem Y_tout {dflt lo hi : Int} {offs : Array Int} {len : Nat} {x : Int32} {tgt : Nat} (hd : decode cc pc = .ok (.tableswitch dflt lo hi offs, len)) (h1 : x.toInt < lo ∨ hi < x.toInt) (ht : (pc : Int) + dflt = (tgt : Int)) (k : Jx E Γ A fin kc ks own cc nL rt tgt lv st w) : Jx E Γ A fin kc ks own cc nL rt pc lv (.int x :: st) w := by
  obtain ⟨p, l, e, R, s, m, args, below, meth, c, D⟩ := E
  intro F HK hlk hrt hinj hcs H locs ls hP hS hl
  exact lv_tableOut F.1 F.2.1 hd h1 ht (k F HK hlk hrt hinj hcs H locs ls hP hS hl)
theorem Y_lsw {dflt : Int} {ps : Array (Int × Int)} {len : Nat} {x : Int32} {off : Int} {tgt : Nat} (hd : decode cc pc = .ok (.lookupswitch dflt ps, len)) (hp : (ps.toList.zip (ps.toList.drop 1)).all (fun (a, next) => a.1 < next.1) = true) (ho : Op.lookupswitch.offset ps.toList dflt x.toInt = off) (ht : (pc : Int) + off = (tgt : Int)) (k : Jx E Γ A fin kc ks own cc nL rt tgt lv st w) : Jx E Γ A fin kc ks own cc nL rt pc lv (.int x :: st) w := by
  obtain ⟨p, l, e, R, s, m, args, below, meth, c, D⟩ := E
  intro F HK hlk hrt hinj hcs H locs ls hP hS hl
  exact lv_lookup F.1 F.2.1 hd hp ho ht (k F HK hlk hrt hinj hcs H locs ls hP hS hl)
theorem Y_ti {x : Int32} (k : ∀ y : Int32, y = x → Jx E Γ A fin kc ks own cc nL rt pc lv (.int y :: st) w) : Jx E Γ A fin kc ks own cc nL rt pc lv (.int x :: st) w := k x rfl
theorem Y_tl {x : Int64} (k : ∀ y : Int64, y = x → Jx E Γ A fin kc ks own cc nL rt pc lv (.long y :: st) w) : Jx E Γ A fin kc ks own cc nL rt pc lv (.long x :: st) w := k x rfl
theorem Y_tw (k : ∀ w' : Wd, w' = w → Jx E Γ A fin kc ks own cc nL rt pc lv st w') : Jx E Γ A fin kc ks own cc nL rt pc lv st w := k w rfl
theorem Y_tv {i : Nat} {x : Int32} {lv0 : List (Nat × Value)} (k : ∀ y : Int32, y = x → Jx E Γ A fin kc ks own cc nL rt pc ((i, .int y) :: lv0) st w) : Jx E Γ A fin kc ks own cc nL rt pc ((i, .int x) :: lv0) st w := k x rfl
theorem Y_get {ref C : String} {T : u_T} {N ci index h k : Nat} {fs : List Value} {v : Value} (hd : decode cc pc = .ok (.getfield index, 3)) (hin : ∀ x ∈ u_ws C T N, x ∈ wU) (hc : vwCl[ci]? = some (C, T, N)) (hk : k < N) (href : (T k).1 = ref) (hlink : Cond.fieldLink own index ref (T k).2.1 (T k).2.2.1 ∈ wU) (hh : h < Γ.1) (he : Γ.2.1 w h = .inr (ci, fs)) (hv : fs[k]? = some v)
    (kk : Jx E Γ A fin kc ks own cc nL rt (pc + 3) lv (v :: st) w) : Jx E Γ A fin kc ks own cc nL rt pc lv (.ref (Γ.2.2.1 h) :: st) w := by
  obtain ⟨p, l, e, R, s, m, args, below, meth, c, D⟩ := E
  intro F HK hlk hrt hinj hcs H locs ls hP hS hl
  exact va_get F.1 F.2.1 F.2.2.2.2 hin F.2.2.2.1 HK.1 hP h (wl_at hh he) hc k hk (F.2.2.2.2 _ hlink) (fun _ h9 => by rw [← href]; exact h9) hv hd (kk F HK hlk hrt hinj hcs H locs ls hP hS hl)
theorem Y_put {ref C : String} {T : u_T} {N ci index h k : Nat} {fs : List Value} {v : Value} {ty : FieldType} {w' : Wd} {ty0 : Nat → FieldType} (hd : decode cc pc = .ok (.putfield index, 3)) (hin : ∀ x ∈ u_ws C T N, x ∈ wU) (hty : ∀ k, k < N → parseFieldDescriptor (T k).2.2.1 = some (ty0 k)) (hnm : ∀ a, a < N → ∀ b, b < N → a ≠ b → (T a).2.1 ≠ (T b).2.1) (hc : vwCl[ci]? = some (C, T, N)) (hk : k < N) (href : (T k).1 = ref) (hlink : Cond.fieldLink own index ref (T k).2.1 (T k).2.2.1 ∈ wU) (hfin : (T k).2.2.2 = false) (hdt : parseFieldDescriptor (T k).2.2.1 = some ty) (hn : narrow ty v = v) (hfit : fits ty v = true) (hh : h < Γ.1) (he : Γ.2.1 w h = .inr (ci, fs)) (hfl : k < fs.length) (he' : Γ.2.1 w' h = .inr (ci, fs.set k v)) (ho : ∀ j, j < Γ.1 → j ≠ h → Γ.2.1 w' j = Γ.2.1 w j)
    (kk : Jx E Γ A fin kc ks own cc nL rt (pc + 3) lv st w') : Jx E Γ A fin kc ks own cc nL rt pc lv (v :: .ref (Γ.2.2.1 h) :: st) w := by
  obtain ⟨p, l, e, R, s, m, args, below, meth, c, D⟩ := E
  intro F HK hlk hrt hinj hcs H locs ls hP hS hl
  refine va_put F.1 F.2.1 F.2.2.2.2 hin ty0 hty hnm F.2.2.2.1 HK.1 hP (wl_DA hinj) hS h (wl_at hh he) hc k hk (F.2.2.2.2 _ hlink) (fun _ h9 => by rw [← href]; exact h9) hfin hdt hn hfit hfl hd (fun H1 locs1 hP1 hD1 hS1 => ?_)
  rw [wl_set he' ho] at hP1
  exact kk F HK hlk hrt hinj hcs H1 locs1 ls hP1 hS1 hl
theorem Y_iald {h n : Nat} {f : Nat → Int32} {i : Int32} (hd : decode cc pc = .ok (.iaload, 1)) (hb : inb i n = true) (hh : h < Γ.1) (he : Γ.2.1 w h = .inl (Γ.2.2.2 0, n, .inl f))
    (kk : Jx E Γ A fin kc ks own cc nL rt (pc + 1) lv (.int (ix f i) :: st) w) : Jx E Γ A fin kc ks own cc nL rt pc lv (.int i :: .ref (Γ.2.2.1 h) :: st) w := by
  obtain ⟨p, l, e, R, s, m, args, below, meth, c, D⟩ := E
  intro F HK hlk hrt hinj hcs H locs ls hP hS hl
  exact va_iald F.1 F.2.1 HK.1 hP h 0 (wl_at hh he) rfl (inb_vp hb) hd (kk F HK hlk hrt hinj hcs H locs ls hP hS hl)
theorem Y_lald {h n : Nat} {f : Nat → Int64} {i : Int32} (hd : decode cc pc = .ok (.laload, 1)) (hb : inb i n = true) (hh : h < Γ.1) (he : Γ.2.1 w h = .inl (Γ.2.2.2 1, n, .inr (.inl f)))
    (kk : Jx E Γ A fin kc ks own cc nL rt (pc + 1) lv (.long (ixL f i) :: st) w) : Jx E Γ A fin kc ks own cc nL rt pc lv (.int i :: .ref (Γ.2.2.1 h) :: st) w := by
  obtain ⟨p, l, e, R, s, m, args, below, meth, c, D⟩ := E
  intro F HK hlk hrt hinj hcs H locs ls hP hS hl
  exact va_lald F.1 F.2.1 HK.1 hP h 1 (wl_at hh he) rfl (inb_vp hb) hd (kk F HK hlk hrt hinj hcs H locs ls hP hS hl)
theorem Y_aald {h n t : Nat} {C : String} {f : Nat → Option Nat} {i : Int32} {a : Nat} (hd : decode cc pc = .ok (.aaload, 1)) (hb : inb i n = true) (hh : h < Γ.1) (he : Γ.2.1 w h = .inl (Γ.2.2.2 t, n, .inr (.inr (.inr (.inr f))))) (ht : (tysL Γ.2.2.2)[t]? = some (Γ.2.2.2 t, .object C)) (hf : f i.toNatClampNeg = some a)
    (kk : Jx E Γ A fin kc ks own cc nL rt (pc + 1) lv (.ref a :: st) w) : Jx E Γ A fin kc ks own cc nL rt pc lv (.int i :: .ref (Γ.2.2.1 h) :: st) w := by
  obtain ⟨p, l, e, R, s, m, args, below, meth, c, D⟩ := E
  intro F HK hlk hrt hinj hcs H locs ls hP hS hl
  refine va_aldq F.1 F.2.1 HK.1 hP h t (wl_at hh he) ht (inb_vp hb) hd ?_
  rw [hf]
  exact kk F HK hlk hrt hinj hcs H locs ls hP hS hl
theorem Y_iast {h n : Nat} {f : Nat → Int32} {i x : Int32} {w' : Wd} (hd : decode cc pc = .ok (.iastore, 1)) (hb : inb i n = true) (hh : h < Γ.1) (he : Γ.2.1 w h = .inl (Γ.2.2.2 0, n, .inl f)) (he' : Γ.2.1 w' h = .inl (Γ.2.2.2 0, n, .inl (upd f i.toNatClampNeg x))) (ho : ∀ j, j < Γ.1 → j ≠ h → Γ.2.1 w' j = Γ.2.1 w j)
    (kk : Jx E Γ A fin kc ks own cc nL rt (pc + 1) lv st w') : Jx E Γ A fin kc ks own cc nL rt pc lv (.int x :: .int i :: .ref (Γ.2.2.1 h) :: st) w := by
  obtain ⟨p, l, e, R, s, m, args, below, meth, c, D⟩ := E
  intro F HK hlk hrt hinj hcs H locs ls hP hS hl
  refine va_iast F.1 F.2.1 HK.1 hP (wl_DA hinj) hS h 0 (wl_at hh he) rfl (inb_vp hb) hd (fun H1 locs1 hP1 hD1 hS1 => ?_)
  rw [wl_set he' ho] at hP1
  exact kk F HK hlk hrt hinj hcs H1 locs1 ls hP1 hS1 hl
theorem Y_last {h n : Nat} {f : Nat → Int64} {i : Int32} {x : Int64} {w' : Wd} (hd : decode cc pc = .ok (.lastore, 1)) (hb : inb i n = true) (hh : h < Γ.1) (he : Γ.2.1 w h = .inl (Γ.2.2.2 1, n, .inr (.inl f))) (he' : Γ.2.1 w' h = .inl (Γ.2.2.2 1, n, .inr (.inl (vp_updL f i.toNatClampNeg x)))) (ho : ∀ j, j < Γ.1 → j ≠ h → Γ.2.1 w' j = Γ.2.1 w j)
    (kk : Jx E Γ A fin kc ks own cc nL rt (pc + 1) lv st w') : Jx E Γ A fin kc ks own cc nL rt pc lv (.long x :: .int i :: .ref (Γ.2.2.1 h) :: st) w := by
  obtain ⟨p, l, e, R, s, m, args, below, meth, c, D⟩ := E
  intro F HK hlk hrt hinj hcs H locs ls hP hS hl
  refine va_last F.1 F.2.1 HK.1 hP (wl_DA hinj) hS h 1 (wl_at hh he) rfl (inb_vp hb) hd (fun H1 locs1 hP1 hD1 hS1 => ?_)
  rw [wl_set he' ho] at hP1
  exact kk F HK hlk hrt hinj hcs H1 locs1 ls hP1 hS1 hl
theorem Y_callS {index kk maxL n : Nat} {y : MethodName} {bytes : ByteArray} {ret : Option FieldType} {av : List Value} {q : Option Value × Wd} {st0 : List Value} (hd : decode cc pc = .ok (.invokestatic index, 3)) (hM : Cn (El E) (Ed E) Γ y bytes maxL ret kk av w q) (hl1 : Cond.methodLink own index y ∈ wU) (hl2 : Cond.static y ∈ wU) (hl3 : Cond.initialized y.cls ∈ wU) (hl4 : Cond.code y bytes maxL ret ∈ wU) (hy : y.cls ≠ "java/lang/invoke/MethodHandle" ∧ y.cls ≠ "java/lang/invoke/VarHandle" ∧ (parseMethodDescriptor y.desc).map (fun d => d.parameters.length) = some av.length)
    (hs : st0 = av.reverse ++ st) (hmx : maxL ≤ 21) (hL : Lv E n) (hn : kk + 1 ≤ n) (hW : (st.map fun v => v.category).sum ≤ 8) (k : Jx E Γ A fin kc ks own cc nL rt (pc + 3) lv (q.1.toList ++ st) q.2) : Jx E Γ A fin kc ks own cc nL rt pc lv st0 w := by
  obtain ⟨p, l, e, R, s, m, args, below, meth, c, D⟩ := E
  intro F HK hlk hrt hinj hcs H locs ls hP hS hl
  have h1 : n ≤ R.frames := hL.1
  have h2 : 40 * n ≤ R.locals := hL.2
  refine Y_back (va_runS (As := av) (rest := st) F hM ⟨callB_of av.length F.2.2.2.2 (wl_goodIn hl4) rfl rfl rfl (F.2.2.2.2 _ hl3) (F.2.2.2.2 _ hl1) hy ⟨by show kk + 1 ≤ R.frames; omega, by show 8 + (maxL + 11) + 40 * kk ≤ R.locals; omega⟩, F.2.2.2.2 _ hl2⟩ ⟨wl_blind, fun U hU hW => ⟨rfl, by rw [hU]; exact hP, HK.warm hW⟩⟩ rfl rfl hl.1 hs (lv_room hW) hd ⟨hcs.1, hcs.2⟩) (wl_AA hinj) hS (fun H1 locs1 hP1 hS1 => ?_)
  exact k F HK hlk hrt hinj hcs H1 locs1 ls hP1 hS1 hl
theorem Y_callSN {index kk maxL n : Nat} {y : MethodName} {bytes : ByteArray} {ret : Option FieldType} {av : List Value} {q : Option Value × Wd} {st0 : List Value} (hd : decode cc pc = .ok (.invokestatic index, 3)) (hM : Cn (El E) (Ed E) Γ y bytes maxL ret kk av w q) (how : own = RX10) (hl1 : (index, y) ∈ nestL) (hl2 : Cond.static y ∈ wU) (hl3 : Cond.initialized y.cls ∈ wU) (hl4 : Cond.code y bytes maxL ret ∈ wU) (hy : y.cls ≠ "java/lang/invoke/MethodHandle" ∧ y.cls ≠ "java/lang/invoke/VarHandle" ∧ (parseMethodDescriptor y.desc).map (fun d => d.parameters.length) = some av.length)
    (hs : st0 = av.reverse ++ st) (hmx : maxL ≤ 21) (hL : Lv E n) (hn : kk + 1 ≤ n) (hW : (st.map fun v => v.category).sum ≤ 8) (k : Jx E Γ A fin kc ks own cc nL rt (pc + 3) lv (q.1.toList ++ st) q.2) : Jx E Γ A fin kc ks own cc nL rt pc lv st0 w := by
  subst how
  obtain ⟨p, l, e, R, s, m, args, below, meth, c, D⟩ := E
  intro F HK hlk hrt hinj hcs H locs ls hP hS hl
  have h1 : n ≤ R.frames := hL.1
  have h2 : 40 * n ≤ R.locals := hL.2
  refine Y_back (va_runSN (As := av) (rest := st) (host := "ToldWhereItWas") F hM ⟨va_cnB av.length F.2.2.2.2 (wl_goodIn hl4) rfl rfl rfl (HK.2 _ hl1) (F.2.2.2.2 _ hl3) hy ⟨by show kk + 1 ≤ R.frames; omega, by show 8 + (maxL + 11) + 40 * kk ≤ R.locals; omega⟩, F.2.2.2.2 _ hl2, trivial⟩ ⟨wl_blind, fun U hU hW => ⟨rfl, by rw [hU]; exact hP, HK.warm hW⟩⟩ rfl rfl hl.1 hs (lv_room hW) hd ⟨hcs.1, hcs.2⟩) (wl_AA hinj) hS (fun H1 locs1 hP1 hS1 => ?_)
  exact k F HK hlk hrt hinj hcs H1 locs1 ls hP1 hS1 hl
theorem Y_callV {index kk maxL n h ci : Nat} {y : MethodName} {bytes : ByteArray} {ret : Option FieldType} {av : List Value} {q : Option Value × Wd} {st0 : List Value} {qc : vw_C} {fs : List Value} (hd : decode cc pc = .ok (.invokevirtual index, 3)) (hM : Cn (El E) (Ed E) Γ y bytes maxL ret kk (.ref (Γ.2.2.1 h) :: av) w q) (hl1 : Cond.methodLink own index y ∈ wU) (hl2 : Cond.instanceMethod y ∈ wU) (hl3 : Cond.initialized y.cls ∈ wU) (hl4 : Cond.code y bytes maxL ret ∈ wU) (hl5 : Cond.selects y.cls y y ∈ wU) (hy : y.cls ≠ "java/lang/invoke/MethodHandle" ∧ y.cls ≠ "java/lang/invoke/VarHandle" ∧ (parseMethodDescriptor y.desc).map (fun d => d.parameters.length) = some av.length)
    (hh : h < Γ.1) (he : Γ.2.1 w h = .inr (ci, fs)) (hc : vwCl[ci]? = some qc) (hq : qc.1 = y.cls)
    (hs : st0 = av.reverse ++ .ref (Γ.2.2.1 h) :: st) (hmx : maxL ≤ 21) (hL : Lv E n) (hn : kk + 1 ≤ n) (hW : (st.map fun v => v.category).sum ≤ 8) (k : Jx E Γ A fin kc ks own cc nL rt (pc + 3) lv (q.1.toList ++ st) q.2) : Jx E Γ A fin kc ks own cc nL rt pc lv st0 w := by
  obtain ⟨p, l, e, R, s, m, args, below, meth, c, D⟩ := E
  intro F HK hlk hrt hinj hcs H locs ls hP hS hl
  have h1 : n ≤ R.frames := hL.1
  have h2 : 40 * n ≤ R.locals := hL.2
  have hrec := va_recv HK.1 hP hc (wl_at hh he)
  rw [hq] at hrec
  refine Y_back (va_runV (As := av) (rest := st) (C := y.cls) F hM ⟨callB_of av.length F.2.2.2.2 (wl_goodIn hl4) rfl rfl rfl (F.2.2.2.2 _ hl3) (F.2.2.2.2 _ hl1) hy ⟨by show kk + 1 ≤ R.frames; omega, by show 8 + (maxL + 11) + 40 * kk ≤ R.locals; omega⟩, F.2.2.2.2 _ hl2, F.2.2.2.2 _ hl5⟩ ⟨wl_blind, hrec, fun U hU hW => ⟨rfl, by rw [hU]; exact hP, HK.warm hW⟩⟩ rfl rfl hl.1 hs (lv_room hW) hd ⟨hcs.1, hcs.2⟩) (wl_AA hinj) hS (fun H1 locs1 hP1 hS1 => ?_)
  exact k F HK hlk hrt hinj hcs H1 locs1 ls hP1 hS1 hl
theorem Y_iushr {x y : Int32} (hd : decode cc pc = .ok (.iushr, 1)) (k : Jx E Γ A fin kc ks own cc nL rt (pc + 1) lv (.int (ushr32 x y) :: st) w) : Jx E Γ A fin kc ks own cc nL rt pc lv (.int y :: .int x :: st) w := by
  obtain ⟨p, l, e, R, s, m, args, below, meth, c, D⟩ := E
  intro F HK hlk hrt hinj hcs H locs ls hP hS hl
  exact lv_iushr F.1 F.2.1 hd rfl (k F HK hlk hrt hinj hcs H locs ls hP hS hl)
theorem Y_alen {h n : Nat} {f : Nat → Int32} {v : Int32} (hd : decode cc pc = .ok (.arraylength, 1)) (hh : h < Γ.1) (he : Γ.2.1 w h = .inl (Γ.2.2.2 0, n, .inl f)) (hv : Int32.ofNat n = v)
    (kk : Jx E Γ A fin kc ks own cc nL rt (pc + 1) lv (.int v :: st) w) : Jx E Γ A fin kc ks own cc nL rt pc lv (.ref (Γ.2.2.1 h) :: st) w := by
  obtain ⟨p, l, e, R, s, m, args, below, meth, c, D⟩ := E
  intro F HK hlk hrt hinj hcs H locs ls hP hS hl
  exact va_alen F.1 F.2.1 HK.1 hP h 0 (x := (n, .inl f)) (ty := .int) (wl_at hh he) rfl hv hd (kk F HK hlk hrt hinj hcs H locs ls hP hS hl)
theorem Y_callU {index kk maxL n h ci : Nat} {C : String} {x y : MethodName} {bytes b0 : ByteArray} {m0 : Nat} {ret r0 : Option FieldType} {av : List Value} {q : Option Value × Wd} {st0 : List Value} {qc : vw_C} {fs : List Value} (hd : decode cc pc = .ok (.invokevirtual index, 3)) (hM : Cn (El E) (Ed E) Γ y bytes maxL ret kk (.ref (Γ.2.2.1 h) :: av) w q) (hl1 : Cond.methodLink own index x ∈ wU) (hls : Cond.sameMethod x.cls x.cls x.name x.desc ∈ wU) (hl0 : Cond.instanceMethod x ∈ wU) (hc0 : Cond.code x b0 m0 r0 ∈ wU) (hl2 : Cond.instanceMethod y ∈ wU) (hl3 : Cond.initialized y.cls ∈ wU) (hl4 : Cond.code y bytes maxL ret ∈ wU) (hl5 : Cond.selects C x y ∈ wU) (hy : x.cls ≠ "java/lang/invoke/MethodHandle" ∧ x.cls ≠ "java/lang/invoke/VarHandle" ∧ (parseMethodDescriptor x.desc).map (fun d => d.parameters.length) = some av.length)
    (hh : h < Γ.1) (he : Γ.2.1 w h = .inr (ci, fs)) (hc : vwCl[ci]? = some qc) (hq : qc.1 = C)
    (hs : st0 = av.reverse ++ .ref (Γ.2.2.1 h) :: st) (hmx : maxL ≤ 21) (hL : Lv E n) (hn : kk + 1 ≤ n) (hW : (st.map fun v => v.category).sum ≤ 8) (k : Jx E Γ A fin kc ks own cc nL rt (pc + 3) lv (q.1.toList ++ st) q.2) : Jx E Γ A fin kc ks own cc nL rt pc lv st0 w := by
  obtain ⟨p, l, e, R, s, m, args, below, meth, c, D⟩ := E
  intro F HK hlk hrt hinj hcs H locs ls hP hS hl
  have h1 : n ≤ R.frames := hL.1
  have h2 : 40 * n ≤ R.locals := hL.2
  have hrec := va_recv HK.1 hP hc (wl_at hh he)
  rw [hq] at hrec
  have ht := F.2.2.2.2
  refine Y_back (va_runU (As := av) (rest := st) (C := C) (owner := x.cls) (x := x) (n := av.length) F hM ⟨⟨rfl, rfl, by show kk + 1 ≤ R.frames; omega, by show 8 + (maxL + 11) + 40 * kk ≤ R.locals; omega, pay_in ht (wl_goodIn hl4), List.mem_cons_self⟩, ht _ hl4, ht _ hl3, ⟨hy.1, hy.2.1⟩, fun sig h9 => by have h8 := hy.2.2; rw [h9] at h8; exact (Option.some.inj h8).symm, ht _ hl1, ht _ hls, va_Decl.of (ht _ hl0) (ht _ hc0), ht _ hl5, ht _ hl2⟩ ⟨wl_blind, hrec, fun U hU hW => ⟨rfl, by rw [hU]; exact hP, HK.warm hW⟩⟩ rfl rfl hl.1 hs (lv_room hW) hd ⟨hcs.1, hcs.2⟩) (wl_AA hinj) hS (fun H1 locs1 hP1 hS1 => ?_)
  exact k F HK hlk hrt hinj hcs H1 locs1 ls hP1 hS1 hl
end

/-! the law's layout: the object's world, the reference's, and out -/
def Sb {Wd Wd' : Type} (Γ : Wl Wd) (Γ' : Wl Wd') (off : Nat) (w : Wd) (w' : Wd') : Prop := Γ'.2.2.2 = Γ.2.2.2 ∧ off + Γ'.1 ≤ Γ.1 ∧ ∀ i, i < Γ'.1 → Γ'.2.2.1 i = Γ.2.2.1 (off + i) ∧ Γ.2.1 w (off + i) = Γ'.2.1 w' i
theorem Sb.P {Wd Wd' : Type} {Γ : Wl Wd} {Γ' : Wl Wd'} {off : Nat} {w : Wd} {w' : Wd'} {D : va_G} {H : Heap} (h : Sb Γ Γ' off w w') (hP : va_P D vwCl (wl_ws Γ w) H) : va_P D vwCl (wl_ws Γ' w') H := by
  intro k x hx
  obtain ⟨h1, rfl⟩ := wl_lt hx
  obtain ⟨a, b⟩ := h.2.2 k h1
  have h2 := hP (off + k) _ (wl_get (by have := h.2.1; omega))
  rw [← a, b] at h2
  exact h2
theorem Sb.A {Wd Wd' : Type} {Γ : Wl Wd} {Γ' : Wl Wd'} {off : Nat} {w : Wd} {w' : Wd'} {A : Nat → Prop} (h : Sb Γ Γ' off w w') (hA : ∀ h, h < Γ.1 → A (Γ.2.2.1 h)) : ∀ q, wl_A Γ' q → A q := fun q ⟨i, h1, h2⟩ => by
  rw [h2, (h.2.2 i h1).1]
  exact hA _ (by have := h.2.1; omega)
theorem Sb.inj {Wd Wd' : Type} {Γ : Wl Wd} {Γ' : Wl Wd'} {off : Nat} {w : Wd} {w' : Wd'} (h : Sb Γ Γ' off w w') (hi : wl_inj Γ) : wl_inj Γ' := fun i j h1 h2 h3 => by
  have h4 := h.2.1
  have h5 := hi (off + i) (off + j) (by omega) (by omega) (by rw [← (h.2.2 i h1).1, ← (h.2.2 j h2).1]; exact h3)
  omega
theorem sub_after {Wd Wd' : Type} {Γ : Wl Wd} {Γ' : Wl Wd'} {off : Nat} {w u : Wd} {w' u' : Wd'} {D : va_G} {H H1 : Heap} (hinj : wl_inj Γ) (hs : Sb Γ Γ' off w w') (hs' : Sb Γ Γ' off u u') (ho : ∀ h, h < Γ.1 → ¬ (off ≤ h ∧ h < off + Γ'.1) → Γ.2.1 u h = Γ.2.1 w h) (hP : va_P D vwCl (wl_ws Γ w) H) (hP1 : va_P D vwCl (wl_ws Γ' u') H1) (hk : ∀ q : Nat, q < H.size → ¬ wl_A Γ' q → H1[q]? = H[q]?) : va_P D vwCl (wl_ws Γ u) H1 := by
  intro k x hx
  obtain ⟨h1, rfl⟩ := wl_lt hx
  by_cases hin : off ≤ k ∧ k < off + Γ'.1
  · have hi : k - off < Γ'.1 := by omega
    have e : off + (k - off) = k := by omega
    obtain ⟨a, b⟩ := hs'.2.2 (k - off) hi
    have h2 := hP1 (k - off) _ (wl_get hi)
    rw [a, ← b, e] at h2
    exact h2
  · rw [ho k h1 hin]
    have h2 := hP k _ (wl_get h1)
    refine h2.kept (hk _ h2.lt (fun ⟨j, h3, h4⟩ => ?_))
    have h5 : Γ.2.2.1 k = Γ.2.2.1 (off + j) := h4.trans (hs'.2.2 j h3).1
    have h6 := hinj k (off + j) h1 (by have := hs'.2.1; omega) h5
    omega
abbrev W3 : Type := CS × Ob × (Nat → Int64)
def Γ3 (ad : Nat → Nat) (cy : Nat → ClassId) : Wl W3 := (135, fun w h => if h < 111 then cellC cy ad w.1 h else if h < 134 then cellM cy (fun i => ad (111 + i)) w.2.1 (h - 111) else .inl (cy 1, 1, .inr (.inl w.2.2)), ad, cy)
theorem s3_C {ad : Nat → Nat} {cy : Nat → ClassId} {w : W3} : Sb (Γ3 ad cy) (ΓC ad cy) 0 w w.1 := ⟨rfl, by show 0 + 111 ≤ 135; decide, fun i hi => by
  have hi : i < 111 := hi
  refine ⟨by show ad i = ad (0 + i); rw [Nat.zero_add], ?_⟩
  show (if 0 + i < 111 then _ else _) = _
  rw [Nat.zero_add, if_pos hi]; rfl⟩
theorem s3_M {ad : Nat → Nat} {cy : Nat → ClassId} {w : W3} : Sb (Γ3 ad cy) (ΓM (fun i => ad (111 + i)) cy) 111 w w.2.1 := ⟨rfl, by show 111 + 23 ≤ 135; decide, fun i hi => by
  have hi : i < 23 := hi
  refine ⟨rfl, ?_⟩
  show (if 111 + i < 111 then _ else if 111 + i < 134 then cellM _ _ _ (111 + i - 111) else _) = _
  rw [if_neg (by omega), if_pos (by omega), Nat.add_sub_cancel_left]; rfl⟩
theorem o3_C {ad : Nat → Nat} {cy : Nat → ClassId} {w : W3} {σ : CS} : ∀ h, h < 135 → ¬ (0 ≤ h ∧ h < 0 + 111) → (Γ3 ad cy).2.1 (σ, w.2) h = (Γ3 ad cy).2.1 w h := by
  intro h _ hn
  show (if h < 111 then _ else _) = (if h < 111 then _ else _)
  rw [if_neg (show ¬ h < 111 by omega), if_neg (show ¬ h < 111 by omega)]
theorem o3_M {ad : Nat → Nat} {cy : Nat → ClassId} {w : W3} {o : Ob} : ∀ h, h < 135 → ¬ (111 ≤ h ∧ h < 111 + 23) → (Γ3 ad cy).2.1 (w.1, o, w.2.2) h = (Γ3 ad cy).2.1 w h := by
  intro h _ hn
  show (if h < 111 then _ else if h < 134 then _ else _) = (if h < 111 then _ else if h < 134 then _ else _)
  by_cases h1 : h < 111
  · rw [if_pos h1, if_pos h1]
  · rw [if_neg h1, if_neg h1, if_neg (by omega), if_neg (by omega)]
section
variable {Wd Wd' : Type} {E : Ec} {Γ : Wl Wd} {Γ' : Wl Wd'} {A : Nat → Prop} {fin : Ec → State → Prop} {kc ks off : Nat} {own : String} {cc : ByteArray} {nL : Nat} {rt : Option FieldType} {pc : Nat} {lv : List (Nat × Value)} {st : List Value} {w u : Wd} {w' : Wd'}
/-- a call of a method that knows but a part of the cells -/
theorem Y_sub {index kk maxL n ci : Nat} {y : MethodName} {bytes : ByteArray} {ret : Option FieldType} {av : List Value} {q : Option Value × Wd'} {st0 : List Value} {qc : vw_C} {fs : List Value} (hd : decode cc pc = .ok (.invokevirtual index, 3)) (hM : Cn (El E) (Ed E) Γ' y bytes maxL ret kk (.ref (Γ'.2.2.1 0) :: av) w' q) (hl1 : Cond.methodLink own index y ∈ wU) (hl2 : Cond.instanceMethod y ∈ wU) (hl3 : Cond.initialized y.cls ∈ wU) (hl4 : Cond.code y bytes maxL ret ∈ wU) (hl5 : Cond.selects y.cls y y ∈ wU) (hy : y.cls ≠ "java/lang/invoke/MethodHandle" ∧ y.cls ≠ "java/lang/invoke/VarHandle" ∧ (parseMethodDescriptor y.desc).map (fun d => d.parameters.length) = some av.length)
    (hs : Sb Γ Γ' off w w') (hs' : Sb Γ Γ' off u q.2) (ho : ∀ h, h < Γ.1 → ¬ (off ≤ h ∧ h < off + Γ'.1) → Γ.2.1 u h = Γ.2.1 w h) (hh : 0 < Γ'.1) (he : Γ'.2.1 w' 0 = .inr (ci, fs)) (hc : vwCl[ci]? = some qc) (hq : qc.1 = y.cls)
    (hst : st0 = av.reverse ++ .ref (Γ'.2.2.1 0) :: st) (hmx : maxL ≤ 21) (hL : Lv E n) (hn : kk + 1 ≤ n) (hW : (st.map fun v => v.category).sum ≤ 8) (k : Jx E Γ A fin kc ks own cc nL rt (pc + 3) lv (q.1.toList ++ st) u) : Jx E Γ A fin kc ks own cc nL rt pc lv st0 w := by
  obtain ⟨p, l, e, R, s, m, args, below, meth, c, D⟩ := E
  intro F HK hlk hrt hinj hcs H locs ls hP hS hl
  have h1 : n ≤ R.frames := hL.1
  have h2 : 40 * n ≤ R.locals := hL.2
  have HK' : wl_K D Γ'.2.2.2 s := by rw [hs.1]; exact HK
  have hP' := hs.P hP
  have hrec := va_recv HK'.1 hP' hc (wl_at hh he)
  rw [hq] at hrec
  have hr := va_runV (As := av) (rest := st) (C := y.cls) (locs := locs) (cells := kc) (slots := ks) (p := p) (e := e) (below := below) (meth := meth) F hM ⟨callB_of av.length F.2.2.2.2 (wl_goodIn hl4) rfl rfl rfl (F.2.2.2.2 _ hl3) (F.2.2.2.2 _ hl1) hy ⟨by show kk + 1 ≤ R.frames; omega, by show 8 + (maxL + 11) + 40 * kk ≤ R.locals; omega⟩, F.2.2.2.2 _ hl2, F.2.2.2.2 _ hl5⟩ ⟨wl_blind, hrec, fun U hU hW => ⟨rfl, by rw [hU]; exact hP', HK'.warm hW⟩⟩ rfl rfl hl.1 (g := F0 m pc ls st0) hst (lv_room hW) hd ⟨hcs.1, hcs.2⟩
  intro T hT X
  obtain ⟨v, st₀, t, T', L, h0, X', hL', e1, e2, ⟨hv, hP1, hz, hk⟩, stp⟩ := hr T hT X
  cases hv
  rw [h0] at hz hk
  have hsub := hs.A hinj.2
  obtain ⟨t2, a1, b1⟩ := k F HK hlk hrt hinj hcs T'.heap (locs ++ L) ls (by rw [e1]; exact sub_after hinj.1 hs hs' ho hP hP1 hk)
    ⟨Nat.le_trans hS.1 (by rw [e1]; exact hz), fun q h1 h2 => by rw [e1, hk q (Nat.lt_of_lt_of_le h1 hS.1) (fun z => h2 (hsub q z))]; exact hS.2.1 q h1 h2, fun q hq => by
      rcases List.mem_append.mp hq with h | h
      · exact hS.2.2 q h
      · exact hsub _ (hL' q h)⟩ hl T' rfl X'
  exact ⟨t2, stp t2 a1, b1⟩
end
/-! toss and element as contracts -/
def PX (D : va_G) (ad : Nat → Nat) (cy : Nat → ClassId) (σ : CS) (z : Nat) (av : List Value) : Array Value → State → Prop := va_Pc av (fun U => va_P D vwCl (wl_ws (ΓC ad cy) σ) U.heap ∧ wl_K D cy U ∧ wl_Z z U ∧ wl_T U)
theorem PX_blind {D : va_G} {ad : Nat → Nat} {cy : Nat → ClassId} {σ : CS} {z : Nat} {av : List Value} : FrameBlind (PX D ad cy σ z av) := fun _ _ _ _ h => ⟨h.1, h.2.1, h.2.2.1.call, h.2.2.2.1.call, h.2.2.2.2.call⟩
theorem k_toss {l : Launch} {D : va_G} {ad : Nat → Nat} {cy : Nat → ClassId} {σ : CS} {z : Nat} {p v : Int32} (hi : wl_inj (ΓC ad cy)) (hl0 : l.stackTraces = false) (hz : ∀ h, h < 111 → z ≤ ad h) (h : C_toss σ p = some v) : vx_Met l yX11_toss (Cond.codeWith yX11_toss cX11_toss 5 (some .int) hhT :: wU) { frames := 8, cells := 1, slots := 6, locals := 320 } (PX D ad cy σ z [.ref (ad 0), .int p]) (wl_Q D (ΓC ad cy) (some (.int v), σ)) (fun _ _ _ => False) 1 6 (wl_A (ΓC ad cy)) := by
  refine vx_ofWH (cc := cX11_toss) (maxL := 5) (ret := some .int) (hh := hhT) rfl rfl ?_
  intro p' e s m args below meth c s₁ B hml hv
  obtain ⟨rfl, hP, hK, hZ, hT⟩ := hv
  have hts := atoms_spec (ws := Cond.codeWith yX11_toss cX11_toss 5 (some .int) hhT :: wU) B.pre
  have hown : s.vm.findClass RX11 = some m.cls := findClass_of_methodNamed B.named
  have hl := lv_entry [.ref (ad 0), .int p] (n := 5) (Nat.le_of_ble_eq_true rfl)
  rw [lg_entry_eq]
  exact toss_ok (E := (p', l, e, ({ frames := 8, cells := 1, slots := 6, locals := 320 } : Room), s, m, [.ref (ad 0), .int p].toArray, below, meth, c, D)) hi hl0 hz ⟨Nat.le_refl 8, Nat.le_refl 320⟩ (Nat.le_refl 1) (Nat.le_refl 6) hZ hT (vx_table (x := yX11_toss) B (hts _ List.mem_cons_self)) h ⟨B.exec, B.bytes, hml, hown, fun w hw => hts w (List.mem_cons_of_mem _ hw)⟩ hK B.notSynchronized B.returns ⟨hi, fun h hh => ⟨h, hh, rfl⟩⟩ ⟨Nat.zero_le _, Nat.zero_le _⟩ s.heap [] _ hP va_S.rf hl
theorem k_element {l : Launch} {D : va_G} {ad : Nat → Nat} {cy : Nat → ClassId} {σ : CS} {z : Nat} {p q k : Int32} {v : Int64} (hi : wl_inj (ΓC ad cy)) (hl0 : l.stackTraces = false) (hz : ∀ h, h < 111 → z ≤ ad h) (h : spE σ p q k v) : vx_Met l yX11_element (Cond.code yX11_element cX11_element 4 (some .long) :: wU) { frames := 6, cells := 1, slots := 6, locals := 240 } (PX D ad cy σ z [.ref (ad 0), .int p, .int q]) (QE D ad cy σ k v) (XE D ad cy σ k) 1 6 (wl_A (ΓC ad cy)) := by
  refine vx_ofW (cc := cX11_element) (maxL := 4) (ret := some .long) rfl rfl ?_
  intro p' e s m args below meth c s₁ B hml ht hv
  obtain ⟨rfl, hP, hK, hZ, hT⟩ := hv
  have hts := atoms_spec (ws := Cond.code yX11_element cX11_element 4 (some .long) :: wU) B.pre
  have hown : s.vm.findClass RX11 = some m.cls := findClass_of_methodNamed B.named
  have hl := lv_entry [.ref (ad 0), .int p, .int q] (n := 4) (Nat.le_of_ble_eq_true rfl)
  rw [lg_entry_eq]
  exact element_ok (E := (p', l, e, ({ frames := 6, cells := 1, slots := 6, locals := 240 } : Room), s, m, [.ref (ad 0), .int p, .int q].toArray, below, meth, c, D)) hi hl0 hz ⟨Nat.le_refl 6, Nat.le_refl 240⟩ rfl rfl hZ hT ht h ⟨B.exec, B.bytes, hml, hown, fun w hw => hts w (List.mem_cons_of_mem _ hw)⟩ hK B.notSynchronized B.returns ⟨hi, fun h hh => ⟨h, hh, rfl⟩⟩ ⟨Nat.zero_le _, Nat.zero_le _⟩ s.heap [] _ hP va_S.rf hl

/-! the law's rows -/
section
variable {E : Ec} {ad : Nat → Nat} {cy : Nat → ClassId} {A : Nat → Prop} {fin : Ec → State → Prop} {kc ks : Nat} {own : String} {cc : ByteArray} {nL : Nat} {rt : Option FieldType} {pc : Nat} {lv : List (Nat × Value)} {st : List Value} {w : W3}
theorem Y_pick {lv' : List (Nat × Value)} (is : List Nat) (h' : lv_pick lv is = lv') (k : Jx E (Γ3 ad cy) A fin kc ks own cc nL rt pc lv' st w) : Jx E (Γ3 ad cy) A fin kc ks own cc nL rt pc lv st w := by
  obtain ⟨p, l, e, R, s, m, args, below, meth, c, D⟩ := E
  intro F HK hlk hrt hinj hcs H locs ls hP hS hl
  exact k F HK hlk hrt hinj hcs H locs ls hP hS (lv_sub hl is h')
theorem Y_wid {k n : Nat} (h1 : kc ≤ k) (h2 : ks ≤ n) (h3 : k ≤ (Er E).cells) (h4 : n ≤ (Er E).slots) (kk : Jx E (Γ3 ad cy) A fin k n own cc nL rt pc lv st w) : Jx E (Γ3 ad cy) A fin kc ks own cc nL rt pc lv st w := by
  obtain ⟨p, l, e, R, s, m, args, below, meth, c, D⟩ := E
  intro F HK hlk hrt hinj hcs H locs ls hP hS hl
  exact W.widen h1 h2 (kk F HK hlk hrt hinj ⟨h3, h4⟩ H locs ls hP hS hl)
theorem Y_sld {b L : Nat} {xs : Nat → Int32} {i : Int32} (hd : decode cc pc = .ok (.iaload, 1)) (hX : va_X b L xs (Est E) (Est E).heap) (hb : b < (Est E).heap.size) (hA : ¬ A b) (hi : inb i L = true) (kk : Jx E (Γ3 ad cy) A fin kc ks own cc nL rt (pc + 1) lv (.int (xs i.toNatClampNeg) :: st) w) : Jx E (Γ3 ad cy) A fin kc ks own cc nL rt pc lv (.int i :: .ref b :: st) w := by
  obtain ⟨p, l, e, R, s, m, args, below, meth, c, D⟩ := E
  intro F HK hlk hrt hinj hcs H locs ls hP hS hl
  exact va_sld F.1 F.2.1 hX hb hA hS (inb_vp hi) hd (kk F HK hlk hrt hinj hcs H locs ls hP hS hl)
theorem Y_slen {b L : Nat} {xs : Nat → Int32} (hd : decode cc pc = .ok (.arraylength, 1)) (hX : va_X b L xs (Est E) (Est E).heap) (hb : b < (Est E).heap.size) (hA : ¬ A b) (kk : Jx E (Γ3 ad cy) A fin kc ks own cc nL rt (pc + 1) lv (.int (nI L) :: st) w) : Jx E (Γ3 ad cy) A fin kc ks own cc nL rt pc lv (.ref b :: st) w := by
  obtain ⟨p, l, e, R, s, m, args, below, meth, c, D⟩ := E
  intro F HK hlk hrt hinj hcs H locs ls hP hS hl
  exact va_slen F.1 F.2.1 hX hb hA hS hd (kk F HK hlk hrt hinj hcs H locs ls hP hS hl)
/-- the law's fixed facts -/
def Lf (E : Ec) (ad : Nat → Nat) (A : Nat → Prop) (b L z : Nat) (xs : Nat → Int32) : Prop := (Er E).cells = 601024 ∧ (Er E).slots = 7293033 ∧ Lv E 100 ∧ va_X b L xs (Est E) (Est E).heap ∧ b < (Est E).heap.size ∧ ¬ A b ∧ L ≤ 3072 ∧ (El E).stackTraces = false ∧ (∀ h, h < 135 → z ≤ ad h) ∧ (∀ q, A q → z ≤ q) ∧ wl_Z z (Est E) ∧ wl_T (Est E)
def lvL (ad : Nat → Nat) (b j : Nat) : List (Nat × Value) := [(4, .int (nI j)), (3, .ref (ad 134)), (2, .ref (ad 111)), (1, .ref (ad 0)), (0, .ref b)]
theorem nI_k {j k : Nat} (_ : j + k < 2 ^ 31) : nI j + nI k = nI (j + k) := nI_add ..
/-- script[i + k] -/
theorem Y_arg {b L z j : Nat} {xs : Nat → Int32} (k : Nat) {v : Int32} (hk : k ≤ 5) (hv : nI k = v) (X : Lf E ad A b L z xs) (hj : j + 6 ≤ L) (q0 q4 : Nat) (h0 : lv[q0]? = some (0, .ref b)) (h4 : lv[q4]? = some (4, .int (nI j))) (d0 : decode cc pc = .ok (.aload_n 0, 1)) (d1 : decode cc (pc + 1) = .ok (.iload 4, 2)) (d3 : decode cc (pc + 1 + 2) = .ok (.iconst (k : Int), 1)) (d4 : decode cc (pc + 1 + 2 + 1) = .ok (.iadd, 1)) (d5 : decode cc (pc + 1 + 2 + 1 + 1) = .ok (.iaload, 1)) (kk : Jx E (Γ3 ad cy) A fin kc ks own cc nL rt (pc + 6) lv (.int (xs (j + k)) :: st) w) : Jx E (Γ3 ad cy) A fin kc ks own cc nL rt pc lv st w := by
  obtain ⟨-, -, -, hX, hb, hA, hL, -⟩ := X
  refine Y_aload_n (q := q0) d0 rfl h0 ?_
  refine Y_iload (q := q4) d1 h4 ?_
  refine Y_iconst (v := nI k) d3 ?_ ?_
  · rfl
  refine Y_iadd d4 ?_
  rw [nI_k (show j + k < 2 ^ 31 by omega)]
  refine Y_sld d5 hX hb hA (inb_nI (by omega) (by omega)) ?_
  rw [nI_clamp (show j + k < 2 ^ 31 by omega)]
  exact kk
/-- a call of the object -/
theorem Y_C {index kk maxL : Nat} {y : MethodName} {bytes : ByteArray} {ret : Option FieldType} {av : List Value} {q : Option Value × CS} {st0 : List Value} {σ : CS} {o : Ob} {u : Nat → Int64} (hd : decode cc pc = .ok (.invokevirtual index, 3)) (hM : Cn (El E) (Ed E) (ΓC ad cy) y bytes maxL ret kk (.ref (ad 0) :: av) σ q) (hy1 : y.cls = RX11) (hl1 : Cond.methodLink own index y ∈ wU) (hl2 : Cond.instanceMethod y ∈ wU) (hl4 : Cond.code y bytes maxL ret ∈ wU) (hl5 : Cond.selects y.cls y y ∈ wU) (hy : (parseMethodDescriptor y.desc).map (fun d => d.parameters.length) = some av.length) (hst : st0 = av.reverse ++ .ref (ad 0) :: st) (hmx : maxL ≤ 21) (hL : Lv E 100) (hn : kk ≤ 99) (hW : (st.map fun v => v.category).sum ≤ 8) (k : Jx E (Γ3 ad cy) A fin kc ks own cc nL rt (pc + 3) lv (q.1.toList ++ st) (q.2, o, u)) : Jx E (Γ3 ad cy) A fin kc ks own cc nL rt pc lv st0 (σ, o, u) :=
  Y_sub (Γ' := ΓC ad cy) (off := 0) (w := (σ, o, u)) (u := (q.2, o, u)) (w' := σ) (n := 100) (ci := 10) hd hM hl1 hl2 (by rw [hy1]; exact tw_1_1) hl4 hl5 ⟨by rw [hy1]; decide, by rw [hy1]; decide, hy⟩ s3_C s3_C (fun h hh hn => o3_C (w := (σ, o, u)) (σ := q.2) h hh hn) (by show 0 < 111; decide) rfl rfl (by rw [hy1]) hst hmx hL (by omega) hW k
/-- a call of the reference -/
theorem Y_M {index kk maxL : Nat} {y : MethodName} {bytes : ByteArray} {ret : Option FieldType} {av : List Value} {q : Option Value × Ob} {st0 : List Value} {σ : CS} {o : Ob} {u : Nat → Int64} (hd : decode cc pc = .ok (.invokevirtual index, 3)) (hM : Cn (El E) (Ed E) (ΓM (fun i => ad (111 + i)) cy) y bytes maxL ret kk (.ref (ad 111) :: av) o q) (hy1 : y.cls = RX12) (hl1 : Cond.methodLink own index y ∈ wU) (hl2 : Cond.instanceMethod y ∈ wU) (hl4 : Cond.code y bytes maxL ret ∈ wU) (hl5 : Cond.selects y.cls y y ∈ wU) (hy : (parseMethodDescriptor y.desc).map (fun d => d.parameters.length) = some av.length) (hst : st0 = av.reverse ++ .ref (ad 111) :: st) (hmx : maxL ≤ 21) (hL : Lv E 100) (hn : kk ≤ 99) (hW : (st.map fun v => v.category).sum ≤ 8) (k : Jx E (Γ3 ad cy) A fin kc ks own cc nL rt (pc + 3) lv (q.1.toList ++ st) (σ, q.2, u)) : Jx E (Γ3 ad cy) A fin kc ks own cc nL rt pc lv st0 (σ, o, u) :=
  Y_sub (Γ' := ΓM (fun i => ad (111 + i)) cy) (off := 111) (w := (σ, o, u)) (u := (σ, q.2, u)) (w' := o) (n := 100) (ci := 11) hd hM hl1 hl2 (by rw [hy1]; exact tw_1_13) hl4 hl5 ⟨by rw [hy1]; decide, by rw [hy1]; decide, hy⟩ s3_M s3_M (fun h hh hn => o3_M (w := (σ, o, u)) (o := q.2) h hh hn) (by show 0 < 23; decide) rfl rfl (by rw [hy1]) hst hmx hL (by omega) hW k
theorem Y_toss {N z : Nat} {p v : Int32} {σ : CS} {o : Ob} {u : Nat → Int64} (hd : decode cc pc = .ok (.invokevirtual 185, 3)) (hown : own = RL) (hl0 : (El E).stackTraces = false) (hz : ∀ h, h < 135 → z ≤ ad h) (hC : C_toss σ p = some v) (hL : Lv E N) (hN : 9 ≤ N) (h1 : kc + 1 ≤ (Er E).cells) (h2 : ks + 6 ≤ (Er E).slots) (hzA : ∀ q, A q → z ≤ q) (hZ : wl_Z z (Est E)) (hT : wl_T (Est E)) (hW : (st.map fun v => v.category).sum ≤ 8)
    (k1 : Jx E (Γ3 ad cy) A fin (kc + 1) (ks + 6) own cc nL rt (pc + 3) lv (.int v :: st) (σ, o, u)) : Jx E (Γ3 ad cy) A fin kc ks own cc nL rt pc lv (.int p :: .ref (ad 0) :: st) (σ, o, u) := by
  subst hown
  obtain ⟨p', l, e, R, s, m, args, below, meth, c, D⟩ := E
  intro F HK hlk hrt hinj hcs H locs ls hP hS hl
  have g1 : N ≤ R.frames := hL.1
  have g2 : 40 * N ≤ R.locals := hL.2
  have hi : wl_inj (ΓC ad cy) := (s3_C (ad := ad) (cy := cy) (w := (σ, o, u))).inj hinj.1
  have hP' := (s3_C (ad := ad) (cy := cy) (w := (σ, o, u))).P hP
  have hrec := va_recv (q0 := 0) (ci := 10) HK.1 hP' rfl (wl_at (Γ := ΓC ad cy) (h := 0) (by show 0 < 111; decide) rfl)
  have ht := F.2.2.2.2
  have hr := vx_runVX (hh := hhT) (As := [.int p]) (rest := st) (C := RX11) (locs := locs) (cells := kc) (slots := ks) (p := p') (e := e) (below := below) (meth := meth) F (k_toss (D := D) hi hl0 (fun h hh => hz h (by omega)) hC) (n := 1) ⟨⟨rfl, rfl, by show 8 + 1 ≤ R.frames; omega, by show 8 + (5 + 11) + 320 ≤ R.locals; omega, pay_in ht (wl_goodIn tw_4_2), List.mem_cons_self⟩, ht _ tw_4_2, ht _ tw_1_1, ⟨by decide, by decide⟩, fun sig h9 => by have h8 := pdX11_toss; rw [h9] at h8; exact (Option.some.inj h8).symm, ht _ tw_3_239, ht _ tw_4_0, ht _ tw_4_1⟩ ⟨PX_blind, hrec, fun U hU hW => ⟨rfl, by rw [hU]; exact hP', HK.warm hW, hZ.at hS hzA hU hW, hT.warm hW⟩⟩ rfl rfl hl.1 (g := F0 m pc ls (.int p :: .ref (ad 0) :: st)) rfl (lv_room hW) hd ⟨h1, h2⟩
  intro T hT2 X
  rcases hr T hT2 X with ⟨v9, st₀, t, T', L, h0, X', hL', e1, e2, ⟨hv, hP1, hF⟩, stp⟩ | ⟨q9, st₀, t, T', L, X9, ce, h0, X', hL', e1, e2, hX9, -⟩
  · cases hv
    obtain ⟨J1, J2⟩ := keep3 hinj hP hS h0 hP1 hF hL'
    obtain ⟨t2, a1, b1⟩ := k1 F HK hlk hrt hinj ⟨h1, h2⟩ T'.heap (locs ++ L) ls (by rw [e1]; exact J1) (by rw [e1]; exact J2) hl T' rfl X'
    exact ⟨t2, stp t2 a1, b1⟩
  · exact hX9.elim
theorem Y_Lelement {N z : Nat} {p q k : Int32} {v : Int64} (hd : decode cc pc = .ok (.invokestatic 167, 3)) (hown : own = RL) (hl0 : (El E).stackTraces = false) (hz : ∀ h, h < 135 → z ≤ ad h) (hC : spE w.1 p q k v) (hL : Lv E N) (hN : 9 ≤ N) (h1 : kc + 1 ≤ (Er E).cells) (h2 : ks + 6 ≤ (Er E).slots) (hzA : ∀ q, A q → z ≤ q) (hZ : wl_Z z (Est E)) (hT : wl_T (Est E)) (hW : (st.map fun v => v.category).sum ≤ 8)
    (k1 : Jx E (Γ3 ad cy) A fin (kc + 1) (ks + 6) own cc nL rt (pc + 3) lv (.int k :: st) (outE w k v)) : Jx E (Γ3 ad cy) A fin kc ks own cc nL rt pc lv (.ref (ad 134) :: .int q :: .int p :: .ref (ad 0) :: st) w := by
  subst hown
  obtain ⟨p', l, e, R, s, m, args, below, meth, c, D⟩ := E
  intro F HK hlk hrt hinj hcs H locs ls hP hS hl
  have g1 : N ≤ R.frames := hL.1
  have g2 : 40 * N ≤ R.locals := hL.2
  have ht := F.2.2.2.2
  have hr := vx_runSX (hh := hhL) (As := [.ref (ad 0), .int p, .int q, .ref (ad 134)]) (rest := st) (locs := locs) (cells := kc) (slots := ks) (p := p') (e := e) (below := below) (meth := meth) F (k_Lelement (D := D) hinj.1 hl0 hz hC) (n := 4) ⟨⟨rfl, rfl, by show 7 + 1 ≤ R.frames; omega, by show 8 + (5 + 11) + 280 ≤ R.locals; omega, pay_in ht (wl_goodIn tw_4_120), List.mem_cons_self⟩, ht _ tw_4_120, ht _ tw_1_0, ⟨by decide, by decide⟩, fun sig h9 => by have h8 := pdL_element; rw [h9] at h8; exact (Option.some.inj h8).symm, ht _ tw_4_118, ht _ tw_4_119⟩ ⟨P3_blind, fun U hU hW => ⟨rfl, by rw [hU]; exact hP, HK.warm hW, hZ.at hS hzA hU hW, hT.warm hW⟩⟩ rfl rfl hl.1 (g := F0 m pc ls (.ref (ad 134) :: .int q :: .int p :: .ref (ad 0) :: st)) rfl (lv_room hW) hd ⟨h1, h2⟩
  intro T hT2 X
  rcases hr T hT2 X with ⟨v9, st₀, t, T', L, h0, X', hL', e1, e2, ⟨hv, hP1, hz9, hk9⟩, stp⟩ | ⟨q9, st₀, t, T', L, X9, ce, h0, X', hL', e1, e2, hX9, -⟩
  · cases hv
    rw [h0] at hz9 hk9
    have hsub := wl_AA hinj
    obtain ⟨t2, a1, b1⟩ := k1 F HK hlk hrt hinj ⟨h1, h2⟩ T'.heap (locs ++ L) ls (by rw [e1]; exact hP1) ⟨Nat.le_trans hS.1 (by rw [e1]; exact hz9), fun q a b => by rw [e1, hk9 q (Nat.lt_of_lt_of_le a hS.1) (fun f => b (hsub q f))]; exact hS.2.1 q a b, fun q hq => (List.mem_append.mp hq).elim (hS.2.2 q) (fun h => hsub _ (hL' q h))⟩ hl T' rfl X'
    exact ⟨t2, stp t2 a1, b1⟩
  · exact hX9.elim
end

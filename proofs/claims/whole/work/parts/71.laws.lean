/-! the law's own method that catches, and the law's calls that may throw inside -/
def hhL : List (Nat × Nat × Nat × Nat) := [(0, 9, 12, 13), (0, 9, 16, 15)]
def finL (ad : Nat → Nat) (cy : Nat → ClassId) (k : Int32) (w : W3) : Ec → State → Prop := fun E => match E with
  | (p, l, e, R, s, m, args, below, meth, c, D) => vx_MQ below (wl_Q D (Γ3 ad cy) (some (.int k), w)) (fun _ _ _ => False) args s 1 6 (wl_A (Γ3 ad cy))
section
variable {E : Ec} {ad : Nat → Nat} {cy : Nat → ClassId} {A : Nat → Prop} {fin : Ec → State → Prop} {kc ks : Nat} {own : String} {cc : ByteArray} {nL : Nat} {rt : Option FieldType} {pc : Nat} {lv : List (Nat × Value)} {st : List Value} {w : W3}
theorem pdX11_element : (parseMethodDescriptor yX11_element.desc).map (fun d => d.parameters.length) = some 2 := by decide +kernel
theorem pdX11_toss : (parseMethodDescriptor yX11_toss.desc).map (fun d => d.parameters.length) = some 1 := by decide +kernel
theorem pdL_element : (parseMethodDescriptor yL_element.desc).map (fun d => d.parameters.length) = some 4 := by decide +kernel
theorem keep3 {D : va_G} {ad : Nat → Nat} {cy : Nat → ClassId} {A : Nat → Prop} {w : W3} {s st₀ t : State} {H : Heap} {locs L : List Loc} (hinj : wl_inj (Γ3 ad cy) ∧ ∀ h, h < (Γ3 ad cy).1 → A ((Γ3 ad cy).2.2.1 h)) (hP : va_P D vwCl (wl_ws (Γ3 ad cy) w) H) (hS : va_S A s.heap H locs) (h0 : st₀.heap = H) (hP1 : va_P D vwCl (wl_ws (ΓC ad cy) w.1) t.heap) (hF : va_F (wl_A (ΓC ad cy)) st₀ t) (hL : ∀ z ∈ L, wl_A (ΓC ad cy) z.base) : va_P D vwCl (wl_ws (Γ3 ad cy) w) t.heap ∧ va_S A s.heap t.heap (locs ++ L) := by
  obtain ⟨hz, hk⟩ := hF
  rw [h0] at hz hk
  have hsub := (s3_C (ad := ad) (cy := cy) (w := w)).A hinj.2
  exact ⟨sub_after hinj.1 s3_C s3_C (fun _ _ _ => rfl) hP hP1 hk, Nat.le_trans hS.1 hz, fun q a b => by rw [hk q (Nat.lt_of_lt_of_le a hS.1) (fun f => b (hsub q f))]; exact hS.2.1 q a b, fun q hq => (List.mem_append.mp hq).elim (hS.2.2 q) (fun h => hsub _ (hL q h))⟩
theorem elem_call {N z index : Nat} {p q k : Int32} {v : Int64} (hd : decode cc pc = .ok (.invokevirtual index, 3)) (hl0 : (El E).stackTraces = false) (hi : wl_inj (ΓC ad cy)) (hz : ∀ h, h < 111 → z ≤ ad h) (hsp : spE w.1 p q k v) (hl1 : Cond.methodLink own index yX11_element ∈ wU) (hL : Lv E N) (hN : 7 ≤ N) (h1 : kc + 1 ≤ (Er E).cells) (h2 : ks + 6 ≤ (Er E).slots) (hzA : ∀ q, A q → z ≤ q) (hZ : wl_Z z (Est E)) (hT : wl_T (Est E)) (hW : (st.map fun v => v.category).sum ≤ 8)
    (k1 : k = 0 → Jx E (Γ3 ad cy) A fin (kc + 1) (ks + 6) own cc nL rt (pc + 3) lv (.long v :: st) w)
    (k2 : ∀ X, (X = eA ∧ k = 1) ∨ (X = eS ∧ k = 2) → Jt E (Γ3 ad cy) A fin (kc + 1) (ks + 6) own cc nL rt X pc lv w) : Jx E (Γ3 ad cy) A fin kc ks own cc nL rt pc lv (.int q :: .int p :: .ref (ad 0) :: st) w := by
  obtain ⟨p', l, e, R, s, m, args, below, meth, c, D⟩ := E
  intro F HK hlk hrt hinj hcs H locs ls hP hS hl
  have g1 : N ≤ R.frames := hL.1
  have g2 : 40 * N ≤ R.locals := hL.2
  have hP' := (s3_C (ad := ad) (cy := cy) (w := w)).P hP
  have hrec := va_recv (q0 := 0) (ci := 10) HK.1 hP' rfl (wl_at (Γ := ΓC ad cy) (h := 0) (by show 0 < 111; decide) rfl)
  have ht := F.2.2.2.2
  have hr := vx_runV (As := [.int p, .int q]) (rest := st) (C := RX11) (locs := locs) (cells := kc) (slots := ks) (p := p') (e := e) (below := below) (meth := meth) F (k_element (D := D) hi hl0 hz hsp) ⟨callB_of 2 ht (wl_goodIn tw_4_126) rfl rfl rfl (ht _ tw_1_1) (ht _ hl1) ⟨by decide, by decide, pdX11_element⟩ ⟨by show 6 + 1 ≤ R.frames; omega, by show 8 + (4 + 11) + 240 ≤ R.locals; omega⟩, ht _ tw_4_124, ht _ tw_4_125⟩ ⟨PX_blind, hrec, fun U hU hW => ⟨rfl, by rw [hU]; exact hP', HK.warm hW, hZ.at hS hzA hU hW, hT.warm hW⟩⟩ rfl rfl hl.1 (g := F0 m pc ls (.int q :: .int p :: .ref (ad 0) :: st)) rfl (lv_room hW) hd ⟨h1, h2⟩
  intro T hT2 X
  rcases hr T hT2 X with ⟨v9, st₀, t, T', L, h0, X', hL', e1, e2, ⟨hk0, hv, hP1, hF⟩, stp⟩ | ⟨q9, st₀, t, T', L, X9, ce, h0, X', hL', e1, e2, ⟨hX9, hP1, hF⟩, hce, hcv, hcl, stp⟩
  · cases hv
    obtain ⟨J1, J2⟩ := keep3 hinj hP hS h0 hP1 hF hL'
    obtain ⟨t2, a1, b1⟩ := k1 hk0 F HK hlk hrt hinj ⟨h1, h2⟩ T'.heap (locs ++ L) ls (by rw [e1]; exact J1) (by rw [e1]; exact J2) hl T' rfl X'
    exact ⟨t2, stp t2 a1, b1⟩
  · obtain ⟨J1, J2⟩ := keep3 hinj hP hS h0 hP1 hF hL'
    obtain ⟨t2, a1, b1⟩ := k2 X9 hX9 F HK hlk hrt hinj ⟨h1, h2⟩ q9 ce T'.heap (locs ++ L) ls st (by rw [e1]; exact hce) hcv hcl (by rw [e1]; exact J1) (by rw [e1]; exact J2) hl T' rfl X'
    exact ⟨t2, stp.trans a1, b1⟩
theorem Y_lret' {k : Int32} (hd : decode cc pc = .ok (.ireturn, 1)) (h1 : kc ≤ 1) (h2 : ks ≤ 6) : Jx E (Γ3 ad cy) (wl_A (Γ3 ad cy)) (finL ad cy k w) kc ks own cc nL (some .int) pc lv [.int k] w := by
  obtain ⟨p, l, e, R, s, m, args, below, meth, c, D⟩ := E
  intro F HK hlk hrt hinj hcs H locs ls hP hS hl
  refine W.widen h1 h2 (vx_ret ?_)
  exact W.iret F.1 F.2.1 hrt (fun t ht hW => ⟨rfl, by rw [ht]; exact hP, hS.F ht⟩) hS.2.2 hd hlk
def outE (w : W3) (k : Int32) (v : Int64) : W3 := if k = 0 then (w.1, w.2.1, vp_updL w.2.2 (0 : Int32).toNatClampNeg v) else w
theorem o3_U {u : Nat → Int64} : ∀ j, j < 135 → j ≠ 134 → (Γ3 ad cy).2.1 (w.1, w.2.1, u) j = (Γ3 ad cy).2.1 w j := by
  intro h _ hn
  show (if h < 111 then _ else if h < 134 then _ else _) = (if h < 111 then _ else if h < 134 then _ else _)
  by_cases h1 : h < 111
  · rw [if_pos h1, if_pos h1]
  · rw [if_neg h1, if_neg h1, if_pos (show h < 134 by omega), if_pos (show h < 134 by omega)]
theorem Lelement_ok {z : Nat} {p q k : Int32} {v : Int64} (hi : wl_inj (ΓC ad cy)) (hl0 : (El E).stackTraces = false) (hz : ∀ h, h < 135 → z ≤ ad h) (hL : Lv E 7) (hc1 : (Er E).cells = 1) (hs6 : (Er E).slots = 6) (hZ : wl_Z z (Est E)) (hT : wl_T (Est E)) (hex : (Exc E).exceptionTable.toList = tableOf hhL) (hsp : spE w.1 p q k v) : Jx E (Γ3 ad cy) (wl_A (Γ3 ad cy)) (finL ad cy k (outE w k v)) 0 0 RL cL_element 5 (some .int) 0 [(0, .ref (ad 0)), (1, .int p), (2, .int q), (3, .ref (ad 134))] [] w := by
  have hzA : ∀ q, wl_A (Γ3 ad cy) q → z ≤ q := fun q ⟨i, h1, h2⟩ => by rw [h2]; exact hz i h1
  refine Y_aload_n (q := 3) dL_element_0 rfl rfl ?_
  refine Y_iconst (v := (0 : Int32)) dL_element_1 (by decide) ?_
  refine Y_aload_n (q := 0) dL_element_2 rfl rfl ?_
  refine Y_iload_n (q := 1) dL_element_3 rfl rfl ?_
  refine Y_iload_n (q := 2) dL_element_4 rfl rfl ?_
  refine elem_call dL_element_5 hl0 hi (fun h hh => hz h (by omega)) hsp tw_4_123 hL (by decide) (by rw [hc1]; decide) (by rw [hs6]; decide) hzA hZ hT (Nat.le_of_ble_eq_true rfl) (fun hk => ?_) (fun X hX => ?_)
  · subst hk
    refine Y_last (Γ := Γ3 ad cy) (h := 134) (n := 1) (w' := outE w 0 v) dL_element_8 (by decide) (by show 134 < 135; decide) rfl rfl o3_U ?_
    refine Y_goto (tgt := 20) dL_element_9 (by decide) ?_
    refine Y_iconst (v := (0 : Int32)) dL_element_20 (by decide) ?_
    exact Y_lret' dL_element_21 (by decide) (by decide)
  · rcases hX with ⟨rfl, rfl⟩ | ⟨rfl, rfl⟩
    · refine Jt_catch (name := eA) [] ⟨0, 9, 12, 13⟩ [⟨0, 9, 16, 15⟩] (hex.trans rfl) (fun _ h => nomatch h) rfl (by decide) tw_4_121 (hT.1 _ bd_1) (fun q9 => ?_)
      refine Y_astore (lv' := [(4, .ref q9), (0, .ref (ad 0)), (1, .int p), (2, .int q), (3, .ref (ad 134))]) dL_element_12 (by decide) rfl ?_
      refine Y_iconst (v := (1 : Int32)) dL_element_14 (by decide) ?_
      exact Y_lret' dL_element_15 (by decide) (by decide)
    · refine Jt_catch (name := eS) [⟨0, 9, 12, 13⟩] ⟨0, 9, 16, 15⟩ [] (hex.trans rfl) (List.forall_mem_cons.mpr ⟨Or.inr ⟨by decide, eA, tw_4_121, hT.2.1.2.2.2⟩, fun _ h => nomatch h⟩) rfl (by decide) tw_4_122 (hT.1 _ bd_0) (fun q9 => ?_)
      refine Y_astore (lv' := [(4, .ref q9), (0, .ref (ad 0)), (1, .int p), (2, .int q), (3, .ref (ad 134))]) dL_element_16 (by decide) rfl ?_
      refine Y_iconst (v := (2 : Int32)) dL_element_18 (by decide) ?_
      exact Y_lret' dL_element_19 (by decide) (by decide)
end
def P3 (D : va_G) (ad : Nat → Nat) (cy : Nat → ClassId) (w : W3) (z : Nat) (av : List Value) : Array Value → State → Prop := va_Pc av (fun U => va_P D vwCl (wl_ws (Γ3 ad cy) w) U.heap ∧ wl_K D cy U ∧ wl_Z z U ∧ wl_T U)
theorem P3_blind {D : va_G} {ad : Nat → Nat} {cy : Nat → ClassId} {w : W3} {z : Nat} {av : List Value} : FrameBlind (P3 D ad cy w z av) := fun _ _ _ _ h => ⟨h.1, h.2.1, h.2.2.1.call, h.2.2.2.1.call, h.2.2.2.2.call⟩
theorem k_Lelement {l : Launch} {D : va_G} {ad : Nat → Nat} {cy : Nat → ClassId} {w : W3} {z : Nat} {p q k : Int32} {v : Int64} (hi : wl_inj (Γ3 ad cy)) (hl0 : l.stackTraces = false) (hz : ∀ h, h < 135 → z ≤ ad h) (h : spE w.1 p q k v) : vx_Met l yL_element (Cond.codeWith yL_element cL_element 5 (some .int) hhL :: wU) { frames := 7, cells := 1, slots := 6, locals := 280 } (P3 D ad cy w z [.ref (ad 0), .int p, .int q, .ref (ad 134)]) (wl_Q D (Γ3 ad cy) (some (.int k), outE w k v)) (fun _ _ _ => False) 1 6 (wl_A (Γ3 ad cy)) := by
  refine vx_ofWH (cc := cL_element) (maxL := 5) (ret := some .int) (hh := hhL) rfl rfl ?_
  intro p' e s m args below meth c s₁ B hml hv
  obtain ⟨rfl, hP, hK, hZ, hT⟩ := hv
  have hts := atoms_spec (ws := Cond.codeWith yL_element cL_element 5 (some .int) hhL :: wU) B.pre
  have hown : s.vm.findClass RL = some m.cls := findClass_of_methodNamed B.named
  have hl := lv_entry [.ref (ad 0), .int p, .int q, .ref (ad 134)] (n := 5) (Nat.le_of_ble_eq_true rfl)
  rw [lg_entry_eq]
  exact Lelement_ok (E := (p', l, e, ({ frames := 7, cells := 1, slots := 6, locals := 280 } : Room), s, m, [.ref (ad 0), .int p, .int q, .ref (ad 134)].toArray, below, meth, c, D)) ((s3_C (ad := ad) (cy := cy) (w := w)).inj hi) hl0 hz ⟨Nat.le_refl 7, Nat.le_refl 280⟩ rfl rfl hZ hT (vx_table (x := yL_element) B (hts _ List.mem_cons_self)) h ⟨B.exec, B.bytes, hml, hown, fun w hw => hts w (List.mem_cons_of_mem _ hw)⟩ hK B.notSynchronized B.returns ⟨hi, fun h hh => ⟨h, hh, rfl⟩⟩ ⟨Nat.zero_le _, Nat.zero_le _⟩ s.heap [] _ hP va_S.rf hl

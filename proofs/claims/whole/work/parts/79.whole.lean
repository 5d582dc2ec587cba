/-! the law from its entry to its end -/
section
variable {p : Program} {l : Launch} {e : Env} {R : Room} {s : State} {m : MethodId} {args : Array Value} {below : List Frame} {meth : Method} {c : Code} {D : va_G} {cy : Nat → ClassId} {H : Heap} {locs : List Loc} {ls : Array Slot} {kc ks : Nat} {A : Nat → Prop} {Q : State → Prop} {cc : ByteArray} {nL : Nat} {own : String} {pc : Nat} {st : List Value} {ws : va_W}
theorem w_ctor {index maxL kk mc' ms' q0 a : Nat} {y : MethodName} {bytes : ByteArray} {e0 : va_E} {res' : (Nat → Nat) → va_E × va_W} {lv : List (Nat × Value)} (F : CallFix p m c cc nL s args wU own) (HK : wl_K D cy s) (HX : wl_X s) (hl : lv_has ls nL lv) (hd : decode cc pc = .ok (.invokespecial index, 3)) (hM : Ct l D cy y bytes maxL kk mc' ms' [] e0 res') (hl1 : Cond.methodLink own index y ∈ wU) (hl2 : Cond.instanceMethod y ∈ wU) (hl3 : Cond.initialized y.cls ∈ wU) (hl4 : Cond.code y bytes maxL none ∈ wU) (hy : y.cls ≠ "java/lang/invoke/MethodHandle" ∧ y.cls ≠ "java/lang/invoke/VarHandle" ∧ (parseMethodDescriptor y.desc).map (fun d => d.parameters.length) = some 0) (hyn : y.name = "<init>") (he : ws[q0]? = some (a, e0)) (hP : va_P D vwCl ws H) (hD : va_D A ws) (hS : va_S A s.heap H locs) (hA : ∀ q, s.heap.size ≤ q → A q) (g1 : kk + 1 ≤ R.frames) (g2 : 8 + (maxL + 11) + 40 * kk ≤ R.locals) (h1 : kc + mc' ≤ R.cells) (h2 : ks + ms' ≤ R.slots) (hW : (st.map fun v => v.category).sum ≤ 8)
    (k : ∀ (f : Nat → Nat) (H1 : Heap) (locs1 : List Loc), va_P D vwCl (ws.set q0 (a, (res' f).1) ++ (res' f).2) H1 → va_D A (ws.set q0 (a, (res' f).1) ++ (res' f).2) → va_S A s.heap H1 locs1 → W p l e R s m args below meth c H1 locs1 (kc + mc') (ks + ms') Q (F0 m (pc + 3) ls st)) : W p l e R s m args below meth c H locs kc ks Q (F0 m pc ls (.ref a :: st)) := by
  have hr := va_runI (As := []) (rest := st) (locs := locs) (cells := kc) (slots := ks) (p := p) (e := e) (below := below) (meth := meth) F (hM a H.size) ⟨callB_of 0 F.2.2.2.2 (wl_goodIn hl4) rfl rfl rfl (F.2.2.2.2 _ hl3) (F.2.2.2.2 _ hl1) hy ⟨g1, g2⟩, hyn, F.2.2.2.2 _ hl2⟩ ⟨Pk_blind, fun U hU hW => ⟨rfl, by rw [hU], (hP q0 _ he).lt, fun i x hx => by
    have hz : i < 1 := (List.getElem?_eq_some_iff.mp hx).1
    rw [show i = 0 by omega] at hx
    cases hx
    rw [hU]
    exact hP q0 _ he, HK.warm hW, HX.warm hW⟩⟩ rfl rfl hl.1 (g := F0 m pc ls (.ref a :: st)) rfl (lv_room hW) hd ⟨h1, h2⟩
  intro T hT X
  obtain ⟨v, st₀, t, T', L, h0, X', hL', e1, e2, ⟨hv, ⟨f, hP1, hD1, hn1⟩, hz, hk⟩, stp⟩ := hr T hT X
  cases hv
  rw [h0] at hz hk
  have hsub : ∀ q, fA a H.size q → A q := fun q h => h.elim (fun h => by rw [h]; exact hD.2 q0 _ he) (fun h => hA q (Nat.le_trans hS.1 h))
  obtain ⟨J1, J2⟩ := ct_join hP hD he rfl hk hP1 hD1 hn1 (fun q h => hA q (Nat.le_trans hS.1 h))
  obtain ⟨t2, a1, b1⟩ := k f T'.heap (locs ++ L) (by rw [e1]; exact J1) J2
    ⟨Nat.le_trans hS.1 (by rw [e1]; exact hz), fun q h1 h2 => by rw [e1, hk q (Nat.lt_of_lt_of_le h1 hS.1) (fun h => h2 (hsub q h))]; exact hS.2.1 q h1 h2, fun q hq => by
      rcases List.mem_append.mp hq with h | h
      · exact hS.2.2 q h
      · exact hsub _ (hL' q h)⟩ T' rfl X'
  exact ⟨t2, stp t2 a1, b1⟩
theorem w_newL {x : Int32} {N : Nat} (hexec : p.tables.exec = Jvm.exec) (hb : c.code = cc) (htU : ∀ w ∈ wU, w.before args s = true) (HK : wl_K D cy s) (hd : decode cc pc = .ok (.newarray .long, 2)) (hx : ¬ x < 0) (hN : x.toNatClampNeg = N) (hb8 : N * componentBytes .long ≤ 536870912) (hP : va_P D vwCl ws H) (hD : va_D A ws) (hS : va_S A s.heap H locs) (hA : ∀ q, s.heap.size ≤ q → A q) (h1 : kc + 1 ≤ R.cells) (h2 : ks + N ≤ R.slots)
    (k : ∀ (q : Nat) (H1 : Heap), va_P D vwCl (ws ++ [(q, .inl (cy 1, N, .inr (.inl (fun _ => 0))))]) H1 → va_D A (ws ++ [(q, .inl (cy 1, N, .inr (.inl (fun _ => 0))))]) → va_S A s.heap H1 locs → W p l e R s m args below meth c H1 locs (kc + 1) (ks + N) Q (F0 m (pc + 2) ls (.ref q :: st))) : W p l e R s m args below meth c H locs kc ks Q (F0 m pc ls (.int x :: st)) := by
  have hKt := (HK.1.2 1 _ rfl).2
  refine va_newaK hexec hb (atype := .long) (htU _ tw_5_16) rfl hd rfl hx hN hb8 h1 h2 rfl fun H1 cA e1 z1 o1 hAr hNm => ?_
  have hcA : cA = cy 1 := Option.some.inj (hNm.symm.trans hKt)
  subst hcA
  have hkp : ∀ (i : Nat) (x : Nat × va_E), ws[i]? = some x → H1[x.1]? = H[x.1]? := fun i x hx => o1 x.1 ((hP i x hx).lt)
  exact k H.size H1 ((hP.kept hkp).app (fun i x hx => by
    have hz : i < 1 := (List.getElem?_eq_some_iff.mp hx).1
    rw [show i = 0 by omega] at hx
    cases hx
    exact e1)) (hD.push hP rfl (hA _ hS.1)) ⟨Nat.le_trans hS.1 (by omega), fun x h1 h2 => (o1 x (Nat.lt_of_lt_of_le h1 hS.1)).trans (hS.2.1 x h1 h2), hS.2.2⟩
end
def finW : Ec → State → Prop := fun E => match E with
  | (p, l, e, R, s, m, args, below, meth, c, D) => lw_Z below args s
set_option maxHeartbeats 4000000 in
set_option maxRecDepth 20000 in
/-- from the entry, for every script of at most 3072 ints, the law comes to its end with true -/
theorem whole_start {p : Program} {e : Env} {s : State} {m : MethodId} {below : List Frame} {meth : Method} {c : Code} (l : Launch) (hflags : l.flags = flags0) {b L : Nat} {xs : Nat → Int32} (hL : L ≤ 3072) (C0 : lw_At p s m meth c b L xs) : W p l e room_1 s m #[Value.ref b] below meth c s.heap [] 0 0 (lw_Z below #[Value.ref b] s) (entryFrame m ([Value.ref b] : List Value).toArray 8) := by
  obtain ⟨hx, hb, hr, hml, hown, hts, hX, hbl, hlk, hgv⟩ := C0
  have hst : l.stackTraces = false := by unfold Launch.stackTraces; rw [hflags]; decide +kernel
  have htU : ∀ w ∈ wU, w.before #[Value.ref b] s = true := fun w h => hts w (wU_in w h)
  obtain ⟨D, cy, HK⟩ := st_K hts
  have HX := st_X hts
  have hcur : s.vm.findClass RX11 = some (D.1 10) := (HK.1.1 10 _ rfl).2.1
  have hT := st_T hts hgv hcur
  have hZ := st_Z hts hgv
  have F : CallFix p m c cL_law 8 s #[Value.ref b] wU RL := ⟨hx, hb, hml, hown, htU⟩
  have hA : ∀ q, s.heap.size ≤ q → (fun q => s.heap.size ≤ q) q := fun q h => h
  have hlv := lv_entry [Value.ref b] (n := 8) (Nat.le_of_ble_eq_true rfl)
  rw [lg_entry_eq]
  generalize ((lg_sl [Value.ref b] ++ List.replicate (8 - (lg_sl [Value.ref b]).length) Slot.unset).toArray) = ls0 at hlv ⊢
  replace hlv : lv_has ls0 8 [(0, .ref b)] := hlv
  have hP0 : va_P D vwCl [] s.heap := fun k q h => by cases h
  have hD0 : va_D (fun q => s.heap.size ≤ q) [] := ⟨fun i j p q h _ _ => (nomatch h), fun k q h => (nomatch h)⟩
  refine va_new (A := fun q => s.heap.size ≤ q) (cc := cL_law) (own := RL) (C := RX11) (T := TX11) (N := 9) (ci := 10) (fs := [.null, .null, .int 0, .null, .null, .null, .null, .null, .null]) hx hb htU inX11 tyX11 tyX11_ok hown (htU _ tw_1_24) (htU _ tw_1_25) (htU _ tw_1_1) HK.1 hP0 hD0 va_S.rf hA rfl (by decide) (by decide) (by decide) dL_law_0 (fun q0 H1 hP1 hD1 hS1 => ?_)
  refine lv_dup hx hb dL_law_3 rfl ?_
  refine w_ctor (own := RL) (q0 := 0) (st := [.ref q0]) F HK HX hlv dL_law_4 (kX11_init (cy := cy)) tw_1_26 tw_1_27 tw_1_1 tw_1_28 ⟨by decide, by decide, pdX11_init⟩ rfl rfl hP1 hD1 hS1 hA (by decide) (by decide) (by decide) (by decide) (Nat.le_of_ble_eq_true rfl) (fun f H2 locs2 hP2 hD2 hS2 => ?_)
  refine lv_astore_n (lv' := [(1, .ref q0), (0, .ref b)]) hx hb dL_law_7 rfl hlv (by decide) rfl (fun ls1 hlv1 => ?_)
  refine va_new (A := fun q => s.heap.size ≤ q) (cc := cL_law) (own := RL) (C := RX12) (T := TX12) (N := 34) (ci := 11) (fs := [.null, .null, .null, .int 0, .null, .null, .null, .null, .int 0, .null, .null, .null, .null, .null, .null, .int 0, .int 0, .int 0, .int 0, .int 0, .null, .null, .null, .null, .null, .int 0, .int 0, .int 0, .null, .null, .null, .null, .int 0, .null]) hx hb htU inX12 tyX12 tyX12_ok hown (htU _ tw_4_147) (htU _ tw_4_148) (htU _ tw_1_13) HK.1 hP2 hD2 hS2 hA rfl (by decide) (by decide) (by decide) dL_law_8 (fun q1 H3 hP3 hD3 hS3 => ?_)
  refine lv_dup hx hb dL_law_11 rfl ?_
  refine w_ctor (own := RL) (q0 := 111) (st := [.ref q1]) F HK HX hlv1 dL_law_12 (kX12_init (cy := cy)) tw_4_149 tw_4_150 tw_1_13 tw_4_151 ⟨by decide, by decide, pdX12_init⟩ rfl rfl hP3 hD3 hS3 hA (by decide) (by decide) (by decide) (by decide) (Nat.le_of_ble_eq_true rfl) (fun g H4 locs4 hP4 hD4 hS4 => ?_)
  refine lv_astore_n (lv' := [(2, .ref q1), (1, .ref q0), (0, .ref b)]) hx hb dL_law_15 rfl hlv1 (by decide) rfl (fun ls2 hlv2 => ?_)
  refine lv_iconst hx hb dL_law_16 (v := (1 : Int32)) (by decide) ?_
  refine w_newL (N := 1) hx hb htU HK dL_law_17 (by decide) (by decide) (by decide) hP4 hD4 hS4 hA (by decide) (by decide) (fun q2 H5 hP5 hD5 hS5 => ?_)
  refine lv_astore_n (lv' := [(3, .ref q2), (2, .ref q1), (1, .ref q0), (0, .ref b)]) hx hb dL_law_19 rfl hlv2 (by decide) rfl (fun ls3 hlv3 => ?_)
  refine lv_iconst hx hb dL_law_20 (v := (0 : Int32)) (by decide) ?_
  refine lv_istore (lv' := [(4, .int (0 : Int32)), (3, .ref q2), (2, .ref q1), (1, .ref q0), (0, .ref b)]) hx hb dL_law_21 hlv3 (by decide) rfl (fun ls4 hlv4 => ?_)
  replace hP5 : va_P D vwCl (wsL cy q0 f q1 g q2) H5 := hP5
  replace hD5 : va_D (fun q => s.heap.size ≤ q) (wsL cy q0 f q1 g q2) := hD5
  have hinj := lay_inj hD5
  have hAA := lay_A hD5
  have X : Lf (p, l, e, room_1, s, m, #[Value.ref b], below, meth, c, D) (adL q0 f q1 g q2) (fun q => s.heap.size ≤ q) b L s.heap.size xs := ⟨rfl, rfl, ⟨Nat.le_of_ble_eq_true rfl, Nat.le_of_ble_eq_true rfl⟩, hX, hbl, Nat.not_le.mpr hbl, hL, hst, hAA, fun q h => h, hZ, hT⟩
  refine law_loop (E := (p, l, e, room_1, s, m, #[Value.ref b], below, meth, c, D)) (fin := finW) (cy := cy) X hinj (fun kc ks lv w h1 h2 => ?_) (L + 6) 0 135 4730 w0 (by omega) (by omega) (by omega) (by omega) rel0 F HK hlk hr ⟨hinj, hAA⟩ ⟨Nat.le_of_ble_eq_true rfl, Nat.le_of_ble_eq_true rfl⟩ H5 locs4 ls4 (lay_P hP5) hS5 hlv4
  intro F HK hlk hrt hinj hcs H locs ls hP hS hl
  refine lv_iconst F.1 F.2.1 dL_law_1777 (v := (1 : Int32)) (by decide) ?_
  refine W.widen h1 h2 (va_forget (fun q hq => hS.2.2 q hq) ?_)
  exact lw_ret hx hb hr hlk dL_law_1778

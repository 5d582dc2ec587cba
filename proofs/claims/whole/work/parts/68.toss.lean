/-! toss: a call that throws, and its handlers -/
def Exc (E : Ec) : Code := E.2.2.2.2.2.2.2.2.2.1
def Est (E : Ec) : State := E.2.2.2.2.1
/-- something has been thrown -/
def Jt {Wd : Type} (E : Ec) (Γ : Wl Wd) (A : Nat → Prop) (fin : Ec → State → Prop) (kc ks : Nat) (own : String) (cc : ByteArray) (nL : Nat) (rt : Option FieldType) (X : String) (pc : Nat) (lv : List (Nat × Value)) (w : Wd) : Prop :=
  match E with
  | (p, l, e, R, s, m, args, below, meth, c, D) => CallFix p m c cc nL s args wU own → wl_K D Γ.2.2.2 s → meth.locks = false → meth.sig.returnType = rt → (wl_inj Γ ∧ ∀ h, h < Γ.1 → A (Γ.2.2.1 h)) → (kc ≤ R.cells ∧ ks ≤ R.slots) → ∀ (q : Nat) (ce : Cell) (H : Heap) (locs : List Loc) (ls : Array Slot) (rest : List Value), H[q]? = some ce → ce.vm = .none → s.vm.findClass X = some ce.cls → va_P D vwCl (wl_ws Γ w) H → va_S A s.heap H locs → lv_has ls nL lv →
    vx_W p l e R s m args below meth c H locs kc ks (fin (p, l, e, R, s, m, args, below, meth, c, D)) (F0 m pc ls rest) q
section
variable {Wd : Type} {E : Ec} {Γ : Wl Wd} {A : Nat → Prop} {fin : Ec → State → Prop} {kc ks : Nat} {own : String} {cc : ByteArray} {nL : Nat} {rt : Option FieldType} {pc : Nat} {lv : List (Nat × Value)} {st : List Value} {w : Wd}
theorem Jt_catch {X name : String} (pre : List ExceptionTableEntry) (x : ExceptionTableEntry) (suf : List ExceptionTableEntry) (hsplit : (Exc E).exceptionTable.toList = pre ++ x :: suf)
    (hpass : ∀ z ∈ pre, covers z pc = false ∨ (z.catchType ≠ 0 ∧ ∃ nm : String, Cond.classLink own z.catchType nm ∈ wU ∧ va_Nc X nm (Est E))) (hx : covers x pc = true) (h0 : x.catchType ≠ 0) (hlink : Cond.classLink own x.catchType name ∈ wU) (hcast : va_Nw (.castable X name) (Est E))
    (kk : ∀ q : Nat, Jx E Γ A fin kc ks own cc nL rt x.handlerPc lv [.ref q] w) : Jt E Γ A fin kc ks own cc nL rt X pc lv w := by
  obtain ⟨p, l, e, R, s, m, args, below, meth, c, D⟩ := E
  intro F HK hlk hrt hinj hcs q ce H locs ls rest hq hv hcl hP hS hl
  exact vx_catch F.2.2.2.1 pre x suf hsplit (fun z hz => (hpass z hz).imp id (fun ⟨a, nm, b, c⟩ => ⟨a, nm, F.2.2.2.2 _ b, c⟩)) hx h0 (F.2.2.2.2 _ hlink) (va_Nw.use rfl hcast) hq hv hcl (kk q F HK hlk hrt hinj hcs H locs ls hP hS hl)
theorem fail_call {N z h ci index : Nat} {C : String} {x y : MethodName} {bytes b0 : ByteArray} {m0 : Nat} {r0 : Option FieldType} {fig : Int32} {Ex : Option String} {qc : vw_C} {fs : List Value} (hd : decode cc pc = .ok (.invokevirtual index, 3)) (hM : Fc (El E) y bytes Ex) (hl1 : Cond.methodLink own index x ∈ wU) (hls : Cond.sameMethod x.cls x.cls x.name x.desc ∈ wU) (hl0 : Cond.instanceMethod x ∈ wU) (hc0 : Cond.code x b0 m0 r0 ∈ wU) (hl2 : Cond.instanceMethod y ∈ wU) (hl3 : Cond.initialized y.cls ∈ wU) (hl4 : Cond.code y bytes 2 none ∈ wU) (hl5 : Cond.selects C x y ∈ wU) (hy : x.cls ≠ "java/lang/invoke/MethodHandle" ∧ x.cls ≠ "java/lang/invoke/VarHandle" ∧ (parseMethodDescriptor x.desc).map (fun d => d.parameters.length) = some 1)
    (hh : h < Γ.1) (he : Γ.2.1 w h = .inr (ci, fs)) (hc : vwCl[ci]? = some qc) (hq : qc.1 = C) (hL : Lv E N) (hN : 7 ≤ N) (h1 : kc + 1 ≤ (Er E).cells) (h2 : ks + 6 ≤ (Er E).slots) (hzA : ∀ q, A q → z ≤ q) (hZ : wl_Z z (Est E)) (hT : wl_T (Est E)) (hW : (st.map fun v => v.category).sum ≤ 8)
    (k1 : Ex = none ∨ fig = 0 → Jx E Γ A fin (kc + 1) (ks + 6) own cc nL rt (pc + 3) lv st w)
    (k2 : ∀ X, Ex = some X → ¬ fig = 0 → Jt E Γ A fin (kc + 1) (ks + 6) own cc nL rt X pc lv w) : Jx E Γ A fin kc ks own cc nL rt pc lv (.int fig :: .ref (Γ.2.2.1 h) :: st) w := by
  obtain ⟨p, l, e, R, s, m, args, below, meth, c, D⟩ := E
  intro F HK hlk hrt hinj hcs H locs ls hP hS hl
  have g1 : N ≤ R.frames := hL.1
  have g2 : 40 * N ≤ R.locals := hL.2
  have hrec := va_recv HK.1 hP hc (wl_at hh he)
  rw [hq] at hrec
  have ht := F.2.2.2.2
  have hr := vx_runU (As := [.int fig]) (rest := st) (C := C) (owner := x.cls) (x := x) (n := 1) (locs := locs) (cells := kc) (slots := ks) (p := p) (e := e) (below := below) (meth := meth) F (hM z (Γ.2.2.1 h) fig) ⟨⟨rfl, rfl, by show 6 + 1 ≤ R.frames; omega, by show 8 + (2 + 11) + 240 ≤ R.locals; omega, pay_in ht (wl_goodIn hl4), List.mem_cons_self⟩, ht _ hl4, ht _ hl3, ⟨hy.1, hy.2.1⟩, fun sig h9 => by have h8 := hy.2.2; rw [h9] at h8; exact (Option.some.inj h8).symm, ht _ hl1, ht _ hls, va_Decl.of (ht _ hl0) (ht _ hc0), ht _ hl5, ht _ hl2⟩ ⟨PF_blind, hrec, fun U hU hW => ⟨rfl, hZ.at hS hzA hU hW, hT.warm hW⟩⟩ rfl rfl hl.1 (g := F0 m pc ls (.int fig :: .ref (Γ.2.2.1 h) :: st)) rfl (lv_room hW) hd ⟨h1, h2⟩
  have keep : ∀ {st₀ t : State}, st₀.heap = H → va_F (fun _ => False) st₀ t → va_P D vwCl (wl_ws Γ w) t.heap ∧ ∀ L : List Loc, (∀ q ∈ L, False) → va_S A s.heap t.heap (locs ++ L) := by
    intro st₀ t h0 ⟨hz, hk⟩
    rw [h0] at hz hk
    refine ⟨hP.kept (fun k q hk1 => hk q.1 (hP k q hk1).lt (fun f => f)), fun L hL => ⟨Nat.le_trans hS.1 hz, fun q a b => by rw [hk q (Nat.lt_of_lt_of_le a hS.1) (fun f => f)]; exact hS.2.1 q a b, fun q hq => (List.mem_append.mp hq).elim (hS.2.2 q) (fun h => (hL q h).elim)⟩⟩
  intro T hT2 X
  rcases hr T hT2 X with ⟨v, st₀, t, T', L, h0, X', hL', e1, e2, ⟨hv, hn, hF⟩, stp⟩ | ⟨q, st₀, t, T', L, X9, ce, h0, X', hL', e1, e2, ⟨hX9, hf, hF⟩, hce, hcv, hcl, stp⟩
  · cases hv
    obtain ⟨J1, J2⟩ := keep h0 hF
    obtain ⟨t2, a1, b1⟩ := k1 hn F HK hlk hrt hinj ⟨h1, h2⟩ T'.heap (locs ++ L) ls (by rw [e1]; exact J1) (by rw [e1]; exact J2 L hL') hl T' rfl X'
    exact ⟨t2, stp t2 a1, b1⟩
  · obtain ⟨J1, J2⟩ := keep h0 hF
    obtain ⟨t2, a1, b1⟩ := k2 X9 hX9 hf F HK hlk hrt hinj ⟨h1, h2⟩ q ce T'.heap (locs ++ L) ls st (by rw [e1]; exact hce) hcv hcl (by rw [e1]; exact J1) (by rw [e1]; exact J2 L hL') hl T' rfl X'
    exact ⟨t2, stp.trans a1, b1⟩
end
def hhT : List (Nat × Nat × Nat × Nat) := [(19, 38, 41, 293), (19, 38, 48, 286), (19, 38, 58, 316)]
def finT (ad : Nat → Nat) (cy : Nat → ClassId) (σ : CS) (v : Int32) : Ec → State → Prop := fun E => match E with
  | (p, l, e, R, s, m, args, below, meth, c, D) => vx_MQ below (wl_Q D (ΓC ad cy) (some (.int v), σ)) (fun _ _ _ => False) args s 1 6 (wl_A (ΓC ad cy))
section
variable {E : Ec} {ad : Nat → Nat} {cy : Nat → ClassId} {kc ks : Nat} {own : String} {cc : ByteArray} {nL : Nat} {pc : Nat} {lv : List (Nat × Value)} {σ : CS}
theorem Y_tret {v v' : Int32} (hd : decode cc pc = .ok (.ireturn, 1)) (hv : v' = v) (h1 : kc ≤ 1) (h2 : ks ≤ 6) : Jx E (ΓC ad cy) (wl_A (ΓC ad cy)) (finT ad cy σ v) kc ks own cc nL (some .int) pc lv [.int v'] σ := by
  obtain ⟨p, l, e, R, s, m, args, below, meth, c, D⟩ := E
  intro F HK hlk hrt hinj hcs H locs ls hP hS hl
  subst hv
  refine W.widen h1 h2 (vx_ret ?_)
  exact W.iret F.1 F.2.1 hrt (fun t ht hW => ⟨rfl, by rw [ht]; exact hP, hS.F ht⟩) hS.2.2 hd hlk
theorem toss_r {r1 p1 v : Int32} (hv : (-15 : Int32) = v) : Jx E (ΓC ad cy) (wl_A (ΓC ad cy)) (finT ad cy σ v) 1 6 RX11 cX11_toss 5 (some .int) 38 [(3, .ref (ad (2 * (11 + p1.toNatClampNeg) + 70))), (2, .int r1), (0, .ref (ad 0)), (1, .int p1)] [] σ := by
  refine Y_goto (tgt := 71) dX11_toss_38 (by decide) ?_
  refine Y_bipush (v := (-15 : Int32)) dX11_toss_71 (by decide) ?_
  exact Y_tret dX11_toss_73 hv (by decide) (by decide)
theorem toss_S {r1 p1 v : Int32} {q : Nat} (hg : inb p1 8 = true) (hv : oS (σ (11 + p1.toNatClampNeg)) 2 = v) : Jx E (ΓC ad cy) (wl_A (ΓC ad cy)) (finT ad cy σ v) 1 6 RX11 cX11_toss 5 (some .int) 41 [(3, .ref (ad (2 * (11 + p1.toNatClampNeg) + 70))), (2, .int r1), (0, .ref (ad 0)), (1, .int p1)] [.ref q] σ := by
  refine Y_astore (lv' := [(4, .ref q), (3, .ref (ad (2 * (11 + p1.toNatClampNeg) + 70))), (2, .int r1), (0, .ref (ad 0)), (1, .int p1)]) dX11_toss_41 (by decide) rfl ?_
  refine Y_aload_n (q := 1) dX11_toss_43 rfl rfl ?_
  refine ygS_X11_figure dX11_toss_44 (okS_m hg) rfl ?_
  exact Y_tret dX11_toss_47 hv (by decide) (by decide)
theorem toss_A {r1 p1 v : Int32} {q : Nat} (hg : inb p1 8 = true) (hv : 100 + oS (σ (11 + p1.toNatClampNeg)) 2 = v) : Jx E (ΓC ad cy) (wl_A (ΓC ad cy)) (finT ad cy σ v) 1 6 RX11 cX11_toss 5 (some .int) 48 [(3, .ref (ad (2 * (11 + p1.toNatClampNeg) + 70))), (2, .int r1), (0, .ref (ad 0)), (1, .int p1)] [.ref q] σ := by
  refine Y_astore (lv' := [(4, .ref q), (3, .ref (ad (2 * (11 + p1.toNatClampNeg) + 70))), (2, .int r1), (0, .ref (ad 0)), (1, .int p1)]) dX11_toss_48 (by decide) rfl ?_
  refine Y_bipush (v := (100 : Int32)) dX11_toss_50 (by decide) ?_
  refine Y_aload_n (q := 1) dX11_toss_52 rfl rfl ?_
  refine ygS_X11_figure dX11_toss_53 (okS_m hg) rfl ?_
  refine Y_iadd dX11_toss_56 ?_
  exact Y_tret dX11_toss_57 hv (by decide) (by decide)
theorem toss_U {r1 p1 v : Int32} {q : Nat} (hg : inb p1 8 = true) (hv : 200 + 2 * oS (σ (11 + p1.toNatClampNeg)) 2 = v) : Jx E (ΓC ad cy) (wl_A (ΓC ad cy)) (finT ad cy σ v) 1 6 RX11 cX11_toss 5 (some .int) 58 [(3, .ref (ad (2 * (11 + p1.toNatClampNeg) + 70))), (2, .int r1), (0, .ref (ad 0)), (1, .int p1)] [.ref q] σ := by
  refine Y_astore (lv' := [(4, .ref q), (3, .ref (ad (2 * (11 + p1.toNatClampNeg) + 70))), (2, .int r1), (0, .ref (ad 0)), (1, .int p1)]) dX11_toss_58 (by decide) rfl ?_
  refine Y_sipush (v := (200 : Int32)) dX11_toss_60 (by decide) ?_
  refine Y_iconst (v := (2 : Int32)) dX11_toss_63 (by decide) ?_
  refine Y_aload_n (q := 1) dX11_toss_64 rfl rfl ?_
  refine ygS_X11_figure dX11_toss_65 (okS_m hg) rfl ?_
  refine Y_imul dX11_toss_68 ?_
  refine Y_iadd dX11_toss_69 ?_
  exact Y_tret dX11_toss_70 hv (by decide) (by decide)
theorem pdX3_fail : (parseMethodDescriptor yX3_fail.desc).map (fun d => d.parameters.length) = some 1 := by decide +kernel
theorem toss_ok {z : Nat} {p1 v : Int32} (hi : wl_inj (ΓC ad cy)) (hl0 : (El E).stackTraces = false) (hz : ∀ h, h < 111 → z ≤ ad h) (hL : Lv E 8) (hcells : 1 ≤ (Er E).cells) (hslots : 6 ≤ (Er E).slots) (hZ : wl_Z z (Est E)) (hT : wl_T (Est E)) (hex : (Exc E).exceptionTable.toList = tableOf hhT) (h : C_toss σ p1 = some v) : Jx E (ΓC ad cy) (wl_A (ΓC ad cy)) (finT ad cy σ v) 0 0 RX11 cX11_toss 5 (some .int) 0 [(0, .ref (ad 0)), (1, .int p1)] [] σ := by
  unfold C_toss at h
  obtain ⟨r1, hq1, h⟩ := bd_some h
  have hzA : ∀ q, wl_A (ΓC ad cy) q → z ≤ q := fun q ⟨i, h1, h2⟩ => by rw [h2]; exact hz i h1
  refine Y_aload_n (q := 0) dX11_toss_0 rfl rfl ?_
  refine Y_iload_n (q := 1) dX11_toss_1 rfl rfl ?_
  refine ykx_X11_152 hi dX11_toss_2 hq1 hL (by decide) (Nat.le_of_ble_eq_true rfl) ?_
  refine Y_istore_n (lv' := [(2, .int r1), (0, .ref (ad 0)), (1, .int p1)]) dX11_toss_5 rfl (by decide) rfl ?_
  refine Y_iload_n (q := 0) dX11_toss_6 rfl rfl ?_
  refine Y_if_eq (tgt := 12) dX11_toss_7 (by decide) (fun c => ?_) (fun c => ?_)
  · rw [if_pos c] at h
    obtain ⟨hg1, h⟩ := gd_some h
    obtain ⟨hg2, h⟩ := gd_some h
    have hv := Option.some.inj h
    refine Y_aload_n (q := 1) dX11_toss_12 rfl rfl ?_
    refine ygC_shelves dX11_toss_13 ?_
    refine Y_iload_n (q := 2) dX11_toss_16 rfl rfl ?_
    refine yaM_shelf dX11_toss_17 hg1 ?_
    refine Y_astore_n (lv' := [(3, .ref (ad (2 * (11 + p1.toNatClampNeg) + 70))), (2, .int r1), (0, .ref (ad 0)), (1, .int p1)]) dX11_toss_18 rfl (by decide) rfl ?_
    refine Y_aload_n (q := 2) dX11_toss_19 rfl rfl ?_
    refine ygC_now dX11_toss_20 ?_
    refine ygT_X11_kinds (a := 1) dX11_toss_23 okT_1 rfl ?_
    refine Y_aload_n (q := 0) dX11_toss_26 rfl rfl ?_
    refine ygS_X11_kind (b := 11 + p1.toNatClampNeg) dX11_toss_27 (okS_m hg1) rfl ?_
    refine yaK_ld dX11_toss_30 hg2 ?_
    refine Y_aload_n (q := 0) dX11_toss_31 rfl rfl ?_
    refine ygS_X11_figure dX11_toss_32 (okS_m hg1) rfl ?_
    have hk8 := k8 hg2
    clear hg2 h
    generalize oS (σ (11 + p1.toNatClampNeg)) 1 = kk at hv hk8 ⊢
    unfold tossS at hv
    have catchS : ¬ oS (σ (11 + p1.toNatClampNeg)) 2 = 0 → oS (σ (11 + p1.toNatClampNeg)) 2 = v → Jt E (ΓC ad cy) (wl_A (ΓC ad cy)) (finT ad cy σ v) 1 6 RX11 cX11_toss 5 (some .int) eS 35 [(3, .ref (ad (2 * (11 + p1.toNatClampNeg) + 70))), (2, .int r1), (0, .ref (ad 0)), (1, .int p1)] σ := fun _ hv =>
      Jt_catch (name := eS) [] ⟨19, 38, 41, 293⟩ [⟨19, 38, 48, 286⟩, ⟨19, 38, 58, 316⟩] (hex.trans rfl) (fun _ h => nomatch h) rfl (by decide) tw_4_3 (hT.1 _ bd_0) (fun q => toss_S hg1 hv)
    have catchA : ¬ oS (σ (11 + p1.toNatClampNeg)) 2 = 0 → 100 + oS (σ (11 + p1.toNatClampNeg)) 2 = v → Jt E (ΓC ad cy) (wl_A (ΓC ad cy)) (finT ad cy σ v) 1 6 RX11 cX11_toss 5 (some .int) eA 35 [(3, .ref (ad (2 * (11 + p1.toNatClampNeg) + 70))), (2, .int r1), (0, .ref (ad 0)), (1, .int p1)] σ := fun _ hv =>
      Jt_catch (name := eA) [⟨19, 38, 41, 293⟩] ⟨19, 38, 48, 286⟩ [⟨19, 38, 58, 316⟩] (hex.trans rfl) (List.forall_mem_cons.mpr ⟨Or.inr ⟨by decide, eS, tw_4_3, hT.2.1.1⟩, fun _ h => nomatch h⟩) rfl (by decide) tw_4_4 (hT.1 _ bd_1) (fun q => toss_A hg1 hv)
    have catchU : ¬ oS (σ (11 + p1.toNatClampNeg)) 2 = 0 → 200 + 2 * oS (σ (11 + p1.toNatClampNeg)) 2 = v → Jt E (ΓC ad cy) (wl_A (ΓC ad cy)) (finT ad cy σ v) 1 6 RX11 cX11_toss 5 (some .int) eU 35 [(3, .ref (ad (2 * (11 + p1.toNatClampNeg) + 70))), (2, .int r1), (0, .ref (ad 0)), (1, .int p1)] σ := fun _ hv =>
      Jt_catch (name := eU) [⟨19, 38, 41, 293⟩, ⟨19, 38, 48, 286⟩] ⟨19, 38, 58, 316⟩ [] (hex.trans rfl) (List.forall_mem_cons.mpr ⟨Or.inr ⟨by decide, eS, tw_4_3, hT.2.1.2.1⟩, List.forall_mem_cons.mpr ⟨Or.inr ⟨by decide, eA, tw_4_4, hT.2.1.2.2.1⟩, fun _ h => nomatch h⟩⟩) rfl (by decide) tw_4_5 (hT.1 _ bd_2) (fun q => toss_U hg1 hv)
    rcases hk8 with rfl | rfl | rfl | rfl | rfl | rfl | rfl | rfl
    · refine fail_call (h := 2) (ci := 3) (C := RX3) (x := yX3_fail) (fs := []) dX11_toss_35 (fail_X3 hl0) tw_4_6 tw_4_9 tw_4_7 tw_4_102 tw_4_7 tw_1_2 tw_4_102 tw_4_8 ⟨by decide, by decide, pdX3_fail⟩ (by show 2 < 111; decide) (cC_k (cy := cy) (ad := ad) (w := σ) (k := 0) (by decide)) rfl rfl hL (by decide) hcells hslots hzA hZ hT (by decide) (fun hn => ?_) (fun X hX hf => ?_)
      · have hf : oS (σ (11 + p1.toNatClampNeg)) 2 = 0 := hn.resolve_left (fun h => nomatch h)
        refine toss_r ?_
        rw [← hv, hf]
        decide
      · cases hX
        refine catchS hf ?_
        rw [← hv]
        rw [if_neg (show ¬ (0 : Int32) = 1 by decide), if_neg (show ¬ (0 : Int32) = 4 by decide), if_neg (show ¬ (0 : Int32) = 7 by decide), if_neg hf]
        rw [if_neg (by decide), if_neg (by decide), if_neg (by decide)]
    · refine fail_call (h := 3) (ci := 4) (C := RX4) (x := yX3_fail) (fs := []) dX11_toss_35 (fail_X4) tw_4_6 tw_4_9 tw_4_7 tw_4_102 tw_4_78 tw_1_3 tw_4_79 tw_4_98 ⟨by decide, by decide, pdX3_fail⟩ (by show 3 < 111; decide) (cC_k (cy := cy) (ad := ad) (w := σ) (k := 1) (by decide)) rfl rfl hL (by decide) hcells hslots hzA hZ hT (by decide) (fun hn => ?_) (fun X hX hf => ?_)
      · refine toss_r ?_
        rw [← hv]
        simp (decide := true) only [if_true, if_false, ite_true, ite_false]
      · cases hX
    · refine fail_call (h := 4) (ci := 2) (C := RX2) (x := yX3_fail) (fs := []) dX11_toss_35 (fail_X2 hl0) tw_4_6 tw_4_9 tw_4_7 tw_4_102 tw_4_81 tw_1_4 tw_4_82 tw_4_80 ⟨by decide, by decide, pdX3_fail⟩ (by show 4 < 111; decide) (cC_k (cy := cy) (ad := ad) (w := σ) (k := 2) (by decide)) rfl rfl hL (by decide) hcells hslots hzA hZ hT (by decide) (fun hn => ?_) (fun X hX hf => ?_)
      · have hf : oS (σ (11 + p1.toNatClampNeg)) 2 = 0 := hn.resolve_left (fun h => nomatch h)
        refine toss_r ?_
        rw [← hv, hf]
        decide
      · cases hX
        refine catchA hf ?_
        rw [← hv]
        rw [if_neg (show ¬ (2 : Int32) = 1 by decide), if_neg (show ¬ (2 : Int32) = 4 by decide), if_neg (show ¬ (2 : Int32) = 7 by decide), if_neg hf]
        first | rw [if_pos (show (2 : Int32) = 2 from rfl)] | rw [if_neg (show ¬ (5 : Int32) = 2 by decide), if_pos (show (5 : Int32) = 5 from rfl)]
    · refine fail_call (h := 5) (ci := 6) (C := RX6) (x := yX3_fail) (fs := []) dX11_toss_35 (fail_X3 hl0) tw_4_6 tw_4_9 tw_4_7 tw_4_102 tw_4_7 tw_1_2 tw_4_102 tw_4_100 ⟨by decide, by decide, pdX3_fail⟩ (by show 5 < 111; decide) (cC_k (cy := cy) (ad := ad) (w := σ) (k := 3) (by decide)) rfl rfl hL (by decide) hcells hslots hzA hZ hT (by decide) (fun hn => ?_) (fun X hX hf => ?_)
      · have hf : oS (σ (11 + p1.toNatClampNeg)) 2 = 0 := hn.resolve_left (fun h => nomatch h)
        refine toss_r ?_
        rw [← hv, hf]
        decide
      · cases hX
        refine catchS hf ?_
        rw [← hv]
        rw [if_neg (show ¬ (3 : Int32) = 1 by decide), if_neg (show ¬ (3 : Int32) = 4 by decide), if_neg (show ¬ (3 : Int32) = 7 by decide), if_neg hf]
        rw [if_neg (by decide), if_neg (by decide), if_neg (by decide)]
    · refine fail_call (h := 6) (ci := 1) (C := RX1) (x := yX3_fail) (fs := []) dX11_toss_35 (fail_X4) tw_4_6 tw_4_9 tw_4_7 tw_4_102 tw_4_78 tw_1_3 tw_4_79 tw_4_77 ⟨by decide, by decide, pdX3_fail⟩ (by show 6 < 111; decide) (cC_k (cy := cy) (ad := ad) (w := σ) (k := 4) (by decide)) rfl rfl hL (by decide) hcells hslots hzA hZ hT (by decide) (fun hn => ?_) (fun X hX hf => ?_)
      · refine toss_r ?_
        rw [← hv]
        simp (decide := true) only [if_true, if_false, ite_true, ite_false]
      · cases hX
    · refine fail_call (h := 7) (ci := 5) (C := RX5) (x := yX3_fail) (fs := []) dX11_toss_35 (fail_X2 hl0) tw_4_6 tw_4_9 tw_4_7 tw_4_102 tw_4_81 tw_1_4 tw_4_82 tw_4_99 ⟨by decide, by decide, pdX3_fail⟩ (by show 7 < 111; decide) (cC_k (cy := cy) (ad := ad) (w := σ) (k := 5) (by decide)) rfl rfl hL (by decide) hcells hslots hzA hZ hT (by decide) (fun hn => ?_) (fun X hX hf => ?_)
      · have hf : oS (σ (11 + p1.toNatClampNeg)) 2 = 0 := hn.resolve_left (fun h => nomatch h)
        refine toss_r ?_
        rw [← hv, hf]
        decide
      · cases hX
        refine catchA hf ?_
        rw [← hv]
        rw [if_neg (show ¬ (5 : Int32) = 1 by decide), if_neg (show ¬ (5 : Int32) = 4 by decide), if_neg (show ¬ (5 : Int32) = 7 by decide), if_neg hf]
        first | rw [if_pos (show (2 : Int32) = 2 from rfl)] | rw [if_neg (show ¬ (5 : Int32) = 2 by decide), if_pos (show (5 : Int32) = 5 from rfl)]
    · refine fail_call (h := 8) (ci := 0) (C := RX0) (x := yX3_fail) (fs := []) dX11_toss_35 (fail_X0 hl0) tw_4_6 tw_4_9 tw_4_7 tw_4_102 tw_4_11 tw_1_8 tw_4_12 tw_4_10 ⟨by decide, by decide, pdX3_fail⟩ (by show 8 < 111; decide) (cC_k (cy := cy) (ad := ad) (w := σ) (k := 6) (by decide)) rfl rfl hL (by decide) hcells hslots hzA hZ hT (by decide) (fun hn => ?_) (fun X hX hf => ?_)
      · have hf : oS (σ (11 + p1.toNatClampNeg)) 2 = 0 := hn.resolve_left (fun h => nomatch h)
        refine toss_r ?_
        rw [← hv, hf]
        decide
      · cases hX
        refine catchU hf ?_
        rw [← hv]
        rw [if_neg (show ¬ (6 : Int32) = 1 by decide), if_neg (show ¬ (6 : Int32) = 4 by decide), if_neg (show ¬ (6 : Int32) = 7 by decide), if_neg hf]
        rw [if_neg (show ¬ (6 : Int32) = 2 by decide), if_neg (show ¬ (6 : Int32) = 5 by decide), if_pos (show (6 : Int32) = 6 from rfl)]
    · refine fail_call (h := 9) (ci := 8) (C := RX8) (x := yX3_fail) (fs := []) dX11_toss_35 (fail_X4) tw_4_6 tw_4_9 tw_4_7 tw_4_102 tw_4_78 tw_1_3 tw_4_79 tw_4_101 ⟨by decide, by decide, pdX3_fail⟩ (by show 9 < 111; decide) (cC_k (cy := cy) (ad := ad) (w := σ) (k := 7) (by decide)) rfl rfl hL (by decide) hcells hslots hzA hZ hT (by decide) (fun hn => ?_) (fun X hX hf => ?_)
      · refine toss_r ?_
        rw [← hv]
        simp (decide := true) only [if_true, if_false, ite_true, ite_false]
      · cases hX
  · rw [if_neg c] at h
    refine Y_iload_n (q := 0) dX11_toss_10 rfl rfl ?_
    exact Y_tret dX11_toss_11 (Option.some.inj h) (by decide) (by decide)
end

/-! what the throws ask of the state -/
def eS : String := "java/lang/IllegalStateException"
def eA : String := "java/lang/IllegalArgumentException"
def eU : String := "java/lang/UnsupportedOperationException"
def wl_T (U : State) : Prop := (∀ w ∈ badL, va_Nw w U) ∧ (va_Nc eA eS U ∧ va_Nc eU eS U ∧ va_Nc eU eA U ∧ va_Nc eS eA U) ∧ (∃ a, vk_R RX11 288 "no such shelf" a U) ∧ (∃ a, vk_R RX11 295 "no row" a U) ∧ ∃ a, vk_R RX11 298 "no such place" a U
theorem bad_ot : ∀ w ∈ badL, w.onTables = true := List.all_eq_true.mp (by decide +kernel)
theorem bad_warm {s U : State} (hW : s.WarmedH U.vm) (h : ∀ w ∈ badL, va_Nw w s) : ∀ w ∈ badL, va_Nw w U :=
  List.forall_mem_cons.mpr ⟨va_Nw.warmC hW (h _ bd_0), List.forall_mem_cons.mpr ⟨va_Nw.warmC hW (h _ bd_1), List.forall_mem_cons.mpr ⟨va_Nw.warmC hW (h _ bd_2), List.forall_mem_cons.mpr ⟨va_Nw.warmD hW (h _ bd_3), List.forall_mem_cons.mpr ⟨va_Nw.warmD hW (h _ bd_4), List.forall_mem_cons.mpr ⟨va_Nw.warmD hW (h _ bd_5), List.forall_mem_cons.mpr ⟨va_Nw.warmD hW (h _ bd_6), List.forall_mem_cons.mpr ⟨va_Nw.warmD hW (h _ bd_7), List.forall_mem_cons.mpr ⟨va_Nw.warmD hW (h _ bd_8), fun _ h => nomatch h⟩⟩⟩⟩⟩⟩⟩⟩⟩
theorem wl_T.warm {s U : State} (hW : s.WarmedH U.vm) (h : wl_T s) : wl_T U := by
  obtain ⟨h1, ⟨a1, a2, a3, a4⟩, ⟨x, hx⟩, ⟨y, hy⟩, ⟨z, hz⟩⟩ := h
  exact ⟨bad_warm hW h1, ⟨va_Nc.moved hW.alike a1, va_Nc.moved hW.alike a2, va_Nc.moved hW.alike a3, va_Nc.moved hW.alike a4⟩, ⟨x, vk_R.warm hW hx⟩, ⟨y, vk_R.warm hW hy⟩, ⟨z, vk_R.warm hW hz⟩⟩
theorem wl_T.call {U : State} {g : JFrame} {mk : MethodId} {a : Array Value} (h : wl_T U) : wl_T (U.calling g mk a) := by
  obtain ⟨h1, ⟨a1, a2, a3, a4⟩, ⟨x, hx⟩, ⟨y, hy⟩, ⟨z, hz⟩⟩ := h
  have al : U.vm.Alike (U.calling g mk a).vm := Vm.Alike.refl U.vm
  exact ⟨fun w hw => va_Nw.same (u := U) (U := U.calling g mk a) (bad_ot w hw) rfl (h1 w hw), ⟨va_Nc.moved al a1, va_Nc.moved al a2, va_Nc.moved al a3, va_Nc.moved al a4⟩, ⟨x, vk_R.same rfl hx⟩, ⟨y, vk_R.same rfl hy⟩, ⟨z, vk_R.same rfl hz⟩⟩
/-- the two static cells of Throwable: old cells -/
def wl_Z (z : Nat) (U : State) : Prop := vx_Zq Bundle.tN "UNASSIGNED_STACK" Bundle.steD (fun q => z ≤ q) U U.heap ∧ vx_Zq Bundle.tN "SUPPRESSED_SENTINEL" Bundle.listD (fun q => z ≤ q) U U.heap
theorem wl_Z.at {z : Nat} {s U : State} {H : Heap} {locs : List Loc} {A : Nat → Prop} (h : wl_Z z s) (hS : va_S A s.heap H locs) (hA : ∀ q, A q → z ≤ q) (hU : U.heap = H) (hW : s.WarmedH U.vm) : wl_Z z U := by
  subst hU
  exact ⟨vx_Zq.moved hW.alike (h.1.kept (fun a h1 h2 => hS.2.1 a h1 (fun q => h2 (hA a q)))), vx_Zq.moved hW.alike (h.2.kept (fun a h1 h2 => hS.2.1 a h1 (fun q => h2 (hA a q))))⟩
theorem wl_Z.call {z : Nat} {U : State} {g : JFrame} {mk : MethodId} {a : Array Value} (h : wl_Z z U) : wl_Z z (U.calling g mk a) :=
  ⟨vx_Zq.moved (u := U) (U := U.calling g mk a) (Vm.Alike.refl U.vm) h.1, vx_Zq.moved (u := U) (U := U.calling g mk a) (Vm.Alike.refl U.vm) h.2⟩
/-- fail: it throws Ex, where its figure isn't 0 -/
def PF (z b : Nat) (fig : Int32) : Array Value → State → Prop := va_Pc [.ref b, .int fig] (fun U => wl_Z z U ∧ wl_T U)
theorem PF_blind {z b : Nat} {fig : Int32} : FrameBlind (PF z b fig) := fun _ _ _ _ h => ⟨h.1, h.2.1.call, h.2.2.call⟩
def QF (Ex : Option String) (fig : Int32) : Array Value → State → Outcome → State → Prop := fun _ st o t => o = .returned none ∧ (Ex = none ∨ fig = 0) ∧ va_F (fun _ => False) st t
def XF (Ex : Option String) (fig : Int32) : String → State → State → Prop := fun X st t => Ex = some X ∧ ¬ fig = 0 ∧ va_F (fun _ => False) st t
def Fc (l : Launch) (y : MethodName) (cc : ByteArray) (Ex : Option String) : Prop := ∀ (z b : Nat) (fig : Int32), vx_Met l y (Cond.code y cc 2 none :: wU) { frames := 6, cells := 1, slots := 6, locals := 240 } (PF z b fig) (QF Ex fig) (XF Ex fig) 1 6 (fun _ => False)
theorem fail_X3 {l : Launch} (hl0 : l.stackTraces = false) : Fc l yX3_fail cX3_fail (some eS) := by
  intro z b fig
  refine vx_ofW (cc := cX3_fail) (maxL := 2) (ret := none) rfl rfl ?_
  intro p e s m args below meth c s₁ B hml ht hv
  obtain ⟨rfl, hZ, hT⟩ := hv
  have hts := atoms_spec (ws := Cond.code yX3_fail cX3_fail 2 none :: wU) B.pre
  have htU : ∀ w ∈ wU, w.before [.ref b, .int fig].toArray s = true := fun w hw => hts w (List.mem_cons_of_mem _ hw)
  have hown : s.vm.findClass RX3 = some m.cls := findClass_of_methodNamed B.named
  have hlv := lv_entry [.ref b, .int fig] (n := 2) (Nat.le_of_ble_eq_true rfl)
  rw [lg_entry_eq]
  refine lv_iload_n B.exec B.bytes dX3_fail_0 rfl (lv_at hlv 1 rfl) ?_
  refine lv_if_eq B.exec B.bytes dX3_fail_1 (tgt := 12) (by decide) (fun h0 => ?_) (fun h0 => ?_)
  · refine W.widen (k := 1) (n := 6) (by decide) (by decide) (vx_ret ?_)
    exact W.vret B.exec B.bytes B.returns (fun t ht hW => ⟨rfl, Or.inr h0, by rw [ht]; exact Nat.le_refl _, fun q _ _ => by rw [ht]⟩) (fun _ h => nomatch h) dX3_fail_12 B.notSynchronized
  · exact vx_throw0 B.exec B.bytes hl0 (A := fun q => z ≤ q) (names := exN) hown (by decide) (by decide) (htU _ tw_4_103) (htU _ tw_1_22) (fun w hw => (at_M w hw).elim (fun h => htU w h) (fun h => va_Nw.use (bad_ot w h) (hT.1 w h))) atg_M hZ.1 hZ.2 va_S.rf (hlv.1.trans hml.symm) dX3_fail_4 dX3_fail_7 dX3_fail_8 dX3_fail_11 (fun x hx => (ht x hx).elim) (by show 2 + 3 < 6; decide) (by show 0 + (13 * (2 + 1) + 42) ≤ 240; decide) (by show 0 + 1 ≤ 1; decide) (by show 0 + 6 ≤ 6; decide) B.notSynchronized (fun t hA hz hk => ⟨rfl, h0, hz, fun q hq _ => hk q hq⟩) (fun _ h => nomatch h) (by decide) (by decide)
theorem fail_X2 {l : Launch} (hl0 : l.stackTraces = false) : Fc l yX2_fail cX2_fail (some eA) := by
  intro z b fig
  refine vx_ofW (cc := cX2_fail) (maxL := 2) (ret := none) rfl rfl ?_
  intro p e s m args below meth c s₁ B hml ht hv
  obtain ⟨rfl, hZ, hT⟩ := hv
  have hts := atoms_spec (ws := Cond.code yX2_fail cX2_fail 2 none :: wU) B.pre
  have htU : ∀ w ∈ wU, w.before [.ref b, .int fig].toArray s = true := fun w hw => hts w (List.mem_cons_of_mem _ hw)
  have hown : s.vm.findClass RX2 = some m.cls := findClass_of_methodNamed B.named
  have hlv := lv_entry [.ref b, .int fig] (n := 2) (Nat.le_of_ble_eq_true rfl)
  rw [lg_entry_eq]
  refine lv_iload_n B.exec B.bytes dX2_fail_0 rfl (lv_at hlv 1 rfl) ?_
  refine lv_if_eq B.exec B.bytes dX2_fail_1 (tgt := 12) (by decide) (fun h0 => ?_) (fun h0 => ?_)
  · refine W.widen (k := 1) (n := 6) (by decide) (by decide) (vx_ret ?_)
    exact W.vret B.exec B.bytes B.returns (fun t ht hW => ⟨rfl, Or.inr h0, by rw [ht]; exact Nat.le_refl _, fun q _ _ => by rw [ht]⟩) (fun _ h => nomatch h) dX2_fail_12 B.notSynchronized
  · exact vx_throw0 B.exec B.bytes hl0 (A := fun q => z ≤ q) (names := exN) hown (by decide) (by decide) (htU _ tw_4_83) (htU _ tw_1_21) (fun w hw => (at_L w hw).elim (fun h => htU w h) (fun h => va_Nw.use (bad_ot w h) (hT.1 w h))) atg_L hZ.1 hZ.2 va_S.rf (hlv.1.trans hml.symm) dX2_fail_4 dX2_fail_7 dX2_fail_8 dX2_fail_11 (fun x hx => (ht x hx).elim) (by show 2 + 3 < 6; decide) (by show 0 + (13 * (2 + 1) + 42) ≤ 240; decide) (by show 0 + 1 ≤ 1; decide) (by show 0 + 6 ≤ 6; decide) B.notSynchronized (fun t hA hz hk => ⟨rfl, h0, hz, fun q hq _ => hk q hq⟩) (fun _ h => nomatch h) (by decide) (by decide)
theorem fail_X0 {l : Launch} (hl0 : l.stackTraces = false) : Fc l yX0_fail cX0_fail (some eU) := by
  intro z b fig
  refine vx_ofW (cc := cX0_fail) (maxL := 2) (ret := none) rfl rfl ?_
  intro p e s m args below meth c s₁ B hml ht hv
  obtain ⟨rfl, hZ, hT⟩ := hv
  have hts := atoms_spec (ws := Cond.code yX0_fail cX0_fail 2 none :: wU) B.pre
  have htU : ∀ w ∈ wU, w.before [.ref b, .int fig].toArray s = true := fun w hw => hts w (List.mem_cons_of_mem _ hw)
  have hown : s.vm.findClass RX0 = some m.cls := findClass_of_methodNamed B.named
  have hlv := lv_entry [.ref b, .int fig] (n := 2) (Nat.le_of_ble_eq_true rfl)
  rw [lg_entry_eq]
  refine lv_iload_n B.exec B.bytes dX0_fail_0 rfl (lv_at hlv 1 rfl) ?_
  refine lv_if_eq B.exec B.bytes dX0_fail_1 (tgt := 12) (by decide) (fun h0 => ?_) (fun h0 => ?_)
  · refine W.widen (k := 1) (n := 6) (by decide) (by decide) (vx_ret ?_)
    exact W.vret B.exec B.bytes B.returns (fun t ht hW => ⟨rfl, Or.inr h0, by rw [ht]; exact Nat.le_refl _, fun q _ _ => by rw [ht]⟩) (fun _ h => nomatch h) dX0_fail_12 B.notSynchronized
  · exact vx_throw0 B.exec B.bytes hl0 (A := fun q => z ≤ q) (names := exN) hown (by decide) (by decide) (htU _ tw_4_13) (htU _ tw_1_23) (fun w hw => (at_B w hw).elim (fun h => htU w h) (fun h => va_Nw.use (bad_ot w h) (hT.1 w h))) atg_B hZ.1 hZ.2 va_S.rf (hlv.1.trans hml.symm) dX0_fail_4 dX0_fail_7 dX0_fail_8 dX0_fail_11 (fun x hx => (ht x hx).elim) (by show 2 + 3 < 6; decide) (by show 0 + (13 * (2 + 1) + 42) ≤ 240; decide) (by show 0 + 1 ≤ 1; decide) (by show 0 + 6 ≤ 6; decide) B.notSynchronized (fun t hA hz hk => ⟨rfl, h0, hz, fun q hq _ => hk q hq⟩) (fun _ h => nomatch h) (by decide) (by decide)
theorem fail_X4 {l : Launch} : Fc l yX4_fail cX4_fail none := by
  intro z b fig
  refine vx_ofW (cc := cX4_fail) (maxL := 2) (ret := none) rfl rfl ?_
  intro p e s m args below meth c s₁ B hml ht hv
  obtain ⟨rfl, hZ, hT⟩ := hv
  rw [lg_entry_eq]
  refine W.widen (k := 1) (n := 6) (by decide) (by decide) (vx_ret ?_)
  exact W.vret B.exec B.bytes B.returns (fun t ht hW => ⟨rfl, Or.inl rfl, by rw [ht]; exact Nat.le_refl _, fun q _ _ => by rw [ht]⟩) (fun _ h => nomatch h) dX4_fail_0 B.notSynchronized

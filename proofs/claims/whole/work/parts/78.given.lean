/-! the law from its entry (laid by wip/whole/mk78.py) -/
theorem tm_1 {w : Cond} (h : w ∈ tables_1_1) : w ∈ lw_tbl := List.mem_append_right _ (List.mem_append_left _ h)
theorem tm_2 {w : Cond} (h : w ∈ tables_1_2) : w ∈ lw_tbl := List.mem_append_right _ (List.mem_append_right _ (List.mem_append_left _ h))
theorem tm_3 {w : Cond} (h : w ∈ tables_1_3) : w ∈ lw_tbl := List.mem_append_right _ (List.mem_append_right _ (List.mem_append_right _ (List.mem_append_left _ h)))
theorem tm_4 {w : Cond} (h : w ∈ tables_1_4) : w ∈ lw_tbl := List.mem_append_right _ (List.mem_append_right _ (List.mem_append_right _ (List.mem_append_right _ (List.mem_append_left _ h))))
theorem tm_5 {w : Cond} (h : w ∈ tables_1_5) : w ∈ lw_tbl := List.mem_append_right _ (List.mem_append_right _ (List.mem_append_right _ (List.mem_append_right _ (List.mem_append_right _ (List.mem_append_left _ h)))))
theorem tm_6 {w : Cond} (h : w ∈ tables_1_6) : w ∈ lw_tbl := List.mem_append_right _ (List.mem_append_right _ (List.mem_append_right _ (List.mem_append_right _ (List.mem_append_right _ (List.mem_append_right _ (h))))))
theorem st_X {s : State} {a : Array Value} (hts : ∀ w ∈ lw_tbl, w.before a s = true) : wl_X s :=
  ⟨List.forall_mem_cons.mpr ⟨va_Nw.of rfl (hts _ (tm_1 (List.mem_of_getElem? (i := 35) rfl))), List.forall_mem_cons.mpr ⟨va_Nw.of rfl (hts _ (tm_1 (List.mem_of_getElem? (i := 42) rfl))), List.forall_mem_cons.mpr ⟨va_Nw.of rfl (hts _ (tm_1 (List.mem_of_getElem? (i := 45) rfl))), List.forall_mem_cons.mpr ⟨va_Nw.of rfl (hts _ (tm_1 (List.mem_of_getElem? (i := 49) rfl))), List.forall_mem_cons.mpr ⟨va_Nw.of rfl (hts _ (tm_1 (List.mem_of_getElem? (i := 52) rfl))), List.forall_mem_cons.mpr ⟨va_Nw.of rfl (hts _ (tm_1 (List.mem_of_getElem? (i := 56) rfl))), List.forall_mem_cons.mpr ⟨va_Nw.of rfl (hts _ (tm_1 (List.mem_of_getElem? (i := 59) rfl))), List.forall_mem_cons.mpr ⟨va_Nw.of rfl (hts _ (tm_1 (List.mem_of_getElem? (i := 63) rfl))), List.forall_mem_cons.mpr ⟨va_Nw.of rfl (hts _ (tm_1 (List.mem_of_getElem? (i := 66) rfl))), List.forall_mem_cons.mpr ⟨va_Nw.of rfl (hts _ (tm_1 (List.mem_of_getElem? (i := 70) rfl))), List.forall_mem_cons.mpr ⟨va_Nw.of rfl (hts _ (tm_1 (List.mem_of_getElem? (i := 73) rfl))), List.forall_mem_cons.mpr ⟨va_Nw.of rfl (hts _ (tm_1 (List.mem_of_getElem? (i := 77) rfl))), List.forall_mem_cons.mpr ⟨va_Nw.of rfl (hts _ (tm_1 (List.mem_of_getElem? (i := 80) rfl))), List.forall_mem_cons.mpr ⟨va_Nw.of rfl (hts _ (tm_1 (List.mem_of_getElem? (i := 84) rfl))), List.forall_mem_cons.mpr ⟨va_Nw.of rfl (hts _ (tm_1 (List.mem_of_getElem? (i := 87) rfl))), fun _ h => nomatch h⟩⟩⟩⟩⟩⟩⟩⟩⟩⟩⟩⟩⟩⟩⟩, ⟨va_AO.of (hts _ (tm_1 (List.mem_of_getElem? (i := 33) rfl))), va_AO.of (hts _ (tm_1 (List.mem_of_getElem? (i := 140) rfl))), va_AO.of (hts _ (tm_1 (List.mem_of_getElem? (i := 142) rfl)))⟩, List.forall_mem_cons.mpr ⟨va_Nw.of rfl (hts _ (tm_6 (List.mem_of_getElem? (i := 161) rfl))), List.forall_mem_cons.mpr ⟨va_Nw.of rfl (hts _ (tm_6 (List.mem_of_getElem? (i := 162) rfl))), List.forall_mem_cons.mpr ⟨va_Nw.of rfl (hts _ (tm_6 (List.mem_of_getElem? (i := 163) rfl))), List.forall_mem_cons.mpr ⟨va_Nw.of rfl (hts _ (tm_6 (List.mem_of_getElem? (i := 164) rfl))), List.forall_mem_cons.mpr ⟨va_Nw.of rfl (hts _ (tm_6 (List.mem_of_getElem? (i := 165) rfl))), List.forall_mem_cons.mpr ⟨va_Nw.of rfl (hts _ (tm_6 (List.mem_of_getElem? (i := 166) rfl))), List.forall_mem_cons.mpr ⟨va_Nw.of rfl (hts _ (tm_6 (List.mem_of_getElem? (i := 167) rfl))), fun _ h => nomatch h⟩⟩⟩⟩⟩⟩⟩⟩
theorem st_N {s : State} {a : Array Value} (hts : ∀ w ∈ lw_tbl, w.before a s = true) : wl_N s :=
  List.forall_mem_cons.mpr ⟨va_Nw.of rfl (hts _ (tm_2 (List.mem_of_getElem? (i := 10) rfl))), List.forall_mem_cons.mpr ⟨va_Nw.of rfl (hts _ (tm_2 (List.mem_of_getElem? (i := 13) rfl))), List.forall_mem_cons.mpr ⟨va_Nw.of rfl (hts _ (tm_2 (List.mem_of_getElem? (i := 20) rfl))), fun _ h => nomatch h⟩⟩⟩
theorem st_bad {s : State} {a : Array Value} (hts : ∀ w ∈ lw_tbl, w.before a s = true) : ∀ w ∈ badL, va_Nw w s :=
  List.forall_mem_cons.mpr ⟨va_Nw.of rfl (hts _ (tm_4 (List.mem_of_getElem? (i := 105) rfl))), List.forall_mem_cons.mpr ⟨va_Nw.of rfl (hts _ (tm_4 (List.mem_of_getElem? (i := 85) rfl))), List.forall_mem_cons.mpr ⟨va_Nw.of rfl (hts _ (tm_4 (List.mem_of_getElem? (i := 15) rfl))), List.forall_mem_cons.mpr ⟨va_Nw.of rfl (hts _ (tm_4 (List.mem_of_getElem? (i := 16) rfl))), List.forall_mem_cons.mpr ⟨va_Nw.of rfl (hts _ (tm_4 (List.mem_of_getElem? (i := 17) rfl))), List.forall_mem_cons.mpr ⟨va_Nw.of rfl (hts _ (tm_4 (List.mem_of_getElem? (i := 18) rfl))), List.forall_mem_cons.mpr ⟨va_Nw.of rfl (hts _ (tm_4 (List.mem_of_getElem? (i := 19) rfl))), List.forall_mem_cons.mpr ⟨va_Nw.of rfl (hts _ (tm_4 (List.mem_of_getElem? (i := 20) rfl))), List.forall_mem_cons.mpr ⟨va_Nw.of rfl (hts _ (tm_4 (List.mem_of_getElem? (i := 21) rfl))), fun _ h => nomatch h⟩⟩⟩⟩⟩⟩⟩⟩⟩
theorem st_str {s : State} {a : Array Value} {cur : ClassId} {i : Nat} {tx : String} (hcur : s.vm.findClass RX11 = some cur) (h : (Cond.stringRef RX11 i tx).before a s = true) : ∃ q, vk_R RX11 i tx q s := by
  obtain ⟨_, _, _, q, -, -, -, -, -, h6⟩ := Cond.stringRef_spec hcur h
  exact ⟨q, vk_R.of h h6⟩
theorem st_T {s : State} {a : Array Value} {cur : ClassId} (hts : ∀ w ∈ lw_tbl, w.before a s = true) (hgv : (Jvm.Cond.and given_1 narrow_1).before a s = true) (hcur : s.vm.findClass RX11 = some cur) : wl_T s := by
  have hs := flat_of_before _ hgv
  exact ⟨st_bad hts, ⟨va_Nc.of (args := a) (hs (.not (.castable eA eS)) (by decide +kernel)), va_Nc.of (args := a) (hs (.not (.castable eU eS)) (by decide +kernel)), va_Nc.of (args := a) (hs (.not (.castable eU eA)) (by decide +kernel)), va_Nc.of (args := a) (hs (.not (.castable eS eA)) (by decide +kernel))⟩, st_str hcur (hts _ (tm_4 (List.mem_of_getElem? (i := 127) rfl))), st_str hcur (hts _ (tm_4 (List.mem_of_getElem? (i := 140) rfl))), st_str hcur (hts _ (tm_4 (List.mem_of_getElem? (i := 145) rfl)))⟩
theorem st_Z {s : State} {a : Array Value} (hts : ∀ w ∈ lw_tbl, w.before a s = true) (hgv : (Jvm.Cond.and given_1 narrow_1).before a s = true) : wl_Z s.heap.size s := by
  have hs := flat_of_before _ hgv
  exact ⟨vx_Zqof (hts _ (tm_4 (List.mem_of_getElem? (i := 40) rfl))) (hts _ (wU_in _ tw_1_18)) (hs (.isRef (.static Bundle.tN "UNASSIGNED_STACK" Bundle.steD)) (by decide +kernel)) (fun q h => Nat.not_le.mpr h), vx_Zqof (hts _ (tm_4 (List.mem_of_getElem? (i := 42) rfl))) (hts _ (wU_in _ tw_1_18)) (hs (.isRef (.static Bundle.tN "SUPPRESSED_SENTINEL" Bundle.listD)) (by decide +kernel)) (fun q h => Nat.not_le.mpr h)⟩
theorem st_arr {s : State} {a : Array Value} {t : FieldType} (ht : ∀ C, t ≠ .object C) (h : (Cond.arrayClass t).before a s = true) : ∃ cA, ArrOfT s cA t ∧ s.vm.findClass ("[" ++ t.toString) = some cA := by
  obtain ⟨cA, kA, comp, h1, h2, h3⟩ := Cond.arrayClass_spec h
  exact ⟨cA, fun n z => ⟨fun k h => (by cases h), kA, h2, comp, h3⟩, h1⟩
theorem st_arrO {s : State} {C : String} (h : va_AO C s) : ∃ cA, ArrOfT s cA (.object C) ∧ va_RA s cA (.object C) := by
  obtain ⟨comp, cA, kA, h1, -, h3, h4, h5⟩ := Cond.arrayOver_spec h
  exact ⟨cA, fun n z => ⟨fun k h => (by cases h), kA, h3, comp, h4⟩, kA, comp, h3, h4, h1, h5⟩
theorem st_cls {s : State} {a : Array Value} (hts : ∀ w ∈ wU, w.before a s = true) (c : Nat) : ∃ (cC : ClassId) (iS : Nat → Nat), ∀ q : vw_C, vwCl[c]? = some q → u_Kn s q.1 q.2.1 q.2.2 cC iS := by
  match c with
  | 0 =>
    obtain ⟨cC, iS, h⟩ := u_known (C := RX0) (T := TX0) (N := 0) hts inX0 (hts _ tw_1_76)
    exact ⟨cC, iS, fun q hq => by cases hq; exact h⟩
  | 1 =>
    obtain ⟨cC, iS, h⟩ := u_known (C := RX1) (T := TX1) (N := 0) hts inX1 (hts _ tw_1_62)
    exact ⟨cC, iS, fun q hq => by cases hq; exact h⟩
  | 2 =>
    obtain ⟨cC, iS, h⟩ := u_known (C := RX2) (T := TX2) (N := 0) hts inX2 (hts _ tw_1_48)
    exact ⟨cC, iS, fun q hq => by cases hq; exact h⟩
  | 3 =>
    obtain ⟨cC, iS, h⟩ := u_known (C := RX3) (T := TX3) (N := 0) hts inX3 (hts _ tw_1_34)
    exact ⟨cC, iS, fun q hq => by cases hq; exact h⟩
  | 4 =>
    obtain ⟨cC, iS, h⟩ := u_known (C := RX4) (T := TX4) (N := 0) hts inX4 (hts _ tw_1_41)
    exact ⟨cC, iS, fun q hq => by cases hq; exact h⟩
  | 5 =>
    obtain ⟨cC, iS, h⟩ := u_known (C := RX5) (T := TX5) (N := 0) hts inX5 (hts _ tw_1_69)
    exact ⟨cC, iS, fun q hq => by cases hq; exact h⟩
  | 6 =>
    obtain ⟨cC, iS, h⟩ := u_known (C := RX6) (T := TX6) (N := 0) hts inX6 (hts _ tw_1_55)
    exact ⟨cC, iS, fun q hq => by cases hq; exact h⟩
  | 7 =>
    obtain ⟨cC, iS, h⟩ := u_known (C := RX7) (T := TX7) (N := 6) hts inX7 (hts _ tw_1_143)
    exact ⟨cC, iS, fun q hq => by cases hq; exact h⟩
  | 8 =>
    obtain ⟨cC, iS, h⟩ := u_known (C := RX8) (T := TX8) (N := 0) hts inX8 (hts _ tw_1_83)
    exact ⟨cC, iS, fun q hq => by cases hq; exact h⟩
  | 9 =>
    obtain ⟨cC, iS, h⟩ := u_known (C := RX10) (T := TX10) (N := 10) hts inX10 (hts _ tw_1_90)
    exact ⟨cC, iS, fun q hq => by cases hq; exact h⟩
  | 10 =>
    obtain ⟨cC, iS, h⟩ := u_known (C := RX11) (T := TX11) (N := 9) hts inX11 (hts _ tw_1_25)
    exact ⟨cC, iS, fun q hq => by cases hq; exact h⟩
  | 11 =>
    obtain ⟨cC, iS, h⟩ := u_known (C := RX12) (T := TX12) (N := 34) hts inX12 (hts _ tw_4_148)
    exact ⟨cC, iS, fun q hq => by cases hq; exact h⟩
  | c + 12 => exact ⟨0, fun _ => 0, fun q hq => by simp [vwCl] at hq⟩
theorem st_K {s : State} {a : Array Value} (htl : ∀ w ∈ lw_tbl, w.before a s = true) : ∃ (D : va_G) (cy : Nat → ClassId), wl_K D cy s := by
  have hts : ∀ w ∈ wU, w.before a s = true := fun w h => htl w (wU_in w h)
  have hX := st_X htl
  obtain ⟨c0, a0, b0⟩ := st_arr (t := .int) (fun _ h => by cases h) (hts _ tw_1_139)
  obtain ⟨c1, a1, b1⟩ := st_arr (t := .long) (fun _ h => by cases h) (hts _ tw_5_16)
  obtain ⟨c2, a2, b2⟩ := st_arrO hX.2.1.1
  obtain ⟨c3, a3, b3⟩ := st_arrO hX.2.1.2.2
  obtain ⟨c4, a4, b4⟩ := st_arrO hX.2.1.2.1
  refine ⟨(fun c => (st_cls hts c).choose, fun c => (st_cls hts c).choose_spec.choose), fun t => [c0, c1, c2, c3, c4].getD t 0, ⟨fun c q hq => (st_cls hts c).choose_spec.choose_spec q hq, fun k q hk => ?_⟩, st_N htl⟩
  match k, hk with
  | 0, hk => cases hk; exact ⟨a0, b0⟩
  | 1, hk => cases hk; exact ⟨a1, b1⟩
  | 2, hk => cases hk; exact ⟨a2, b2⟩
  | 3, hk => cases hk; exact ⟨a3, b3⟩
  | 4, hk => cases hk; exact ⟨a4, b4⟩
  | k + 5, hk => simp [tysL] at hk

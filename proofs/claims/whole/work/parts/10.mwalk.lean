set_option maxRecDepth 20000 in
set_option maxHeartbeats 4000000 in
theorem M_thrown_ok {E : Ec} {ad : Nat → Nat} {cy : Nat → ClassId} {rv : Int32} {o : Ob} (hi : wl_inj (ΓM ad cy)) (hL : Lv E 0) (h : M_thrown o = some rv) : Jw E (ΓM ad cy) RX12 cX12_thrown 1 (some .int) (some (.int rv), o) 0 [(0, .ref (ad 0))] [] o := by
  unfold M_thrown at h
  refine J_aload_n (q := 0) dX12_thrown_0 rfl rfl ?_
  refine gM_thrown dX12_thrown_1 ?_
  exact J_iret dX12_thrown_4 (rt_pi h) rfl
set_option maxRecDepth 20000 in
set_option maxHeartbeats 4000000 in
theorem kX12_thrown {l : Launch} {D : va_G} {ad : Nat → Nat} {cy : Nat → ClassId} {rv : Int32} {o : Ob} (hi : wl_inj (ΓM ad cy)) (h : M_thrown o = some rv) : Cn l D (ΓM ad cy) yX12_thrown cX12_thrown 1 (some .int) 0 [.ref (ad 0)] o (some (.int rv), o) :=
  Cn.of hi rfl (Nat.le_of_ble_eq_true rfl) (fun _ _ _ hL => M_thrown_ok hi hL h)
set_option maxRecDepth 20000 in
set_option maxHeartbeats 4000000 in
theorem M_in_ok {E : Ec} {ad : Nat → Nat} {cy : Nat → ClassId} {rv : Int32} {o : Ob} {p0 : Int64} {p2 : Int64} {p4 : Int64} (hi : wl_inj (ΓM ad cy)) (hL : Lv E 0) (h : M_in o p0 p2 p4 = some rv) : Jw E (ΓM ad cy) RX12 cX12_in 6 (some .boolean) (some (.int rv), o) 0 [(0, .long p0), (2, .long p2), (4, .long p4)] [] o := by
  unfold M_in at h
  refine J_lload_n (q := 0) dX12_in_0 rfl rfl ?_
  refine J_lload_n (q := 1) dX12_in_1 rfl rfl ?_
  refine J_lcmp dX12_in_2 ?_
  refine J_if_lt (tgt := 17) dX12_in_3 (by decide) (fun c1 => ?_) (fun c1 => ?_)
  · replace h := it_some h c1
    refine J_iconst dX12_in_17 ic_0 ?_
    exact J_zret dX12_in_18 (rt_pi h) rfl rfl
  · replace h := if_some h c1
    refine J_lload_n (q := 0) dX12_in_6 rfl rfl ?_
    refine J_lload (q := 2) dX12_in_7 rfl ?_
    refine J_lcmp dX12_in_9 ?_
    refine J_if_gt (tgt := 17) dX12_in_10 (by decide) (fun c2 => ?_) (fun c2 => ?_)
    · replace h := it_some h c2
      refine J_iconst dX12_in_17 ic_0 ?_
      exact J_zret dX12_in_18 (rt_pi h) rfl rfl
    · replace h := if_some h c2
      refine J_iconst dX12_in_13 ic_1 ?_
      refine J_goto (tgt := 18) dX12_in_14 (by decide) ?_
      exact J_zret dX12_in_18 (rt_pi h) rfl rfl
set_option maxRecDepth 20000 in
set_option maxHeartbeats 4000000 in
theorem kX12_in {l : Launch} {D : va_G} {ad : Nat → Nat} {cy : Nat → ClassId} {rv : Int32} {o : Ob} {p0 : Int64} {p2 : Int64} {p4 : Int64} (hi : wl_inj (ΓM ad cy)) (h : M_in o p0 p2 p4 = some rv) : Cn l D (ΓM ad cy) yX12_in cX12_in 6 (some .boolean) 0 [.long p0, .long p2, .long p4] o (some (.int rv), o) :=
  Cn.of hi rfl (Nat.le_of_ble_eq_true rfl) (fun _ _ _ hL => M_in_ok hi hL h)
set_option maxRecDepth 20000 in
set_option maxHeartbeats 4000000 in
theorem pdX12_in : (parseMethodDescriptor yX12_in.desc).map (fun d => d.parameters.length) = some 3 := by decide +kernel
set_option maxRecDepth 20000 in
set_option maxHeartbeats 4000000 in
theorem kM_in {E : Ec} {ad : Nat → Nat} {cy : Nat → ClassId} {cc : ByteArray} {nL : Nat} {rt : Option FieldType} {r : Option Value × Ob} {pc n : Nat} {lv : List (Nat × Value)} {st : List Value} {o : Ob} {p0 : Int64} {p2 : Int64} {p4 : Int64} {v : Int32} (hi : wl_inj (ΓM ad cy)) (hd : decode cc pc = .ok (.invokestatic 83, 3)) (hq : M_in o p0 p2 p4 = some v) (hL : Lv E n) (hn : 0 + 1 ≤ n) (hW : (st.map fun v => v.category).sum ≤ 8) (k : Jw E (ΓM ad cy) RX12 cc nL rt r (pc + 3) lv (.int v :: st) o) : Jw E (ΓM ad cy) RX12 cc nL rt r pc lv (.long p4 :: .long p2 :: .long p0 :: st) o :=
  J_callS (av := [.long p0, .long p2, .long p4]) (q := (some (.int v), o)) (st := st) hd (kX12_in hi hq) tw_5_30 tw_5_31 tw_1_13 tw_5_32 ⟨by decide, by decide, pdX12_in⟩ rfl (by decide) hL hn hW k
set_option maxRecDepth 20000 in
set_option maxHeartbeats 4000000 in
theorem M_hasBit_ok {E : Ec} {ad : Nat → Nat} {cy : Nat → ClassId} {rv : Int32} {o : Ob} {p0 : Int32} {p1 : Int32} (hi : wl_inj (ΓM ad cy)) (hL : Lv E 0) (h : M_hasBit o p0 p1 = some rv) : Jw E (ΓM ad cy) RX12 cX12_hasBit 2 (some .boolean) (some (.int rv), o) 0 [(0, .int p0), (1, .int p1)] [] o := by
  unfold M_hasBit at h
  refine J_iload_n (q := 0) dX12_hasBit_0 rfl rfl ?_
  refine J_iload_n (q := 1) dX12_hasBit_1 rfl rfl ?_
  refine J_ishr dX12_hasBit_2 ?_
  refine J_iconst dX12_hasBit_3 ic_1 ?_
  refine J_iand dX12_hasBit_4 ?_
  refine J_iconst dX12_hasBit_5 ic_1 ?_
  refine J_icmp_ne (tgt := 13) dX12_hasBit_6 (by decide) (fun c1 => ?_) (fun c1 => ?_)
  · replace h := if_some h c1
    refine J_iconst dX12_hasBit_13 ic_0 ?_
    exact J_zret dX12_hasBit_14 (rt_pi h) rfl rfl
  · replace h := it_some h c1
    refine J_iconst dX12_hasBit_9 ic_1 ?_
    refine J_goto (tgt := 14) dX12_hasBit_10 (by decide) ?_
    exact J_zret dX12_hasBit_14 (rt_pi h) rfl rfl
set_option maxRecDepth 20000 in
set_option maxHeartbeats 4000000 in
theorem kX12_hasBit {l : Launch} {D : va_G} {ad : Nat → Nat} {cy : Nat → ClassId} {rv : Int32} {o : Ob} {p0 : Int32} {p1 : Int32} (hi : wl_inj (ΓM ad cy)) (h : M_hasBit o p0 p1 = some rv) : Cn l D (ΓM ad cy) yX12_hasBit cX12_hasBit 2 (some .boolean) 0 [.int p0, .int p1] o (some (.int rv), o) :=
  Cn.of hi rfl (Nat.le_of_ble_eq_true rfl) (fun _ _ _ hL => M_hasBit_ok hi hL h)
set_option maxRecDepth 20000 in
set_option maxHeartbeats 4000000 in
theorem pdX12_hasBit : (parseMethodDescriptor yX12_hasBit.desc).map (fun d => d.parameters.length) = some 2 := by decide +kernel
set_option maxRecDepth 20000 in
set_option maxHeartbeats 4000000 in
theorem kM_hasBit {E : Ec} {ad : Nat → Nat} {cy : Nat → ClassId} {cc : ByteArray} {nL : Nat} {rt : Option FieldType} {r : Option Value × Ob} {pc n : Nat} {lv : List (Nat × Value)} {st : List Value} {o : Ob} {p0 : Int32} {p1 : Int32} {v : Int32} (hi : wl_inj (ΓM ad cy)) (hd : decode cc pc = .ok (.invokestatic 105, 3)) (hq : M_hasBit o p0 p1 = some v) (hL : Lv E n) (hn : 0 + 1 ≤ n) (hW : (st.map fun v => v.category).sum ≤ 8) (k : Jw E (ΓM ad cy) RX12 cc nL rt r (pc + 3) lv (.int v :: st) o) : Jw E (ΓM ad cy) RX12 cc nL rt r pc lv (.int p1 :: .int p0 :: st) o :=
  J_callS (av := [.int p0, .int p1]) (q := (some (.int v), o)) (st := st) hd (kX12_hasBit hi hq) tw_5_117 tw_5_118 tw_1_13 tw_5_119 ⟨by decide, by decide, pdX12_hasBit⟩ rfl (by decide) hL hn hW k
set_option maxRecDepth 20000 in
set_option maxHeartbeats 4000000 in
theorem M_onesOf_L4_ok {E : Ec} {ad : Nat → Nat} {cy : Nat → ClassId} {rv : Int32} {o : Ob} (hi : wl_inj (ΓM ad cy)) (hL : Lv E 0) : ∀ (n : Nat) (x1 : Int32) (x2 : Int32), M_onesOf_L4 o n x1 x2 = some rv → Jw E (ΓM ad cy) RX12 cX12_onesOf 3 (some .int) (some (.int rv), o) 4 [(1, .int x1), (2, .int x2)] [] o := by
  intro n
  induction n with
  | zero =>
    intro x1 x2 h
    rw [M_onesOf_L4] at h
    cases h
  | succ n ih =>
    intro x1 x2 h
    rw [M_onesOf_L4] at h
    refine J_iload_n (q := 1) dX12_onesOf_4 rfl rfl ?_
    refine J_if_eq (tgt := 20) dX12_onesOf_5 (by decide) (fun c1 => ?_) (fun c1 => ?_)
    · replace h := it_some h c1
      refine J_iload_n (q := 0) dX12_onesOf_20 rfl rfl ?_
      exact J_iret dX12_onesOf_21 (rt_pi h) rfl
    · replace h := if_some h c1
      refine J_iinc (q := 0) (v := (x1 + (1 : Int32))) (lv' := [(1, .int (x1 + (1 : Int32))), (2, .int x2)]) dX12_onesOf_8 rfl (congrArg (fun z => x1 + z) ic_1) (by decide) rfl ?_
      refine J_tv (fun v2 ev2 => ?_)
      replace h := nm_some ev2 h
      refine J_iload_n (q := 1) dX12_onesOf_11 rfl rfl ?_
      refine J_iload_n (q := 1) dX12_onesOf_12 rfl rfl ?_
      refine J_iconst dX12_onesOf_13 ic_1 ?_
      refine J_isub dX12_onesOf_14 ?_
      refine J_iand dX12_onesOf_15 ?_
      refine J_ti (fun v3 ev3 => ?_)
      replace h := nm_some ev3 h
      refine J_istore_n (lv' := [(2, .int v3), (1, .int v2)]) dX12_onesOf_16 rfl (by decide) rfl ?_
      refine J_goto (tgt := 4) dX12_onesOf_17 (by decide) ?_
      exact J_sub [1, 0] rfl (ih _ _ h)
set_option maxRecDepth 20000 in
set_option maxHeartbeats 4000000 in
theorem M_onesOf_ok {E : Ec} {ad : Nat → Nat} {cy : Nat → ClassId} {rv : Int32} {o : Ob} {p0 : Int32} (hi : wl_inj (ΓM ad cy)) (hL : Lv E 0) (h : M_onesOf o p0 = some rv) : Jw E (ΓM ad cy) RX12 cX12_onesOf 3 (some .int) (some (.int rv), o) 0 [(0, .int p0)] [] o := by
  unfold M_onesOf at h
  refine J_iconst dX12_onesOf_0 ic_0 ?_
  refine J_istore_n (lv' := [(1, .int (0 : Int32)), (0, .int p0)]) dX12_onesOf_1 rfl (by decide) rfl ?_
  refine J_iload_n (q := 1) dX12_onesOf_2 rfl rfl ?_
  refine J_istore_n (lv' := [(2, .int p0), (1, .int (0 : Int32)), (0, .int p0)]) dX12_onesOf_3 rfl (by decide) rfl ?_
  refine J_sub [1, 0] rfl (M_onesOf_L4_ok hi hL FU _ _ h)
set_option maxRecDepth 20000 in
set_option maxHeartbeats 4000000 in
theorem kX12_onesOf {l : Launch} {D : va_G} {ad : Nat → Nat} {cy : Nat → ClassId} {rv : Int32} {o : Ob} {p0 : Int32} (hi : wl_inj (ΓM ad cy)) (h : M_onesOf o p0 = some rv) : Cn l D (ΓM ad cy) yX12_onesOf cX12_onesOf 3 (some .int) 0 [.int p0] o (some (.int rv), o) :=
  Cn.of hi rfl (Nat.le_of_ble_eq_true rfl) (fun _ _ _ hL => M_onesOf_ok hi hL h)
set_option maxRecDepth 20000 in
set_option maxHeartbeats 4000000 in
theorem pdX12_onesOf : (parseMethodDescriptor yX12_onesOf.desc).map (fun d => d.parameters.length) = some 1 := by decide +kernel
set_option maxRecDepth 20000 in
set_option maxHeartbeats 4000000 in
theorem kM_onesOf {E : Ec} {ad : Nat → Nat} {cy : Nat → ClassId} {cc : ByteArray} {nL : Nat} {rt : Option FieldType} {r : Option Value × Ob} {pc n : Nat} {lv : List (Nat × Value)} {st : List Value} {o : Ob} {p0 : Int32} {v : Int32} (hi : wl_inj (ΓM ad cy)) (hd : decode cc pc = .ok (.invokestatic 94, 3)) (hq : M_onesOf o p0 = some v) (hL : Lv E n) (hn : 0 + 1 ≤ n) (hW : (st.map fun v => v.category).sum ≤ 8) (k : Jw E (ΓM ad cy) RX12 cc nL rt r (pc + 3) lv (.int v :: st) o) : Jw E (ΓM ad cy) RX12 cc nL rt r pc lv (.int p0 :: st) o :=
  J_callS (av := [.int p0]) (q := (some (.int v), o)) (st := st) hd (kX12_onesOf hi hq) tw_5_132 tw_5_133 tw_1_13 tw_5_134 ⟨by decide, by decide, pdX12_onesOf⟩ rfl (by decide) hL hn hW k
set_option maxRecDepth 20000 in
set_option maxHeartbeats 4000000 in
theorem M_isThing_ok {E : Ec} {ad : Nat → Nat} {cy : Nat → ClassId} {rv : Int32} {o : Ob} {p0 : Int32} (hi : wl_inj (ΓM ad cy)) (hL : Lv E 1) (h : M_isThing o p0 = some rv) : Jw E (ΓM ad cy) RX12 cX12_isThing 1 (some .boolean) (some (.int rv), o) 0 [(0, .int p0)] [] o := by
  unfold M_isThing at h
  refine J_iload_n (q := 0) dX12_isThing_0 rfl rfl ?_
  refine J_i2l dX12_isThing_1 ?_
  refine J_lconst dX12_isThing_2 lc_0 ?_
  refine J_ldc2 dX12_isThing_3 tw_5_73 ?_
  obtain ⟨r1, hq3, h⟩ := bd_some h
  refine kM_in hi dX12_isThing_6 hq3 hL (by decide) (Nat.le_of_ble_eq_true rfl) ?_
  obtain ⟨hg2, h⟩ := gd_some h
  exact J_zret dX12_isThing_9 (rt_pi h) rfl hg2
set_option maxRecDepth 20000 in
set_option maxHeartbeats 4000000 in
theorem kX12_isThing {l : Launch} {D : va_G} {ad : Nat → Nat} {cy : Nat → ClassId} {rv : Int32} {o : Ob} {p0 : Int32} (hi : wl_inj (ΓM ad cy)) (h : M_isThing o p0 = some rv) : Cn l D (ΓM ad cy) yX12_isThing cX12_isThing 1 (some .boolean) 1 [.int p0] o (some (.int rv), o) :=
  Cn.of hi rfl (Nat.le_of_ble_eq_true rfl) (fun _ _ _ hL => M_isThing_ok hi hL h)
set_option maxRecDepth 20000 in
set_option maxHeartbeats 4000000 in
theorem pdX12_isThing : (parseMethodDescriptor yX12_isThing.desc).map (fun d => d.parameters.length) = some 1 := by decide +kernel
set_option maxRecDepth 20000 in
set_option maxHeartbeats 4000000 in
theorem kM_isThing {E : Ec} {ad : Nat → Nat} {cy : Nat → ClassId} {cc : ByteArray} {nL : Nat} {rt : Option FieldType} {r : Option Value × Ob} {pc n : Nat} {lv : List (Nat × Value)} {st : List Value} {o : Ob} {p0 : Int32} {v : Int32} (hi : wl_inj (ΓM ad cy)) (hd : decode cc pc = .ok (.invokestatic 90, 3)) (hq : M_isThing o p0 = some v) (hL : Lv E n) (hn : 1 + 1 ≤ n) (hW : (st.map fun v => v.category).sum ≤ 8) (k : Jw E (ΓM ad cy) RX12 cc nL rt r (pc + 3) lv (.int v :: st) o) : Jw E (ΓM ad cy) RX12 cc nL rt r pc lv (.int p0 :: st) o :=
  J_callS (av := [.int p0]) (q := (some (.int v), o)) (st := st) hd (kX12_isThing hi hq) tw_5_70 tw_5_71 tw_1_13 tw_5_72 ⟨by decide, by decide, pdX12_isThing⟩ rfl (by decide) hL hn hW k
set_option maxRecDepth 20000 in
set_option maxHeartbeats 4000000 in
theorem M_isOne_ok {E : Ec} {ad : Nat → Nat} {cy : Nat → ClassId} {rv : Int32} {o : Ob} {p1 : Int32} (hi : wl_inj (ΓM ad cy)) (hL : Lv E 1) (h : M_isOne o p1 = some rv) : Jw E (ΓM ad cy) RX12 cX12_isOne 2 (some .boolean) (some (.int rv), o) 0 [(0, .ref (ad 0)), (1, .int p1)] [] o := by
  unfold M_isOne at h
  refine J_iload_n (q := 1) dX12_isOne_0 rfl rfl ?_
  refine J_i2l dX12_isOne_1 ?_
  refine J_lconst dX12_isOne_2 lc_0 ?_
  refine J_aload_n (q := 0) dX12_isOne_3 rfl rfl ?_
  refine gM_many dX12_isOne_4 ?_
  refine J_iconst dX12_isOne_7 ic_1 ?_
  refine J_isub dX12_isOne_8 ?_
  refine J_i2l dX12_isOne_9 ?_
  obtain ⟨r1, hq3, h⟩ := bd_some h
  refine kM_in hi dX12_isOne_10 hq3 hL (by decide) (Nat.le_of_ble_eq_true rfl) ?_
  obtain ⟨hg2, h⟩ := gd_some h
  exact J_zret dX12_isOne_13 (rt_pi h) rfl hg2
set_option maxRecDepth 20000 in
set_option maxHeartbeats 4000000 in
theorem kX12_isOne {l : Launch} {D : va_G} {ad : Nat → Nat} {cy : Nat → ClassId} {rv : Int32} {o : Ob} {p1 : Int32} (hi : wl_inj (ΓM ad cy)) (h : M_isOne o p1 = some rv) : Cn l D (ΓM ad cy) yX12_isOne cX12_isOne 2 (some .boolean) 1 [.ref (ad 0), .int p1] o (some (.int rv), o) :=
  Cn.of hi rfl (Nat.le_of_ble_eq_true rfl) (fun _ _ _ hL => M_isOne_ok hi hL h)
set_option maxRecDepth 20000 in
set_option maxHeartbeats 4000000 in
theorem pdX12_isOne : (parseMethodDescriptor yX12_isOne.desc).map (fun d => d.parameters.length) = some 1 := by decide +kernel
set_option maxRecDepth 20000 in
set_option maxHeartbeats 4000000 in
theorem kM_isOne {E : Ec} {ad : Nat → Nat} {cy : Nat → ClassId} {cc : ByteArray} {nL : Nat} {rt : Option FieldType} {r : Option Value × Ob} {pc n : Nat} {lv : List (Nat × Value)} {st : List Value} {o : Ob} {p1 : Int32} {v : Int32} (hi : wl_inj (ΓM ad cy)) (hd : decode cc pc = .ok (.invokevirtual 181, 3)) (hq : M_isOne o p1 = some v) (hL : Lv E n) (hn : 1 + 1 ≤ n) (hW : (st.map fun v => v.category).sum ≤ 8) (k : Jw E (ΓM ad cy) RX12 cc nL rt r (pc + 3) lv (.int v :: st) o) : Jw E (ΓM ad cy) RX12 cc nL rt r pc lv (.int p1 :: .ref (ad 0) :: st) o :=
  J_callV (h := 0) (ci := 11) (av := [.int p1]) (q := (some (.int v), o)) (st := st) hd (kX12_isOne hi hq) tw_5_81 tw_5_83 tw_1_13 tw_5_84 sl_2_15 ⟨by decide, by decide, pdX12_isOne⟩ (Nat.le_of_ble_eq_true rfl) rfl rfl rfl rfl (by decide) hL hn hW k
set_option maxRecDepth 20000 in
set_option maxHeartbeats 4000000 in
theorem M_isCare_ok {E : Ec} {ad : Nat → Nat} {cy : Nat → ClassId} {rv : Int32} {o : Ob} {p0 : Int32} (hi : wl_inj (ΓM ad cy)) (hL : Lv E 2) (h : M_isCare o p0 = some rv) : Jw E (ΓM ad cy) RX12 cX12_isCare 1 (some .boolean) (some (.int rv), o) 0 [(0, .int p0)] [] o := by
  unfold M_isCare at h
  refine J_iload_n (q := 0) dX12_isCare_0 rfl rfl ?_
  obtain ⟨r1, hq4, h⟩ := bd_some h
  refine kM_isThing hi dX12_isCare_1 hq4 hL (by decide) (Nat.le_of_ble_eq_true rfl) ?_
  obtain ⟨kk13, ekk13, h⟩ := jn_some h
  have K13 : kk13 = some rv → Jw E (ΓM ad cy) RX12 cX12_isCare 1 (some .boolean) (some (.int rv), o) 13 [] [] o := by
    subst ekk13
    clear h
    intro h
    refine J_iconst dX12_isCare_13 ic_1 ?_
    refine J_goto (tgt := 18) dX12_isCare_14 (by decide) ?_
    exact J_zret dX12_isCare_18 (rt_pi h) rfl rfl
  clear ekk13
  refine J_if_ne (tgt := 13) dX12_isCare_4 (by decide) (fun c2 => ?_) (fun c2 => ?_)
  · replace h := if_some h c2
    exact J_sub [] rfl (K13 h)
  · replace h := it_some h c2
    refine J_iload_n (q := 0) dX12_isCare_7 rfl rfl ?_
    refine J_bipush dX12_isCare_8 bp_9 ?_
    refine J_icmp_ne (tgt := 17) dX12_isCare_10 (by decide) (fun c3 => ?_) (fun c3 => ?_)
    · replace h := if_some h c3
      refine J_iconst dX12_isCare_17 ic_0 ?_
      exact J_zret dX12_isCare_18 (rt_pi h) rfl rfl
    · replace h := it_some h c3
      exact J_sub [] rfl (K13 h)
set_option maxRecDepth 20000 in
set_option maxHeartbeats 4000000 in
theorem kX12_isCare {l : Launch} {D : va_G} {ad : Nat → Nat} {cy : Nat → ClassId} {rv : Int32} {o : Ob} {p0 : Int32} (hi : wl_inj (ΓM ad cy)) (h : M_isCare o p0 = some rv) : Cn l D (ΓM ad cy) yX12_isCare cX12_isCare 1 (some .boolean) 2 [.int p0] o (some (.int rv), o) :=
  Cn.of hi rfl (Nat.le_of_ble_eq_true rfl) (fun _ _ _ hL => M_isCare_ok hi hL h)
set_option maxRecDepth 20000 in
set_option maxHeartbeats 4000000 in
theorem pdX12_isCare : (parseMethodDescriptor yX12_isCare.desc).map (fun d => d.parameters.length) = some 1 := by decide +kernel
set_option maxRecDepth 20000 in
set_option maxHeartbeats 4000000 in
theorem kM_isCare {E : Ec} {ad : Nat → Nat} {cy : Nat → ClassId} {cc : ByteArray} {nL : Nat} {rt : Option FieldType} {r : Option Value × Ob} {pc n : Nat} {lv : List (Nat × Value)} {st : List Value} {o : Ob} {p0 : Int32} {v : Int32} (hi : wl_inj (ΓM ad cy)) (hd : decode cc pc = .ok (.invokestatic 169, 3)) (hq : M_isCare o p0 = some v) (hL : Lv E n) (hn : 2 + 1 ≤ n) (hW : (st.map fun v => v.category).sum ≤ 8) (k : Jw E (ΓM ad cy) RX12 cc nL rt r (pc + 3) lv (.int v :: st) o) : Jw E (ΓM ad cy) RX12 cc nL rt r pc lv (.int p0 :: st) o :=
  J_callS (av := [.int p0]) (q := (some (.int v), o)) (st := st) hd (kX12_isCare hi hq) tw_5_78 tw_5_79 tw_1_13 tw_5_80 ⟨by decide, by decide, pdX12_isCare⟩ rfl (by decide) hL hn hW k
set_option maxRecDepth 20000 in
set_option maxHeartbeats 4000000 in
theorem M_storyBy_ok {E : Ec} {ad : Nat → Nat} {cy : Nat → ClassId} {rv : Int32} {o : Ob} {p1 : Int32} {p2 : Int32} {p3 : Int32} (hi : wl_inj (ΓM ad cy)) (hL : Lv E 1) (h : M_storyBy o p1 p2 p3 = some rv) : Jw E (ΓM ad cy) RX12 cX12_storyBy 7 (some .int) (some (.int rv), o) 0 [(0, .ref (ad 0)), (1, .int p1), (2, .int p2), (3, .int p3)] [] o := by
  unfold M_storyBy at h
  refine J_iload_n (q := 2) dX12_storyBy_0 rfl rfl ?_
  refine J_iload_n (q := 3) dX12_storyBy_1 rfl rfl ?_
  refine J_iand dX12_storyBy_2 ?_
  obtain ⟨r1, hq19, h⟩ := bd_some h
  refine kM_onesOf hi dX12_storyBy_3 hq19 hL (by decide) (Nat.le_of_ble_eq_true rfl) ?_
  refine J_istore (lv' := [(4, .int r1), (0, .ref (ad 0)), (1, .int p1), (2, .int p2), (3, .int p3)]) dX12_storyBy_6 (by decide) rfl ?_
  refine J_iload (q := 0) dX12_storyBy_8 rfl ?_
  obtain ⟨s4, ha28, h⟩ := bd_some h
  have K28 : Jw E (ΓM ad cy) RX12 cX12_storyBy 7 (some .int) (some (.int rv), o) 28 [(0, .ref (ad 0)), (1, .int p1), (2, .int p2), (3, .int p3), (4, .int r1)] [.int s4] o := by
    clear ha28
    refine J_istore (lv' := [(5, .int s4), (0, .ref (ad 0)), (1, .int p1), (2, .int p2), (3, .int p3), (4, .int r1)]) dX12_storyBy_28 (by decide) rfl ?_
    refine J_iload (q := 5) dX12_storyBy_30 rfl ?_
    refine J_iload_n (q := 3) dX12_storyBy_32 rfl rfl ?_
    refine J_iload_n (q := 4) dX12_storyBy_33 rfl rfl ?_
    refine J_iand dX12_storyBy_34 ?_
    refine J_sipush dX12_storyBy_35 sp_4032 ?_
    refine J_iand dX12_storyBy_38 ?_
    obtain ⟨r5, hq20, h⟩ := bd_some h
    refine kM_onesOf hi dX12_storyBy_39 hq20 hL (by decide) (Nat.le_of_ble_eq_true rfl) ?_
    refine J_iadd dX12_storyBy_42 ?_
    refine J_ti (fun v6 ev6 => ?_)
    replace h := nm_some ev6 h
    refine J_istore (lv' := [(6, .int v6), (5, .int s4), (0, .ref (ad 0)), (1, .int p1), (2, .int p2), (3, .int p3), (4, .int r1)]) dX12_storyBy_43 (by decide) rfl ?_
    refine J_aload_n (q := 2) dX12_storyBy_45 rfl rfl ?_
    refine gM_kinds dX12_storyBy_46 ?_
    refine J_iload_n (q := 3) dX12_storyBy_49 rfl rfl ?_
    obtain ⟨hg7, h⟩ := gd_some h
    refine aM_ld (h := 4) (n := 7) dX12_storyBy_50 (by decide) rfl hg7 ?_
    obtain ⟨kk135, ekk135, h⟩ := jn_some h
    have K135 : kk135 = some rv → Jw E (ΓM ad cy) RX12 cX12_storyBy 7 (some .int) (some (.int rv), o) 135 [(2, .int p2), (3, .int p3), (4, .int r1)] [] o := by
      subst ekk135
      clear h
      intro h
      refine J_iload (q := 2) dX12_storyBy_135 rfl ?_
      refine J_iload_n (q := 0) dX12_storyBy_137 rfl rfl ?_
      refine J_iload_n (q := 1) dX12_storyBy_138 rfl rfl ?_
      refine J_iconst dX12_storyBy_139 ic_m1 ?_
      refine J_ixor dX12_storyBy_140 ?_
      refine J_iand dX12_storyBy_141 ?_
      obtain ⟨r18, hq21, h⟩ := bd_some h
      refine kM_onesOf hi dX12_storyBy_142 hq21 hL (by decide) (Nat.le_of_ble_eq_true rfl) ?_
      refine J_iconst dX12_storyBy_145 ic_2 ?_
      refine J_idiv dX12_storyBy_146 (by decide) ?_
      refine J_iadd dX12_storyBy_147 ?_
      exact J_iret dX12_storyBy_148 (rt_pi h) rfl
    clear ekk135
    by_cases c8 : (ix (oA o 4) p1) = (0 : Int32)
    · replace h := it_some h c8
      refine J_tin (tgt := 96) dX12_storyBy_51 (by rw [c8]; decide) (by rw [c8]; decide) (by rw [c8]; rfl) (by decide) ?_
      refine J_iload (q := 6) dX12_storyBy_96 rfl ?_
      exact J_iret dX12_storyBy_98 (rt_pi h) rfl
    · replace h := if_some h c8
      by_cases c9 : (ix (oA o 4) p1) = (1 : Int32)
      · replace h := it_some h c9
        refine J_tin (tgt := 99) dX12_storyBy_51 (by rw [c9]; decide) (by rw [c9]; decide) (by rw [c9]; rfl) (by decide) ?_
        refine J_iload (q := 1) dX12_storyBy_99 rfl ?_
        exact J_iret dX12_storyBy_101 (rt_pi h) rfl
      · replace h := if_some h c9
        by_cases c10 : (ix (oA o 4) p1) = (2 : Int32)
        · replace h := it_some h c10
          refine J_tin (tgt := 135) dX12_storyBy_51 (by rw [c10]; decide) (by rw [c10]; decide) (by rw [c10]; rfl) (by decide) ?_
          exact J_sub [4, 5, 6] rfl (K135 h)
        · replace h := if_some h c10
          by_cases c11 : (ix (oA o 4) p1) = (3 : Int32)
          · replace h := it_some h c11
            refine J_tin (tgt := 102) dX12_storyBy_51 (by rw [c11]; decide) (by rw [c11]; decide) (by rw [c11]; rfl) (by decide) ?_
            refine J_iload (q := 0) dX12_storyBy_102 rfl ?_
            exact J_iret dX12_storyBy_104 (rt_pi h) rfl
          · replace h := if_some h c11
            by_cases c12 : (ix (oA o 4) p1) = (4 : Int32)
            · replace h := it_some h c12
              refine J_tin (tgt := 105) dX12_storyBy_51 (by rw [c12]; decide) (by rw [c12]; decide) (by rw [c12]; rfl) (by decide) ?_
              refine J_iload (q := 6) dX12_storyBy_105 rfl ?_
              refine J_if_ne (tgt := 114) dX12_storyBy_107 (by decide) (fun c13 => ?_) (fun c13 => ?_)
              · replace h := if_some h c13
                refine J_iload (q := 1) dX12_storyBy_114 rfl ?_
                refine J_iconst dX12_storyBy_116 ic_2 ?_
                refine J_iadd dX12_storyBy_117 ?_
                exact J_iret dX12_storyBy_118 (rt_pi h) rfl
              · replace h := it_some h c13
                refine J_iconst dX12_storyBy_110 ic_0 ?_
                refine J_goto (tgt := 118) dX12_storyBy_111 (by decide) ?_
                exact J_iret dX12_storyBy_118 (rt_pi h) rfl
            · replace h := if_some h c12
              by_cases c14 : (ix (oA o 4) p1) = (5 : Int32)
              · replace h := it_some h c14
                refine J_tin (tgt := 135) dX12_storyBy_51 (by rw [c14]; decide) (by rw [c14]; decide) (by rw [c14]; rfl) (by decide) ?_
                exact J_sub [4, 5, 6] rfl (K135 h)
              · replace h := if_some h c14
                by_cases c15 : (ix (oA o 4) p1) = (6 : Int32)
                · replace h := it_some h c15
                  refine J_tin (tgt := 119) dX12_storyBy_51 (by rw [c15]; decide) (by rw [c15]; decide) (by rw [c15]; rfl) (by decide) ?_
                  refine J_iload (q := 0) dX12_storyBy_119 rfl ?_
                  refine J_if_ne (tgt := 128) dX12_storyBy_121 (by decide) (fun c16 => ?_) (fun c16 => ?_)
                  · replace h := if_some h c16
                    refine J_iload (q := 0) dX12_storyBy_128 rfl ?_
                    refine J_iconst dX12_storyBy_130 ic_1 ?_
                    refine J_isub dX12_storyBy_131 ?_
                    exact J_iret dX12_storyBy_132 (rt_pi h) rfl
                  · replace h := it_some h c16
                    refine J_iconst dX12_storyBy_124 ic_0 ?_
                    refine J_goto (tgt := 132) dX12_storyBy_125 (by decide) ?_
                    exact J_iret dX12_storyBy_132 (rt_pi h) rfl
                · replace h := if_some h c15
                  by_cases c17 : (ix (oA o 4) p1) = (7 : Int32)
                  · replace h := it_some h c17
                    refine J_tin (tgt := 133) dX12_storyBy_51 (by rw [c17]; decide) (by rw [c17]; decide) (by rw [c17]; rfl) (by decide) ?_
                    refine J_iconst dX12_storyBy_133 ic_0 ?_
                    exact J_iret dX12_storyBy_134 (rt_pi h) rfl
                  · replace h := if_some h c17
                    refine J_tout (tgt := 135) dX12_storyBy_51 (sw_out0_7 c8 c9 c10 c11 c12 c14 c15 c17) (by decide) ?_
                    exact J_sub [4, 5, 6] rfl (K135 h)
  clear h
  refine J_if_ne (tgt := 17) dX12_storyBy_10 (by decide) (fun c2 => ?_) (fun c2 => ?_)
  · replace ha28 := if_some ha28 c2
    refine J_iload (q := 0) dX12_storyBy_17 rfl ?_
    refine J_aload_n (q := 1) dX12_storyBy_19 rfl rfl ?_
    refine gM_figures dX12_storyBy_20 ?_
    refine J_iload_n (q := 2) dX12_storyBy_23 rfl rfl ?_
    obtain ⟨hg3, ha28⟩ := gd_some ha28
    refine aM_ld (h := 5) (n := 7) dX12_storyBy_24 (by decide) rfl hg3 ?_
    refine J_iconst dX12_storyBy_25 ic_3 ?_
    refine J_idiv dX12_storyBy_26 (by decide) ?_
    refine J_iadd dX12_storyBy_27 ?_
    cases ha28
    exact J_sub [1, 2, 3, 4, 0] rfl (K28)
  · replace ha28 := it_some ha28 c2
    refine J_iconst dX12_storyBy_13 ic_0 ?_
    refine J_goto (tgt := 28) dX12_storyBy_14 (by decide) ?_
    cases ha28
    exact J_sub [1, 2, 3, 4, 0] rfl (K28)
set_option maxRecDepth 20000 in
set_option maxHeartbeats 4000000 in
theorem kX12_storyBy {l : Launch} {D : va_G} {ad : Nat → Nat} {cy : Nat → ClassId} {rv : Int32} {o : Ob} {p1 : Int32} {p2 : Int32} {p3 : Int32} (hi : wl_inj (ΓM ad cy)) (h : M_storyBy o p1 p2 p3 = some rv) : Cn l D (ΓM ad cy) yX12_storyBy cX12_storyBy 7 (some .int) 1 [.ref (ad 0), .int p1, .int p2, .int p3] o (some (.int rv), o) :=
  Cn.of hi rfl (Nat.le_of_ble_eq_true rfl) (fun _ _ _ hL => M_storyBy_ok hi hL h)
set_option maxRecDepth 20000 in
set_option maxHeartbeats 4000000 in
theorem pdX12_storyBy : (parseMethodDescriptor yX12_storyBy.desc).map (fun d => d.parameters.length) = some 3 := by decide +kernel
set_option maxRecDepth 20000 in
set_option maxHeartbeats 4000000 in
theorem kM_storyBy {E : Ec} {ad : Nat → Nat} {cy : Nat → ClassId} {cc : ByteArray} {nL : Nat} {rt : Option FieldType} {r : Option Value × Ob} {pc n : Nat} {lv : List (Nat × Value)} {st : List Value} {o : Ob} {p1 : Int32} {p2 : Int32} {p3 : Int32} {v : Int32} (hi : wl_inj (ΓM ad cy)) (hd : decode cc pc = .ok (.invokevirtual 98, 3)) (hq : M_storyBy o p1 p2 p3 = some v) (hL : Lv E n) (hn : 1 + 1 ≤ n) (hW : (st.map fun v => v.category).sum ≤ 8) (k : Jw E (ΓM ad cy) RX12 cc nL rt r (pc + 3) lv (.int v :: st) o) : Jw E (ΓM ad cy) RX12 cc nL rt r pc lv (.int p3 :: .int p2 :: .int p1 :: .ref (ad 0) :: st) o :=
  J_callV (h := 0) (ci := 11) (av := [.int p1, .int p2, .int p3]) (q := (some (.int v), o)) (st := st) hd (kX12_storyBy hi hq) tw_5_128 tw_5_130 tw_1_13 tw_5_131 sl_3_9 ⟨by decide, by decide, pdX12_storyBy⟩ (Nat.le_of_ble_eq_true rfl) rfl rfl rfl rfl (by decide) hL hn hW k
set_option maxRecDepth 20000 in
set_option maxHeartbeats 4000000 in
theorem M_storyOf_ok {E : Ec} {ad : Nat → Nat} {cy : Nat → ClassId} {rv : Int32} {o : Ob} {p1 : Int32} {p2 : Int32} (hi : wl_inj (ΓM ad cy)) (hL : Lv E 2) (h : M_storyOf o p1 p2 = some rv) : Jw E (ΓM ad cy) RX12 cX12_storyOf 3 (some .int) (some (.int rv), o) 0 [(0, .ref (ad 0)), (1, .int p1), (2, .int p2)] [] o := by
  unfold M_storyOf at h
  refine J_aload_n (q := 0) dX12_storyOf_0 rfl rfl ?_
  refine J_iload_n (q := 1) dX12_storyOf_1 rfl rfl ?_
  refine J_aload_n (q := 0) dX12_storyOf_2 rfl rfl ?_
  refine gM_knows dX12_storyOf_3 ?_
  refine J_iconst dX12_storyOf_6 ic_5 ?_
  refine J_iload_n (q := 1) dX12_storyOf_7 rfl rfl ?_
  refine J_imul dX12_storyOf_8 ?_
  refine J_iload_n (q := 2) dX12_storyOf_9 rfl rfl ?_
  refine J_iadd dX12_storyOf_10 ?_
  obtain ⟨hg1, h⟩ := gd_some h
  refine aM_ld (h := 7) (n := 35) dX12_storyOf_11 (by decide) rfl hg1 ?_
  refine J_aload_n (q := 0) dX12_storyOf_12 rfl rfl ?_
  refine gM_pasts dX12_storyOf_13 ?_
  refine J_iload_n (q := 2) dX12_storyOf_16 rfl rfl ?_
  obtain ⟨hg2, h⟩ := gd_some h
  refine aM_ld (h := 1) (n := 5) dX12_storyOf_17 (by decide) rfl hg2 ?_
  obtain ⟨r3, hq4, h⟩ := bd_some h
  refine kM_storyBy hi dX12_storyOf_18 hq4 hL (by decide) (Nat.le_of_ble_eq_true rfl) ?_
  exact J_iret dX12_storyOf_21 (rt_pi h) rfl
set_option maxRecDepth 20000 in
set_option maxHeartbeats 4000000 in
theorem kX12_storyOf {l : Launch} {D : va_G} {ad : Nat → Nat} {cy : Nat → ClassId} {rv : Int32} {o : Ob} {p1 : Int32} {p2 : Int32} (hi : wl_inj (ΓM ad cy)) (h : M_storyOf o p1 p2 = some rv) : Cn l D (ΓM ad cy) yX12_storyOf cX12_storyOf 3 (some .int) 2 [.ref (ad 0), .int p1, .int p2] o (some (.int rv), o) :=
  Cn.of hi rfl (Nat.le_of_ble_eq_true rfl) (fun _ _ _ hL => M_storyOf_ok hi hL h)
set_option maxRecDepth 20000 in
set_option maxHeartbeats 4000000 in
theorem pdX12_storyOf : (parseMethodDescriptor yX12_storyOf.desc).map (fun d => d.parameters.length) = some 2 := by decide +kernel
set_option maxRecDepth 20000 in
set_option maxHeartbeats 4000000 in
theorem kM_storyOf {E : Ec} {ad : Nat → Nat} {cy : Nat → ClassId} {cc : ByteArray} {nL : Nat} {rt : Option FieldType} {r : Option Value × Ob} {pc n : Nat} {lv : List (Nat × Value)} {st : List Value} {o : Ob} {p1 : Int32} {p2 : Int32} {v : Int32} (hi : wl_inj (ΓM ad cy)) (hd : decode cc pc = .ok (.invokevirtual 109, 3)) (hq : M_storyOf o p1 p2 = some v) (hL : Lv E n) (hn : 2 + 1 ≤ n) (hW : (st.map fun v => v.category).sum ≤ 8) (k : Jw E (ΓM ad cy) RX12 cc nL rt r (pc + 3) lv (.int v :: st) o) : Jw E (ΓM ad cy) RX12 cc nL rt r pc lv (.int p2 :: .int p1 :: .ref (ad 0) :: st) o :=
  J_callV (h := 0) (ci := 11) (av := [.int p1, .int p2]) (q := (some (.int v), o)) (st := st) hd (kX12_storyOf hi hq) tw_5_124 tw_5_126 tw_1_13 tw_5_127 sl_3_8 ⟨by decide, by decide, pdX12_storyOf⟩ (Nat.le_of_ble_eq_true rfl) rfl rfl rfl rfl (by decide) hL hn hW k
set_option maxRecDepth 20000 in
set_option maxHeartbeats 4000000 in
theorem M_learnsOn_ok {E : Ec} {ad : Nat → Nat} {cy : Nat → ClassId} {rv : Int32} {o : Ob} {p1 : Int32} {p2 : Int32} (hi : wl_inj (ΓM ad cy)) (hL : Lv E 0) (h : M_learnsOn o p1 p2 = some rv) : Jw E (ΓM ad cy) RX12 cX12_learnsOn 3 (some .int) (some (.int rv), o) 0 [(0, .ref (ad 0)), (1, .int p1), (2, .int p2)] [] o := by
  unfold M_learnsOn at h
  refine J_aload_n (q := 0) dX12_learnsOn_0 rfl rfl ?_
  refine gM_caring dX12_learnsOn_1 ?_
  refine J_iload_n (q := 1) dX12_learnsOn_4 rfl rfl ?_
  obtain ⟨hg1, h⟩ := gd_some h
  refine aM_ld (h := 6) (n := 7) dX12_learnsOn_5 (by decide) rfl hg1 ?_
  refine J_bipush dX12_learnsOn_6 bp_9 ?_
  refine J_icmp_ne (tgt := 13) dX12_learnsOn_8 (by decide) (fun c2 => ?_) (fun c2 => ?_)
  · replace h := if_some h c2
    refine J_aload_n (q := 0) dX12_learnsOn_13 rfl rfl ?_
    refine gM_kinds dX12_learnsOn_14 ?_
    refine J_iload_n (q := 1) dX12_learnsOn_17 rfl rfl ?_
    obtain ⟨hg3, h⟩ := gd_some h
    refine aM_ld (h := 4) (n := 7) dX12_learnsOn_18 (by decide) rfl hg3 ?_
    obtain ⟨kk62, ekk62, h⟩ := jn_some h
    have K62 : kk62 = some rv → Jw E (ΓM ad cy) RX12 cX12_learnsOn 3 (some .int) (some (.int rv), o) 62 [(2, .int p2)] [] o := by
      subst ekk62
      clear h
      intro h
      refine J_iload_n (q := 0) dX12_learnsOn_62 rfl rfl ?_
      refine J_iconst dX12_learnsOn_63 ic_2 ?_
      refine J_irem dX12_learnsOn_64 (by decide) ?_
      refine J_if_ne (tgt := 72) dX12_learnsOn_65 (by decide) (fun c15 => ?_) (fun c15 => ?_)
      · replace h := if_some h c15
        refine J_iconst dX12_learnsOn_72 ic_0 ?_
        exact J_iret dX12_learnsOn_73 (rt_pi h) rfl
      · replace h := it_some h c15
        refine J_iconst dX12_learnsOn_68 ic_1 ?_
        refine J_goto (tgt := 73) dX12_learnsOn_69 (by decide) ?_
        exact J_iret dX12_learnsOn_73 (rt_pi h) rfl
    clear ekk62
    by_cases c4 : (ix (oA o 4) p1) = (0 : Int32)
    · replace h := it_some h c4
      refine J_tin (tgt := 60) dX12_learnsOn_19 (by rw [c4]; decide) (by rw [c4]; decide) (by rw [c4]; rfl) (by decide) ?_
      refine J_iconst dX12_learnsOn_60 ic_1 ?_
      exact J_iret dX12_learnsOn_61 (rt_pi h) rfl
    · replace h := if_some h c4
      by_cases c5 : (ix (oA o 4) p1) = (1 : Int32)
      · replace h := it_some h c5
        refine J_tin (tgt := 62) dX12_learnsOn_19 (by rw [c5]; decide) (by rw [c5]; decide) (by rw [c5]; rfl) (by decide) ?_
        exact J_sub [2] rfl (K62 h)
      · replace h := if_some h c5
        by_cases c6 : (ix (oA o 4) p1) = (2 : Int32)
        · replace h := it_some h c6
          refine J_tin (tgt := 74) dX12_learnsOn_19 (by rw [c6]; decide) (by rw [c6]; decide) (by rw [c6]; rfl) (by decide) ?_
          refine J_iconst dX12_learnsOn_74 ic_2 ?_
          exact J_iret dX12_learnsOn_75 (rt_pi h) rfl
        · replace h := if_some h c6
          by_cases c7 : (ix (oA o 4) p1) = (3 : Int32)
          · replace h := it_some h c7
            refine J_tin (tgt := 76) dX12_learnsOn_19 (by rw [c7]; decide) (by rw [c7]; decide) (by rw [c7]; rfl) (by decide) ?_
            refine J_aload_n (q := 0) dX12_learnsOn_76 rfl rfl ?_
            refine gM_owners dX12_learnsOn_77 ?_
            refine J_aload_n (q := 0) dX12_learnsOn_80 rfl rfl ?_
            refine gM_caring dX12_learnsOn_81 ?_
            refine J_iload_n (q := 1) dX12_learnsOn_84 rfl rfl ?_
            obtain ⟨hg8, h⟩ := gd_some h
            refine aM_ld (h := 6) (n := 7) dX12_learnsOn_85 (by decide) rfl hg8 ?_
            obtain ⟨hg9, h⟩ := gd_some h
            refine aM_ld (h := 3) (n := 5) dX12_learnsOn_86 (by decide) rfl hg9 ?_
            refine J_iload_n (q := 1) dX12_learnsOn_87 rfl rfl ?_
            refine J_icmp_ne (tgt := 95) dX12_learnsOn_88 (by decide) (fun c10 => ?_) (fun c10 => ?_)
            · replace h := if_some h c10
              refine J_iconst dX12_learnsOn_95 ic_2 ?_
              exact J_iret dX12_learnsOn_96 (rt_pi h) rfl
            · replace h := it_some h c10
              refine J_iconst dX12_learnsOn_91 ic_1 ?_
              refine J_goto (tgt := 96) dX12_learnsOn_92 (by decide) ?_
              exact J_iret dX12_learnsOn_96 (rt_pi h) rfl
          · replace h := if_some h c7
            by_cases c11 : (ix (oA o 4) p1) = (4 : Int32)
            · replace h := it_some h c11
              refine J_tin (tgt := 62) dX12_learnsOn_19 (by rw [c11]; decide) (by rw [c11]; decide) (by rw [c11]; rfl) (by decide) ?_
              exact J_sub [2] rfl (K62 h)
            · replace h := if_some h c11
              by_cases c12 : (ix (oA o 4) p1) = (5 : Int32)
              · replace h := it_some h c12
                refine J_tin (tgt := 97) dX12_learnsOn_19 (by rw [c12]; decide) (by rw [c12]; decide) (by rw [c12]; rfl) (by decide) ?_
                refine J_aload_n (q := 0) dX12_learnsOn_97 rfl rfl ?_
                refine gM_figures dX12_learnsOn_98 ?_
                refine J_iload_n (q := 1) dX12_learnsOn_101 rfl rfl ?_
                obtain ⟨hg13, h⟩ := gd_some h
                refine aM_ld (h := 5) (n := 7) dX12_learnsOn_102 (by decide) rfl hg13 ?_
                refine J_iconst dX12_learnsOn_103 ic_2 ?_
                refine J_idiv dX12_learnsOn_104 (by decide) ?_
                exact J_iret dX12_learnsOn_105 (rt_pi h) rfl
              · replace h := if_some h c12
                by_cases c14 : (ix (oA o 4) p1) = (6 : Int32)
                · replace h := it_some h c14
                  refine J_tin (tgt := 106) dX12_learnsOn_19 (by rw [c14]; decide) (by rw [c14]; decide) (by rw [c14]; rfl) (by decide) ?_
                  refine J_iconst dX12_learnsOn_106 ic_3 ?_
                  exact J_iret dX12_learnsOn_107 (rt_pi h) rfl
                · replace h := if_some h c14
                  refine J_tout (tgt := 108) dX12_learnsOn_19 (sw_out0_6 c4 c5 c6 c7 c11 c12 c14) (by decide) ?_
                  refine J_iconst dX12_learnsOn_108 ic_0 ?_
                  exact J_iret dX12_learnsOn_109 (rt_pi h) rfl
  · replace h := it_some h c2
    refine J_iconst dX12_learnsOn_11 ic_0 ?_
    exact J_iret dX12_learnsOn_12 (rt_pi h) rfl
set_option maxRecDepth 20000 in
set_option maxHeartbeats 4000000 in
theorem kX12_learnsOn {l : Launch} {D : va_G} {ad : Nat → Nat} {cy : Nat → ClassId} {rv : Int32} {o : Ob} {p1 : Int32} {p2 : Int32} (hi : wl_inj (ΓM ad cy)) (h : M_learnsOn o p1 p2 = some rv) : Cn l D (ΓM ad cy) yX12_learnsOn cX12_learnsOn 3 (some .int) 0 [.ref (ad 0), .int p1, .int p2] o (some (.int rv), o) :=
  Cn.of hi rfl (Nat.le_of_ble_eq_true rfl) (fun _ _ _ hL => M_learnsOn_ok hi hL h)
set_option maxRecDepth 20000 in
set_option maxHeartbeats 4000000 in
theorem pdX12_learnsOn : (parseMethodDescriptor yX12_learnsOn.desc).map (fun d => d.parameters.length) = some 2 := by decide +kernel
set_option maxRecDepth 20000 in
set_option maxHeartbeats 4000000 in
theorem kM_learnsOn {E : Ec} {ad : Nat → Nat} {cy : Nat → ClassId} {cc : ByteArray} {nL : Nat} {rt : Option FieldType} {r : Option Value × Ob} {pc n : Nat} {lv : List (Nat × Value)} {st : List Value} {o : Ob} {p1 : Int32} {p2 : Int32} {v : Int32} (hi : wl_inj (ΓM ad cy)) (hd : decode cc pc = .ok (.invokevirtual 116, 3)) (hq : M_learnsOn o p1 p2 = some v) (hL : Lv E n) (hn : 0 + 1 ≤ n) (hW : (st.map fun v => v.category).sum ≤ 8) (k : Jw E (ΓM ad cy) RX12 cc nL rt r (pc + 3) lv (.int v :: st) o) : Jw E (ΓM ad cy) RX12 cc nL rt r pc lv (.int p2 :: .int p1 :: .ref (ad 0) :: st) o :=
  J_callV (h := 0) (ci := 11) (av := [.int p1, .int p2]) (q := (some (.int v), o)) (st := st) hd (kX12_learnsOn hi hq) tw_5_98 tw_5_100 tw_1_13 tw_5_101 sl_3_3 ⟨by decide, by decide, pdX12_learnsOn⟩ (Nat.le_of_ble_eq_true rfl) rfl rfl rfl rfl (by decide) hL hn hW k
set_option maxRecDepth 20000 in
set_option maxHeartbeats 4000000 in
theorem M_isOld_ok {E : Ec} {ad : Nat → Nat} {cy : Nat → ClassId} {rv : Int32} {o : Ob} {p1 : Int32} (hi : wl_inj (ΓM ad cy)) (hL : Lv E 0) (h : M_isOld o p1 = some rv) : Jw E (ΓM ad cy) RX12 cX12_isOld 2 (some .boolean) (some (.int rv), o) 0 [(0, .ref (ad 0)), (1, .int p1)] [] o := by
  unfold M_isOld at h
  refine J_aload_n (q := 0) dX12_isOld_0 rfl rfl ?_
  refine gM_kinds dX12_isOld_1 ?_
  refine J_iload_n (q := 1) dX12_isOld_4 rfl rfl ?_
  obtain ⟨hg1, h⟩ := gd_some h
  refine aM_ld (h := 4) (n := 7) dX12_isOld_5 (by decide) rfl hg1 ?_
  refine J_iconst dX12_isOld_6 ic_1 ?_
  obtain ⟨kk31, ekk31, h⟩ := jn_some h
  have K31 : kk31 = some rv → Jw E (ΓM ad cy) RX12 cX12_isOld 2 (some .boolean) (some (.int rv), o) 31 [] [] o := by
    subst ekk31
    clear h
    intro h
    refine J_iconst dX12_isOld_31 ic_1 ?_
    refine J_goto (tgt := 36) dX12_isOld_32 (by decide) ?_
    exact J_zret dX12_isOld_36 (rt_pi h) rfl rfl
  clear ekk31
  refine J_icmp_eq (tgt := 31) dX12_isOld_7 (by decide) (fun c2 => ?_) (fun c2 => ?_)
  · replace h := it_some h c2
    exact J_sub [] rfl (K31 h)
  · replace h := if_some h c2
    refine J_aload_n (q := 0) dX12_isOld_10 rfl rfl ?_
    refine gM_kinds dX12_isOld_11 ?_
    refine J_iload_n (q := 1) dX12_isOld_14 rfl rfl ?_
    obtain ⟨hg3, h⟩ := gd_some h
    refine aM_ld (h := 4) (n := 7) dX12_isOld_15 (by decide) rfl hg3 ?_
    refine J_iconst dX12_isOld_16 ic_4 ?_
    refine J_icmp_eq (tgt := 31) dX12_isOld_17 (by decide) (fun c4 => ?_) (fun c4 => ?_)
    · replace h := it_some h c4
      exact J_sub [] rfl (K31 h)
    · replace h := if_some h c4
      refine J_aload_n (q := 0) dX12_isOld_20 rfl rfl ?_
      refine gM_kinds dX12_isOld_21 ?_
      refine J_iload_n (q := 1) dX12_isOld_24 rfl rfl ?_
      obtain ⟨hg5, h⟩ := gd_some h
      refine aM_ld (h := 4) (n := 7) dX12_isOld_25 (by decide) rfl hg5 ?_
      refine J_bipush dX12_isOld_26 bp_7 ?_
      refine J_icmp_ne (tgt := 35) dX12_isOld_28 (by decide) (fun c6 => ?_) (fun c6 => ?_)
      · replace h := if_some h c6
        refine J_iconst dX12_isOld_35 ic_0 ?_
        exact J_zret dX12_isOld_36 (rt_pi h) rfl rfl
      · replace h := it_some h c6
        exact J_sub [] rfl (K31 h)
set_option maxRecDepth 20000 in
set_option maxHeartbeats 4000000 in
theorem kX12_isOld {l : Launch} {D : va_G} {ad : Nat → Nat} {cy : Nat → ClassId} {rv : Int32} {o : Ob} {p1 : Int32} (hi : wl_inj (ΓM ad cy)) (h : M_isOld o p1 = some rv) : Cn l D (ΓM ad cy) yX12_isOld cX12_isOld 2 (some .boolean) 0 [.ref (ad 0), .int p1] o (some (.int rv), o) :=
  Cn.of hi rfl (Nat.le_of_ble_eq_true rfl) (fun _ _ _ hL => M_isOld_ok hi hL h)
set_option maxRecDepth 20000 in
set_option maxHeartbeats 4000000 in
theorem pdX12_isOld : (parseMethodDescriptor yX12_isOld.desc).map (fun d => d.parameters.length) = some 1 := by decide +kernel
set_option maxRecDepth 20000 in
set_option maxHeartbeats 4000000 in
theorem kM_isOld {E : Ec} {ad : Nat → Nat} {cy : Nat → ClassId} {cc : ByteArray} {nL : Nat} {rt : Option FieldType} {r : Option Value × Ob} {pc n : Nat} {lv : List (Nat × Value)} {st : List Value} {o : Ob} {p1 : Int32} {v : Int32} (hi : wl_inj (ΓM ad cy)) (hd : decode cc pc = .ok (.invokevirtual 123, 3)) (hq : M_isOld o p1 = some v) (hL : Lv E n) (hn : 0 + 1 ≤ n) (hW : (st.map fun v => v.category).sum ≤ 8) (k : Jw E (ΓM ad cy) RX12 cc nL rt r (pc + 3) lv (.int v :: st) o) : Jw E (ΓM ad cy) RX12 cc nL rt r pc lv (.int p1 :: .ref (ad 0) :: st) o :=
  J_callV (h := 0) (ci := 11) (av := [.int p1]) (q := (some (.int v), o)) (st := st) hd (kX12_isOld hi hq) tw_5_110 tw_5_112 tw_1_13 tw_5_113 sl_3_6 ⟨by decide, by decide, pdX12_isOld⟩ (Nat.le_of_ble_eq_true rfl) rfl rfl rfl rfl (by decide) hL hn hW k
set_option maxRecDepth 20000 in
set_option maxHeartbeats 4000000 in
theorem M_isLiar_ok {E : Ec} {ad : Nat → Nat} {cy : Nat → ClassId} {rv : Int32} {o : Ob} {p1 : Int32} (hi : wl_inj (ΓM ad cy)) (hL : Lv E 0) (h : M_isLiar o p1 = some rv) : Jw E (ΓM ad cy) RX12 cX12_isLiar 2 (some .boolean) (some (.int rv), o) 0 [(0, .ref (ad 0)), (1, .int p1)] [] o := by
  unfold M_isLiar at h
  refine J_aload_n (q := 0) dX12_isLiar_0 rfl rfl ?_
  refine gM_kinds dX12_isLiar_1 ?_
  refine J_iload_n (q := 1) dX12_isLiar_4 rfl rfl ?_
  obtain ⟨hg1, h⟩ := gd_some h
  refine aM_ld (h := 4) (n := 7) dX12_isLiar_5 (by decide) rfl hg1 ?_
  refine J_iconst dX12_isLiar_6 ic_2 ?_
  obtain ⟨kk20, ekk20, h⟩ := jn_some h
  have K20 : kk20 = some rv → Jw E (ΓM ad cy) RX12 cX12_isLiar 2 (some .boolean) (some (.int rv), o) 20 [] [] o := by
    subst ekk20
    clear h
    intro h
    refine J_iconst dX12_isLiar_20 ic_1 ?_
    refine J_goto (tgt := 25) dX12_isLiar_21 (by decide) ?_
    exact J_zret dX12_isLiar_25 (rt_pi h) rfl rfl
  clear ekk20
  refine J_icmp_eq (tgt := 20) dX12_isLiar_7 (by decide) (fun c2 => ?_) (fun c2 => ?_)
  · replace h := it_some h c2
    exact J_sub [] rfl (K20 h)
  · replace h := if_some h c2
    refine J_aload_n (q := 0) dX12_isLiar_10 rfl rfl ?_
    refine gM_kinds dX12_isLiar_11 ?_
    refine J_iload_n (q := 1) dX12_isLiar_14 rfl rfl ?_
    obtain ⟨hg3, h⟩ := gd_some h
    refine aM_ld (h := 4) (n := 7) dX12_isLiar_15 (by decide) rfl hg3 ?_
    refine J_iconst dX12_isLiar_16 ic_5 ?_
    refine J_icmp_ne (tgt := 24) dX12_isLiar_17 (by decide) (fun c4 => ?_) (fun c4 => ?_)
    · replace h := if_some h c4
      refine J_iconst dX12_isLiar_24 ic_0 ?_
      exact J_zret dX12_isLiar_25 (rt_pi h) rfl rfl
    · replace h := it_some h c4
      exact J_sub [] rfl (K20 h)
set_option maxRecDepth 20000 in
set_option maxHeartbeats 4000000 in
theorem kX12_isLiar {l : Launch} {D : va_G} {ad : Nat → Nat} {cy : Nat → ClassId} {rv : Int32} {o : Ob} {p1 : Int32} (hi : wl_inj (ΓM ad cy)) (h : M_isLiar o p1 = some rv) : Cn l D (ΓM ad cy) yX12_isLiar cX12_isLiar 2 (some .boolean) 0 [.ref (ad 0), .int p1] o (some (.int rv), o) :=
  Cn.of hi rfl (Nat.le_of_ble_eq_true rfl) (fun _ _ _ hL => M_isLiar_ok hi hL h)
set_option maxRecDepth 20000 in
set_option maxHeartbeats 4000000 in
theorem pdX12_isLiar : (parseMethodDescriptor yX12_isLiar.desc).map (fun d => d.parameters.length) = some 1 := by decide +kernel
set_option maxRecDepth 20000 in
set_option maxHeartbeats 4000000 in
theorem kM_isLiar {E : Ec} {ad : Nat → Nat} {cy : Nat → ClassId} {cc : ByteArray} {nL : Nat} {rt : Option FieldType} {r : Option Value × Ob} {pc n : Nat} {lv : List (Nat × Value)} {st : List Value} {o : Ob} {p1 : Int32} {v : Int32} (hi : wl_inj (ΓM ad cy)) (hd : decode cc pc = .ok (.invokevirtual 102, 3)) (hq : M_isLiar o p1 = some v) (hL : Lv E n) (hn : 0 + 1 ≤ n) (hW : (st.map fun v => v.category).sum ≤ 8) (k : Jw E (ΓM ad cy) RX12 cc nL rt r (pc + 3) lv (.int v :: st) o) : Jw E (ΓM ad cy) RX12 cc nL rt r pc lv (.int p1 :: .ref (ad 0) :: st) o :=
  J_callV (h := 0) (ci := 11) (av := [.int p1]) (q := (some (.int v), o)) (st := st) hd (kX12_isLiar hi hq) tw_5_106 tw_5_108 tw_1_13 tw_5_109 sl_3_5 ⟨by decide, by decide, pdX12_isLiar⟩ (Nat.le_of_ble_eq_true rfl) rfl rfl rfl rfl (by decide) hL hn hW k
set_option maxRecDepth 20000 in
set_option maxHeartbeats 4000000 in
theorem M_learnOne_ok {E : Ec} {ad : Nat → Nat} {cy : Nat → ClassId} {rv : Ob} {o : Ob} {p1 : Int32} (hi : wl_inj (ΓM ad cy)) (hL : Lv E 1) (h : M_learnOne o p1 = some rv) : Jw E (ΓM ad cy) RX12 cX12_learnOne 4 none (none, rv) 0 [(0, .ref (ad 0)), (1, .int p1)] [] o := by
  unfold M_learnOne at h
  refine J_iconst dX12_learnOne_0 ic_5 ?_
  refine J_iload_n (q := 1) dX12_learnOne_1 rfl rfl ?_
  refine J_imul dX12_learnOne_2 ?_
  refine J_aload_n (q := 0) dX12_learnOne_3 rfl rfl ?_
  refine gM_caring dX12_learnOne_4 ?_
  refine J_iload_n (q := 1) dX12_learnOne_7 rfl rfl ?_
  obtain ⟨hg1, h⟩ := gd_some h
  refine aM_ld (h := 6) (n := 7) dX12_learnOne_8 (by decide) rfl hg1 ?_
  refine J_iadd dX12_learnOne_9 ?_
  refine J_ti (fun v2 ev2 => ?_)
  replace h := nm_some ev2 h
  refine J_istore_n (lv' := [(2, .int v2), (0, .ref (ad 0)), (1, .int p1)]) dX12_learnOne_10 rfl (by decide) rfl ?_
  refine J_aload_n (q := 1) dX12_learnOne_11 rfl rfl ?_
  refine J_iload_n (q := 2) dX12_learnOne_12 rfl rfl ?_
  obtain ⟨r3, hq13, h⟩ := bd_some h
  refine kM_isLiar hi dX12_learnOne_13 hq13 hL (by decide) (Nat.le_of_ble_eq_true rfl) ?_
  obtain ⟨s7, ha36, h⟩ := bd_some h
  have K36 : Jw E (ΓM ad cy) RX12 cX12_learnOne 4 none (none, rv) 36 [(0, .ref (ad 0)), (2, .int v2)] [.int s7] o := by
    clear ha36
    refine J_aload_n (q := 0) dX12_learnOne_36 rfl rfl ?_
    refine gM_knows dX12_learnOne_37 ?_
    refine J_iload_n (q := 1) dX12_learnOne_40 rfl rfl ?_
    obtain ⟨hg8, h⟩ := gd_some h
    refine aM_ld (h := 7) (n := 35) dX12_learnOne_41 (by decide) rfl hg8 ?_
    refine J_iconst dX12_learnOne_42 ic_m1 ?_
    refine J_ixor dX12_learnOne_43 ?_
    refine J_iand dX12_learnOne_44 ?_
    refine J_ti (fun v9 ev9 => ?_)
    replace h := nm_some ev9 h
    refine J_istore_n (lv' := [(3, .int v9), (0, .ref (ad 0)), (2, .int v2)]) dX12_learnOne_45 rfl (by decide) rfl ?_
    refine J_aload_n (q := 1) dX12_learnOne_46 rfl rfl ?_
    refine gM_knows dX12_learnOne_47 ?_
    refine J_iload_n (q := 2) dX12_learnOne_50 rfl rfl ?_
    refine J_dup2 dX12_learnOne_51 rfl rfl ?_
    obtain ⟨hg10, h⟩ := gd_some h
    refine aM_ld (h := 7) (n := 35) dX12_learnOne_52 (by decide) rfl hg10 ?_
    refine J_iload_n (q := 0) dX12_learnOne_53 rfl rfl ?_
    refine J_iload_n (q := 0) dX12_learnOne_54 rfl rfl ?_
    refine J_ineg dX12_learnOne_55 ?_
    refine J_iand dX12_learnOne_56 ?_
    refine J_ior dX12_learnOne_57 ?_
    obtain ⟨hg11, h⟩ := gd_some h
    refine aM_st (h := 7) (n := 35) dX12_learnOne_58 (by decide) rfl hg11 ?_
    refine J_tw (fun o12 eo12 => ?_)
    replace h := nm_some eo12 h
    exact J_vret dX12_learnOne_59 (rt_v h) rfl
  clear h
  refine J_if_eq (tgt := 25) dX12_learnOne_16 (by decide) (fun c4 => ?_) (fun c4 => ?_)
  · replace ha36 := it_some ha36 c4
    refine J_aload_n (q := 1) dX12_learnOne_25 rfl rfl ?_
    refine gM_pasts dX12_learnOne_26 ?_
    refine J_aload_n (q := 1) dX12_learnOne_29 rfl rfl ?_
    refine gM_caring dX12_learnOne_30 ?_
    refine J_iload_n (q := 2) dX12_learnOne_33 rfl rfl ?_
    obtain ⟨hg5, ha36⟩ := gd_some ha36
    refine aM_ld (h := 6) (n := 7) dX12_learnOne_34 (by decide) rfl hg5 ?_
    obtain ⟨hg6, ha36⟩ := gd_some ha36
    refine aM_ld (h := 1) (n := 5) dX12_learnOne_35 (by decide) rfl hg6 ?_
    cases ha36
    exact J_sub [1, 0] rfl (K36)
  · replace ha36 := if_some ha36 c4
    refine J_sipush dX12_learnOne_19 sp_4095 ?_
    refine J_goto (tgt := 36) dX12_learnOne_22 (by decide) ?_
    cases ha36
    exact J_sub [1, 0] rfl (K36)
set_option maxRecDepth 20000 in
set_option maxHeartbeats 4000000 in
theorem kX12_learnOne {l : Launch} {D : va_G} {ad : Nat → Nat} {cy : Nat → ClassId} {rv : Ob} {o : Ob} {p1 : Int32} (hi : wl_inj (ΓM ad cy)) (h : M_learnOne o p1 = some rv) : Cn l D (ΓM ad cy) yX12_learnOne cX12_learnOne 4 none 1 [.ref (ad 0), .int p1] o (none, rv) :=
  Cn.of hi rfl (Nat.le_of_ble_eq_true rfl) (fun _ _ _ hL => M_learnOne_ok hi hL h)
set_option maxRecDepth 20000 in
set_option maxHeartbeats 4000000 in
theorem pdX12_learnOne : (parseMethodDescriptor yX12_learnOne.desc).map (fun d => d.parameters.length) = some 1 := by decide +kernel
set_option maxRecDepth 20000 in
set_option maxHeartbeats 4000000 in
theorem kM_learnOne {E : Ec} {ad : Nat → Nat} {cy : Nat → ClassId} {cc : ByteArray} {nL : Nat} {rt : Option FieldType} {r : Option Value × Ob} {pc n : Nat} {lv : List (Nat × Value)} {st : List Value} {o : Ob} {p1 : Int32} {o' : Ob} (hi : wl_inj (ΓM ad cy)) (hd : decode cc pc = .ok (.invokevirtual 119, 3)) (hq : M_learnOne o p1 = some o') (hL : Lv E n) (hn : 1 + 1 ≤ n) (hW : (st.map fun v => v.category).sum ≤ 8) (k : Jw E (ΓM ad cy) RX12 cc nL rt r (pc + 3) lv (st) o') : Jw E (ΓM ad cy) RX12 cc nL rt r pc lv (.int p1 :: .ref (ad 0) :: st) o :=
  J_callV (h := 0) (ci := 11) (av := [.int p1]) (q := (none, o')) (st := st) hd (kX12_learnOne hi hq) tw_5_102 tw_5_104 tw_1_13 tw_5_105 sl_3_4 ⟨by decide, by decide, pdX12_learnOne⟩ (Nat.le_of_ble_eq_true rfl) rfl rfl rfl rfl (by decide) hL hn hW k
set_option maxRecDepth 20000 in
set_option maxHeartbeats 4000000 in
theorem M_withoutGreatest_L3_ok {E : Ec} {ad : Nat → Nat} {cy : Nat → ClassId} {rv : Int32} {k21 : Int32 → Option Int32} {o : Ob} {a0 : Int32} (hi : wl_inj (ΓM ad cy)) (hL : Lv E 1) (hk21 : ∀ (y1 : Int32), k21 y1 = some rv → Jw E (ΓM ad cy) RX12 cX12_withoutGreatest 2 (some .int) (some (.int rv), o) 21 [(0, .int a0), (1, .int y1)] [] o) : ∀ (n : Nat) (x1 : Int32), M_withoutGreatest_L3 k21 o a0 n x1 = some rv → Jw E (ΓM ad cy) RX12 cX12_withoutGreatest 2 (some .int) (some (.int rv), o) 3 [(0, .int a0), (1, .int x1)] [] o := by
  intro n
  induction n with
  | zero =>
    intro x1 h
    rw [M_withoutGreatest_L3] at h
    cases h
  | succ n ih =>
    intro x1 h
    rw [M_withoutGreatest_L3] at h
    refine J_iload_n (q := 1) dX12_withoutGreatest_3 rfl rfl ?_
    refine J_if_lt (tgt := 21) dX12_withoutGreatest_4 (by decide) (fun c1 => ?_) (fun c1 => ?_)
    · replace h := it_some h c1
      exact J_sub [0, 1] rfl (hk21 _ h)
    · replace h := if_some h c1
      refine J_iload_n (q := 0) dX12_withoutGreatest_7 rfl rfl ?_
      refine J_iload_n (q := 1) dX12_withoutGreatest_8 rfl rfl ?_
      obtain ⟨r2, hq5, h⟩ := bd_some h
      refine kM_hasBit hi dX12_withoutGreatest_9 hq5 hL (by decide) (Nat.le_of_ble_eq_true rfl) ?_
      refine J_if_ne (tgt := 21) dX12_withoutGreatest_12 (by decide) (fun c3 => ?_) (fun c3 => ?_)
      · replace h := if_some h c3
        exact J_sub [0, 1] rfl (hk21 _ h)
      · replace h := it_some h c3
        refine J_iinc (q := 1) (v := (x1 + (-1 : Int32))) (lv' := [(1, .int (x1 + (-1 : Int32))), (0, .int a0)]) dX12_withoutGreatest_15 rfl (congrArg (fun z => x1 + z) ic_m1) (by decide) rfl ?_
        refine J_tv (fun v4 ev4 => ?_)
        replace h := nm_some ev4 h
        refine J_goto (tgt := 3) dX12_withoutGreatest_18 (by decide) ?_
        exact J_sub [1, 0] rfl (ih _ h)
set_option maxRecDepth 20000 in
set_option maxHeartbeats 4000000 in
theorem M_withoutGreatest_ok {E : Ec} {ad : Nat → Nat} {cy : Nat → ClassId} {rv : Int32} {o : Ob} {p0 : Int32} (hi : wl_inj (ΓM ad cy)) (hL : Lv E 1) (h : M_withoutGreatest o p0 = some rv) : Jw E (ΓM ad cy) RX12 cX12_withoutGreatest 2 (some .int) (some (.int rv), o) 0 [(0, .int p0)] [] o := by
  unfold M_withoutGreatest at h
  refine J_bipush dX12_withoutGreatest_0 bp_11 ?_
  refine J_istore_n (lv' := [(1, .int (11 : Int32)), (0, .int p0)]) dX12_withoutGreatest_2 rfl (by decide) rfl ?_
  refine J_sub [1, 0] rfl (M_withoutGreatest_L3_ok hi hL (fun x1_6 h => ?_) FU _ h)
  refine J_iload_n (q := 1) dX12_withoutGreatest_21 rfl rfl ?_
  refine J_if_ge (tgt := 29) dX12_withoutGreatest_22 (by decide) (fun c7 => ?_) (fun c7 => ?_)
  · replace h := it_some h c7
    refine J_iload_n (q := 0) dX12_withoutGreatest_29 rfl rfl ?_
    refine J_iconst dX12_withoutGreatest_30 ic_1 ?_
    refine J_iload_n (q := 1) dX12_withoutGreatest_31 rfl rfl ?_
    refine J_ishl dX12_withoutGreatest_32 ?_
    refine J_iconst dX12_withoutGreatest_33 ic_m1 ?_
    refine J_ixor dX12_withoutGreatest_34 ?_
    refine J_iand dX12_withoutGreatest_35 ?_
    exact J_iret dX12_withoutGreatest_36 (rt_pi h) rfl
  · replace h := if_some h c7
    refine J_iconst dX12_withoutGreatest_25 ic_0 ?_
    refine J_goto (tgt := 36) dX12_withoutGreatest_26 (by decide) ?_
    exact J_iret dX12_withoutGreatest_36 (rt_pi h) rfl
set_option maxRecDepth 20000 in
set_option maxHeartbeats 4000000 in
theorem kX12_withoutGreatest {l : Launch} {D : va_G} {ad : Nat → Nat} {cy : Nat → ClassId} {rv : Int32} {o : Ob} {p0 : Int32} (hi : wl_inj (ΓM ad cy)) (h : M_withoutGreatest o p0 = some rv) : Cn l D (ΓM ad cy) yX12_withoutGreatest cX12_withoutGreatest 2 (some .int) 1 [.int p0] o (some (.int rv), o) :=
  Cn.of hi rfl (Nat.le_of_ble_eq_true rfl) (fun _ _ _ hL => M_withoutGreatest_ok hi hL h)
set_option maxRecDepth 20000 in
set_option maxHeartbeats 4000000 in
theorem pdX12_withoutGreatest : (parseMethodDescriptor yX12_withoutGreatest.desc).map (fun d => d.parameters.length) = some 1 := by decide +kernel
set_option maxRecDepth 20000 in
set_option maxHeartbeats 4000000 in
theorem kM_withoutGreatest {E : Ec} {ad : Nat → Nat} {cy : Nat → ClassId} {cc : ByteArray} {nL : Nat} {rt : Option FieldType} {r : Option Value × Ob} {pc n : Nat} {lv : List (Nat × Value)} {st : List Value} {o : Ob} {p0 : Int32} {v : Int32} (hi : wl_inj (ΓM ad cy)) (hd : decode cc pc = .ok (.invokestatic 126, 3)) (hq : M_withoutGreatest o p0 = some v) (hL : Lv E n) (hn : 1 + 1 ≤ n) (hW : (st.map fun v => v.category).sum ≤ 8) (k : Jw E (ΓM ad cy) RX12 cc nL rt r (pc + 3) lv (.int v :: st) o) : Jw E (ΓM ad cy) RX12 cc nL rt r pc lv (.int p0 :: st) o :=
  J_callS (av := [.int p0]) (q := (some (.int v), o)) (st := st) hd (kX12_withoutGreatest hi hq) tw_5_114 tw_5_115 tw_1_13 tw_5_116 ⟨by decide, by decide, pdX12_withoutGreatest⟩ rfl (by decide) hL hn hW k
set_option maxRecDepth 20000 in
set_option maxHeartbeats 4000000 in
theorem M_goesTo_L33_ok {E : Ec} {ad : Nat → Nat} {cy : Nat → ClassId} {rv : Ob} {k81 : Int32 → Option Ob} {o : Ob} {a1 : Int32} (hi : wl_inj (ΓM ad cy)) (hL : Lv E 3) (hk81 : ∀ (y2 : Int32), k81 y2 = some rv → Jw E (ΓM ad cy) RX12 cX12_goesTo 5 none (none, rv) 81 [(0, .ref (ad 0)), (1, .int a1), (2, .int y2)] [] o) : ∀ (n : Nat) (x2 : Int32) (x3 : Int32) (x4 : Int32), M_goesTo_L33 k81 o a1 n x2 x3 x4 = some rv → Jw E (ΓM ad cy) RX12 cX12_goesTo 5 none (none, rv) 33 [(0, .ref (ad 0)), (1, .int a1), (2, .int x2), (3, .int x3), (4, .int x4)] [] o := by
  intro n
  induction n with
  | zero =>
    intro x2 x3 x4 h
    rw [M_goesTo_L33] at h
    cases h
  | succ n ih =>
    intro x2 x3 x4 h
    rw [M_goesTo_L33] at h
    refine J_iload (q := 4) dX12_goesTo_33 rfl ?_
    refine J_aload_n (q := 0) dX12_goesTo_35 rfl rfl ?_
    refine gM_many dX12_goesTo_36 ?_
    refine J_icmp_ge (tgt := 81) dX12_goesTo_39 (by decide) (fun c6 => ?_) (fun c6 => ?_)
    · replace h := it_some h c6
      exact J_sub [0, 1, 2] rfl (hk81 _ h)
    · replace h := if_some h c6
      refine J_iload (q := 4) dX12_goesTo_42 rfl ?_
      refine J_aload_n (q := 0) dX12_goesTo_44 rfl rfl ?_
      refine gM_owners dX12_goesTo_45 ?_
      refine J_iload_n (q := 1) dX12_goesTo_48 rfl rfl ?_
      obtain ⟨hg7, h⟩ := gd_some h
      refine aM_ld (h := 3) (n := 5) dX12_goesTo_49 (by decide) rfl hg7 ?_
      obtain ⟨x2_12, x3_13, ha75, h⟩ := bd2_some h
      have K75 : Jw E (ΓM ad cy) RX12 cX12_goesTo 5 none (none, rv) 75 [(0, .ref (ad 0)), (1, .int a1), (2, .int x2_12), (3, .int x3_13), (4, .int x4)] [] o := by
        clear ha75
        refine J_iinc (q := 4) (v := (x4 + (1 : Int32))) (lv' := [(4, .int (x4 + (1 : Int32))), (0, .ref (ad 0)), (1, .int a1), (2, .int x2_12), (3, .int x3_13)]) dX12_goesTo_75 rfl (congrArg (fun z => x4 + z) ic_1) (by decide) rfl ?_
        refine J_tv (fun v14 ev14 => ?_)
        replace h := nm_some ev14 h
        refine J_goto (tgt := 33) dX12_goesTo_78 (by decide) ?_
        exact J_sub [1, 2, 3, 4, 0] rfl (ih _ _ _ h)
      clear h
      refine J_icmp_eq (tgt := 75) dX12_goesTo_50 (by decide) (fun c8 => ?_) (fun c8 => ?_)
      · replace ha75 := it_some ha75 c8
        cases ha75
        exact J_sub [0, 1, 2, 3, 4] rfl (K75)
      · replace ha75 := if_some ha75 c8
        refine J_aload_n (q := 0) dX12_goesTo_53 rfl rfl ?_
        refine J_iload (q := 4) dX12_goesTo_54 rfl ?_
        refine J_iload_n (q := 1) dX12_goesTo_56 rfl rfl ?_
        obtain ⟨r9, hq15, ha75⟩ := bd_some ha75
        refine kM_storyOf hi dX12_goesTo_57 hq15 hL (by decide) (Nat.le_of_ble_eq_true rfl) ?_
        refine J_iload_n (q := 3) dX12_goesTo_60 rfl rfl ?_
        refine J_icmp_le (tgt := 75) dX12_goesTo_61 (by decide) (fun c10 => ?_) (fun c10 => ?_)
        · replace ha75 := it_some ha75 c10
          cases ha75
          exact J_sub [0, 1, 2, 3, 4] rfl (K75)
        · replace ha75 := if_some ha75 c10
          refine J_iload (q := 4) dX12_goesTo_64 rfl ?_
          refine J_istore_n (lv' := [(2, .int x4), (0, .ref (ad 0)), (1, .int a1), (3, .int x3), (4, .int x4)]) dX12_goesTo_66 rfl (by decide) rfl ?_
          refine J_aload_n (q := 1) dX12_goesTo_67 rfl rfl ?_
          refine J_iload (q := 4) dX12_goesTo_68 rfl ?_
          refine J_iload_n (q := 2) dX12_goesTo_70 rfl rfl ?_
          obtain ⟨r11, hq16, ha75⟩ := bd_some ha75
          refine kM_storyOf hi dX12_goesTo_71 hq16 hL (by decide) (Nat.le_of_ble_eq_true rfl) ?_
          refine J_istore_n (lv' := [(3, .int r11), (2, .int x4), (0, .ref (ad 0)), (1, .int a1), (4, .int x4)]) dX12_goesTo_74 rfl (by decide) rfl ?_
          cases ha75
          exact J_sub [2, 3, 1, 0, 4] rfl (K75)
set_option maxRecDepth 20000 in
set_option maxHeartbeats 4000000 in
theorem M_goesTo_ok {E : Ec} {ad : Nat → Nat} {cy : Nat → ClassId} {rv : Ob} {o : Ob} {p1 : Int32} (hi : wl_inj (ΓM ad cy)) (hL : Lv E 3) (h : M_goesTo o p1 = some rv) : Jw E (ΓM ad cy) RX12 cX12_goesTo 5 none (none, rv) 0 [(0, .ref (ad 0)), (1, .int p1)] [] o := by
  unfold M_goesTo at h
  refine J_bipush dX12_goesTo_0 bp_9 ?_
  refine J_istore_n (lv' := [(2, .int (9 : Int32)), (0, .ref (ad 0)), (1, .int p1)]) dX12_goesTo_2 rfl (by decide) rfl ?_
  refine J_aload_n (q := 1) dX12_goesTo_3 rfl rfl ?_
  refine gM_owners dX12_goesTo_4 ?_
  refine J_iload_n (q := 2) dX12_goesTo_7 rfl rfl ?_
  obtain ⟨hg1, h⟩ := gd_some h
  refine aM_ld (h := 3) (n := 5) dX12_goesTo_8 (by decide) rfl hg1 ?_
  refine J_bipush dX12_goesTo_9 bp_9 ?_
  obtain ⟨s5, ha29, h⟩ := bd_some h
  have K29 : Jw E (ΓM ad cy) RX12 cX12_goesTo 5 none (none, rv) 29 [(0, .ref (ad 0)), (1, .int p1), (2, .int (9 : Int32))] [.int s5] o := by
    clear ha29
    refine J_istore_n (lv' := [(3, .int s5), (0, .ref (ad 0)), (1, .int p1), (2, .int (9 : Int32))]) dX12_goesTo_29 rfl (by decide) rfl ?_
    refine J_iconst dX12_goesTo_30 ic_0 ?_
    refine J_istore (lv' := [(4, .int (0 : Int32)), (3, .int s5), (0, .ref (ad 0)), (1, .int p1), (2, .int (9 : Int32))]) dX12_goesTo_31 (by decide) rfl ?_
    refine J_sub [2, 3, 4, 1, 0] rfl (M_goesTo_L33_ok hi hL (fun x2_17 h => ?_) FU _ _ _ h)
    refine J_aload_n (q := 0) dX12_goesTo_81 rfl rfl ?_
    refine gM_owners dX12_goesTo_82 ?_
    refine J_iload_n (q := 1) dX12_goesTo_85 rfl rfl ?_
    refine J_iload_n (q := 2) dX12_goesTo_86 rfl rfl ?_
    refine J_bipush dX12_goesTo_87 bp_9 ?_
    obtain ⟨s20, ha102, h⟩ := bd_some h
    have K102 : Jw E (ΓM ad cy) RX12 cX12_goesTo 5 none (none, rv) 102 [] [.int s20, .int p1, .ref (ad 3)] o := by
      clear ha102
      obtain ⟨hg21, h⟩ := gd_some h
      refine aM_st (h := 3) (n := 5) dX12_goesTo_102 (by decide) rfl hg21 ?_
      refine J_tw (fun o22 eo22 => ?_)
      replace h := nm_some eo22 h
      exact J_vret dX12_goesTo_103 (rt_v h) rfl
    clear h
    refine J_icmp_ne (tgt := 101) dX12_goesTo_89 (by decide) (fun c18 => ?_) (fun c18 => ?_)
    · replace ha102 := if_some ha102 c18
      refine J_iload_n (q := 2) dX12_goesTo_101 rfl rfl ?_
      cases ha102
      exact J_sub [] rfl (K102)
    · replace ha102 := it_some ha102 c18
      refine J_aload_n (q := 0) dX12_goesTo_92 rfl rfl ?_
      refine gM_owners dX12_goesTo_93 ?_
      refine J_iload_n (q := 1) dX12_goesTo_96 rfl rfl ?_
      obtain ⟨hg19, ha102⟩ := gd_some ha102
      refine aM_ld (h := 3) (n := 5) dX12_goesTo_97 (by decide) rfl hg19 ?_
      refine J_goto (tgt := 102) dX12_goesTo_98 (by decide) ?_
      cases ha102
      exact J_sub [] rfl (K102)
  clear h
  refine J_icmp_ne (tgt := 18) dX12_goesTo_11 (by decide) (fun c2 => ?_) (fun c2 => ?_)
  · replace ha29 := if_some ha29 c2
    refine J_aload_n (q := 1) dX12_goesTo_18 rfl rfl ?_
    refine J_aload_n (q := 1) dX12_goesTo_19 rfl rfl ?_
    refine gM_owners dX12_goesTo_20 ?_
    refine J_iload_n (q := 2) dX12_goesTo_23 rfl rfl ?_
    obtain ⟨hg3, ha29⟩ := gd_some ha29
    refine aM_ld (h := 3) (n := 5) dX12_goesTo_24 (by decide) rfl hg3 ?_
    refine J_iload_n (q := 2) dX12_goesTo_25 rfl rfl ?_
    obtain ⟨r4, hq23, ha29⟩ := bd_some ha29
    refine kM_storyOf hi dX12_goesTo_26 hq23 hL (by decide) (Nat.le_of_ble_eq_true rfl) ?_
    cases ha29
    exact J_sub [1, 2, 0] rfl (K29)
  · replace ha29 := it_some ha29 c2
    refine J_iconst dX12_goesTo_14 ic_0 ?_
    refine J_goto (tgt := 29) dX12_goesTo_15 (by decide) ?_
    cases ha29
    exact J_sub [1, 2, 0] rfl (K29)
set_option maxRecDepth 20000 in
set_option maxHeartbeats 4000000 in
theorem kX12_goesTo {l : Launch} {D : va_G} {ad : Nat → Nat} {cy : Nat → ClassId} {rv : Ob} {o : Ob} {p1 : Int32} (hi : wl_inj (ΓM ad cy)) (h : M_goesTo o p1 = some rv) : Cn l D (ΓM ad cy) yX12_goesTo cX12_goesTo 5 none 3 [.ref (ad 0), .int p1] o (none, rv) :=
  Cn.of hi rfl (Nat.le_of_ble_eq_true rfl) (fun _ _ _ hL => M_goesTo_ok hi hL h)
set_option maxRecDepth 20000 in
set_option maxHeartbeats 4000000 in
theorem pdX12_goesTo : (parseMethodDescriptor yX12_goesTo.desc).map (fun d => d.parameters.length) = some 1 := by decide +kernel
set_option maxRecDepth 20000 in
set_option maxHeartbeats 4000000 in
theorem kM_goesTo {E : Ec} {ad : Nat → Nat} {cy : Nat → ClassId} {cc : ByteArray} {nL : Nat} {rt : Option FieldType} {r : Option Value × Ob} {pc n : Nat} {lv : List (Nat × Value)} {st : List Value} {o : Ob} {p1 : Int32} {o' : Ob} (hi : wl_inj (ΓM ad cy)) (hd : decode cc pc = .ok (.invokevirtual 129, 3)) (hq : M_goesTo o p1 = some o') (hL : Lv E n) (hn : 3 + 1 ≤ n) (hW : (st.map fun v => v.category).sum ≤ 8) (k : Jw E (ΓM ad cy) RX12 cc nL rt r (pc + 3) lv (st) o') : Jw E (ΓM ad cy) RX12 cc nL rt r pc lv (.int p1 :: .ref (ad 0) :: st) o :=
  J_callV (h := 0) (ci := 11) (av := [.int p1]) (q := (none, o')) (st := st) hd (kX12_goesTo hi hq) tw_5_120 tw_5_122 tw_1_13 tw_5_123 sl_3_7 ⟨by decide, by decide, pdX12_goesTo⟩ (Nat.le_of_ble_eq_true rfl) rfl rfl rfl rfl (by decide) hL hn hW k
set_option maxRecDepth 20000 in
set_option maxHeartbeats 4000000 in
theorem M_dayOn_L32_ok {E : Ec} {ad : Nat → Nat} {cy : Nat → ClassId} {rv : Ob} {k48 : Ob → Option Ob} {a1 : Int32} {a2 : Int32} (hi : wl_inj (ΓM ad cy)) (hL : Lv E 4) (hk48 : ∀ (yw : Ob), k48 yw = some rv → Jw E (ΓM ad cy) RX12 cX12_dayOn 4 none (none, rv) 48 [(0, .ref (ad 0)), (1, .int a1)] [] yw) : ∀ (n : Nat) (o : Ob) (x3 : Int32), M_dayOn_L32 k48 a1 a2 n o x3 = some rv → Jw E (ΓM ad cy) RX12 cX12_dayOn 4 none (none, rv) 32 [(0, .ref (ad 0)), (1, .int a1), (2, .int a2), (3, .int x3)] [] o := by
  intro n
  induction n with
  | zero =>
    intro o x3 h
    rw [M_dayOn_L32] at h
    cases h
  | succ n ih =>
    intro o x3 h
    rw [M_dayOn_L32] at h
    refine J_iload_n (q := 3) dX12_dayOn_32 rfl rfl ?_
    refine J_iload_n (q := 2) dX12_dayOn_33 rfl rfl ?_
    refine J_icmp_ge (tgt := 48) dX12_dayOn_34 (by decide) (fun c4 => ?_) (fun c4 => ?_)
    · replace h := it_some h c4
      exact J_sub [0, 1] rfl (hk48 _ h)
    · replace h := if_some h c4
      refine J_aload_n (q := 0) dX12_dayOn_37 rfl rfl ?_
      refine J_iload_n (q := 1) dX12_dayOn_38 rfl rfl ?_
      obtain ⟨o5, hq7, h⟩ := bd_some h
      refine kM_learnOne hi dX12_dayOn_39 hq7 hL (by decide) (Nat.le_of_ble_eq_true rfl) ?_
      refine J_iinc (q := 3) (v := (x3 + (1 : Int32))) (lv' := [(3, .int (x3 + (1 : Int32))), (0, .ref (ad 0)), (1, .int a1), (2, .int a2)]) dX12_dayOn_42 rfl (congrArg (fun z => x3 + z) ic_1) (by decide) rfl ?_
      refine J_tv (fun v6 ev6 => ?_)
      replace h := nm_some ev6 h
      refine J_goto (tgt := 32) dX12_dayOn_45 (by decide) ?_
      exact J_sub [1, 2, 3, 0] rfl (ih _ _ h)
set_option maxRecDepth 20000 in
set_option maxHeartbeats 4000000 in
theorem M_dayOn_L50_ok {E : Ec} {ad : Nat → Nat} {cy : Nat → ClassId} {rv : Ob} {k102 : Ob → Option Ob} {a1 : Int32} (hi : wl_inj (ΓM ad cy)) (hL : Lv E 4) (hk102 : ∀ (yw : Ob), k102 yw = some rv → Jw E (ΓM ad cy) RX12 cX12_dayOn 4 none (none, rv) 102 [(0, .ref (ad 0)), (1, .int a1)] [] yw) : ∀ (n : Nat) (o : Ob) (x3 : Int32), M_dayOn_L50 k102 a1 n o x3 = some rv → Jw E (ΓM ad cy) RX12 cX12_dayOn 4 none (none, rv) 50 [(0, .ref (ad 0)), (1, .int a1), (3, .int x3)] [] o := by
  intro n
  induction n with
  | zero =>
    intro o x3 h
    rw [M_dayOn_L50] at h
    cases h
  | succ n ih =>
    intro o x3 h
    rw [M_dayOn_L50] at h
    refine J_iload_n (q := 2) dX12_dayOn_50 rfl rfl ?_
    refine J_iconst dX12_dayOn_51 ic_5 ?_
    refine J_icmp_ge (tgt := 102) dX12_dayOn_52 (by decide) (fun c9 => ?_) (fun c9 => ?_)
    · replace h := it_some h c9
      exact J_sub [0, 1] rfl (hk102 _ h)
    · replace h := if_some h c9
      refine J_aload_n (q := 0) dX12_dayOn_55 rfl rfl ?_
      refine J_iload_n (q := 1) dX12_dayOn_56 rfl rfl ?_
      obtain ⟨r10, hq18, h⟩ := bd_some h
      refine kM_isOld hi dX12_dayOn_57 hq18 hL (by decide) (Nat.le_of_ble_eq_true rfl) ?_
      refine J_if_eq (tgt := 102) dX12_dayOn_60 (by decide) (fun c11 => ?_) (fun c11 => ?_)
      · replace h := it_some h c11
        exact J_sub [0, 1] rfl (hk102 _ h)
      · replace h := if_some h c11
        refine J_aload_n (q := 0) dX12_dayOn_63 rfl rfl ?_
        refine gM_today dX12_dayOn_64 ?_
        refine J_bipush dX12_dayOn_67 bp_7 ?_
        refine J_irem dX12_dayOn_69 (by decide) ?_
        refine J_if_ne (tgt := 102) dX12_dayOn_70 (by decide) (fun c12 => ?_) (fun c12 => ?_)
        · replace h := if_some h c12
          exact J_sub [0, 1] rfl (hk102 _ h)
        · replace h := it_some h c12
          refine J_aload_n (q := 0) dX12_dayOn_73 rfl rfl ?_
          refine gM_knows dX12_dayOn_74 ?_
          refine J_iconst dX12_dayOn_77 ic_5 ?_
          refine J_iload_n (q := 1) dX12_dayOn_78 rfl rfl ?_
          refine J_imul dX12_dayOn_79 ?_
          refine J_iload_n (q := 2) dX12_dayOn_80 rfl rfl ?_
          refine J_iadd dX12_dayOn_81 ?_
          refine J_aload_n (q := 0) dX12_dayOn_82 rfl rfl ?_
          refine gM_knows dX12_dayOn_83 ?_
          refine J_iconst dX12_dayOn_86 ic_5 ?_
          refine J_iload_n (q := 1) dX12_dayOn_87 rfl rfl ?_
          refine J_imul dX12_dayOn_88 ?_
          refine J_iload_n (q := 2) dX12_dayOn_89 rfl rfl ?_
          refine J_iadd dX12_dayOn_90 ?_
          obtain ⟨hg13, h⟩ := gd_some h
          refine aM_ld (h := 7) (n := 35) dX12_dayOn_91 (by decide) rfl hg13 ?_
          obtain ⟨r14, hq19, h⟩ := bd_some h
          refine kM_withoutGreatest hi dX12_dayOn_92 hq19 hL (by decide) (Nat.le_of_ble_eq_true rfl) ?_
          obtain ⟨hg15, h⟩ := gd_some h
          refine aM_st (h := 7) (n := 35) dX12_dayOn_95 (by decide) rfl hg15 ?_
          refine J_tw (fun o16 eo16 => ?_)
          replace h := nm_some eo16 h
          refine J_iinc (q := 2) (v := (x3 + (1 : Int32))) (lv' := [(3, .int (x3 + (1 : Int32))), (0, .ref (ad 0)), (1, .int a1)]) dX12_dayOn_96 rfl (congrArg (fun z => x3 + z) ic_1) (by decide) rfl ?_
          refine J_tv (fun v17 ev17 => ?_)
          replace h := nm_some ev17 h
          refine J_goto (tgt := 50) dX12_dayOn_99 (by decide) ?_
          exact J_sub [1, 2, 0] rfl (ih _ _ h)
set_option maxRecDepth 20000 in
set_option maxHeartbeats 4000000 in
theorem M_dayOn_L12_ok {E : Ec} {ad : Nat → Nat} {cy : Nat → ClassId} {rv : Ob} {k108 : Ob → Option Ob} (hi : wl_inj (ΓM ad cy)) (hL : Lv E 4) (hk108 : ∀ (yw : Ob), k108 yw = some rv → Jw E (ΓM ad cy) RX12 cX12_dayOn 4 none (none, rv) 108 [(0, .ref (ad 0))] [] yw) : ∀ (n : Nat) (o : Ob) (x1 : Int32), M_dayOn_L12 k108 n o x1 = some rv → Jw E (ΓM ad cy) RX12 cX12_dayOn 4 none (none, rv) 12 [(0, .ref (ad 0)), (1, .int x1)] [] o := by
  intro n
  induction n with
  | zero =>
    intro o x1 h
    rw [M_dayOn_L12] at h
    cases h
  | succ n ih =>
    intro o x1 h
    rw [M_dayOn_L12] at h
    refine J_iload_n (q := 1) dX12_dayOn_12 rfl rfl ?_
    refine J_aload_n (q := 0) dX12_dayOn_13 rfl rfl ?_
    refine gM_many dX12_dayOn_14 ?_
    refine J_icmp_ge (tgt := 108) dX12_dayOn_17 (by decide) (fun c2 => ?_) (fun c2 => ?_)
    · replace h := it_some h c2
      exact J_sub [0] rfl (hk108 _ h)
    · replace h := if_some h c2
      refine J_aload_n (q := 0) dX12_dayOn_20 rfl rfl ?_
      refine J_iload_n (q := 1) dX12_dayOn_21 rfl rfl ?_
      refine J_aload_n (q := 0) dX12_dayOn_22 rfl rfl ?_
      refine gM_today dX12_dayOn_23 ?_
      obtain ⟨r3, hq22, h⟩ := bd_some h
      refine kM_learnsOn hi dX12_dayOn_26 hq22 hL (by decide) (Nat.le_of_ble_eq_true rfl) ?_
      refine J_istore_n (lv' := [(2, .int r3), (0, .ref (ad 0)), (1, .int x1)]) dX12_dayOn_29 rfl (by decide) rfl ?_
      refine J_iconst dX12_dayOn_30 ic_0 ?_
      refine J_istore_n (lv' := [(3, .int (0 : Int32)), (2, .int r3), (0, .ref (ad 0)), (1, .int x1)]) dX12_dayOn_31 rfl (by decide) rfl ?_
      refine J_sub [2, 3, 1, 0] rfl (M_dayOn_L32_ok hi hL (fun o8 h => ?_) FU _ _ h)
      refine J_iconst dX12_dayOn_48 ic_0 ?_
      refine J_istore_n (lv' := [(3, .int (0 : Int32)), (0, .ref (ad 0)), (1, .int x1)]) dX12_dayOn_49 rfl (by decide) rfl ?_
      refine J_sub [1, 2, 0] rfl (M_dayOn_L50_ok hi hL (fun o20 h => ?_) FU _ _ h)
      refine J_iinc (q := 1) (v := (x1 + (1 : Int32))) (lv' := [(1, .int (x1 + (1 : Int32))), (0, .ref (ad 0))]) dX12_dayOn_102 rfl (congrArg (fun z => x1 + z) ic_1) (by decide) rfl ?_
      refine J_tv (fun v21 ev21 => ?_)
      replace h := nm_some ev21 h
      refine J_goto (tgt := 12) dX12_dayOn_105 (by decide) ?_
      exact J_sub [1, 0] rfl (ih _ _ h)
set_option maxRecDepth 20000 in
set_option maxHeartbeats 4000000 in
theorem M_dayOn_L110_ok {E : Ec} {ad : Nat → Nat} {cy : Nat → ClassId} {rv : Ob} (hi : wl_inj (ΓM ad cy)) (hL : Lv E 4) : ∀ (n : Nat) (o : Ob) (x1 : Int32), M_dayOn_L110 n o x1 = some rv → Jw E (ΓM ad cy) RX12 cX12_dayOn 4 none (none, rv) 110 [(0, .ref (ad 0)), (1, .int x1)] [] o := by
  intro n
  induction n with
  | zero =>
    intro o x1 h
    rw [M_dayOn_L110] at h
    cases h
  | succ n ih =>
    intro o x1 h
    rw [M_dayOn_L110] at h
    refine J_iload_n (q := 1) dX12_dayOn_110 rfl rfl ?_
    refine J_iconst dX12_dayOn_111 ic_5 ?_
    refine J_icmp_ge (tgt := 126) dX12_dayOn_112 (by decide) (fun c24 => ?_) (fun c24 => ?_)
    · replace h := it_some h c24
      exact J_vret dX12_dayOn_126 (rt_v h) rfl
    · replace h := if_some h c24
      refine J_aload_n (q := 0) dX12_dayOn_115 rfl rfl ?_
      refine J_iload_n (q := 1) dX12_dayOn_116 rfl rfl ?_
      obtain ⟨o25, hq27, h⟩ := bd_some h
      refine kM_goesTo hi dX12_dayOn_117 hq27 hL (by decide) (Nat.le_of_ble_eq_true rfl) ?_
      refine J_iinc (q := 1) (v := (x1 + (1 : Int32))) (lv' := [(1, .int (x1 + (1 : Int32))), (0, .ref (ad 0))]) dX12_dayOn_120 rfl (congrArg (fun z => x1 + z) ic_1) (by decide) rfl ?_
      refine J_tv (fun v26 ev26 => ?_)
      replace h := nm_some ev26 h
      refine J_goto (tgt := 110) dX12_dayOn_123 (by decide) ?_
      exact J_sub [1, 0] rfl (ih _ _ h)
set_option maxRecDepth 20000 in
set_option maxHeartbeats 4000000 in
theorem M_dayOn_ok {E : Ec} {ad : Nat → Nat} {cy : Nat → ClassId} {rv : Ob} {o : Ob} (hi : wl_inj (ΓM ad cy)) (hL : Lv E 4) (h : M_dayOn o = some rv) : Jw E (ΓM ad cy) RX12 cX12_dayOn 4 none (none, rv) 0 [(0, .ref (ad 0))] [] o := by
  unfold M_dayOn at h
  refine J_aload_n (q := 0) dX12_dayOn_0 rfl rfl ?_
  refine J_dup dX12_dayOn_1 rfl ?_
  refine gM_today dX12_dayOn_2 ?_
  refine J_iconst dX12_dayOn_5 ic_1 ?_
  refine J_iadd dX12_dayOn_6 ?_
  refine pM_today dX12_dayOn_7 ?_
  refine J_tw (fun o1 eo1 => ?_)
  replace h := nm_some eo1 h
  refine J_iconst dX12_dayOn_10 ic_0 ?_
  refine J_istore_n (lv' := [(1, .int (0 : Int32)), (0, .ref (ad 0))]) dX12_dayOn_11 rfl (by decide) rfl ?_
  refine J_sub [1, 0] rfl (M_dayOn_L12_ok hi hL (fun o23 h => ?_) FU _ _ h)
  refine J_iconst dX12_dayOn_108 ic_0 ?_
  refine J_istore_n (lv' := [(1, .int (0 : Int32)), (0, .ref (ad 0))]) dX12_dayOn_109 rfl (by decide) rfl ?_
  refine J_sub [1, 0] rfl (M_dayOn_L110_ok hi hL FU _ _ h)
set_option maxRecDepth 20000 in
set_option maxHeartbeats 4000000 in
theorem kX12_dayOn {l : Launch} {D : va_G} {ad : Nat → Nat} {cy : Nat → ClassId} {rv : Ob} {o : Ob} (hi : wl_inj (ΓM ad cy)) (h : M_dayOn o = some rv) : Cn l D (ΓM ad cy) yX12_dayOn cX12_dayOn 4 none 4 [.ref (ad 0)] o (none, rv) :=
  Cn.of hi rfl (Nat.le_of_ble_eq_true rfl) (fun _ _ _ hL => M_dayOn_ok hi hL h)
set_option maxRecDepth 20000 in
set_option maxHeartbeats 4000000 in
theorem pdX12_dayOn : (parseMethodDescriptor yX12_dayOn.desc).map (fun d => d.parameters.length) = some 0 := by decide +kernel
set_option maxRecDepth 20000 in
set_option maxHeartbeats 4000000 in
theorem kM_dayOn {E : Ec} {ad : Nat → Nat} {cy : Nat → ClassId} {cc : ByteArray} {nL : Nat} {rt : Option FieldType} {r : Option Value × Ob} {pc n : Nat} {lv : List (Nat × Value)} {st : List Value} {o : Ob} {o' : Ob} (hi : wl_inj (ΓM ad cy)) (hd : decode cc pc = .ok (.invokevirtual 132, 3)) (hq : M_dayOn o = some o') (hL : Lv E n) (hn : 4 + 1 ≤ n) (hW : (st.map fun v => v.category).sum ≤ 8) (k : Jw E (ΓM ad cy) RX12 cc nL rt r (pc + 3) lv (st) o') : Jw E (ΓM ad cy) RX12 cc nL rt r pc lv (.ref (ad 0) :: st) o :=
  J_callV (h := 0) (ci := 11) (av := []) (q := (none, o')) (st := st) hd (kX12_dayOn hi hq) tw_5_94 tw_5_96 tw_1_13 tw_5_97 sl_3_2 ⟨by decide, by decide, pdX12_dayOn⟩ (Nat.le_of_ble_eq_true rfl) rfl rfl rfl rfl (by decide) hL hn hW k
set_option maxRecDepth 20000 in
set_option maxHeartbeats 4000000 in
theorem M_goDays_L2_ok {E : Ec} {ad : Nat → Nat} {cy : Nat → ClassId} {rv : Ob} {a1 : Int32} (hi : wl_inj (ΓM ad cy)) (hL : Lv E 5) : ∀ (n : Nat) (o : Ob) (x2 : Int32), M_goDays_L2 a1 n o x2 = some rv → Jw E (ΓM ad cy) RX12 cX12_goDays 3 none (none, rv) 2 [(0, .ref (ad 0)), (1, .int a1), (2, .int x2)] [] o := by
  intro n
  induction n with
  | zero =>
    intro o x2 h
    rw [M_goDays_L2] at h
    cases h
  | succ n ih =>
    intro o x2 h
    rw [M_goDays_L2] at h
    refine J_iload_n (q := 2) dX12_goDays_2 rfl rfl ?_
    refine J_iload_n (q := 1) dX12_goDays_3 rfl rfl ?_
    refine J_icmp_ge (tgt := 17) dX12_goDays_4 (by decide) (fun c1 => ?_) (fun c1 => ?_)
    · replace h := it_some h c1
      exact J_vret dX12_goDays_17 (rt_v h) rfl
    · replace h := if_some h c1
      refine J_aload_n (q := 0) dX12_goDays_7 rfl rfl ?_
      obtain ⟨o2, hq4, h⟩ := bd_some h
      refine kM_dayOn hi dX12_goDays_8 hq4 hL (by decide) (Nat.le_of_ble_eq_true rfl) ?_
      refine J_iinc (q := 2) (v := (x2 + (1 : Int32))) (lv' := [(2, .int (x2 + (1 : Int32))), (0, .ref (ad 0)), (1, .int a1)]) dX12_goDays_11 rfl (congrArg (fun z => x2 + z) ic_1) (by decide) rfl ?_
      refine J_tv (fun v3 ev3 => ?_)
      replace h := nm_some ev3 h
      refine J_goto (tgt := 2) dX12_goDays_14 (by decide) ?_
      exact J_sub [1, 2, 0] rfl (ih _ _ h)
set_option maxRecDepth 20000 in
set_option maxHeartbeats 4000000 in
theorem M_goDays_ok {E : Ec} {ad : Nat → Nat} {cy : Nat → ClassId} {rv : Ob} {o : Ob} {p1 : Int32} (hi : wl_inj (ΓM ad cy)) (hL : Lv E 5) (h : M_goDays o p1 = some rv) : Jw E (ΓM ad cy) RX12 cX12_goDays 3 none (none, rv) 0 [(0, .ref (ad 0)), (1, .int p1)] [] o := by
  unfold M_goDays at h
  refine J_iconst dX12_goDays_0 ic_0 ?_
  refine J_istore_n (lv' := [(2, .int (0 : Int32)), (0, .ref (ad 0)), (1, .int p1)]) dX12_goDays_1 rfl (by decide) rfl ?_
  refine J_sub [1, 2, 0] rfl (M_goDays_L2_ok hi hL FU _ _ h)
set_option maxRecDepth 20000 in
set_option maxHeartbeats 4000000 in
theorem kX12_goDays {l : Launch} {D : va_G} {ad : Nat → Nat} {cy : Nat → ClassId} {rv : Ob} {o : Ob} {p1 : Int32} (hi : wl_inj (ΓM ad cy)) (h : M_goDays o p1 = some rv) : Cn l D (ΓM ad cy) yX12_goDays cX12_goDays 3 none 5 [.ref (ad 0), .int p1] o (none, rv) :=
  Cn.of hi rfl (Nat.le_of_ble_eq_true rfl) (fun _ _ _ hL => M_goDays_ok hi hL h)
set_option maxRecDepth 20000 in
set_option maxHeartbeats 4000000 in
theorem pdX12_goDays : (parseMethodDescriptor yX12_goDays.desc).map (fun d => d.parameters.length) = some 1 := by decide +kernel
set_option maxRecDepth 20000 in
set_option maxHeartbeats 4000000 in
theorem kM_goDays {E : Ec} {ad : Nat → Nat} {cy : Nat → ClassId} {cc : ByteArray} {nL : Nat} {rt : Option FieldType} {r : Option Value × Ob} {pc n : Nat} {lv : List (Nat × Value)} {st : List Value} {o : Ob} {p1 : Int32} {o' : Ob} (hi : wl_inj (ΓM ad cy)) (hd : decode cc pc = .ok (.invokevirtual 174, 3)) (hq : M_goDays o p1 = some o') (hL : Lv E n) (hn : 5 + 1 ≤ n) (hW : (st.map fun v => v.category).sum ≤ 8) (k : Jw E (ΓM ad cy) RX12 cc nL rt r (pc + 3) lv (st) o') : Jw E (ΓM ad cy) RX12 cc nL rt r pc lv (.int p1 :: .ref (ad 0) :: st) o :=
  J_callV (h := 0) (ci := 11) (av := [.int p1]) (q := (none, o')) (st := st) hd (kX12_goDays hi hq) tw_5_90 tw_5_92 tw_1_13 tw_5_93 sl_3_1 ⟨by decide, by decide, pdX12_goDays⟩ (Nat.le_of_ble_eq_true rfl) rfl rfl rfl rfl (by decide) hL hn hW k
set_option maxRecDepth 20000 in
set_option maxHeartbeats 4000000 in
theorem M_ownedBy_L4_ok {E : Ec} {ad : Nat → Nat} {cy : Nat → ClassId} {rv : Int32} {o : Ob} {a1 : Int32} (hi : wl_inj (ΓM ad cy)) (hL : Lv E 0) : ∀ (n : Nat) (x2 : Int32) (x3 : Int32), M_ownedBy_L4 o a1 n x2 x3 = some rv → Jw E (ΓM ad cy) RX12 cX12_ownedBy 4 (some .int) (some (.int rv), o) 4 [(0, .ref (ad 0)), (1, .int a1), (2, .int x2), (3, .int x3)] [] o := by
  intro n
  induction n with
  | zero =>
    intro x2 x3 h
    rw [M_ownedBy_L4] at h
    cases h
  | succ n ih =>
    intro x2 x3 h
    rw [M_ownedBy_L4] at h
    refine J_iload_n (q := 3) dX12_ownedBy_4 rfl rfl ?_
    refine J_iconst dX12_ownedBy_5 ic_5 ?_
    refine J_icmp_ge (tgt := 35) dX12_ownedBy_6 (by decide) (fun c1 => ?_) (fun c1 => ?_)
    · replace h := it_some h c1
      refine J_iload_n (q := 2) dX12_ownedBy_35 rfl rfl ?_
      exact J_iret dX12_ownedBy_36 (rt_pi h) rfl
    · replace h := if_some h c1
      refine J_iload_n (q := 2) dX12_ownedBy_9 rfl rfl ?_
      refine J_aload_n (q := 0) dX12_ownedBy_10 rfl rfl ?_
      refine gM_owners dX12_ownedBy_11 ?_
      refine J_iload_n (q := 3) dX12_ownedBy_14 rfl rfl ?_
      obtain ⟨hg2, h⟩ := gd_some h
      refine aM_ld (h := 3) (n := 5) dX12_ownedBy_15 (by decide) rfl hg2 ?_
      refine J_iload_n (q := 1) dX12_ownedBy_16 rfl rfl ?_
      obtain ⟨s4, ha27, h⟩ := bd_some h
      have K27 : Jw E (ΓM ad cy) RX12 cX12_ownedBy 4 (some .int) (some (.int rv), o) 27 [(0, .ref (ad 0)), (1, .int a1), (3, .int x3)] [.int s4, .int x2] o := by
        clear ha27
        refine J_ior dX12_ownedBy_27 ?_
        refine J_ti (fun v5 ev5 => ?_)
        replace h := nm_some ev5 h
        refine J_istore_n (lv' := [(2, .int v5), (0, .ref (ad 0)), (1, .int a1), (3, .int x3)]) dX12_ownedBy_28 rfl (by decide) rfl ?_
        refine J_iinc (q := 3) (v := (x3 + (1 : Int32))) (lv' := [(3, .int (x3 + (1 : Int32))), (2, .int v5), (0, .ref (ad 0)), (1, .int a1)]) dX12_ownedBy_29 rfl (congrArg (fun z => x3 + z) ic_1) (by decide) rfl ?_
        refine J_tv (fun v6 ev6 => ?_)
        replace h := nm_some ev6 h
        refine J_goto (tgt := 4) dX12_ownedBy_32 (by decide) ?_
        exact J_sub [2, 3, 1, 0] rfl (ih _ _ h)
      clear h
      refine J_icmp_ne (tgt := 26) dX12_ownedBy_17 (by decide) (fun c3 => ?_) (fun c3 => ?_)
      · replace ha27 := if_some ha27 c3
        refine J_iconst dX12_ownedBy_26 ic_0 ?_
        cases ha27
        exact J_sub [0, 1, 3] rfl (K27)
      · replace ha27 := it_some ha27 c3
        refine J_iconst dX12_ownedBy_20 ic_1 ?_
        refine J_iload_n (q := 3) dX12_ownedBy_21 rfl rfl ?_
        refine J_ishl dX12_ownedBy_22 ?_
        refine J_goto (tgt := 27) dX12_ownedBy_23 (by decide) ?_
        cases ha27
        exact J_sub [0, 1, 3] rfl (K27)
set_option maxRecDepth 20000 in
set_option maxHeartbeats 4000000 in
theorem M_ownedBy_ok {E : Ec} {ad : Nat → Nat} {cy : Nat → ClassId} {rv : Int32} {o : Ob} {p1 : Int32} (hi : wl_inj (ΓM ad cy)) (hL : Lv E 0) (h : M_ownedBy o p1 = some rv) : Jw E (ΓM ad cy) RX12 cX12_ownedBy 4 (some .int) (some (.int rv), o) 0 [(0, .ref (ad 0)), (1, .int p1)] [] o := by
  unfold M_ownedBy at h
  refine J_iconst dX12_ownedBy_0 ic_0 ?_
  refine J_istore_n (lv' := [(2, .int (0 : Int32)), (0, .ref (ad 0)), (1, .int p1)]) dX12_ownedBy_1 rfl (by decide) rfl ?_
  refine J_iconst dX12_ownedBy_2 ic_0 ?_
  refine J_istore_n (lv' := [(3, .int (0 : Int32)), (2, .int (0 : Int32)), (0, .ref (ad 0)), (1, .int p1)]) dX12_ownedBy_3 rfl (by decide) rfl ?_
  refine J_sub [2, 3, 1, 0] rfl (M_ownedBy_L4_ok hi hL FU _ _ h)
set_option maxRecDepth 20000 in
set_option maxHeartbeats 4000000 in
theorem kX12_ownedBy {l : Launch} {D : va_G} {ad : Nat → Nat} {cy : Nat → ClassId} {rv : Int32} {o : Ob} {p1 : Int32} (hi : wl_inj (ΓM ad cy)) (h : M_ownedBy o p1 = some rv) : Cn l D (ΓM ad cy) yX12_ownedBy cX12_ownedBy 4 (some .int) 0 [.ref (ad 0), .int p1] o (some (.int rv), o) :=
  Cn.of hi rfl (Nat.le_of_ble_eq_true rfl) (fun _ _ _ hL => M_ownedBy_ok hi hL h)
set_option maxRecDepth 20000 in
set_option maxHeartbeats 4000000 in
theorem pdX12_ownedBy : (parseMethodDescriptor yX12_ownedBy.desc).map (fun d => d.parameters.length) = some 1 := by decide +kernel
set_option maxRecDepth 20000 in
set_option maxHeartbeats 4000000 in
theorem kM_ownedBy {E : Ec} {ad : Nat → Nat} {cy : Nat → ClassId} {cc : ByteArray} {nL : Nat} {rt : Option FieldType} {r : Option Value × Ob} {pc n : Nat} {lv : List (Nat × Value)} {st : List Value} {o : Ob} {p1 : Int32} {v : Int32} (hi : wl_inj (ΓM ad cy)) (hd : decode cc pc = .ok (.invokevirtual 135, 3)) (hq : M_ownedBy o p1 = some v) (hL : Lv E n) (hn : 0 + 1 ≤ n) (hW : (st.map fun v => v.category).sum ≤ 8) (k : Jw E (ΓM ad cy) RX12 cc nL rt r (pc + 3) lv (.int v :: st) o) : Jw E (ΓM ad cy) RX12 cc nL rt r pc lv (.int p1 :: .ref (ad 0) :: st) o :=
  J_callV (h := 0) (ci := 11) (av := [.int p1]) (q := (some (.int v), o)) (st := st) hd (kX12_ownedBy hi hq) tw_5_151 tw_5_153 tw_1_13 tw_5_154 sl_3_11 ⟨by decide, by decide, pdX12_ownedBy⟩ (Nat.le_of_ble_eq_true rfl) rfl rfl rfl rfl (by decide) hL hn hW k
set_option maxRecDepth 20000 in
set_option maxHeartbeats 4000000 in
theorem M_worthOf_L4_ok {E : Ec} {ad : Nat → Nat} {cy : Nat → ClassId} {rv : Int32} {o : Ob} {a1 : Int32} (hi : wl_inj (ΓM ad cy)) (hL : Lv E 0) : ∀ (n : Nat) (x2 : Int32) (x3 : Int32), M_worthOf_L4 o a1 n x2 x3 = some rv → Jw E (ΓM ad cy) RX12 cX12_worthOf 4 (some .int) (some (.int rv), o) 4 [(0, .ref (ad 0)), (1, .int a1), (2, .int x2), (3, .int x3)] [] o := by
  intro n
  induction n with
  | zero =>
    intro x2 x3 h
    rw [M_worthOf_L4] at h
    cases h
  | succ n ih =>
    intro x2 x3 h
    rw [M_worthOf_L4] at h
    refine J_iload_n (q := 3) dX12_worthOf_4 rfl rfl ?_
    refine J_iconst dX12_worthOf_5 ic_5 ?_
    refine J_icmp_ge (tgt := 38) dX12_worthOf_6 (by decide) (fun c1 => ?_) (fun c1 => ?_)
    · replace h := it_some h c1
      refine J_iload_n (q := 2) dX12_worthOf_38 rfl rfl ?_
      exact J_iret dX12_worthOf_39 (rt_pi h) rfl
    · replace h := if_some h c1
      refine J_iload_n (q := 2) dX12_worthOf_9 rfl rfl ?_
      refine J_aload_n (q := 0) dX12_worthOf_10 rfl rfl ?_
      refine gM_owners dX12_worthOf_11 ?_
      refine J_iload_n (q := 3) dX12_worthOf_14 rfl rfl ?_
      obtain ⟨hg2, h⟩ := gd_some h
      refine aM_ld (h := 3) (n := 5) dX12_worthOf_15 (by decide) rfl hg2 ?_
      refine J_iload_n (q := 1) dX12_worthOf_16 rfl rfl ?_
      obtain ⟨s5, ha30, h⟩ := bd_some h
      have K30 : Jw E (ΓM ad cy) RX12 cX12_worthOf 4 (some .int) (some (.int rv), o) 30 [(0, .ref (ad 0)), (1, .int a1), (3, .int x3)] [.int s5, .int x2] o := by
        clear ha30
        refine J_iadd dX12_worthOf_30 ?_
        refine J_ti (fun v6 ev6 => ?_)
        replace h := nm_some ev6 h
        refine J_istore_n (lv' := [(2, .int v6), (0, .ref (ad 0)), (1, .int a1), (3, .int x3)]) dX12_worthOf_31 rfl (by decide) rfl ?_
        refine J_iinc (q := 3) (v := (x3 + (1 : Int32))) (lv' := [(3, .int (x3 + (1 : Int32))), (2, .int v6), (0, .ref (ad 0)), (1, .int a1)]) dX12_worthOf_32 rfl (congrArg (fun z => x3 + z) ic_1) (by decide) rfl ?_
        refine J_tv (fun v7 ev7 => ?_)
        replace h := nm_some ev7 h
        refine J_goto (tgt := 4) dX12_worthOf_35 (by decide) ?_
        exact J_sub [2, 3, 1, 0] rfl (ih _ _ h)
      clear h
      refine J_icmp_ne (tgt := 29) dX12_worthOf_17 (by decide) (fun c3 => ?_) (fun c3 => ?_)
      · replace ha30 := if_some ha30 c3
        refine J_iconst dX12_worthOf_29 ic_0 ?_
        cases ha30
        exact J_sub [0, 1, 3] rfl (K30)
      · replace ha30 := it_some ha30 c3
        refine J_aload_n (q := 0) dX12_worthOf_20 rfl rfl ?_
        refine gM_worths dX12_worthOf_21 ?_
        refine J_iload_n (q := 3) dX12_worthOf_24 rfl rfl ?_
        obtain ⟨hg4, ha30⟩ := gd_some ha30
        refine aM_ld (h := 2) (n := 5) dX12_worthOf_25 (by decide) rfl hg4 ?_
        refine J_goto (tgt := 30) dX12_worthOf_26 (by decide) ?_
        cases ha30
        exact J_sub [0, 1, 3] rfl (K30)
set_option maxRecDepth 20000 in
set_option maxHeartbeats 4000000 in
theorem M_worthOf_ok {E : Ec} {ad : Nat → Nat} {cy : Nat → ClassId} {rv : Int32} {o : Ob} {p1 : Int32} (hi : wl_inj (ΓM ad cy)) (hL : Lv E 0) (h : M_worthOf o p1 = some rv) : Jw E (ΓM ad cy) RX12 cX12_worthOf 4 (some .int) (some (.int rv), o) 0 [(0, .ref (ad 0)), (1, .int p1)] [] o := by
  unfold M_worthOf at h
  refine J_iconst dX12_worthOf_0 ic_0 ?_
  refine J_istore_n (lv' := [(2, .int (0 : Int32)), (0, .ref (ad 0)), (1, .int p1)]) dX12_worthOf_1 rfl (by decide) rfl ?_
  refine J_iconst dX12_worthOf_2 ic_0 ?_
  refine J_istore_n (lv' := [(3, .int (0 : Int32)), (2, .int (0 : Int32)), (0, .ref (ad 0)), (1, .int p1)]) dX12_worthOf_3 rfl (by decide) rfl ?_
  refine J_sub [2, 3, 1, 0] rfl (M_worthOf_L4_ok hi hL FU _ _ h)
set_option maxRecDepth 20000 in
set_option maxHeartbeats 4000000 in
theorem kX12_worthOf {l : Launch} {D : va_G} {ad : Nat → Nat} {cy : Nat → ClassId} {rv : Int32} {o : Ob} {p1 : Int32} (hi : wl_inj (ΓM ad cy)) (h : M_worthOf o p1 = some rv) : Cn l D (ΓM ad cy) yX12_worthOf cX12_worthOf 4 (some .int) 0 [.ref (ad 0), .int p1] o (some (.int rv), o) :=
  Cn.of hi rfl (Nat.le_of_ble_eq_true rfl) (fun _ _ _ hL => M_worthOf_ok hi hL h)
set_option maxRecDepth 20000 in
set_option maxHeartbeats 4000000 in
theorem pdX12_worthOf : (parseMethodDescriptor yX12_worthOf.desc).map (fun d => d.parameters.length) = some 1 := by decide +kernel
set_option maxRecDepth 20000 in
set_option maxHeartbeats 4000000 in
theorem kM_worthOf {E : Ec} {ad : Nat → Nat} {cy : Nat → ClassId} {cc : ByteArray} {nL : Nat} {rt : Option FieldType} {r : Option Value × Ob} {pc n : Nat} {lv : List (Nat × Value)} {st : List Value} {o : Ob} {p1 : Int32} {v : Int32} (hi : wl_inj (ΓM ad cy)) (hd : decode cc pc = .ok (.invokevirtual 238, 3)) (hq : M_worthOf o p1 = some v) (hL : Lv E n) (hn : 0 + 1 ≤ n) (hW : (st.map fun v => v.category).sum ≤ 8) (k : Jw E (ΓM ad cy) RX12 cc nL rt r (pc + 3) lv (.int v :: st) o) : Jw E (ΓM ad cy) RX12 cc nL rt r pc lv (.int p1 :: .ref (ad 0) :: st) o :=
  J_callV (h := 0) (ci := 11) (av := [.int p1]) (q := (some (.int v), o)) (st := st) hd (kX12_worthOf hi hq) tw_5_213 tw_5_215 tw_1_13 tw_5_216 sl_3_14 ⟨by decide, by decide, pdX12_worthOf⟩ (Nat.le_of_ble_eq_true rfl) rfl rfl rfl rfl (by decide) hL hn hW k
set_option maxRecDepth 20000 in
set_option maxHeartbeats 4000000 in
theorem M_ownedBits_ok {E : Ec} {ad : Nat → Nat} {cy : Nat → ClassId} {rv : Int32} {o : Ob} (hi : wl_inj (ΓM ad cy)) (hL : Lv E 1) (h : M_ownedBits o = some rv) : Jw E (ΓM ad cy) RX12 cX12_ownedBits 1 (some .int) (some (.int rv), o) 0 [(0, .ref (ad 0))] [] o := by
  unfold M_ownedBits at h
  refine J_bipush dX12_ownedBits_0 bp_31 ?_
  refine J_aload_n (q := 0) dX12_ownedBits_2 rfl rfl ?_
  refine J_bipush dX12_ownedBits_3 bp_9 ?_
  obtain ⟨r1, hq2, h⟩ := bd_some h
  refine kM_ownedBy hi dX12_ownedBits_5 hq2 hL (by decide) (Nat.le_of_ble_eq_true rfl) ?_
  refine J_iconst dX12_ownedBits_8 ic_m1 ?_
  refine J_ixor dX12_ownedBits_9 ?_
  refine J_iand dX12_ownedBits_10 ?_
  exact J_iret dX12_ownedBits_11 (rt_pi h) rfl
set_option maxRecDepth 20000 in
set_option maxHeartbeats 4000000 in
theorem kX12_ownedBits {l : Launch} {D : va_G} {ad : Nat → Nat} {cy : Nat → ClassId} {rv : Int32} {o : Ob} (hi : wl_inj (ΓM ad cy)) (h : M_ownedBits o = some rv) : Cn l D (ΓM ad cy) yX12_ownedBits cX12_ownedBits 1 (some .int) 1 [.ref (ad 0)] o (some (.int rv), o) :=
  Cn.of hi rfl (Nat.le_of_ble_eq_true rfl) (fun _ _ _ hL => M_ownedBits_ok hi hL h)
set_option maxRecDepth 20000 in
set_option maxHeartbeats 4000000 in
theorem pdX12_ownedBits : (parseMethodDescriptor yX12_ownedBits.desc).map (fun d => d.parameters.length) = some 0 := by decide +kernel
set_option maxRecDepth 20000 in
set_option maxHeartbeats 4000000 in
theorem kM_ownedBits {E : Ec} {ad : Nat → Nat} {cy : Nat → ClassId} {cc : ByteArray} {nL : Nat} {rt : Option FieldType} {r : Option Value × Ob} {pc n : Nat} {lv : List (Nat × Value)} {st : List Value} {o : Ob} {v : Int32} (hi : wl_inj (ΓM ad cy)) (hd : decode cc pc = .ok (.invokevirtual 235, 3)) (hq : M_ownedBits o = some v) (hL : Lv E n) (hn : 1 + 1 ≤ n) (hW : (st.map fun v => v.category).sum ≤ 8) (k : Jw E (ΓM ad cy) RX12 cc nL rt r (pc + 3) lv (.int v :: st) o) : Jw E (ΓM ad cy) RX12 cc nL rt r pc lv (.ref (ad 0) :: st) o :=
  J_callV (h := 0) (ci := 11) (av := []) (q := (some (.int v), o)) (st := st) hd (kX12_ownedBits hi hq) tw_5_197 tw_5_199 tw_1_13 tw_5_200 sl_3_13 ⟨by decide, by decide, pdX12_ownedBits⟩ (Nat.le_of_ble_eq_true rfl) rfl rfl rfl rfl (by decide) hL hn hW k
set_option maxRecDepth 20000 in
set_option maxHeartbeats 4000000 in
theorem M_here_ok {E : Ec} {ad : Nat → Nat} {cy : Nat → ClassId} {rv : Int32} {o : Ob} (hi : wl_inj (ΓM ad cy)) (hL : Lv E 0) (h : M_here o = some rv) : Jw E (ΓM ad cy) RX12 cX12_here 1 (some .int) (some (.int rv), o) 0 [(0, .ref (ad 0))] [] o := by
  unfold M_here at h
  refine J_aload_n (q := 0) dX12_here_0 rfl rfl ?_
  refine gM_place dX12_here_1 ?_
  refine J_aload_n (q := 0) dX12_here_4 rfl rfl ?_
  refine gM_rowMany dX12_here_5 ?_
  refine J_aload_n (q := 0) dX12_here_8 rfl rfl ?_
  refine gM_reading dX12_here_9 ?_
  obtain ⟨hg1, h⟩ := gd_some h
  refine aM_ld (h := 12) (n := 8) dX12_here_12 (by decide) rfl hg1 ?_
  refine J_icmp_ge (tgt := 37) dX12_here_13 (by decide) (fun c2 => ?_) (fun c2 => ?_)
  · replace h := it_some h c2
    refine J_sipush dX12_here_37 sp_m999 ?_
    exact J_iret dX12_here_40 (rt_pi h) rfl
  · replace h := if_some h c2
    refine J_aload_n (q := 0) dX12_here_16 rfl rfl ?_
    refine gM_rows dX12_here_17 ?_
    refine J_bipush dX12_here_20 bp_100 ?_
    refine J_aload_n (q := 0) dX12_here_22 rfl rfl ?_
    refine gM_reading dX12_here_23 ?_
    refine J_imul dX12_here_26 ?_
    refine J_aload_n (q := 0) dX12_here_27 rfl rfl ?_
    refine gM_place dX12_here_28 ?_
    refine J_iadd dX12_here_31 ?_
    obtain ⟨hg3, h⟩ := gd_some h
    refine aM_lld (h := 13) (n := 800) dX12_here_32 (by decide) rfl hg3 ?_
    refine J_l2i dX12_here_33 ?_
    refine J_goto (tgt := 40) dX12_here_34 (by decide) ?_
    exact J_iret dX12_here_40 (rt_pi h) rfl
set_option maxRecDepth 20000 in
set_option maxHeartbeats 4000000 in
theorem kX12_here {l : Launch} {D : va_G} {ad : Nat → Nat} {cy : Nat → ClassId} {rv : Int32} {o : Ob} (hi : wl_inj (ΓM ad cy)) (h : M_here o = some rv) : Cn l D (ΓM ad cy) yX12_here cX12_here 1 (some .int) 0 [.ref (ad 0)] o (some (.int rv), o) :=
  Cn.of hi rfl (Nat.le_of_ble_eq_true rfl) (fun _ _ _ hL => M_here_ok hi hL h)
set_option maxRecDepth 20000 in
set_option maxHeartbeats 4000000 in
theorem pdX12_here : (parseMethodDescriptor yX12_here.desc).map (fun d => d.parameters.length) = some 0 := by decide +kernel
set_option maxRecDepth 20000 in
set_option maxHeartbeats 4000000 in
theorem kM_here {E : Ec} {ad : Nat → Nat} {cy : Nat → ClassId} {cc : ByteArray} {nL : Nat} {rt : Option FieldType} {r : Option Value × Ob} {pc n : Nat} {lv : List (Nat × Value)} {st : List Value} {o : Ob} {v : Int32} (hi : wl_inj (ΓM ad cy)) (hd : decode cc pc = .ok (.invokevirtual 148, 3)) (hq : M_here o = some v) (hL : Lv E n) (hn : 0 + 1 ≤ n) (hW : (st.map fun v => v.category).sum ≤ 8) (k : Jw E (ΓM ad cy) RX12 cc nL rt r (pc + 3) lv (.int v :: st) o) : Jw E (ΓM ad cy) RX12 cc nL rt r pc lv (.ref (ad 0) :: st) o :=
  J_callV (h := 0) (ci := 11) (av := []) (q := (some (.int v), o)) (st := st) hd (kX12_here hi hq) tw_5_37 tw_5_39 tw_1_13 tw_5_40 sl_2_7 ⟨by decide, by decide, pdX12_here⟩ (Nat.le_of_ble_eq_true rfl) rfl rfl rfl rfl (by decide) hL hn hW k
set_option maxRecDepth 20000 in
set_option maxHeartbeats 4000000 in
theorem M_readDigits_L4_ok {E : Ec} {ad : Nat → Nat} {cy : Nat → ClassId} {rv : (Int32 × Ob)} {a1 : Int32} (hi : wl_inj (ΓM ad cy)) (hL : Lv E 1) : ∀ (n : Nat) (o : Ob) (x2 : Int32) (x3 : Int32), M_readDigits_L4 a1 n o x2 x3 = some rv → Jw E (ΓM ad cy) RX12 cX12_readDigits 4 (some .int) (some (.int rv.1), rv.2) 4 [(0, .ref (ad 0)), (1, .int a1), (2, .int x2), (3, .int x3)] [] o := by
  intro n
  induction n with
  | zero =>
    intro o x2 x3 h
    rw [M_readDigits_L4] at h
    cases h
  | succ n ih =>
    intro o x2 x3 h
    rw [M_readDigits_L4] at h
    refine J_iload_n (q := 3) dX12_readDigits_4 rfl rfl ?_
    refine J_iload_n (q := 1) dX12_readDigits_5 rfl rfl ?_
    refine J_icmp_ge (tgt := 93) dX12_readDigits_6 (by decide) (fun c1 => ?_) (fun c1 => ?_)
    · replace h := it_some h c1
      refine J_iload_n (q := 2) dX12_readDigits_93 rfl rfl ?_
      exact J_iret dX12_readDigits_94 (rt_i h) rfl
    · replace h := if_some h c1
      refine J_aload_n (q := 0) dX12_readDigits_9 rfl rfl ?_
      refine J_aload_n (q := 0) dX12_readDigits_10 rfl rfl ?_
      refine gM_isBad dX12_readDigits_11 ?_
      obtain ⟨s6, ha39, h⟩ := bd_some h
      have K39 : Jw E (ΓM ad cy) RX12 cX12_readDigits 4 (some .int) (some (.int rv.1), rv.2) 39 [(0, .ref (ad 0)), (1, .int a1), (2, .int x2), (3, .int x3)] [.int s6, .ref (ad 0)] o := by
        clear ha39
        obtain ⟨hg7, h⟩ := gd_some h
        refine pM_isBad dX12_readDigits_39 hg7 ?_
        refine J_tw (fun o8 eo8 => ?_)
        replace h := nm_some eo8 h
        refine J_aload_n (q := 0) dX12_readDigits_42 rfl rfl ?_
        refine gM_isBad dX12_readDigits_43 ?_
        obtain ⟨s11, ha65, h⟩ := bd_some h
        have K65 : Jw E (ΓM ad cy) RX12 cX12_readDigits 4 (some .int) (some (.int rv.1), rv.2) 65 [(0, .ref (ad 0)), (1, .int a1), (3, .int x3)] [.int s11] o8 := by
          clear ha65
          refine J_istore_n (lv' := [(2, .int s11), (0, .ref (ad 0)), (1, .int a1), (3, .int x3)]) dX12_readDigits_65 rfl (by decide) rfl ?_
          refine J_aload_n (q := 1) dX12_readDigits_66 rfl rfl ?_
          refine J_dup dX12_readDigits_67 rfl ?_
          refine gM_place dX12_readDigits_68 ?_
          refine J_aload_n (q := 1) dX12_readDigits_71 rfl rfl ?_
          refine gM_isBad dX12_readDigits_72 ?_
          obtain ⟨s13, ha83, h⟩ := bd_some h
          have K83 : Jw E (ΓM ad cy) RX12 cX12_readDigits 4 (some .int) (some (.int rv.1), rv.2) 83 [(0, .ref (ad 0)), (1, .int a1), (2, .int s11), (3, .int x3)] [.int s13, .int (oS o8 17), .ref (ad 0)] o8 := by
            clear ha83
            refine J_iadd dX12_readDigits_83 ?_
            refine pM_place dX12_readDigits_84 ?_
            refine J_tw (fun o14 eo14 => ?_)
            replace h := nm_some eo14 h
            refine J_iinc (q := 3) (v := (x3 + (1 : Int32))) (lv' := [(3, .int (x3 + (1 : Int32))), (0, .ref (ad 0)), (1, .int a1), (2, .int s11)]) dX12_readDigits_87 rfl (congrArg (fun z => x3 + z) ic_1) (by decide) rfl ?_
            refine J_tv (fun v15 ev15 => ?_)
            replace h := nm_some ev15 h
            refine J_goto (tgt := 4) dX12_readDigits_90 (by decide) ?_
            exact J_sub [1, 2, 3, 0] rfl (ih _ _ _ h)
          clear h
          refine J_if_eq (tgt := 82) dX12_readDigits_75 (by decide) (fun c12 => ?_) (fun c12 => ?_)
          · replace ha83 := it_some ha83 c12
            refine J_iconst dX12_readDigits_82 ic_1 ?_
            cases ha83
            exact J_sub [1, 2, 0, 3] rfl (K83)
          · replace ha83 := if_some ha83 c12
            refine J_iconst dX12_readDigits_78 ic_0 ?_
            refine J_goto (tgt := 83) dX12_readDigits_79 (by decide) ?_
            cases ha83
            exact J_sub [1, 2, 0, 3] rfl (K83)
        clear h
        refine J_if_eq (tgt := 53) dX12_readDigits_46 (by decide) (fun c9 => ?_) (fun c9 => ?_)
        · replace ha65 := it_some ha65 c9
          refine J_bipush dX12_readDigits_53 bp_10 ?_
          refine J_iload_n (q := 2) dX12_readDigits_55 rfl rfl ?_
          refine J_imul dX12_readDigits_56 ?_
          refine J_aload_n (q := 0) dX12_readDigits_57 rfl rfl ?_
          obtain ⟨r10, hq16, ha65⟩ := bd_some ha65
          refine kM_here hi dX12_readDigits_58 hq16 hL (by decide) (Nat.le_of_ble_eq_true rfl) ?_
          refine J_iadd dX12_readDigits_61 ?_
          refine J_bipush dX12_readDigits_62 bp_48 ?_
          refine J_isub dX12_readDigits_64 ?_
          cases ha65
          exact J_sub [0, 1, 3] rfl (K65)
        · replace ha65 := if_some ha65 c9
          refine J_iconst dX12_readDigits_49 ic_0 ?_
          refine J_goto (tgt := 65) dX12_readDigits_50 (by decide) ?_
          cases ha65
          exact J_sub [0, 1, 3] rfl (K65)
      clear h
      obtain ⟨kk34, ekk34, ha39⟩ := jn_some ha39
      have K34 : kk34 = some (s6) → Jw E (ΓM ad cy) RX12 cX12_readDigits 4 (some .int) (some (.int rv.1), rv.2) 34 [(0, .ref (ad 0)), (1, .int a1), (2, .int x2), (3, .int x3)] [.ref (ad 0)] o := by
        subst ekk34
        clear ha39
        intro ha39
        refine J_iconst dX12_readDigits_34 ic_1 ?_
        refine J_goto (tgt := 39) dX12_readDigits_35 (by decide) ?_
        cases ha39
        exact J_sub [0, 1, 2, 3] rfl (K39)
      clear ekk34
      refine J_if_ne (tgt := 34) dX12_readDigits_14 (by decide) (fun c2 => ?_) (fun c2 => ?_)
      · replace ha39 := if_some ha39 c2
        exact J_sub [0, 1, 2, 3] rfl (K34 ha39)
      · replace ha39 := it_some ha39 c2
        refine J_aload_n (q := 0) dX12_readDigits_17 rfl rfl ?_
        obtain ⟨r3, hq17, ha39⟩ := bd_some ha39
        refine kM_here hi dX12_readDigits_18 hq17 hL (by decide) (Nat.le_of_ble_eq_true rfl) ?_
        refine J_i2l dX12_readDigits_21 ?_
        refine J_ldc2 dX12_readDigits_22 tw_5_52 ?_
        refine J_ldc2 dX12_readDigits_25 tw_5_53 ?_
        obtain ⟨r4, hq18, ha39⟩ := bd_some ha39
        refine kM_in hi dX12_readDigits_28 hq18 hL (by decide) (Nat.le_of_ble_eq_true rfl) ?_
        refine J_if_ne (tgt := 38) dX12_readDigits_31 (by decide) (fun c5 => ?_) (fun c5 => ?_)
        · replace ha39 := if_some ha39 c5
          refine J_iconst dX12_readDigits_38 ic_0 ?_
          cases ha39
          exact J_sub [0, 1, 2, 3] rfl (K39)
        · replace ha39 := it_some ha39 c5
          exact J_sub [0, 1, 2, 3] rfl (K34 ha39)
set_option maxRecDepth 20000 in
set_option maxHeartbeats 4000000 in
theorem M_readDigits_ok {E : Ec} {ad : Nat → Nat} {cy : Nat → ClassId} {rv : (Int32 × Ob)} {o : Ob} {p1 : Int32} (hi : wl_inj (ΓM ad cy)) (hL : Lv E 1) (h : M_readDigits o p1 = some rv) : Jw E (ΓM ad cy) RX12 cX12_readDigits 4 (some .int) (some (.int rv.1), rv.2) 0 [(0, .ref (ad 0)), (1, .int p1)] [] o := by
  unfold M_readDigits at h
  refine J_iconst dX12_readDigits_0 ic_0 ?_
  refine J_istore_n (lv' := [(2, .int (0 : Int32)), (0, .ref (ad 0)), (1, .int p1)]) dX12_readDigits_1 rfl (by decide) rfl ?_
  refine J_iconst dX12_readDigits_2 ic_0 ?_
  refine J_istore_n (lv' := [(3, .int (0 : Int32)), (2, .int (0 : Int32)), (0, .ref (ad 0)), (1, .int p1)]) dX12_readDigits_3 rfl (by decide) rfl ?_
  refine J_sub [2, 3, 1, 0] rfl (M_readDigits_L4_ok hi hL FU _ _ _ h)
set_option maxRecDepth 20000 in
set_option maxHeartbeats 4000000 in
theorem kX12_readDigits {l : Launch} {D : va_G} {ad : Nat → Nat} {cy : Nat → ClassId} {rv : (Int32 × Ob)} {o : Ob} {p1 : Int32} (hi : wl_inj (ΓM ad cy)) (h : M_readDigits o p1 = some rv) : Cn l D (ΓM ad cy) yX12_readDigits cX12_readDigits 4 (some .int) 1 [.ref (ad 0), .int p1] o (some (.int rv.1), rv.2) :=
  Cn.of hi rfl (Nat.le_of_ble_eq_true rfl) (fun _ _ _ hL => M_readDigits_ok hi hL h)
set_option maxRecDepth 20000 in
set_option maxHeartbeats 4000000 in
theorem pdX12_readDigits : (parseMethodDescriptor yX12_readDigits.desc).map (fun d => d.parameters.length) = some 1 := by decide +kernel
set_option maxRecDepth 20000 in
set_option maxHeartbeats 4000000 in
theorem kM_readDigits {E : Ec} {ad : Nat → Nat} {cy : Nat → ClassId} {cc : ByteArray} {nL : Nat} {rt : Option FieldType} {r : Option Value × Ob} {pc n : Nat} {lv : List (Nat × Value)} {st : List Value} {o : Ob} {p1 : Int32} {v : Int32} {o' : Ob} (hi : wl_inj (ΓM ad cy)) (hd : decode cc pc = .ok (.invokevirtual 156, 3)) (hq : M_readDigits o p1 = some (v, o')) (hL : Lv E n) (hn : 1 + 1 ≤ n) (hW : (st.map fun v => v.category).sum ≤ 8) (k : Jw E (ΓM ad cy) RX12 cc nL rt r (pc + 3) lv (.int v :: st) o') : Jw E (ΓM ad cy) RX12 cc nL rt r pc lv (.int p1 :: .ref (ad 0) :: st) o :=
  J_callV (h := 0) (ci := 11) (av := [.int p1]) (q := (some (.int v), o')) (st := st) hd (kX12_readDigits hi hq) tw_5_48 tw_5_50 tw_1_13 tw_5_51 sl_2_9 ⟨by decide, by decide, pdX12_readDigits⟩ (Nat.le_of_ble_eq_true rfl) rfl rfl rfl rfl (by decide) hL hn hW k
set_option maxRecDepth 20000 in
set_option maxHeartbeats 4000000 in
theorem M_isLetter_ok {E : Ec} {ad : Nat → Nat} {cy : Nat → ClassId} {rv : Int32} {o : Ob} {p0 : Int32} (hi : wl_inj (ΓM ad cy)) (hL : Lv E 0) (h : M_isLetter o p0 = some rv) : Jw E (ΓM ad cy) RX12 cX12_isLetter 1 (some .boolean) (some (.int rv), o) 0 [(0, .int p0)] [] o := by
  unfold M_isLetter at h
  refine J_iload_n (q := 0) dX12_isLetter_0 rfl rfl ?_
  refine J_bipush dX12_isLetter_1 bp_116 ?_
  obtain ⟨kk36, ekk36, h⟩ := jn_some h
  have K36 : kk36 = some rv → Jw E (ΓM ad cy) RX12 cX12_isLetter 1 (some .boolean) (some (.int rv), o) 36 [] [] o := by
    subst ekk36
    clear h
    intro h
    refine J_iconst dX12_isLetter_36 ic_1 ?_
    refine J_goto (tgt := 41) dX12_isLetter_37 (by decide) ?_
    exact J_zret dX12_isLetter_41 (rt_pi h) rfl rfl
  clear ekk36
  refine J_icmp_eq (tgt := 36) dX12_isLetter_3 (by decide) (fun c1 => ?_) (fun c1 => ?_)
  · replace h := it_some h c1
    exact J_sub [] rfl (K36 h)
  · replace h := if_some h c1
    refine J_iload_n (q := 0) dX12_isLetter_6 rfl rfl ?_
    refine J_bipush dX12_isLetter_7 bp_112 ?_
    refine J_icmp_eq (tgt := 36) dX12_isLetter_9 (by decide) (fun c2 => ?_) (fun c2 => ?_)
    · replace h := it_some h c2
      exact J_sub [] rfl (K36 h)
    · replace h := if_some h c2
      refine J_iload_n (q := 0) dX12_isLetter_12 rfl rfl ?_
      refine J_bipush dX12_isLetter_13 bp_108 ?_
      refine J_icmp_eq (tgt := 36) dX12_isLetter_15 (by decide) (fun c3 => ?_) (fun c3 => ?_)
      · replace h := it_some h c3
        exact J_sub [] rfl (K36 h)
      · replace h := if_some h c3
        refine J_iload_n (q := 0) dX12_isLetter_18 rfl rfl ?_
        refine J_bipush dX12_isLetter_19 bp_111 ?_
        refine J_icmp_eq (tgt := 36) dX12_isLetter_21 (by decide) (fun c4 => ?_) (fun c4 => ?_)
        · replace h := it_some h c4
          exact J_sub [] rfl (K36 h)
        · replace h := if_some h c4
          refine J_iload_n (q := 0) dX12_isLetter_24 rfl rfl ?_
          refine J_bipush dX12_isLetter_25 bp_99 ?_
          refine J_icmp_eq (tgt := 36) dX12_isLetter_27 (by decide) (fun c5 => ?_) (fun c5 => ?_)
          · replace h := it_some h c5
            exact J_sub [] rfl (K36 h)
          · replace h := if_some h c5
            refine J_iload_n (q := 0) dX12_isLetter_30 rfl rfl ?_
            refine J_bipush dX12_isLetter_31 bp_100 ?_
            refine J_icmp_ne (tgt := 40) dX12_isLetter_33 (by decide) (fun c6 => ?_) (fun c6 => ?_)
            · replace h := if_some h c6
              refine J_iconst dX12_isLetter_40 ic_0 ?_
              exact J_zret dX12_isLetter_41 (rt_pi h) rfl rfl
            · replace h := it_some h c6
              exact J_sub [] rfl (K36 h)
set_option maxRecDepth 20000 in
set_option maxHeartbeats 4000000 in
theorem kX12_isLetter {l : Launch} {D : va_G} {ad : Nat → Nat} {cy : Nat → ClassId} {rv : Int32} {o : Ob} {p0 : Int32} (hi : wl_inj (ΓM ad cy)) (h : M_isLetter o p0 = some rv) : Cn l D (ΓM ad cy) yX12_isLetter cX12_isLetter 1 (some .boolean) 0 [.int p0] o (some (.int rv), o) :=
  Cn.of hi rfl (Nat.le_of_ble_eq_true rfl) (fun _ _ _ hL => M_isLetter_ok hi hL h)
set_option maxRecDepth 20000 in
set_option maxHeartbeats 4000000 in
theorem pdX12_isLetter : (parseMethodDescriptor yX12_isLetter.desc).map (fun d => d.parameters.length) = some 1 := by decide +kernel
set_option maxRecDepth 20000 in
set_option maxHeartbeats 4000000 in
theorem kM_isLetter {E : Ec} {ad : Nat → Nat} {cy : Nat → ClassId} {cc : ByteArray} {nL : Nat} {rt : Option FieldType} {r : Option Value × Ob} {pc n : Nat} {lv : List (Nat × Value)} {st : List Value} {o : Ob} {p0 : Int32} {v : Int32} (hi : wl_inj (ΓM ad cy)) (hd : decode cc pc = .ok (.invokestatic 162, 3)) (hq : M_isLetter o p0 = some v) (hL : Lv E n) (hn : 0 + 1 ≤ n) (hW : (st.map fun v => v.category).sum ≤ 8) (k : Jw E (ΓM ad cy) RX12 cc nL rt r (pc + 3) lv (.int v :: st) o) : Jw E (ΓM ad cy) RX12 cc nL rt r pc lv (.int p0 :: st) o :=
  J_callS (av := [.int p0]) (q := (some (.int v), o)) (st := st) hd (kX12_isLetter hi hq) tw_5_41 tw_5_42 tw_1_13 tw_5_43 ⟨by decide, by decide, pdX12_isLetter⟩ rfl (by decide) hL hn hW k
set_option maxRecDepth 20000 in
set_option maxHeartbeats 4000000 in
theorem M_readNumbers_ok {E : Ec} {ad : Nat → Nat} {cy : Nat → ClassId} {rv : Ob} {o : Ob} {p1 : Int32} {p2 : Int32} (hi : wl_inj (ΓM ad cy)) (hL : Lv E 2) (h : M_readNumbers o p1 p2 = some rv) : Jw E (ΓM ad cy) RX12 cX12_readNumbers 3 none (none, rv) 0 [(0, .ref (ad 0)), (1, .int p1), (2, .int p2)] [] o := by
  unfold M_readNumbers at h
  refine J_aload_n (q := 0) dX12_readNumbers_0 rfl rfl ?_
  refine gM_told dX12_readNumbers_1 ?_
  refine J_iload_n (q := 2) dX12_readNumbers_4 rfl rfl ?_
  refine J_aload_n (q := 0) dX12_readNumbers_5 rfl rfl ?_
  refine J_iload_n (q := 1) dX12_readNumbers_6 rfl rfl ?_
  refine J_bipush dX12_readNumbers_7 bp_100 ?_
  obtain ⟨s2, ha17, h⟩ := bd_some h
  have K17 : Jw E (ΓM ad cy) RX12 cX12_readNumbers 3 none (none, rv) 17 [(0, .ref (ad 0)), (1, .int p1), (2, .int p2)] [.int s2, .ref (ad 0), .int p2, .ref (ad 16)] o := by
    clear ha17
    obtain ⟨r3, o4, hq24, h⟩ := bd2_some h
    refine kM_readDigits hi dX12_readNumbers_17 hq24 hL (by decide) (Nat.le_of_ble_eq_true rfl) ?_
    obtain ⟨hg5, h⟩ := gd_some h
    refine aM_st (h := 16) (n := 153) dX12_readNumbers_20 (by decide) rfl hg5 ?_
    refine J_tw (fun o6 eo6 => ?_)
    replace h := nm_some eo6 h
    refine J_iload_n (q := 1) dX12_readNumbers_21 rfl rfl ?_
    refine J_bipush dX12_readNumbers_22 bp_100 ?_
    obtain ⟨o14, ha50, h⟩ := bd_some h
    have K50 : Jw E (ΓM ad cy) RX12 cX12_readNumbers 3 none (none, rv) 50 [(0, .ref (ad 0)), (1, .int p1), (2, .int p2)] [] o14 := by
      clear ha50
      refine J_iload_n (q := 1) dX12_readNumbers_50 rfl rfl ?_
      refine J_bipush dX12_readNumbers_51 bp_116 ?_
      obtain ⟨kk68, ekk68, h⟩ := jn_some h
      have K68 : kk68 = some rv → Jw E (ΓM ad cy) RX12 cX12_readNumbers 3 none (none, rv) 68 [(0, .ref (ad 0)), (1, .int p1), (2, .int p2)] [] o14 := by
        subst ekk68
        clear h
        intro h
        refine J_aload_n (q := 0) dX12_readNumbers_68 rfl rfl ?_
        refine gM_told dX12_readNumbers_69 ?_
        refine J_iload_n (q := 2) dX12_readNumbers_72 rfl rfl ?_
        refine J_iconst dX12_readNumbers_73 ic_2 ?_
        refine J_iadd dX12_readNumbers_74 ?_
        refine J_aload_n (q := 0) dX12_readNumbers_75 rfl rfl ?_
        refine J_iload_n (q := 1) dX12_readNumbers_76 rfl rfl ?_
        refine J_bipush dX12_readNumbers_77 bp_108 ?_
        obtain ⟨s19, ha87, h⟩ := bd_some h
        have K87 : Jw E (ΓM ad cy) RX12 cX12_readNumbers 3 none (none, rv) 87 [] [.int s19, .ref (ad 0), .int (p2 + (2 : Int32)), .ref (ad 16)] o14 := by
          clear ha87
          obtain ⟨r20, o21, hq25, h⟩ := bd2_some h
          refine kM_readDigits hi dX12_readNumbers_87 hq25 hL (by decide) (Nat.le_of_ble_eq_true rfl) ?_
          obtain ⟨hg22, h⟩ := gd_some h
          refine aM_st (h := 16) (n := 153) dX12_readNumbers_90 (by decide) rfl hg22 ?_
          refine J_tw (fun o23 eo23 => ?_)
          replace h := nm_some eo23 h
          exact J_vret dX12_readNumbers_91 (rt_v h) rfl
        clear h
        refine J_icmp_ne (tgt := 86) dX12_readNumbers_79 (by decide) (fun c18 => ?_) (fun c18 => ?_)
        · replace ha87 := if_some ha87 c18
          refine J_iconst dX12_readNumbers_86 ic_1 ?_
          cases ha87
          exact J_sub [] rfl (K87)
        · replace ha87 := it_some ha87 c18
          refine J_iconst dX12_readNumbers_82 ic_2 ?_
          refine J_goto (tgt := 87) dX12_readNumbers_83 (by decide) ?_
          cases ha87
          exact J_sub [] rfl (K87)
      clear ekk68
      refine J_icmp_eq (tgt := 68) dX12_readNumbers_53 (by decide) (fun c15 => ?_) (fun c15 => ?_)
      · replace h := it_some h c15
        exact J_sub [0, 1, 2] rfl (K68 h)
      · replace h := if_some h c15
        refine J_iload_n (q := 1) dX12_readNumbers_56 rfl rfl ?_
        refine J_bipush dX12_readNumbers_57 bp_112 ?_
        refine J_icmp_eq (tgt := 68) dX12_readNumbers_59 (by decide) (fun c16 => ?_) (fun c16 => ?_)
        · replace h := it_some h c16
          exact J_sub [0, 1, 2] rfl (K68 h)
        · replace h := if_some h c16
          refine J_iload_n (q := 1) dX12_readNumbers_62 rfl rfl ?_
          refine J_bipush dX12_readNumbers_63 bp_108 ?_
          refine J_icmp_ne (tgt := 91) dX12_readNumbers_65 (by decide) (fun c17 => ?_) (fun c17 => ?_)
          · replace h := if_some h c17
            exact J_vret dX12_readNumbers_91 (rt_v h) rfl
          · replace h := it_some h c17
            exact J_sub [0, 1, 2] rfl (K68 h)
    clear h
    refine J_icmp_eq (tgt := 50) dX12_readNumbers_24 (by decide) (fun c7 => ?_) (fun c7 => ?_)
    · replace ha50 := it_some ha50 c7
      cases ha50
      exact J_sub [0, 1, 2] rfl (K50)
    · replace ha50 := if_some ha50 c7
      refine J_aload_n (q := 0) dX12_readNumbers_27 rfl rfl ?_
      refine gM_told dX12_readNumbers_28 ?_
      refine J_iload_n (q := 2) dX12_readNumbers_31 rfl rfl ?_
      refine J_iconst dX12_readNumbers_32 ic_1 ?_
      refine J_iadd dX12_readNumbers_33 ?_
      refine J_aload_n (q := 0) dX12_readNumbers_34 rfl rfl ?_
      refine J_iload_n (q := 1) dX12_readNumbers_35 rfl rfl ?_
      refine J_bipush dX12_readNumbers_36 bp_116 ?_
      obtain ⟨s9, ha46, ha50⟩ := bd_some ha50
      have K46 : Jw E (ΓM ad cy) RX12 cX12_readNumbers 3 none (none, rv) 46 [(0, .ref (ad 0)), (1, .int p1), (2, .int p2)] [.int s9, .ref (ad 0), .int (p2 + (1 : Int32)), .ref (ad 16)] o6 := by
        clear ha46
        obtain ⟨r10, o11, hq26, ha50⟩ := bd2_some ha50
        refine kM_readDigits hi dX12_readNumbers_46 hq26 hL (by decide) (Nat.le_of_ble_eq_true rfl) ?_
        obtain ⟨hg12, ha50⟩ := gd_some ha50
        refine aM_st (h := 16) (n := 153) dX12_readNumbers_49 (by decide) rfl hg12 ?_
        refine J_tw (fun o13 eo13 => ?_)
        replace ha50 := nm_some eo13 ha50
        cases ha50
        exact J_sub [0, 1, 2] rfl (K50)
      clear ha50
      refine J_icmp_ne (tgt := 45) dX12_readNumbers_38 (by decide) (fun c8 => ?_) (fun c8 => ?_)
      · replace ha46 := if_some ha46 c8
        refine J_iconst dX12_readNumbers_45 ic_1 ?_
        cases ha46
        exact J_sub [0, 1, 2] rfl (K46)
      · replace ha46 := it_some ha46 c8
        refine J_iconst dX12_readNumbers_41 ic_4 ?_
        refine J_goto (tgt := 46) dX12_readNumbers_42 (by decide) ?_
        cases ha46
        exact J_sub [0, 1, 2] rfl (K46)
  clear h
  refine J_icmp_ne (tgt := 16) dX12_readNumbers_9 (by decide) (fun c1 => ?_) (fun c1 => ?_)
  · replace ha17 := if_some ha17 c1
    refine J_iconst dX12_readNumbers_16 ic_1 ?_
    cases ha17
    exact J_sub [0, 1, 2] rfl (K17)
  · replace ha17 := it_some ha17 c1
    refine J_iconst dX12_readNumbers_12 ic_2 ?_
    refine J_goto (tgt := 17) dX12_readNumbers_13 (by decide) ?_
    cases ha17
    exact J_sub [0, 1, 2] rfl (K17)
set_option maxRecDepth 20000 in
set_option maxHeartbeats 4000000 in
theorem kX12_readNumbers {l : Launch} {D : va_G} {ad : Nat → Nat} {cy : Nat → ClassId} {rv : Ob} {o : Ob} {p1 : Int32} {p2 : Int32} (hi : wl_inj (ΓM ad cy)) (h : M_readNumbers o p1 p2 = some rv) : Cn l D (ΓM ad cy) yX12_readNumbers cX12_readNumbers 3 none 2 [.ref (ad 0), .int p1, .int p2] o (none, rv) :=
  Cn.of hi rfl (Nat.le_of_ble_eq_true rfl) (fun _ _ _ hL => M_readNumbers_ok hi hL h)
set_option maxRecDepth 20000 in
set_option maxHeartbeats 4000000 in
theorem pdX12_readNumbers : (parseMethodDescriptor yX12_readNumbers.desc).map (fun d => d.parameters.length) = some 2 := by decide +kernel
set_option maxRecDepth 20000 in
set_option maxHeartbeats 4000000 in
theorem kM_readNumbers {E : Ec} {ad : Nat → Nat} {cy : Nat → ClassId} {cc : ByteArray} {nL : Nat} {rt : Option FieldType} {r : Option Value × Ob} {pc n : Nat} {lv : List (Nat × Value)} {st : List Value} {o : Ob} {p1 : Int32} {p2 : Int32} {o' : Ob} (hi : wl_inj (ΓM ad cy)) (hd : decode cc pc = .ok (.invokevirtual 165, 3)) (hq : M_readNumbers o p1 p2 = some o') (hL : Lv E n) (hn : 2 + 1 ≤ n) (hW : (st.map fun v => v.category).sum ≤ 8) (k : Jw E (ΓM ad cy) RX12 cc nL rt r (pc + 3) lv (st) o') : Jw E (ΓM ad cy) RX12 cc nL rt r pc lv (.int p2 :: .int p1 :: .ref (ad 0) :: st) o :=
  J_callV (h := 0) (ci := 11) (av := [.int p1, .int p2]) (q := (none, o')) (st := st) hd (kX12_readNumbers hi hq) tw_5_44 tw_5_46 tw_1_13 tw_5_47 sl_2_8 ⟨by decide, by decide, pdX12_readNumbers⟩ (Nat.le_of_ble_eq_true rfl) rfl rfl rfl rfl (by decide) hL hn hW k
set_option maxRecDepth 20000 in
set_option maxHeartbeats 4000000 in
theorem M_readStatement_ok {E : Ec} {ad : Nat → Nat} {cy : Nat → ClassId} {rv : Ob} {o : Ob} (hi : wl_inj (ΓM ad cy)) (hL : Lv E 3) (h : M_readStatement o = some rv) : Jw E (ΓM ad cy) RX12 cX12_readStatement 3 none (none, rv) 0 [(0, .ref (ad 0))] [] o := by
  unfold M_readStatement at h
  refine J_aload_n (q := 0) dX12_readStatement_0 rfl rfl ?_
  refine gM_statements dX12_readStatement_1 ?_
  refine J_ti (fun v1 ev1 => ?_)
  replace h := nm_some ev1 h
  refine J_istore_n (lv' := [(1, .int v1), (0, .ref (ad 0))]) dX12_readStatement_4 rfl (by decide) rfl ?_
  refine J_aload_n (q := 1) dX12_readStatement_5 rfl rfl ?_
  obtain ⟨r2, hq29, h⟩ := bd_some h
  refine kM_here hi dX12_readStatement_6 hq29 hL (by decide) (Nat.le_of_ble_eq_true rfl) ?_
  refine J_istore_n (lv' := [(2, .int r2), (1, .int v1), (0, .ref (ad 0))]) dX12_readStatement_9 rfl (by decide) rfl ?_
  refine J_aload_n (q := 2) dX12_readStatement_10 rfl rfl ?_
  refine gM_placeIn dX12_readStatement_11 ?_
  refine J_iload_n (q := 1) dX12_readStatement_14 rfl rfl ?_
  refine J_aload_n (q := 2) dX12_readStatement_15 rfl rfl ?_
  refine gM_place dX12_readStatement_16 ?_
  obtain ⟨hg3, h⟩ := gd_some h
  refine aM_st (h := 14) (n := 51) dX12_readStatement_19 (by decide) rfl hg3 ?_
  refine J_tw (fun o4 eo4 => ?_)
  replace h := nm_some eo4 h
  refine J_aload_n (q := 2) dX12_readStatement_20 rfl rfl ?_
  refine gM_letterOf dX12_readStatement_21 ?_
  refine J_iload_n (q := 1) dX12_readStatement_24 rfl rfl ?_
  refine J_iload_n (q := 0) dX12_readStatement_25 rfl rfl ?_
  obtain ⟨hg5, h⟩ := gd_some h
  refine aM_st (h := 15) (n := 51) dX12_readStatement_26 (by decide) rfl hg5 ?_
  refine J_tw (fun o6 eo6 => ?_)
  replace h := nm_some eo6 h
  refine J_aload_n (q := 2) dX12_readStatement_27 rfl rfl ?_
  refine J_aload_n (q := 2) dX12_readStatement_28 rfl rfl ?_
  refine gM_isBad dX12_readStatement_29 ?_
  obtain ⟨s10, ha47, h⟩ := bd_some h
  have K47 : Jw E (ΓM ad cy) RX12 cX12_readStatement 3 none (none, rv) 47 [(0, .ref (ad 0)), (1, .int v1), (2, .int r2)] [.int s10, .ref (ad 0)] o6 := by
    clear ha47
    obtain ⟨hg11, h⟩ := gd_some h
    refine pM_isBad dX12_readStatement_47 hg11 ?_
    refine J_tw (fun o12 eo12 => ?_)
    replace h := nm_some eo12 h
    refine J_aload_n (q := 0) dX12_readStatement_50 rfl rfl ?_
    refine J_dup dX12_readStatement_51 rfl ?_
    refine gM_place dX12_readStatement_52 ?_
    refine J_aload_n (q := 0) dX12_readStatement_55 rfl rfl ?_
    refine gM_isBad dX12_readStatement_56 ?_
    obtain ⟨s14, ha67, h⟩ := bd_some h
    have K67 : Jw E (ΓM ad cy) RX12 cX12_readStatement 3 none (none, rv) 67 [(0, .ref (ad 0)), (1, .int v1), (2, .int r2)] [.int s14, .int (oS o12 17), .ref (ad 0)] o12 := by
      clear ha67
      refine J_iadd dX12_readStatement_67 ?_
      refine pM_place dX12_readStatement_68 ?_
      refine J_tw (fun o15 eo15 => ?_)
      replace h := nm_some eo15 h
      refine J_aload_n (q := 0) dX12_readStatement_71 rfl rfl ?_
      refine gM_isBad dX12_readStatement_72 ?_
      obtain ⟨o18, ha86, h⟩ := bd_some h
      have K86 : Jw E (ΓM ad cy) RX12 cX12_readStatement 3 none (none, rv) 86 [(0, .ref (ad 0))] [] o18 := by
        clear ha86
        refine J_aload_n (q := 0) dX12_readStatement_86 rfl rfl ?_
        refine J_aload_n (q := 0) dX12_readStatement_87 rfl rfl ?_
        refine gM_isBad dX12_readStatement_88 ?_
        obtain ⟨s22, ha108, h⟩ := bd_some h
        have K108 : Jw E (ΓM ad cy) RX12 cX12_readStatement 3 none (none, rv) 108 [(0, .ref (ad 0))] [.int s22, .ref (ad 0)] o18 := by
          clear ha108
          obtain ⟨hg23, h⟩ := gd_some h
          refine pM_isBad dX12_readStatement_108 hg23 ?_
          refine J_tw (fun o24 eo24 => ?_)
          replace h := nm_some eo24 h
          refine J_aload_n (q := 0) dX12_readStatement_111 rfl rfl ?_
          refine J_dup dX12_readStatement_112 rfl ?_
          refine gM_place dX12_readStatement_113 ?_
          refine J_aload_n (q := 0) dX12_readStatement_116 rfl rfl ?_
          refine gM_isBad dX12_readStatement_117 ?_
          obtain ⟨s26, ha128, h⟩ := bd_some h
          have K128 : Jw E (ΓM ad cy) RX12 cX12_readStatement 3 none (none, rv) 128 [(0, .ref (ad 0))] [.int s26, .int (oS o24 17), .ref (ad 0)] o24 := by
            clear ha128
            refine J_iadd dX12_readStatement_128 ?_
            refine pM_place dX12_readStatement_129 ?_
            refine J_tw (fun o27 eo27 => ?_)
            replace h := nm_some eo27 h
            refine J_aload_n (q := 0) dX12_readStatement_132 rfl rfl ?_
            refine J_dup dX12_readStatement_133 rfl ?_
            refine gM_statements dX12_readStatement_134 ?_
            refine J_iconst dX12_readStatement_137 ic_1 ?_
            refine J_iadd dX12_readStatement_138 ?_
            refine pM_statements dX12_readStatement_139 ?_
            refine J_tw (fun o28 eo28 => ?_)
            replace h := nm_some eo28 h
            exact J_vret dX12_readStatement_142 (rt_v h) rfl
          clear h
          refine J_if_eq (tgt := 127) dX12_readStatement_120 (by decide) (fun c25 => ?_) (fun c25 => ?_)
          · replace ha128 := it_some ha128 c25
            refine J_iconst dX12_readStatement_127 ic_1 ?_
            cases ha128
            exact J_sub [0] rfl (K128)
          · replace ha128 := if_some ha128 c25
            refine J_iconst dX12_readStatement_123 ic_0 ?_
            refine J_goto (tgt := 128) dX12_readStatement_124 (by decide) ?_
            cases ha128
            exact J_sub [0] rfl (K128)
        clear h
        obtain ⟨kk103, ekk103, ha108⟩ := jn_some ha108
        have K103 : kk103 = some (s22) → Jw E (ΓM ad cy) RX12 cX12_readStatement 3 none (none, rv) 103 [(0, .ref (ad 0))] [.ref (ad 0)] o18 := by
          subst ekk103
          clear ha108
          intro ha108
          refine J_iconst dX12_readStatement_103 ic_1 ?_
          refine J_goto (tgt := 108) dX12_readStatement_104 (by decide) ?_
          cases ha108
          exact J_sub [0] rfl (K108)
        clear ekk103
        refine J_if_ne (tgt := 103) dX12_readStatement_91 (by decide) (fun c19 => ?_) (fun c19 => ?_)
        · replace ha108 := if_some ha108 c19
          exact J_sub [0] rfl (K103 ha108)
        · replace ha108 := it_some ha108 c19
          refine J_aload_n (q := 0) dX12_readStatement_94 rfl rfl ?_
          obtain ⟨r20, hq30, ha108⟩ := bd_some ha108
          refine kM_here hi dX12_readStatement_95 hq30 hL (by decide) (Nat.le_of_ble_eq_true rfl) ?_
          refine J_bipush dX12_readStatement_98 bp_59 ?_
          refine J_icmp_eq (tgt := 107) dX12_readStatement_100 (by decide) (fun c21 => ?_) (fun c21 => ?_)
          · replace ha108 := it_some ha108 c21
            refine J_iconst dX12_readStatement_107 ic_0 ?_
            cases ha108
            exact J_sub [0] rfl (K108)
          · replace ha108 := if_some ha108 c21
            exact J_sub [0] rfl (K103 ha108)
      clear h
      refine J_if_ne (tgt := 86) dX12_readStatement_75 (by decide) (fun c16 => ?_) (fun c16 => ?_)
      · replace ha86 := if_some ha86 c16
        cases ha86
        exact J_sub [0] rfl (K86)
      · replace ha86 := it_some ha86 c16
        refine J_aload_n (q := 0) dX12_readStatement_78 rfl rfl ?_
        refine J_iload_n (q := 2) dX12_readStatement_79 rfl rfl ?_
        refine J_iconst dX12_readStatement_80 ic_3 ?_
        refine J_iload_n (q := 1) dX12_readStatement_81 rfl rfl ?_
        refine J_imul dX12_readStatement_82 ?_
        obtain ⟨o17, hq31, ha86⟩ := bd_some ha86
        refine kM_readNumbers hi dX12_readStatement_83 hq31 hL (by decide) (Nat.le_of_ble_eq_true rfl) ?_
        cases ha86
        exact J_sub [0] rfl (K86)
    clear h
    refine J_if_eq (tgt := 66) dX12_readStatement_59 (by decide) (fun c13 => ?_) (fun c13 => ?_)
    · replace ha67 := it_some ha67 c13
      refine J_iconst dX12_readStatement_66 ic_1 ?_
      cases ha67
      exact J_sub [0, 1, 2] rfl (K67)
    · replace ha67 := if_some ha67 c13
      refine J_iconst dX12_readStatement_62 ic_0 ?_
      refine J_goto (tgt := 67) dX12_readStatement_63 (by decide) ?_
      cases ha67
      exact J_sub [0, 1, 2] rfl (K67)
  clear h
  obtain ⟨kk42, ekk42, ha47⟩ := jn_some ha47
  have K42 : kk42 = some (s10) → Jw E (ΓM ad cy) RX12 cX12_readStatement 3 none (none, rv) 42 [(0, .ref (ad 0)), (1, .int v1), (2, .int r2)] [.ref (ad 0)] o6 := by
    subst ekk42
    clear ha47
    intro ha47
    refine J_iconst dX12_readStatement_42 ic_1 ?_
    refine J_goto (tgt := 47) dX12_readStatement_43 (by decide) ?_
    cases ha47
    exact J_sub [0, 1, 2] rfl (K47)
  clear ekk42
  refine J_if_ne (tgt := 42) dX12_readStatement_32 (by decide) (fun c7 => ?_) (fun c7 => ?_)
  · replace ha47 := if_some ha47 c7
    exact J_sub [2, 1, 0] rfl (K42 ha47)
  · replace ha47 := it_some ha47 c7
    refine J_iload_n (q := 0) dX12_readStatement_35 rfl rfl ?_
    obtain ⟨r8, hq32, ha47⟩ := bd_some ha47
    refine kM_isLetter hi dX12_readStatement_36 hq32 hL (by decide) (Nat.le_of_ble_eq_true rfl) ?_
    refine J_if_ne (tgt := 46) dX12_readStatement_39 (by decide) (fun c9 => ?_) (fun c9 => ?_)
    · replace ha47 := if_some ha47 c9
      refine J_iconst dX12_readStatement_46 ic_0 ?_
      cases ha47
      exact J_sub [2, 1, 0] rfl (K47)
    · replace ha47 := it_some ha47 c9
      exact J_sub [2, 1, 0] rfl (K42 ha47)
set_option maxRecDepth 20000 in
set_option maxHeartbeats 4000000 in
theorem kX12_readStatement {l : Launch} {D : va_G} {ad : Nat → Nat} {cy : Nat → ClassId} {rv : Ob} {o : Ob} (hi : wl_inj (ΓM ad cy)) (h : M_readStatement o = some rv) : Cn l D (ΓM ad cy) yX12_readStatement cX12_readStatement 3 none 3 [.ref (ad 0)] o (none, rv) :=
  Cn.of hi rfl (Nat.le_of_ble_eq_true rfl) (fun _ _ _ hL => M_readStatement_ok hi hL h)
set_option maxRecDepth 20000 in
set_option maxHeartbeats 4000000 in
theorem pdX12_readStatement : (parseMethodDescriptor yX12_readStatement.desc).map (fun d => d.parameters.length) = some 0 := by decide +kernel
set_option maxRecDepth 20000 in
set_option maxHeartbeats 4000000 in
theorem kM_readStatement {E : Ec} {ad : Nat → Nat} {cy : Nat → ClassId} {cc : ByteArray} {nL : Nat} {rt : Option FieldType} {r : Option Value × Ob} {pc n : Nat} {lv : List (Nat × Value)} {st : List Value} {o : Ob} {o' : Ob} (hi : wl_inj (ΓM ad cy)) (hd : decode cc pc = .ok (.invokevirtual 190, 3)) (hq : M_readStatement o = some o') (hL : Lv E n) (hn : 3 + 1 ≤ n) (hW : (st.map fun v => v.category).sum ≤ 8) (k : Jw E (ΓM ad cy) RX12 cc nL rt r (pc + 3) lv (st) o') : Jw E (ΓM ad cy) RX12 cc nL rt r pc lv (.ref (ad 0) :: st) o :=
  J_callV (h := 0) (ci := 11) (av := []) (q := (none, o')) (st := st) hd (kX12_readStatement hi hq) tw_5_33 tw_5_35 tw_1_13 tw_5_36 sl_2_6 ⟨by decide, by decide, pdX12_readStatement⟩ (Nat.le_of_ble_eq_true rfl) rfl rfl rfl rfl (by decide) hL hn hW k
set_option maxRecDepth 20000 in
set_option maxHeartbeats 4000000 in
theorem M_oneComes_L67_ok {E : Ec} {ad : Nat → Nat} {cy : Nat → ClassId} {rv : (Int32 × Ob)} {k94 : Ob → Option (Int32 × Ob)} {a4 : Int32} (hi : wl_inj (ΓM ad cy)) (hL : Lv E 3) (hk94 : ∀ (yw : Ob), k94 yw = some rv → Jw E (ΓM ad cy) RX12 cX12_oneComes 6 (some .boolean) (some (.int rv.1), rv.2) 94 [(0, .ref (ad 0)), (4, .int a4)] [] yw) : ∀ (n : Nat) (o : Ob) (x5 : Int32), M_oneComes_L67 k94 a4 n o x5 = some rv → Jw E (ΓM ad cy) RX12 cX12_oneComes 6 (some .boolean) (some (.int rv.1), rv.2) 67 [(0, .ref (ad 0)), (4, .int a4), (5, .int x5)] [] o := by
  intro n
  induction n with
  | zero =>
    intro o x5 h
    rw [M_oneComes_L67] at h
    cases h
  | succ n ih =>
    intro o x5 h
    rw [M_oneComes_L67] at h
    refine J_iload (q := 2) dX12_oneComes_67 rfl ?_
    refine J_iconst dX12_oneComes_69 ic_5 ?_
    refine J_icmp_ge (tgt := 94) dX12_oneComes_70 (by decide) (fun c14 => ?_) (fun c14 => ?_)
    · replace h := it_some h c14
      exact J_sub [0, 1] rfl (hk94 _ h)
    · replace h := if_some h c14
      refine J_aload_n (q := 0) dX12_oneComes_73 rfl rfl ?_
      refine gM_knows dX12_oneComes_74 ?_
      refine J_iconst dX12_oneComes_77 ic_5 ?_
      refine J_aload_n (q := 0) dX12_oneComes_78 rfl rfl ?_
      refine gM_many dX12_oneComes_79 ?_
      refine J_imul dX12_oneComes_82 ?_
      refine J_iload (q := 2) dX12_oneComes_83 rfl ?_
      refine J_iadd dX12_oneComes_85 ?_
      refine J_iconst dX12_oneComes_86 ic_0 ?_
      obtain ⟨hg15, h⟩ := gd_some h
      refine aM_st (h := 7) (n := 35) dX12_oneComes_87 (by decide) rfl hg15 ?_
      refine J_tw (fun o16 eo16 => ?_)
      replace h := nm_some eo16 h
      refine J_iinc (q := 2) (v := (x5 + (1 : Int32))) (lv' := [(5, .int (x5 + (1 : Int32))), (0, .ref (ad 0)), (4, .int a4)]) dX12_oneComes_88 rfl (congrArg (fun z => x5 + z) ic_1) (by decide) rfl ?_
      refine J_tv (fun v17 ev17 => ?_)
      replace h := nm_some ev17 h
      refine J_goto (tgt := 67) dX12_oneComes_91 (by decide) ?_
      exact J_sub [1, 2, 0] rfl (ih _ _ h)
set_option maxRecDepth 20000 in
set_option maxHeartbeats 4000000 in
theorem M_oneComes_ok {E : Ec} {ad : Nat → Nat} {cy : Nat → ClassId} {rv : (Int32 × Ob)} {o : Ob} {p1 : Int32} {p2 : Int32} {p3 : Int32} (hi : wl_inj (ΓM ad cy)) (hL : Lv E 3) (h : M_oneComes o p1 p2 p3 = some rv) : Jw E (ΓM ad cy) RX12 cX12_oneComes 6 (some .boolean) (some (.int rv.1), rv.2) 0 [(0, .ref (ad 0)), (1, .int p1), (2, .int p2), (3, .int p3)] [] o := by
  unfold M_oneComes at h
  refine J_iload_n (q := 1) dX12_oneComes_0 rfl rfl ?_
  refine J_bipush dX12_oneComes_1 bp_8 ?_
  obtain ⟨s5, ha27, h⟩ := bd_some h
  have K27 : Jw E (ΓM ad cy) RX12 cX12_oneComes 6 (some .boolean) (some (.int rv.1), rv.2) 27 [(0, .ref (ad 0)), (1, .int p1), (2, .int p2), (3, .int p3)] [.int s5] o := by
    clear ha27
    refine J_istore (lv' := [(4, .int s5), (0, .ref (ad 0)), (1, .int p1), (2, .int p2), (3, .int p3)]) dX12_oneComes_27 (by decide) rfl ?_
    refine J_iload (q := 0) dX12_oneComes_29 rfl ?_
    refine J_if_eq (tgt := 104) dX12_oneComes_31 (by decide) (fun c6 => ?_) (fun c6 => ?_)
    · replace h := it_some h c6
      refine J_iload (q := 0) dX12_oneComes_104 rfl ?_
      obtain ⟨hg7, h⟩ := gd_some h
      exact J_zret dX12_oneComes_106 (rt_i h) rfl hg7
    · replace h := if_some h c6
      refine J_aload_n (q := 1) dX12_oneComes_34 rfl rfl ?_
      refine gM_kinds dX12_oneComes_35 ?_
      refine J_aload_n (q := 1) dX12_oneComes_38 rfl rfl ?_
      refine gM_many dX12_oneComes_39 ?_
      refine J_iload_n (q := 2) dX12_oneComes_42 rfl rfl ?_
      obtain ⟨hg8, h⟩ := gd_some h
      refine aM_st (h := 4) (n := 7) dX12_oneComes_43 (by decide) rfl hg8 ?_
      refine J_tw (fun o9 eo9 => ?_)
      replace h := nm_some eo9 h
      refine J_aload_n (q := 1) dX12_oneComes_44 rfl rfl ?_
      refine gM_figures dX12_oneComes_45 ?_
      refine J_aload_n (q := 1) dX12_oneComes_48 rfl rfl ?_
      refine gM_many dX12_oneComes_49 ?_
      refine J_iload_n (q := 3) dX12_oneComes_52 rfl rfl ?_
      obtain ⟨hg10, h⟩ := gd_some h
      refine aM_st (h := 5) (n := 7) dX12_oneComes_53 (by decide) rfl hg10 ?_
      refine J_tw (fun o11 eo11 => ?_)
      replace h := nm_some eo11 h
      refine J_aload_n (q := 1) dX12_oneComes_54 rfl rfl ?_
      refine gM_caring dX12_oneComes_55 ?_
      refine J_aload_n (q := 1) dX12_oneComes_58 rfl rfl ?_
      refine gM_many dX12_oneComes_59 ?_
      refine J_iload_n (q := 4) dX12_oneComes_62 rfl rfl ?_
      obtain ⟨hg12, h⟩ := gd_some h
      refine aM_st (h := 6) (n := 7) dX12_oneComes_63 (by decide) rfl hg12 ?_
      refine J_tw (fun o13 eo13 => ?_)
      replace h := nm_some eo13 h
      refine J_iconst dX12_oneComes_64 ic_0 ?_
      refine J_istore (lv' := [(5, .int (0 : Int32)), (4, .int s5), (0, .ref (ad 0)), (1, .int p1), (2, .int p2), (3, .int p3)]) dX12_oneComes_65 (by decide) rfl ?_
      refine J_sub [2, 1, 0] rfl (M_oneComes_L67_ok hi hL (fun o18 h => ?_) FU _ _ h)
      refine J_aload_n (q := 0) dX12_oneComes_94 rfl rfl ?_
      refine J_dup dX12_oneComes_95 rfl ?_
      refine gM_many dX12_oneComes_96 ?_
      refine J_iconst dX12_oneComes_99 ic_1 ?_
      refine J_iadd dX12_oneComes_100 ?_
      refine pM_many dX12_oneComes_101 ?_
      refine J_tw (fun o19 eo19 => ?_)
      replace h := nm_some eo19 h
      refine J_iload (q := 1) dX12_oneComes_104 rfl ?_
      obtain ⟨hg20, h⟩ := gd_some h
      exact J_zret dX12_oneComes_106 (rt_i h) rfl hg20
  clear h
  obtain ⟨kk26, ekk26, ha27⟩ := jn_some ha27
  have K26 : kk26 = some (s5) → Jw E (ΓM ad cy) RX12 cX12_oneComes 6 (some .boolean) (some (.int rv.1), rv.2) 26 [(0, .ref (ad 0)), (1, .int p1), (2, .int p2), (3, .int p3)] [] o := by
    subst ekk26
    clear ha27
    intro ha27
    refine J_iconst dX12_oneComes_26 ic_0 ?_
    cases ha27
    exact J_sub [0, 1, 2, 3] rfl (K27)
  clear ekk26
  refine J_icmp_ge (tgt := 26) dX12_oneComes_3 (by decide) (fun c1 => ?_) (fun c1 => ?_)
  · replace ha27 := it_some ha27 c1
    exact J_sub [0, 1, 2, 3] rfl (K26 ha27)
  · replace ha27 := if_some ha27 c1
    refine J_iload_n (q := 3) dX12_oneComes_6 rfl rfl ?_
    obtain ⟨r2, hq21, ha27⟩ := bd_some ha27
    refine kM_isCare hi dX12_oneComes_7 hq21 hL (by decide) (Nat.le_of_ble_eq_true rfl) ?_
    refine J_if_eq (tgt := 26) dX12_oneComes_10 (by decide) (fun c3 => ?_) (fun c3 => ?_)
    · replace ha27 := it_some ha27 c3
      exact J_sub [0, 1, 2, 3] rfl (K26 ha27)
    · replace ha27 := if_some ha27 c3
      refine J_aload_n (q := 0) dX12_oneComes_13 rfl rfl ?_
      refine gM_many dX12_oneComes_14 ?_
      refine J_bipush dX12_oneComes_17 bp_7 ?_
      refine J_icmp_ge (tgt := 26) dX12_oneComes_19 (by decide) (fun c4 => ?_) (fun c4 => ?_)
      · replace ha27 := it_some ha27 c4
        exact J_sub [0, 1, 2, 3] rfl (K26 ha27)
      · replace ha27 := if_some ha27 c4
        refine J_iconst dX12_oneComes_22 ic_1 ?_
        refine J_goto (tgt := 27) dX12_oneComes_23 (by decide) ?_
        cases ha27
        exact J_sub [0, 1, 2, 3] rfl (K27)
set_option maxRecDepth 20000 in
set_option maxHeartbeats 4000000 in
theorem kX12_oneComes {l : Launch} {D : va_G} {ad : Nat → Nat} {cy : Nat → ClassId} {rv : (Int32 × Ob)} {o : Ob} {p1 : Int32} {p2 : Int32} {p3 : Int32} (hi : wl_inj (ΓM ad cy)) (h : M_oneComes o p1 p2 p3 = some rv) : Cn l D (ΓM ad cy) yX12_oneComes cX12_oneComes 6 (some .boolean) 3 [.ref (ad 0), .int p1, .int p2, .int p3] o (some (.int rv.1), rv.2) :=
  Cn.of hi rfl (Nat.le_of_ble_eq_true rfl) (fun _ _ _ hL => M_oneComes_ok hi hL h)
set_option maxRecDepth 20000 in
set_option maxHeartbeats 4000000 in
theorem pdX12_oneComes : (parseMethodDescriptor yX12_oneComes.desc).map (fun d => d.parameters.length) = some 3 := by decide +kernel
set_option maxRecDepth 20000 in
set_option maxHeartbeats 4000000 in
theorem kM_oneComes {E : Ec} {ad : Nat → Nat} {cy : Nat → ClassId} {cc : ByteArray} {nL : Nat} {rt : Option FieldType} {r : Option Value × Ob} {pc n : Nat} {lv : List (Nat × Value)} {st : List Value} {o : Ob} {p1 : Int32} {p2 : Int32} {p3 : Int32} {v : Int32} {o' : Ob} (hi : wl_inj (ΓM ad cy)) (hd : decode cc pc = .ok (.invokevirtual 177, 3)) (hq : M_oneComes o p1 p2 p3 = some (v, o')) (hL : Lv E n) (hn : 3 + 1 ≤ n) (hW : (st.map fun v => v.category).sum ≤ 8) (k : Jw E (ΓM ad cy) RX12 cc nL rt r (pc + 3) lv (.int v :: st) o') : Jw E (ΓM ad cy) RX12 cc nL rt r pc lv (.int p3 :: .int p2 :: .int p1 :: .ref (ad 0) :: st) o :=
  J_callV (h := 0) (ci := 11) (av := [.int p1, .int p2, .int p3]) (q := (some (.int v), o')) (st := st) hd (kX12_oneComes hi hq) tw_5_74 tw_5_76 tw_1_13 tw_5_77 sl_2_14 ⟨by decide, by decide, pdX12_oneComes⟩ (Nat.le_of_ble_eq_true rfl) rfl rfl rfl rfl (by decide) hL hn hW k
set_option maxRecDepth 20000 in
set_option maxHeartbeats 4000000 in
theorem M_daysCome_ok {E : Ec} {ad : Nat → Nat} {cy : Nat → ClassId} {rv : (Int32 × Ob)} {o : Ob} {p1 : Int32} (hi : wl_inj (ΓM ad cy)) (hL : Lv E 6) (h : M_daysCome o p1 = some rv) : Jw E (ΓM ad cy) RX12 cX12_daysCome 3 (some .boolean) (some (.int rv.1), rv.2) 0 [(0, .ref (ad 0)), (1, .int p1)] [] o := by
  unfold M_daysCome at h
  refine J_iload_n (q := 1) dX12_daysCome_0 rfl rfl ?_
  refine J_i2l dX12_daysCome_1 ?_
  refine J_lconst dX12_daysCome_2 lc_1 ?_
  refine J_ldc2 dX12_daysCome_3 tw_5_89 ?_
  obtain ⟨r1, hq9, h⟩ := bd_some h
  refine kM_in hi dX12_daysCome_6 hq9 hL (by decide) (Nat.le_of_ble_eq_true rfl) ?_
  obtain ⟨s4, ha29, h⟩ := bd_some h
  have K29 : Jw E (ΓM ad cy) RX12 cX12_daysCome 3 (some .boolean) (some (.int rv.1), rv.2) 29 [(0, .ref (ad 0)), (1, .int p1)] [.int s4] o := by
    clear ha29
    refine J_istore_n (lv' := [(2, .int s4), (0, .ref (ad 0)), (1, .int p1)]) dX12_daysCome_29 rfl (by decide) rfl ?_
    refine J_iload_n (q := 0) dX12_daysCome_30 rfl rfl ?_
    refine J_if_eq (tgt := 39) dX12_daysCome_31 (by decide) (fun c5 => ?_) (fun c5 => ?_)
    · replace h := it_some h c5
      refine J_iload_n (q := 0) dX12_daysCome_39 rfl rfl ?_
      obtain ⟨hg6, h⟩ := gd_some h
      exact J_zret dX12_daysCome_40 (rt_i h) rfl hg6
    · replace h := if_some h c5
      refine J_aload_n (q := 1) dX12_daysCome_34 rfl rfl ?_
      refine J_iload_n (q := 2) dX12_daysCome_35 rfl rfl ?_
      obtain ⟨o7, hq10, h⟩ := bd_some h
      refine kM_goDays hi dX12_daysCome_36 hq10 hL (by decide) (Nat.le_of_ble_eq_true rfl) ?_
      refine J_iload_n (q := 0) dX12_daysCome_39 rfl rfl ?_
      obtain ⟨hg8, h⟩ := gd_some h
      exact J_zret dX12_daysCome_40 (rt_i h) rfl hg8
  clear h
  obtain ⟨kk28, ekk28, ha29⟩ := jn_some ha29
  have K28 : kk28 = some (s4) → Jw E (ΓM ad cy) RX12 cX12_daysCome 3 (some .boolean) (some (.int rv.1), rv.2) 28 [(0, .ref (ad 0)), (1, .int p1)] [] o := by
    subst ekk28
    clear ha29
    intro ha29
    refine J_iconst dX12_daysCome_28 ic_0 ?_
    cases ha29
    exact J_sub [0, 1] rfl (K29)
  clear ekk28
  refine J_if_eq (tgt := 28) dX12_daysCome_9 (by decide) (fun c2 => ?_) (fun c2 => ?_)
  · replace ha29 := it_some ha29 c2
    exact J_sub [0, 1] rfl (K28 ha29)
  · replace ha29 := if_some ha29 c2
    refine J_aload_n (q := 0) dX12_daysCome_12 rfl rfl ?_
    refine gM_today dX12_daysCome_13 ?_
    refine J_iload_n (q := 1) dX12_daysCome_16 rfl rfl ?_
    refine J_iadd dX12_daysCome_17 ?_
    refine J_sipush dX12_daysCome_18 sp_999 ?_
    refine J_icmp_gt (tgt := 28) dX12_daysCome_21 (by decide) (fun c3 => ?_) (fun c3 => ?_)
    · replace ha29 := it_some ha29 c3
      exact J_sub [0, 1] rfl (K28 ha29)
    · replace ha29 := if_some ha29 c3
      refine J_iconst dX12_daysCome_24 ic_1 ?_
      refine J_goto (tgt := 29) dX12_daysCome_25 (by decide) ?_
      cases ha29
      exact J_sub [0, 1] rfl (K29)
set_option maxRecDepth 20000 in
set_option maxHeartbeats 4000000 in
theorem kX12_daysCome {l : Launch} {D : va_G} {ad : Nat → Nat} {cy : Nat → ClassId} {rv : (Int32 × Ob)} {o : Ob} {p1 : Int32} (hi : wl_inj (ΓM ad cy)) (h : M_daysCome o p1 = some rv) : Cn l D (ΓM ad cy) yX12_daysCome cX12_daysCome 3 (some .boolean) 6 [.ref (ad 0), .int p1] o (some (.int rv.1), rv.2) :=
  Cn.of hi rfl (Nat.le_of_ble_eq_true rfl) (fun _ _ _ hL => M_daysCome_ok hi hL h)
set_option maxRecDepth 20000 in
set_option maxHeartbeats 4000000 in
theorem pdX12_daysCome : (parseMethodDescriptor yX12_daysCome.desc).map (fun d => d.parameters.length) = some 1 := by decide +kernel
set_option maxRecDepth 20000 in
set_option maxHeartbeats 4000000 in
theorem kM_daysCome {E : Ec} {ad : Nat → Nat} {cy : Nat → ClassId} {cc : ByteArray} {nL : Nat} {rt : Option FieldType} {r : Option Value × Ob} {pc n : Nat} {lv : List (Nat × Value)} {st : List Value} {o : Ob} {p1 : Int32} {v : Int32} {o' : Ob} (hi : wl_inj (ΓM ad cy)) (hd : decode cc pc = .ok (.invokevirtual 184, 3)) (hq : M_daysCome o p1 = some (v, o')) (hL : Lv E n) (hn : 6 + 1 ≤ n) (hW : (st.map fun v => v.category).sum ≤ 8) (k : Jw E (ΓM ad cy) RX12 cc nL rt r (pc + 3) lv (.int v :: st) o') : Jw E (ΓM ad cy) RX12 cc nL rt r pc lv (.int p1 :: .ref (ad 0) :: st) o :=
  J_callV (h := 0) (ci := 11) (av := [.int p1]) (q := (some (.int v), o')) (st := st) hd (kX12_daysCome hi hq) tw_5_85 tw_5_87 tw_1_13 tw_5_88 sl_3_0 ⟨by decide, by decide, pdX12_daysCome⟩ (Nat.le_of_ble_eq_true rfl) rfl rfl rfl rfl (by decide) hL hn hW k
set_option maxRecDepth 20000 in
set_option maxHeartbeats 4000000 in
theorem M_comesTold_ok {E : Ec} {ad : Nat → Nat} {cy : Nat → ClassId} {rv : (Int32 × Ob)} {o : Ob} {p1 : Int32} (hi : wl_inj (ΓM ad cy)) (hL : Lv E 7) (h : M_comesTold o p1 = some rv) : Jw E (ΓM ad cy) RX12 cX12_comesTold 6 (some .boolean) (some (.int rv.1), rv.2) 0 [(0, .ref (ad 0)), (1, .int p1)] [] o := by
  unfold M_comesTold at h
  refine J_aload_n (q := 0) dX12_comesTold_0 rfl rfl ?_
  refine gM_told dX12_comesTold_1 ?_
  refine J_iconst dX12_comesTold_4 ic_3 ?_
  refine J_iload_n (q := 1) dX12_comesTold_5 rfl rfl ?_
  refine J_imul dX12_comesTold_6 ?_
  obtain ⟨hg1, h⟩ := gd_some h
  refine aM_ld (h := 16) (n := 153) dX12_comesTold_7 (by decide) rfl hg1 ?_
  refine J_ti (fun v2 ev2 => ?_)
  replace h := nm_some ev2 h
  refine J_istore_n (lv' := [(2, .int v2), (0, .ref (ad 0)), (1, .int p1)]) dX12_comesTold_8 rfl (by decide) rfl ?_
  refine J_aload_n (q := 1) dX12_comesTold_9 rfl rfl ?_
  refine gM_told dX12_comesTold_10 ?_
  refine J_iconst dX12_comesTold_13 ic_3 ?_
  refine J_iload_n (q := 2) dX12_comesTold_14 rfl rfl ?_
  refine J_imul dX12_comesTold_15 ?_
  refine J_iconst dX12_comesTold_16 ic_1 ?_
  refine J_iadd dX12_comesTold_17 ?_
  obtain ⟨hg3, h⟩ := gd_some h
  refine aM_ld (h := 16) (n := 153) dX12_comesTold_18 (by decide) rfl hg3 ?_
  refine J_ti (fun v4 ev4 => ?_)
  replace h := nm_some ev4 h
  refine J_istore_n (lv' := [(3, .int v4), (2, .int v2), (0, .ref (ad 0)), (1, .int p1)]) dX12_comesTold_19 rfl (by decide) rfl ?_
  refine J_aload_n (q := 2) dX12_comesTold_20 rfl rfl ?_
  refine gM_told dX12_comesTold_21 ?_
  refine J_iconst dX12_comesTold_24 ic_3 ?_
  refine J_iload_n (q := 3) dX12_comesTold_25 rfl rfl ?_
  refine J_imul dX12_comesTold_26 ?_
  refine J_iconst dX12_comesTold_27 ic_2 ?_
  refine J_iadd dX12_comesTold_28 ?_
  obtain ⟨hg5, h⟩ := gd_some h
  refine aM_ld (h := 16) (n := 153) dX12_comesTold_29 (by decide) rfl hg5 ?_
  refine J_ti (fun v6 ev6 => ?_)
  replace h := nm_some ev6 h
  refine J_istore (lv' := [(4, .int v6), (3, .int v4), (2, .int v2), (0, .ref (ad 0)), (1, .int p1)]) dX12_comesTold_30 (by decide) rfl ?_
  refine J_iconst dX12_comesTold_32 ic_1 ?_
  refine J_istore (lv' := [(5, .int (1 : Int32)), (4, .int v6), (3, .int v4), (2, .int v2), (0, .ref (ad 0)), (1, .int p1)]) dX12_comesTold_33 (by decide) rfl ?_
  refine J_aload_n (q := 4) dX12_comesTold_35 rfl rfl ?_
  refine gM_letterOf dX12_comesTold_36 ?_
  refine J_iload_n (q := 5) dX12_comesTold_39 rfl rfl ?_
  obtain ⟨hg7, h⟩ := gd_some h
  refine aM_ld (h := 15) (n := 51) dX12_comesTold_40 (by decide) rfl hg7 ?_
  by_cases c8 : (ix (oA o 15) p1) = (99 : Int32)
  · replace h := it_some h c8
    refine J_lsw (off := 201) (tgt := 242) dX12_comesTold_41 (by decide) (by rw [c8] <;> decide) (by decide) ?_
    refine J_aload_n (q := 4) dX12_comesTold_242 rfl rfl ?_
    refine J_iload_n (q := 3) dX12_comesTold_243 rfl rfl ?_
    obtain ⟨r9, hq64, h⟩ := bd_some h
    refine kM_isOne hi dX12_comesTold_244 hq64 hL (by decide) (Nat.le_of_ble_eq_true rfl) ?_
    obtain ⟨s13, ha262, h⟩ := bd_some h
    have K262 : Jw E (ΓM ad cy) RX12 cX12_comesTold 6 (some .boolean) (some (.int rv.1), rv.2) 262 [(0, .ref (ad 0)), (2, .int v2), (3, .int v4)] [.int s13] o := by
      clear ha262
      refine J_istore (lv' := [(5, .int s13), (0, .ref (ad 0)), (2, .int v2), (3, .int v4)]) dX12_comesTold_262 (by decide) rfl ?_
      refine J_iload (q := 0) dX12_comesTold_264 rfl ?_
      refine J_if_eq (tgt := 276) dX12_comesTold_266 (by decide) (fun c14 => ?_) (fun c14 => ?_)
      · replace h := it_some h c14
        refine J_iload (q := 0) dX12_comesTold_276 rfl ?_
        obtain ⟨hg15, h⟩ := gd_some h
        exact J_zret dX12_comesTold_278 (rt_i h) rfl hg15
      · replace h := if_some h c14
        refine J_aload_n (q := 1) dX12_comesTold_269 rfl rfl ?_
        refine gM_caring dX12_comesTold_270 ?_
        refine J_iload_n (q := 2) dX12_comesTold_273 rfl rfl ?_
        refine J_iload_n (q := 3) dX12_comesTold_274 rfl rfl ?_
        obtain ⟨hg16, h⟩ := gd_some h
        refine aM_st (h := 6) (n := 7) dX12_comesTold_275 (by decide) rfl hg16 ?_
        refine J_tw (fun o17 eo17 => ?_)
        replace h := nm_some eo17 h
        refine J_iload (q := 0) dX12_comesTold_276 rfl ?_
        obtain ⟨hg18, h⟩ := gd_some h
        exact J_zret dX12_comesTold_278 (rt_i h) rfl hg18
    clear h
    obtain ⟨kk261, ekk261, ha262⟩ := jn_some ha262
    have K261 : kk261 = some (s13) → Jw E (ΓM ad cy) RX12 cX12_comesTold 6 (some .boolean) (some (.int rv.1), rv.2) 261 [(0, .ref (ad 0)), (2, .int v2), (3, .int v4)] [] o := by
      subst ekk261
      clear ha262
      intro ha262
      refine J_iconst dX12_comesTold_261 ic_0 ?_
      cases ha262
      exact J_sub [0, 1, 2] rfl (K262)
    clear ekk261
    refine J_if_eq (tgt := 261) dX12_comesTold_247 (by decide) (fun c10 => ?_) (fun c10 => ?_)
    · replace ha262 := it_some ha262 c10
      exact J_sub [4, 3, 2] rfl (K261 ha262)
    · replace ha262 := if_some ha262 c10
      refine J_iload_n (q := 2) dX12_comesTold_250 rfl rfl ?_
      obtain ⟨r11, hq65, ha262⟩ := bd_some ha262
      refine kM_isCare hi dX12_comesTold_251 hq65 hL (by decide) (Nat.le_of_ble_eq_true rfl) ?_
      refine J_if_eq (tgt := 261) dX12_comesTold_254 (by decide) (fun c12 => ?_) (fun c12 => ?_)
      · replace ha262 := it_some ha262 c12
        exact J_sub [4, 3, 2] rfl (K261 ha262)
      · replace ha262 := if_some ha262 c12
        refine J_iconst dX12_comesTold_257 ic_1 ?_
        refine J_goto (tgt := 262) dX12_comesTold_258 (by decide) ?_
        cases ha262
        exact J_sub [4, 3, 2] rfl (K262)
  · replace h := if_some h c8
    by_cases c19 : (ix (oA o 15) p1) = (108 : Int32)
    · replace h := it_some h c19
      refine J_lsw (off := 104) (tgt := 145) dX12_comesTold_41 (by decide) ((lv_osw c8 (by decide)).trans <| by rw [c19] <;> decide) (by decide) ?_
      refine J_aload_n (q := 4) dX12_comesTold_145 rfl rfl ?_
      refine J_iload_n (q := 3) dX12_comesTold_146 rfl rfl ?_
      obtain ⟨r20, hq66, h⟩ := bd_some h
      refine kM_isOne hi dX12_comesTold_147 hq66 hL (by decide) (Nat.le_of_ble_eq_true rfl) ?_
      obtain ⟨s25, ha172, h⟩ := bd_some h
      have K172 : Jw E (ΓM ad cy) RX12 cX12_comesTold 6 (some .boolean) (some (.int rv.1), rv.2) 172 [(0, .ref (ad 0)), (2, .int v2), (3, .int v4), (4, .int v6)] [.int s25] o := by
        clear ha172
        refine J_istore (lv' := [(5, .int s25), (0, .ref (ad 0)), (2, .int v2), (3, .int v4), (4, .int v6)]) dX12_comesTold_172 (by decide) rfl ?_
        refine J_iload (q := 0) dX12_comesTold_174 rfl ?_
        refine J_if_eq (tgt := 196) dX12_comesTold_176 (by decide) (fun c26 => ?_) (fun c26 => ?_)
        · replace h := it_some h c26
          refine J_iload (q := 0) dX12_comesTold_196 rfl ?_
          obtain ⟨hg27, h⟩ := gd_some h
          exact J_zret dX12_comesTold_198 (rt_i h) rfl hg27
        · replace h := if_some h c26
          refine J_aload_n (q := 1) dX12_comesTold_179 rfl rfl ?_
          refine gM_knows dX12_comesTold_180 ?_
          refine J_iconst dX12_comesTold_183 ic_5 ?_
          refine J_iload_n (q := 2) dX12_comesTold_184 rfl rfl ?_
          refine J_imul dX12_comesTold_185 ?_
          refine J_iload_n (q := 3) dX12_comesTold_186 rfl rfl ?_
          refine J_iadd dX12_comesTold_187 ?_
          refine J_ti (fun v28 ev28 => ?_)
          replace h := nm_some ev28 h
          refine J_dup2 dX12_comesTold_188 rfl rfl ?_
          obtain ⟨hg29, h⟩ := gd_some h
          refine aM_ld (h := 7) (n := 35) dX12_comesTold_189 (by decide) rfl hg29 ?_
          refine J_iconst dX12_comesTold_190 ic_1 ?_
          refine J_iload (q := 4) dX12_comesTold_191 rfl ?_
          refine J_ishl dX12_comesTold_193 ?_
          refine J_ixor dX12_comesTold_194 ?_
          obtain ⟨hg30, h⟩ := gd_some h
          refine aM_st (h := 7) (n := 35) dX12_comesTold_195 (by decide) rfl hg30 ?_
          refine J_tw (fun o31 eo31 => ?_)
          replace h := nm_some eo31 h
          refine J_iload (q := 0) dX12_comesTold_196 rfl ?_
          obtain ⟨hg32, h⟩ := gd_some h
          exact J_zret dX12_comesTold_198 (rt_i h) rfl hg32
      clear h
      obtain ⟨kk171, ekk171, ha172⟩ := jn_some ha172
      have K171 : kk171 = some (s25) → Jw E (ΓM ad cy) RX12 cX12_comesTold 6 (some .boolean) (some (.int rv.1), rv.2) 171 [(0, .ref (ad 0)), (2, .int v2), (3, .int v4), (4, .int v6)] [] o := by
        subst ekk171
        clear ha172
        intro ha172
        refine J_iconst dX12_comesTold_171 ic_0 ?_
        cases ha172
        exact J_sub [0, 1, 2, 3] rfl (K172)
      clear ekk171
      refine J_if_eq (tgt := 171) dX12_comesTold_150 (by decide) (fun c21 => ?_) (fun c21 => ?_)
      · replace ha172 := it_some ha172 c21
        exact J_sub [4, 3, 2, 1] rfl (K171 ha172)
      · replace ha172 := if_some ha172 c21
        refine J_iload_n (q := 2) dX12_comesTold_153 rfl rfl ?_
        obtain ⟨r22, hq67, ha172⟩ := bd_some ha172
        refine kM_isThing hi dX12_comesTold_154 hq67 hL (by decide) (Nat.le_of_ble_eq_true rfl) ?_
        refine J_if_eq (tgt := 171) dX12_comesTold_157 (by decide) (fun c23 => ?_) (fun c23 => ?_)
        · replace ha172 := it_some ha172 c23
          exact J_sub [4, 3, 2, 1] rfl (K171 ha172)
        · replace ha172 := if_some ha172 c23
          refine J_iload (q := 1) dX12_comesTold_160 rfl ?_
          refine J_bipush dX12_comesTold_162 bp_11 ?_
          refine J_icmp_gt (tgt := 171) dX12_comesTold_164 (by decide) (fun c24 => ?_) (fun c24 => ?_)
          · replace ha172 := it_some ha172 c24
            exact J_sub [4, 3, 2, 1] rfl (K171 ha172)
          · replace ha172 := if_some ha172 c24
            refine J_iconst dX12_comesTold_167 ic_1 ?_
            refine J_goto (tgt := 172) dX12_comesTold_168 (by decide) ?_
            cases ha172
            exact J_sub [4, 3, 2, 1] rfl (K172)
    · replace h := if_some h c19
      by_cases c33 : (ix (oA o 15) p1) = (111 : Int32)
      · replace h := it_some h c33
        refine J_lsw (off := 158) (tgt := 199) dX12_comesTold_41 (by decide) ((lv_osw c8 (by decide)).trans <| (lv_osw c19 (by decide)).trans <| by rw [c33] <;> decide) (by decide) ?_
        refine J_iload_n (q := 3) dX12_comesTold_199 rfl rfl ?_
        obtain ⟨r34, hq68, h⟩ := bd_some h
        refine kM_isThing hi dX12_comesTold_200 hq68 hL (by decide) (Nat.le_of_ble_eq_true rfl) ?_
        obtain ⟨s39, ha225, h⟩ := bd_some h
        have K225 : Jw E (ΓM ad cy) RX12 cX12_comesTold 6 (some .boolean) (some (.int rv.1), rv.2) 225 [(0, .ref (ad 0)), (2, .int v2), (3, .int v4)] [.int s39] o := by
          clear ha225
          refine J_istore (lv' := [(5, .int s39), (0, .ref (ad 0)), (2, .int v2), (3, .int v4)]) dX12_comesTold_225 (by decide) rfl ?_
          refine J_iload (q := 0) dX12_comesTold_227 rfl ?_
          refine J_if_eq (tgt := 239) dX12_comesTold_229 (by decide) (fun c40 => ?_) (fun c40 => ?_)
          · replace h := it_some h c40
            refine J_iload (q := 0) dX12_comesTold_239 rfl ?_
            obtain ⟨hg41, h⟩ := gd_some h
            exact J_zret dX12_comesTold_241 (rt_i h) rfl hg41
          · replace h := if_some h c40
            refine J_aload_n (q := 1) dX12_comesTold_232 rfl rfl ?_
            refine gM_owners dX12_comesTold_233 ?_
            refine J_iload_n (q := 2) dX12_comesTold_236 rfl rfl ?_
            refine J_iload_n (q := 3) dX12_comesTold_237 rfl rfl ?_
            obtain ⟨hg42, h⟩ := gd_some h
            refine aM_st (h := 3) (n := 5) dX12_comesTold_238 (by decide) rfl hg42 ?_
            refine J_tw (fun o43 eo43 => ?_)
            replace h := nm_some eo43 h
            refine J_iload (q := 0) dX12_comesTold_239 rfl ?_
            obtain ⟨hg44, h⟩ := gd_some h
            exact J_zret dX12_comesTold_241 (rt_i h) rfl hg44
        clear h
        obtain ⟨kk224, ekk224, ha225⟩ := jn_some ha225
        have K224 : kk224 = some (s39) → Jw E (ΓM ad cy) RX12 cX12_comesTold 6 (some .boolean) (some (.int rv.1), rv.2) 224 [(0, .ref (ad 0)), (2, .int v2), (3, .int v4)] [] o := by
          subst ekk224
          clear ha225
          intro ha225
          refine J_iconst dX12_comesTold_224 ic_0 ?_
          cases ha225
          exact J_sub [0, 1, 2] rfl (K225)
        clear ekk224
        refine J_if_eq (tgt := 224) dX12_comesTold_203 (by decide) (fun c35 => ?_) (fun c35 => ?_)
        · replace ha225 := it_some ha225 c35
          exact J_sub [4, 3, 2] rfl (K224 ha225)
        · replace ha225 := if_some ha225 c35
          refine J_iload_n (q := 2) dX12_comesTold_206 rfl rfl ?_
          refine J_bipush dX12_comesTold_207 bp_9 ?_
          obtain ⟨kk220, ekk220, ha225⟩ := jn_some ha225
          have K220 : kk220 = some (s39) → Jw E (ΓM ad cy) RX12 cX12_comesTold 6 (some .boolean) (some (.int rv.1), rv.2) 220 [(0, .ref (ad 0)), (2, .int v2), (3, .int v4)] [] o := by
            subst ekk220
            clear ha225
            intro ha225
            refine J_iconst dX12_comesTold_220 ic_1 ?_
            refine J_goto (tgt := 225) dX12_comesTold_221 (by decide) ?_
            cases ha225
            exact J_sub [0, 1, 2] rfl (K225)
          clear ekk220
          refine J_icmp_eq (tgt := 220) dX12_comesTold_209 (by decide) (fun c36 => ?_) (fun c36 => ?_)
          · replace ha225 := it_some ha225 c36
            exact J_sub [4, 3, 2] rfl (K220 ha225)
          · replace ha225 := if_some ha225 c36
            refine J_aload_n (q := 4) dX12_comesTold_212 rfl rfl ?_
            refine J_iload_n (q := 2) dX12_comesTold_213 rfl rfl ?_
            obtain ⟨r37, hq69, ha225⟩ := bd_some ha225
            refine kM_isOne hi dX12_comesTold_214 hq69 hL (by decide) (Nat.le_of_ble_eq_true rfl) ?_
            refine J_if_eq (tgt := 224) dX12_comesTold_217 (by decide) (fun c38 => ?_) (fun c38 => ?_)
            · replace ha225 := it_some ha225 c38
              exact J_sub [4, 3, 2] rfl (K224 ha225)
            · replace ha225 := if_some ha225 c38
              exact J_sub [4, 3, 2] rfl (K220 ha225)
      · replace h := if_some h c33
        by_cases c45 : (ix (oA o 15) p1) = (112 : Int32)
        · replace h := it_some h c45
          refine J_lsw (off := 95) (tgt := 136) dX12_comesTold_41 (by decide) ((lv_osw c8 (by decide)).trans <| (lv_osw c19 (by decide)).trans <| (lv_osw c33 (by decide)).trans <| by rw [c45] <;> decide) (by decide) ?_
          refine J_aload_n (q := 4) dX12_comesTold_136 rfl rfl ?_
          refine J_iload_n (q := 3) dX12_comesTold_137 rfl rfl ?_
          refine J_iload_n (q := 2) dX12_comesTold_138 rfl rfl ?_
          refine J_iload (q := 1) dX12_comesTold_139 rfl ?_
          obtain ⟨r46, o47, hq70, h⟩ := bd2_some h
          refine kM_oneComes hi dX12_comesTold_141 hq70 hL (by decide) (Nat.le_of_ble_eq_true rfl) ?_
          obtain ⟨hg48, h⟩ := gd_some h
          exact J_zret dX12_comesTold_144 (rt_i h) rfl hg48
        · replace h := if_some h c45
          by_cases c49 : (ix (oA o 15) p1) = (116 : Int32)
          · replace h := it_some h c49
            refine J_lsw (off := 51) (tgt := 92) dX12_comesTold_41 (by decide) ((lv_osw c8 (by decide)).trans <| (lv_osw c19 (by decide)).trans <| (lv_osw c33 (by decide)).trans <| (lv_osw c45 (by decide)).trans <| by rw [c49] <;> decide) (by decide) ?_
            refine J_iload_n (q := 3) dX12_comesTold_92 rfl rfl ?_
            obtain ⟨r50, hq71, h⟩ := bd_some h
            refine kM_isThing hi dX12_comesTold_93 hq71 hL (by decide) (Nat.le_of_ble_eq_true rfl) ?_
            obtain ⟨s53, ha111, h⟩ := bd_some h
            have K111 : Jw E (ΓM ad cy) RX12 cX12_comesTold 6 (some .boolean) (some (.int rv.1), rv.2) 111 [(0, .ref (ad 0)), (2, .int v2), (3, .int v4), (4, .int v6)] [.int s53] o := by
              clear ha111
              refine J_istore (lv' := [(5, .int s53), (0, .ref (ad 0)), (2, .int v2), (3, .int v4), (4, .int v6)]) dX12_comesTold_111 (by decide) rfl ?_
              refine J_iload (q := 0) dX12_comesTold_113 rfl ?_
              refine J_if_eq (tgt := 133) dX12_comesTold_115 (by decide) (fun c54 => ?_) (fun c54 => ?_)
              · replace h := it_some h c54
                refine J_iload (q := 0) dX12_comesTold_133 rfl ?_
                obtain ⟨hg55, h⟩ := gd_some h
                exact J_zret dX12_comesTold_135 (rt_i h) rfl hg55
              · replace h := if_some h c54
                refine J_aload_n (q := 1) dX12_comesTold_118 rfl rfl ?_
                refine gM_pasts dX12_comesTold_119 ?_
                refine J_iload_n (q := 2) dX12_comesTold_122 rfl rfl ?_
                refine J_iload_n (q := 3) dX12_comesTold_123 rfl rfl ?_
                obtain ⟨hg56, h⟩ := gd_some h
                refine aM_st (h := 1) (n := 5) dX12_comesTold_124 (by decide) rfl hg56 ?_
                refine J_tw (fun o57 eo57 => ?_)
                replace h := nm_some eo57 h
                refine J_aload_n (q := 1) dX12_comesTold_125 rfl rfl ?_
                refine gM_worths dX12_comesTold_126 ?_
                refine J_iload_n (q := 2) dX12_comesTold_129 rfl rfl ?_
                refine J_iload (q := 4) dX12_comesTold_130 rfl ?_
                obtain ⟨hg58, h⟩ := gd_some h
                refine aM_st (h := 2) (n := 5) dX12_comesTold_132 (by decide) rfl hg58 ?_
                refine J_tw (fun o59 eo59 => ?_)
                replace h := nm_some eo59 h
                refine J_iload (q := 0) dX12_comesTold_133 rfl ?_
                obtain ⟨hg60, h⟩ := gd_some h
                exact J_zret dX12_comesTold_135 (rt_i h) rfl hg60
            clear h
            obtain ⟨kk110, ekk110, ha111⟩ := jn_some ha111
            have K110 : kk110 = some (s53) → Jw E (ΓM ad cy) RX12 cX12_comesTold 6 (some .boolean) (some (.int rv.1), rv.2) 110 [(0, .ref (ad 0)), (2, .int v2), (3, .int v4), (4, .int v6)] [] o := by
              subst ekk110
              clear ha111
              intro ha111
              refine J_iconst dX12_comesTold_110 ic_0 ?_
              cases ha111
              exact J_sub [0, 1, 2, 3] rfl (K111)
            clear ekk110
            refine J_if_eq (tgt := 110) dX12_comesTold_96 (by decide) (fun c51 => ?_) (fun c51 => ?_)
            · replace ha111 := it_some ha111 c51
              exact J_sub [4, 3, 2, 1] rfl (K110 ha111)
            · replace ha111 := if_some ha111 c51
              refine J_iload_n (q := 2) dX12_comesTold_99 rfl rfl ?_
              refine J_sipush dX12_comesTold_100 sp_4095 ?_
              refine J_icmp_gt (tgt := 110) dX12_comesTold_103 (by decide) (fun c52 => ?_) (fun c52 => ?_)
              · replace ha111 := it_some ha111 c52
                exact J_sub [4, 3, 2, 1] rfl (K110 ha111)
              · replace ha111 := if_some ha111 c52
                refine J_iconst dX12_comesTold_106 ic_1 ?_
                refine J_goto (tgt := 111) dX12_comesTold_107 (by decide) ?_
                cases ha111
                exact J_sub [4, 3, 2, 1] rfl (K111)
          · replace h := if_some h c49
            refine J_lsw (off := 238) (tgt := 279) dX12_comesTold_41 (by decide) ((lv_osw c8 (by decide)).trans <| (lv_osw c19 (by decide)).trans <| (lv_osw c33 (by decide)).trans <| (lv_osw c45 (by decide)).trans <| (lv_osw c49 (by decide)).trans <| rfl) (by decide) ?_
            refine J_aload_n (q := 4) dX12_comesTold_279 rfl rfl ?_
            refine J_iload_n (q := 3) dX12_comesTold_280 rfl rfl ?_
            obtain ⟨r61, o62, hq72, h⟩ := bd2_some h
            refine kM_daysCome hi dX12_comesTold_281 hq72 hL (by decide) (Nat.le_of_ble_eq_true rfl) ?_
            obtain ⟨hg63, h⟩ := gd_some h
            exact J_zret dX12_comesTold_284 (rt_i h) rfl hg63
set_option maxRecDepth 20000 in
set_option maxHeartbeats 4000000 in
theorem kX12_comesTold {l : Launch} {D : va_G} {ad : Nat → Nat} {cy : Nat → ClassId} {rv : (Int32 × Ob)} {o : Ob} {p1 : Int32} (hi : wl_inj (ΓM ad cy)) (h : M_comesTold o p1 = some rv) : Cn l D (ΓM ad cy) yX12_comesTold cX12_comesTold 6 (some .boolean) 7 [.ref (ad 0), .int p1] o (some (.int rv.1), rv.2) :=
  Cn.of hi rfl (Nat.le_of_ble_eq_true rfl) (fun _ _ _ hL => M_comesTold_ok hi hL h)
set_option maxRecDepth 20000 in
set_option maxHeartbeats 4000000 in
theorem pdX12_comesTold : (parseMethodDescriptor yX12_comesTold.desc).map (fun d => d.parameters.length) = some 1 := by decide +kernel
set_option maxRecDepth 20000 in
set_option maxHeartbeats 4000000 in
theorem kM_comesTold {E : Ec} {ad : Nat → Nat} {cy : Nat → ClassId} {cc : ByteArray} {nL : Nat} {rt : Option FieldType} {r : Option Value × Ob} {pc n : Nat} {lv : List (Nat × Value)} {st : List Value} {o : Ob} {p1 : Int32} {v : Int32} {o' : Ob} (hi : wl_inj (ΓM ad cy)) (hd : decode cc pc = .ok (.invokevirtual 196, 3)) (hq : M_comesTold o p1 = some (v, o')) (hL : Lv E n) (hn : 7 + 1 ≤ n) (hW : (st.map fun v => v.category).sum ≤ 8) (k : Jw E (ΓM ad cy) RX12 cc nL rt r (pc + 3) lv (.int v :: st) o') : Jw E (ΓM ad cy) RX12 cc nL rt r pc lv (.int p1 :: .ref (ad 0) :: st) o :=
  J_callV (h := 0) (ci := 11) (av := [.int p1]) (q := (some (.int v), o')) (st := st) hd (kX12_comesTold hi hq) tw_5_66 tw_5_68 tw_1_13 tw_5_69 sl_2_13 ⟨by decide, by decide, pdX12_comesTold⟩ (Nat.le_of_ble_eq_true rfl) rfl rfl rfl rfl (by decide) hL hn hW k
set_option maxRecDepth 20000 in
set_option maxHeartbeats 4000000 in
theorem M_wrongRow_ok {E : Ec} {ad : Nat → Nat} {cy : Nat → ClassId} {rv : Int32} {o : Ob} {p1 : Int32} (hi : wl_inj (ΓM ad cy)) (hL : Lv E 1) (h : M_wrongRow o p1 = some rv) : Jw E (ΓM ad cy) RX12 cX12_wrongRow 2 (some .int) (some (.int rv), o) 0 [(0, .ref (ad 0)), (1, .int p1)] [] o := by
  unfold M_wrongRow at h
  refine J_iload_n (q := 1) dX12_wrongRow_0 rfl rfl ?_
  refine J_i2l dX12_wrongRow_1 ?_
  refine J_lconst dX12_wrongRow_2 lc_0 ?_
  refine J_ldc2 dX12_wrongRow_3 tw_5_29 ?_
  obtain ⟨r1, hq7, h⟩ := bd_some h
  refine kM_in hi dX12_wrongRow_6 hq7 hL (by decide) (Nat.le_of_ble_eq_true rfl) ?_
  refine J_if_ne (tgt := 16) dX12_wrongRow_9 (by decide) (fun c2 => ?_) (fun c2 => ?_)
  · replace h := if_some h c2
    refine J_aload_n (q := 0) dX12_wrongRow_16 rfl rfl ?_
    refine gM_holdsWhat dX12_wrongRow_17 ?_
    refine J_iload_n (q := 1) dX12_wrongRow_20 rfl rfl ?_
    obtain ⟨hg3, h⟩ := gd_some h
    refine aM_ld (h := 8) (n := 8) dX12_wrongRow_21 (by decide) rfl hg3 ?_
    refine J_if_ne (tgt := 30) dX12_wrongRow_22 (by decide) (fun c4 => ?_) (fun c4 => ?_)
    · replace h := if_some h c4
      refine J_aload_n (q := 0) dX12_wrongRow_30 rfl rfl ?_
      refine gM_holdsWhat dX12_wrongRow_31 ?_
      refine J_iload_n (q := 1) dX12_wrongRow_34 rfl rfl ?_
      obtain ⟨hg5, h⟩ := gd_some h
      refine aM_ld (h := 8) (n := 8) dX12_wrongRow_35 (by decide) rfl hg5 ?_
      refine J_iconst dX12_wrongRow_36 ic_2 ?_
      refine J_icmp_eq (tgt := 45) dX12_wrongRow_37 (by decide) (fun c6 => ?_) (fun c6 => ?_)
      · replace h := it_some h c6
        refine J_iconst dX12_wrongRow_45 ic_0 ?_
        exact J_iret dX12_wrongRow_46 (rt_pi h) rfl
      · replace h := if_some h c6
        refine J_bipush dX12_wrongRow_40 bp_m12 ?_
        refine J_goto (tgt := 46) dX12_wrongRow_42 (by decide) ?_
        exact J_iret dX12_wrongRow_46 (rt_pi h) rfl
    · replace h := it_some h c4
      refine J_bipush dX12_wrongRow_25 bp_m11 ?_
      refine J_goto (tgt := 46) dX12_wrongRow_27 (by decide) ?_
      exact J_iret dX12_wrongRow_46 (rt_pi h) rfl
  · replace h := it_some h c2
    refine J_iconst dX12_wrongRow_12 ic_m1 ?_
    refine J_goto (tgt := 46) dX12_wrongRow_13 (by decide) ?_
    exact J_iret dX12_wrongRow_46 (rt_pi h) rfl
set_option maxRecDepth 20000 in
set_option maxHeartbeats 4000000 in
theorem kX12_wrongRow {l : Launch} {D : va_G} {ad : Nat → Nat} {cy : Nat → ClassId} {rv : Int32} {o : Ob} {p1 : Int32} (hi : wl_inj (ΓM ad cy)) (h : M_wrongRow o p1 = some rv) : Cn l D (ΓM ad cy) yX12_wrongRow cX12_wrongRow 2 (some .int) 1 [.ref (ad 0), .int p1] o (some (.int rv), o) :=
  Cn.of hi rfl (Nat.le_of_ble_eq_true rfl) (fun _ _ _ hL => M_wrongRow_ok hi hL h)
set_option maxRecDepth 20000 in
set_option maxHeartbeats 4000000 in
theorem pdX12_wrongRow : (parseMethodDescriptor yX12_wrongRow.desc).map (fun d => d.parameters.length) = some 1 := by decide +kernel
set_option maxRecDepth 20000 in
set_option maxHeartbeats 4000000 in
theorem kM_wrongRow {E : Ec} {ad : Nat → Nat} {cy : Nat → ClassId} {cc : ByteArray} {nL : Nat} {rt : Option FieldType} {r : Option Value × Ob} {pc n : Nat} {lv : List (Nat × Value)} {st : List Value} {o : Ob} {p1 : Int32} {v : Int32} (hi : wl_inj (ΓM ad cy)) (hd : decode cc pc = .ok (.invokevirtual 187, 3)) (hq : M_wrongRow o p1 = some v) (hL : Lv E n) (hn : 1 + 1 ≤ n) (hW : (st.map fun v => v.category).sum ≤ 8) (k : Jw E (ΓM ad cy) RX12 cc nL rt r (pc + 3) lv (.int v :: st) o) : Jw E (ΓM ad cy) RX12 cc nL rt r pc lv (.int p1 :: .ref (ad 0) :: st) o :=
  J_callV (h := 0) (ci := 11) (av := [.int p1]) (q := (some (.int v), o)) (st := st) hd (kX12_wrongRow hi hq) tw_5_25 tw_5_27 tw_1_13 tw_5_28 sl_2_5 ⟨by decide, by decide, pdX12_wrongRow⟩ (Nat.le_of_ble_eq_true rfl) rfl rfl rfl rfl (by decide) hL hn hW k
set_option maxRecDepth 20000 in
set_option maxHeartbeats 4000000 in
theorem M_carry_ok {E : Ec} {ad : Nat → Nat} {cy : Nat → ClassId} {rv : (Int32 × Ob)} {o : Ob} {p1 : Int32} (hi : wl_inj (ΓM ad cy)) (hL : Lv E 0) (h : M_carry o p1 = some rv) : Jw E (ΓM ad cy) RX12 cX12_carry 2 (some .int) (some (.int rv.1), rv.2) 0 [(0, .ref (ad 0)), (1, .int p1)] [] o := by
  unfold M_carry at h
  refine J_aload_n (q := 0) dX12_carry_0 rfl rfl ?_
  refine gM_isTaking dX12_carry_1 ?_
  obtain ⟨o6, ha17, h⟩ := bd_some h
  have K17 : Jw E (ΓM ad cy) RX12 cX12_carry 2 (some .int) (some (.int rv.1), rv.2) 17 [(0, .ref (ad 0))] [] o6 := by
    clear ha17
    refine J_aload_n (q := 0) dX12_carry_17 rfl rfl ?_
    refine J_dup dX12_carry_18 rfl ?_
    refine gM_place0 dX12_carry_19 ?_
    refine J_iconst dX12_carry_22 ic_1 ?_
    refine J_iadd dX12_carry_23 ?_
    refine pM_place0 dX12_carry_24 ?_
    refine J_tw (fun o7 eo7 => ?_)
    replace h := nm_some eo7 h
    refine J_aload_n (q := 0) dX12_carry_27 rfl rfl ?_
    obtain ⟨hg8, h⟩ := gd_some h
    refine gM_keptIn dX12_carry_28 hg8 ?_
    refine J_aload_n (q := 0) dX12_carry_31 rfl rfl ?_
    refine gM_place0 dX12_carry_32 ?_
    refine J_iconst dX12_carry_35 ic_1 ?_
    refine J_isub dX12_carry_36 ?_
    obtain ⟨hg10, h⟩ := gd_some h
    obtain ⟨hg9, h⟩ := gd_some h
    refine aM_kld dX12_carry_37 hg10 hg9 ?_
    exact J_iret dX12_carry_38 (rt_i h) rfl
  clear h
  refine J_if_eq (tgt := 17) dX12_carry_4 (by decide) (fun c1 => ?_) (fun c1 => ?_)
  · replace ha17 := it_some ha17 c1
    cases ha17
    exact J_sub [0] rfl (K17)
  · replace ha17 := if_some ha17 c1
    refine J_aload_n (q := 0) dX12_carry_7 rfl rfl ?_
    obtain ⟨hg2, ha17⟩ := gd_some ha17
    refine gM_keptIn dX12_carry_8 hg2 ?_
    refine J_aload_n (q := 0) dX12_carry_11 rfl rfl ?_
    refine gM_place0 dX12_carry_12 ?_
    refine J_iload_n (q := 1) dX12_carry_15 rfl rfl ?_
    obtain ⟨hg4, ha17⟩ := gd_some ha17
    obtain ⟨hg3, ha17⟩ := gd_some ha17
    refine aM_kst dX12_carry_16 hg4 hg3 ?_
    refine J_tw (fun o5 eo5 => ?_)
    replace ha17 := nm_some eo5 ha17
    cases ha17
    exact J_sub [0] rfl (K17)
set_option maxRecDepth 20000 in
set_option maxHeartbeats 4000000 in
theorem kX12_carry {l : Launch} {D : va_G} {ad : Nat → Nat} {cy : Nat → ClassId} {rv : (Int32 × Ob)} {o : Ob} {p1 : Int32} (hi : wl_inj (ΓM ad cy)) (h : M_carry o p1 = some rv) : Cn l D (ΓM ad cy) yX12_carry cX12_carry 2 (some .int) 0 [.ref (ad 0), .int p1] o (some (.int rv.1), rv.2) :=
  Cn.of hi rfl (Nat.le_of_ble_eq_true rfl) (fun _ _ _ hL => M_carry_ok hi hL h)
set_option maxRecDepth 20000 in
set_option maxHeartbeats 4000000 in
theorem pdX12_carry : (parseMethodDescriptor yX12_carry.desc).map (fun d => d.parameters.length) = some 1 := by decide +kernel
set_option maxRecDepth 20000 in
set_option maxHeartbeats 4000000 in
theorem kM_carry {E : Ec} {ad : Nat → Nat} {cy : Nat → ClassId} {cc : ByteArray} {nL : Nat} {rt : Option FieldType} {r : Option Value × Ob} {pc n : Nat} {lv : List (Nat × Value)} {st : List Value} {o : Ob} {p1 : Int32} {v : Int32} {o' : Ob} (hi : wl_inj (ΓM ad cy)) (hd : decode cc pc = .ok (.invokevirtual 211, 3)) (hq : M_carry o p1 = some (v, o')) (hL : Lv E n) (hn : 0 + 1 ≤ n) (hW : (st.map fun v => v.category).sum ≤ 8) (k : Jw E (ΓM ad cy) RX12 cc nL rt r (pc + 3) lv (.int v :: st) o') : Jw E (ΓM ad cy) RX12 cc nL rt r pc lv (.int p1 :: .ref (ad 0) :: st) o :=
  J_callV (h := 0) (ci := 11) (av := [.int p1]) (q := (some (.int v), o')) (st := st) hd (kX12_carry hi hq) tw_5_62 tw_5_64 tw_1_13 tw_5_65 sl_2_12 ⟨by decide, by decide, pdX12_carry⟩ (Nat.le_of_ble_eq_true rfl) rfl rfl rfl rfl (by decide) hL hn hW k
set_option maxRecDepth 20000 in
set_option maxHeartbeats 4000000 in
theorem M_carryAll_L41_ok {E : Ec} {ad : Nat → Nat} {cy : Nat → ClassId} {rv : Ob} {k100 : Ob → Option Ob} (hi : wl_inj (ΓM ad cy)) (hL : Lv E 1) (hk100 : ∀ (yw : Ob), k100 yw = some rv → Jw E (ΓM ad cy) RX12 cX12_carryAll 4 none (none, rv) 100 [(0, .ref (ad 0))] [] yw) : ∀ (n : Nat) (o : Ob) (x3 : Int32), M_carryAll_L41 k100 n o x3 = some rv → Jw E (ΓM ad cy) RX12 cX12_carryAll 4 none (none, rv) 41 [(0, .ref (ad 0)), (3, .int x3)] [] o := by
  intro n
  induction n with
  | zero =>
    intro o x3 h
    rw [M_carryAll_L41] at h
    cases h
  | succ n ih =>
    intro o x3 h
    rw [M_carryAll_L41] at h
    refine J_iload_n (q := 1) dX12_carryAll_41 rfl rfl ?_
    refine J_iconst dX12_carryAll_42 ic_5 ?_
    refine J_icmp_ge (tgt := 100) dX12_carryAll_43 (by decide) (fun c12 => ?_) (fun c12 => ?_)
    · replace h := it_some h c12
      exact J_sub [0] rfl (hk100 _ h)
    · replace h := if_some h c12
      refine J_aload_n (q := 0) dX12_carryAll_46 rfl rfl ?_
      refine gM_pasts dX12_carryAll_47 ?_
      refine J_iload_n (q := 1) dX12_carryAll_50 rfl rfl ?_
      refine J_aload_n (q := 0) dX12_carryAll_51 rfl rfl ?_
      refine J_aload_n (q := 0) dX12_carryAll_52 rfl rfl ?_
      refine gM_pasts dX12_carryAll_53 ?_
      refine J_iload_n (q := 1) dX12_carryAll_56 rfl rfl ?_
      obtain ⟨hg13, h⟩ := gd_some h
      refine aM_ld (h := 1) (n := 5) dX12_carryAll_57 (by decide) rfl hg13 ?_
      obtain ⟨r14, o15, hq29, h⟩ := bd2_some h
      refine kM_carry hi dX12_carryAll_58 hq29 hL (by decide) (Nat.le_of_ble_eq_true rfl) ?_
      obtain ⟨hg16, h⟩ := gd_some h
      refine aM_st (h := 1) (n := 5) dX12_carryAll_61 (by decide) rfl hg16 ?_
      refine J_tw (fun o17 eo17 => ?_)
      replace h := nm_some eo17 h
      refine J_aload_n (q := 0) dX12_carryAll_62 rfl rfl ?_
      refine gM_worths dX12_carryAll_63 ?_
      refine J_iload_n (q := 1) dX12_carryAll_66 rfl rfl ?_
      refine J_aload_n (q := 0) dX12_carryAll_67 rfl rfl ?_
      refine J_aload_n (q := 0) dX12_carryAll_68 rfl rfl ?_
      refine gM_worths dX12_carryAll_69 ?_
      refine J_iload_n (q := 1) dX12_carryAll_72 rfl rfl ?_
      obtain ⟨hg18, h⟩ := gd_some h
      refine aM_ld (h := 2) (n := 5) dX12_carryAll_73 (by decide) rfl hg18 ?_
      obtain ⟨r19, o20, hq30, h⟩ := bd2_some h
      refine kM_carry hi dX12_carryAll_74 hq30 hL (by decide) (Nat.le_of_ble_eq_true rfl) ?_
      obtain ⟨hg21, h⟩ := gd_some h
      refine aM_st (h := 2) (n := 5) dX12_carryAll_77 (by decide) rfl hg21 ?_
      refine J_tw (fun o22 eo22 => ?_)
      replace h := nm_some eo22 h
      refine J_aload_n (q := 0) dX12_carryAll_78 rfl rfl ?_
      refine gM_owners dX12_carryAll_79 ?_
      refine J_iload_n (q := 1) dX12_carryAll_82 rfl rfl ?_
      refine J_aload_n (q := 0) dX12_carryAll_83 rfl rfl ?_
      refine J_aload_n (q := 0) dX12_carryAll_84 rfl rfl ?_
      refine gM_owners dX12_carryAll_85 ?_
      refine J_iload_n (q := 1) dX12_carryAll_88 rfl rfl ?_
      obtain ⟨hg23, h⟩ := gd_some h
      refine aM_ld (h := 3) (n := 5) dX12_carryAll_89 (by decide) rfl hg23 ?_
      obtain ⟨r24, o25, hq31, h⟩ := bd2_some h
      refine kM_carry hi dX12_carryAll_90 hq31 hL (by decide) (Nat.le_of_ble_eq_true rfl) ?_
      obtain ⟨hg26, h⟩ := gd_some h
      refine aM_st (h := 3) (n := 5) dX12_carryAll_93 (by decide) rfl hg26 ?_
      refine J_tw (fun o27 eo27 => ?_)
      replace h := nm_some eo27 h
      refine J_iinc (q := 1) (v := (x3 + (1 : Int32))) (lv' := [(3, .int (x3 + (1 : Int32))), (0, .ref (ad 0))]) dX12_carryAll_94 rfl (congrArg (fun z => x3 + z) ic_1) (by decide) rfl ?_
      refine J_tv (fun v28 ev28 => ?_)
      replace h := nm_some ev28 h
      refine J_goto (tgt := 41) dX12_carryAll_97 (by decide) ?_
      exact J_sub [1, 0] rfl (ih _ _ h)
set_option maxRecDepth 20000 in
set_option maxHeartbeats 4000000 in
theorem M_carryAll_L102_ok {E : Ec} {ad : Nat → Nat} {cy : Nat → ClassId} {rv : Ob} {k162 : Ob → Option Ob} (hi : wl_inj (ΓM ad cy)) (hL : Lv E 1) (hk162 : ∀ (yw : Ob), k162 yw = some rv → Jw E (ΓM ad cy) RX12 cX12_carryAll 4 none (none, rv) 162 [(0, .ref (ad 0))] [] yw) : ∀ (n : Nat) (o : Ob) (x3 : Int32), M_carryAll_L102 k162 n o x3 = some rv → Jw E (ΓM ad cy) RX12 cX12_carryAll 4 none (none, rv) 102 [(0, .ref (ad 0)), (3, .int x3)] [] o := by
  intro n
  induction n with
  | zero =>
    intro o x3 h
    rw [M_carryAll_L102] at h
    cases h
  | succ n ih =>
    intro o x3 h
    rw [M_carryAll_L102] at h
    refine J_iload_n (q := 1) dX12_carryAll_102 rfl rfl ?_
    refine J_bipush dX12_carryAll_103 bp_7 ?_
    refine J_icmp_ge (tgt := 162) dX12_carryAll_105 (by decide) (fun c33 => ?_) (fun c33 => ?_)
    · replace h := it_some h c33
      exact J_sub [0] rfl (hk162 _ h)
    · replace h := if_some h c33
      refine J_aload_n (q := 0) dX12_carryAll_108 rfl rfl ?_
      refine gM_kinds dX12_carryAll_109 ?_
      refine J_iload_n (q := 1) dX12_carryAll_112 rfl rfl ?_
      refine J_aload_n (q := 0) dX12_carryAll_113 rfl rfl ?_
      refine J_aload_n (q := 0) dX12_carryAll_114 rfl rfl ?_
      refine gM_kinds dX12_carryAll_115 ?_
      refine J_iload_n (q := 1) dX12_carryAll_118 rfl rfl ?_
      obtain ⟨hg34, h⟩ := gd_some h
      refine aM_ld (h := 4) (n := 7) dX12_carryAll_119 (by decide) rfl hg34 ?_
      obtain ⟨r35, o36, hq50, h⟩ := bd2_some h
      refine kM_carry hi dX12_carryAll_120 hq50 hL (by decide) (Nat.le_of_ble_eq_true rfl) ?_
      obtain ⟨hg37, h⟩ := gd_some h
      refine aM_st (h := 4) (n := 7) dX12_carryAll_123 (by decide) rfl hg37 ?_
      refine J_tw (fun o38 eo38 => ?_)
      replace h := nm_some eo38 h
      refine J_aload_n (q := 0) dX12_carryAll_124 rfl rfl ?_
      refine gM_figures dX12_carryAll_125 ?_
      refine J_iload_n (q := 1) dX12_carryAll_128 rfl rfl ?_
      refine J_aload_n (q := 0) dX12_carryAll_129 rfl rfl ?_
      refine J_aload_n (q := 0) dX12_carryAll_130 rfl rfl ?_
      refine gM_figures dX12_carryAll_131 ?_
      refine J_iload_n (q := 1) dX12_carryAll_134 rfl rfl ?_
      obtain ⟨hg39, h⟩ := gd_some h
      refine aM_ld (h := 5) (n := 7) dX12_carryAll_135 (by decide) rfl hg39 ?_
      obtain ⟨r40, o41, hq51, h⟩ := bd2_some h
      refine kM_carry hi dX12_carryAll_136 hq51 hL (by decide) (Nat.le_of_ble_eq_true rfl) ?_
      obtain ⟨hg42, h⟩ := gd_some h
      refine aM_st (h := 5) (n := 7) dX12_carryAll_139 (by decide) rfl hg42 ?_
      refine J_tw (fun o43 eo43 => ?_)
      replace h := nm_some eo43 h
      refine J_aload_n (q := 0) dX12_carryAll_140 rfl rfl ?_
      refine gM_caring dX12_carryAll_141 ?_
      refine J_iload_n (q := 1) dX12_carryAll_144 rfl rfl ?_
      refine J_aload_n (q := 0) dX12_carryAll_145 rfl rfl ?_
      refine J_aload_n (q := 0) dX12_carryAll_146 rfl rfl ?_
      refine gM_caring dX12_carryAll_147 ?_
      refine J_iload_n (q := 1) dX12_carryAll_150 rfl rfl ?_
      obtain ⟨hg44, h⟩ := gd_some h
      refine aM_ld (h := 6) (n := 7) dX12_carryAll_151 (by decide) rfl hg44 ?_
      obtain ⟨r45, o46, hq52, h⟩ := bd2_some h
      refine kM_carry hi dX12_carryAll_152 hq52 hL (by decide) (Nat.le_of_ble_eq_true rfl) ?_
      obtain ⟨hg47, h⟩ := gd_some h
      refine aM_st (h := 6) (n := 7) dX12_carryAll_155 (by decide) rfl hg47 ?_
      refine J_tw (fun o48 eo48 => ?_)
      replace h := nm_some eo48 h
      refine J_iinc (q := 1) (v := (x3 + (1 : Int32))) (lv' := [(3, .int (x3 + (1 : Int32))), (0, .ref (ad 0))]) dX12_carryAll_156 rfl (congrArg (fun z => x3 + z) ic_1) (by decide) rfl ?_
      refine J_tv (fun v49 ev49 => ?_)
      replace h := nm_some ev49 h
      refine J_goto (tgt := 102) dX12_carryAll_159 (by decide) ?_
      exact J_sub [1, 0] rfl (ih _ _ h)
set_option maxRecDepth 20000 in
set_option maxHeartbeats 4000000 in
theorem M_carryAll_L164_ok {E : Ec} {ad : Nat → Nat} {cy : Nat → ClassId} {rv : Ob} (hi : wl_inj (ΓM ad cy)) (hL : Lv E 1) : ∀ (n : Nat) (o : Ob) (x3 : Int32), M_carryAll_L164 n o x3 = some rv → Jw E (ΓM ad cy) RX12 cX12_carryAll 4 none (none, rv) 164 [(0, .ref (ad 0)), (3, .int x3)] [] o := by
  intro n
  induction n with
  | zero =>
    intro o x3 h
    rw [M_carryAll_L164] at h
    cases h
  | succ n ih =>
    intro o x3 h
    rw [M_carryAll_L164] at h
    refine J_iload_n (q := 1) dX12_carryAll_164 rfl rfl ?_
    refine J_bipush dX12_carryAll_165 bp_35 ?_
    refine J_icmp_ge (tgt := 192) dX12_carryAll_167 (by decide) (fun c54 => ?_) (fun c54 => ?_)
    · replace h := it_some h c54
      exact J_vret dX12_carryAll_192 (rt_v h) rfl
    · replace h := if_some h c54
      refine J_aload_n (q := 0) dX12_carryAll_170 rfl rfl ?_
      refine gM_knows dX12_carryAll_171 ?_
      refine J_iload_n (q := 1) dX12_carryAll_174 rfl rfl ?_
      refine J_aload_n (q := 0) dX12_carryAll_175 rfl rfl ?_
      refine J_aload_n (q := 0) dX12_carryAll_176 rfl rfl ?_
      refine gM_knows dX12_carryAll_177 ?_
      refine J_iload_n (q := 1) dX12_carryAll_180 rfl rfl ?_
      obtain ⟨hg55, h⟩ := gd_some h
      refine aM_ld (h := 7) (n := 35) dX12_carryAll_181 (by decide) rfl hg55 ?_
      obtain ⟨r56, o57, hq61, h⟩ := bd2_some h
      refine kM_carry hi dX12_carryAll_182 hq61 hL (by decide) (Nat.le_of_ble_eq_true rfl) ?_
      obtain ⟨hg58, h⟩ := gd_some h
      refine aM_st (h := 7) (n := 35) dX12_carryAll_185 (by decide) rfl hg58 ?_
      refine J_tw (fun o59 eo59 => ?_)
      replace h := nm_some eo59 h
      refine J_iinc (q := 1) (v := (x3 + (1 : Int32))) (lv' := [(3, .int (x3 + (1 : Int32))), (0, .ref (ad 0))]) dX12_carryAll_186 rfl (congrArg (fun z => x3 + z) ic_1) (by decide) rfl ?_
      refine J_tv (fun v60 ev60 => ?_)
      replace h := nm_some ev60 h
      refine J_goto (tgt := 164) dX12_carryAll_189 (by decide) ?_
      exact J_sub [1, 0] rfl (ih _ _ h)
set_option maxRecDepth 20000 in
set_option maxHeartbeats 4000000 in
theorem M_carryAll_ok {E : Ec} {ad : Nat → Nat} {cy : Nat → ClassId} {rv : Ob} {o : Ob} {p1 : Int32} {p2 : Int32} (hi : wl_inj (ΓM ad cy)) (hL : Lv E 1) (h : M_carryAll o p1 p2 = some rv) : Jw E (ΓM ad cy) RX12 cX12_carryAll 4 none (none, rv) 0 [(0, .ref (ad 0)), (1, .ref (ad p1.toNatClampNeg)), (2, .int p2)] [] o := by
  unfold M_carryAll at h
  refine J_aload_n (q := 0) dX12_carryAll_0 rfl rfl ?_
  refine J_aload_n (q := 1) dX12_carryAll_1 rfl rfl ?_
  obtain ⟨hg1, h⟩ := gd_some h
  refine pM_keptIn dX12_carryAll_2 hg1 ?_
  refine J_tw (fun o2 eo2 => ?_)
  replace h := nm_some eo2 h
  refine J_aload_n (q := 0) dX12_carryAll_5 rfl rfl ?_
  refine J_iload_n (q := 2) dX12_carryAll_6 rfl rfl ?_
  obtain ⟨hg3, h⟩ := gd_some h
  refine pM_isTaking dX12_carryAll_7 hg3 ?_
  refine J_tw (fun o4 eo4 => ?_)
  replace h := nm_some eo4 h
  refine J_aload_n (q := 0) dX12_carryAll_10 rfl rfl ?_
  refine J_iconst dX12_carryAll_11 ic_0 ?_
  refine pM_place0 dX12_carryAll_12 ?_
  refine J_tw (fun o5 eo5 => ?_)
  replace h := nm_some eo5 h
  refine J_aload_n (q := 0) dX12_carryAll_15 rfl rfl ?_
  refine J_aload_n (q := 0) dX12_carryAll_16 rfl rfl ?_
  refine J_aload_n (q := 0) dX12_carryAll_17 rfl rfl ?_
  refine gM_many dX12_carryAll_18 ?_
  obtain ⟨r6, o7, hq62, h⟩ := bd2_some h
  refine kM_carry hi dX12_carryAll_21 hq62 hL (by decide) (Nat.le_of_ble_eq_true rfl) ?_
  refine pM_many dX12_carryAll_24 ?_
  refine J_tw (fun o8 eo8 => ?_)
  replace h := nm_some eo8 h
  refine J_aload_n (q := 0) dX12_carryAll_27 rfl rfl ?_
  refine J_aload_n (q := 0) dX12_carryAll_28 rfl rfl ?_
  refine J_aload_n (q := 0) dX12_carryAll_29 rfl rfl ?_
  refine gM_today dX12_carryAll_30 ?_
  obtain ⟨r9, o10, hq63, h⟩ := bd2_some h
  refine kM_carry hi dX12_carryAll_33 hq63 hL (by decide) (Nat.le_of_ble_eq_true rfl) ?_
  refine pM_today dX12_carryAll_36 ?_
  refine J_tw (fun o11 eo11 => ?_)
  replace h := nm_some eo11 h
  refine J_iconst dX12_carryAll_39 ic_0 ?_
  refine J_istore_n (lv' := [(3, .int (0 : Int32)), (0, .ref (ad 0)), (1, .ref (ad p1.toNatClampNeg)), (2, .int p2)]) dX12_carryAll_40 rfl (by decide) rfl ?_
  refine J_sub [1, 0] rfl (M_carryAll_L41_ok hi hL (fun o32 h => ?_) FU _ _ h)
  refine J_iconst dX12_carryAll_100 ic_0 ?_
  refine J_istore_n (lv' := [(3, .int (0 : Int32)), (0, .ref (ad 0))]) dX12_carryAll_101 rfl (by decide) rfl ?_
  refine J_sub [1, 0] rfl (M_carryAll_L102_ok hi hL (fun o53 h => ?_) FU _ _ h)
  refine J_iconst dX12_carryAll_162 ic_0 ?_
  refine J_istore_n (lv' := [(3, .int (0 : Int32)), (0, .ref (ad 0))]) dX12_carryAll_163 rfl (by decide) rfl ?_
  refine J_sub [1, 0] rfl (M_carryAll_L164_ok hi hL FU _ _ h)
set_option maxRecDepth 20000 in
set_option maxHeartbeats 4000000 in
theorem kX12_carryAll {l : Launch} {D : va_G} {ad : Nat → Nat} {cy : Nat → ClassId} {rv : Ob} {o : Ob} {p1 : Int32} {p2 : Int32} (hi : wl_inj (ΓM ad cy)) (h : M_carryAll o p1 p2 = some rv) : Cn l D (ΓM ad cy) yX12_carryAll cX12_carryAll 4 none 1 [.ref (ad 0), .ref (ad p1.toNatClampNeg), .int p2] o (none, rv) :=
  Cn.of hi rfl (Nat.le_of_ble_eq_true rfl) (fun _ _ _ hL => M_carryAll_ok hi hL h)
set_option maxRecDepth 20000 in
set_option maxHeartbeats 4000000 in
theorem pdX12_carryAll : (parseMethodDescriptor yX12_carryAll.desc).map (fun d => d.parameters.length) = some 2 := by decide +kernel
set_option maxRecDepth 20000 in
set_option maxHeartbeats 4000000 in
theorem kM_carryAll {E : Ec} {ad : Nat → Nat} {cy : Nat → ClassId} {cc : ByteArray} {nL : Nat} {rt : Option FieldType} {r : Option Value × Ob} {pc n : Nat} {lv : List (Nat × Value)} {st : List Value} {o : Ob} {p1 : Int32} {p2 : Int32} {o' : Ob} (hi : wl_inj (ΓM ad cy)) (hd : decode cc pc = .ok (.invokevirtual 214, 3)) (hq : M_carryAll o p1 p2 = some o') (hL : Lv E n) (hn : 1 + 1 ≤ n) (hW : (st.map fun v => v.category).sum ≤ 8) (k : Jw E (ΓM ad cy) RX12 cc nL rt r (pc + 3) lv (st) o') : Jw E (ΓM ad cy) RX12 cc nL rt r pc lv (.int p2 :: .ref (ad p1.toNatClampNeg) :: .ref (ad 0) :: st) o :=
  J_callV (h := 0) (ci := 11) (av := [.ref (ad p1.toNatClampNeg), .int p2]) (q := (none, o')) (st := st) hd (kX12_carryAll hi hq) tw_5_58 tw_5_60 tw_1_13 tw_5_61 sl_2_11 ⟨by decide, by decide, pdX12_carryAll⟩ (Nat.le_of_ble_eq_true rfl) rfl rfl rfl rfl (by decide) hL hn hW k
set_option maxRecDepth 20000 in
set_option maxHeartbeats 4000000 in
theorem M_think_ok {E : Ec} {ad : Nat → Nat} {cy : Nat → ClassId} {rv : Ob} {o : Ob} (hi : wl_inj (ΓM ad cy)) (hL : Lv E 2) (h : M_think o = some rv) : Jw E (ΓM ad cy) RX12 cX12_think 1 none (none, rv) 0 [(0, .ref (ad 0))] [] o := by
  unfold M_think at h
  refine J_aload_n (q := 0) dX12_think_0 rfl rfl ?_
  refine J_aload_n (q := 0) dX12_think_1 rfl rfl ?_
  refine gM_kept dX12_think_2 ?_
  refine J_iconst dX12_think_5 ic_1 ?_
  obtain ⟨o1, hq2, h⟩ := bd_some h
  refine kM_carryAll hi dX12_think_6 hq2 hL (by decide) (Nat.le_of_ble_eq_true rfl) ?_
  exact J_vret dX12_think_9 (rt_v h) rfl
set_option maxRecDepth 20000 in
set_option maxHeartbeats 4000000 in
theorem kX12_think {l : Launch} {D : va_G} {ad : Nat → Nat} {cy : Nat → ClassId} {rv : Ob} {o : Ob} (hi : wl_inj (ΓM ad cy)) (h : M_think o = some rv) : Cn l D (ΓM ad cy) yX12_think cX12_think 1 none 2 [.ref (ad 0)] o (none, rv) :=
  Cn.of hi rfl (Nat.le_of_ble_eq_true rfl) (fun _ _ _ hL => M_think_ok hi hL h)
set_option maxRecDepth 20000 in
set_option maxHeartbeats 4000000 in
theorem pdX12_think : (parseMethodDescriptor yX12_think.desc).map (fun d => d.parameters.length) = some 0 := by decide +kernel
set_option maxRecDepth 20000 in
set_option maxHeartbeats 4000000 in
theorem kM_think {E : Ec} {ad : Nat → Nat} {cy : Nat → ClassId} {cc : ByteArray} {nL : Nat} {rt : Option FieldType} {r : Option Value × Ob} {pc n : Nat} {lv : List (Nat × Value)} {st : List Value} {o : Ob} {o' : Ob} (hi : wl_inj (ΓM ad cy)) (hd : decode cc pc = .ok (.invokevirtual 193, 3)) (hq : M_think o = some o') (hL : Lv E n) (hn : 2 + 1 ≤ n) (hW : (st.map fun v => v.category).sum ≤ 8) (k : Jw E (ΓM ad cy) RX12 cc nL rt r (pc + 3) lv (st) o') : Jw E (ΓM ad cy) RX12 cc nL rt r pc lv (.ref (ad 0) :: st) o :=
  J_callV (h := 0) (ci := 11) (av := []) (q := (none, o')) (st := st) hd (kX12_think hi hq) tw_5_54 tw_5_56 tw_1_13 tw_5_57 sl_2_10 ⟨by decide, by decide, pdX12_think⟩ (Nat.le_of_ble_eq_true rfl) rfl rfl rfl rfl (by decide) hL hn hW k
set_option maxRecDepth 20000 in
set_option maxHeartbeats 4000000 in
theorem M_again_ok {E : Ec} {ad : Nat → Nat} {cy : Nat → ClassId} {rv : Ob} {o : Ob} (hi : wl_inj (ΓM ad cy)) (hL : Lv E 2) (h : M_again o = some rv) : Jw E (ΓM ad cy) RX12 cX12_again 1 none (none, rv) 0 [(0, .ref (ad 0))] [] o := by
  unfold M_again at h
  refine J_aload_n (q := 0) dX12_again_0 rfl rfl ?_
  refine J_aload_n (q := 0) dX12_again_1 rfl rfl ?_
  refine gM_kept dX12_again_2 ?_
  refine J_iconst dX12_again_5 ic_0 ?_
  obtain ⟨o1, hq2, h⟩ := bd_some h
  refine kM_carryAll hi dX12_again_6 hq2 hL (by decide) (Nat.le_of_ble_eq_true rfl) ?_
  exact J_vret dX12_again_9 (rt_v h) rfl
set_option maxRecDepth 20000 in
set_option maxHeartbeats 4000000 in
theorem kX12_again {l : Launch} {D : va_G} {ad : Nat → Nat} {cy : Nat → ClassId} {rv : Ob} {o : Ob} (hi : wl_inj (ΓM ad cy)) (h : M_again o = some rv) : Cn l D (ΓM ad cy) yX12_again cX12_again 1 none 2 [.ref (ad 0)] o (none, rv) :=
  Cn.of hi rfl (Nat.le_of_ble_eq_true rfl) (fun _ _ _ hL => M_again_ok hi hL h)
set_option maxRecDepth 20000 in
set_option maxHeartbeats 4000000 in
theorem pdX12_again : (parseMethodDescriptor yX12_again.desc).map (fun d => d.parameters.length) = some 0 := by decide +kernel
set_option maxRecDepth 20000 in
set_option maxHeartbeats 4000000 in
theorem kM_again {E : Ec} {ad : Nat → Nat} {cy : Nat → ClassId} {cc : ByteArray} {nL : Nat} {rt : Option FieldType} {r : Option Value × Ob} {pc n : Nat} {lv : List (Nat × Value)} {st : List Value} {o : Ob} {o' : Ob} (hi : wl_inj (ΓM ad cy)) (hd : decode cc pc = .ok (.invokevirtual 199, 3)) (hq : M_again o = some o') (hL : Lv E n) (hn : 2 + 1 ≤ n) (hW : (st.map fun v => v.category).sum ≤ 8) (k : Jw E (ΓM ad cy) RX12 cc nL rt r (pc + 3) lv (st) o') : Jw E (ΓM ad cy) RX12 cc nL rt r pc lv (.ref (ad 0) :: st) o :=
  J_callV (h := 0) (ci := 11) (av := []) (q := (none, o')) (st := st) hd (kX12_again hi hq) tw_5_135 tw_5_137 tw_1_13 tw_5_138 sl_3_10 ⟨by decide, by decide, pdX12_again⟩ (Nat.le_of_ble_eq_true rfl) rfl rfl rfl rfl (by decide) hL hn hW k
set_option maxRecDepth 20000 in
set_option maxHeartbeats 4000000 in
theorem M_town_L57_ok {E : Ec} {ad : Nat → Nat} {cy : Nat → ClassId} {rv : (Int32 × Ob)} {k91 : Ob → Option (Int32 × Ob)} {a1 : Int32} (hi : wl_inj (ΓM ad cy)) (hL : Lv E 8) (hk91 : ∀ (yw : Ob), k91 yw = some rv → Jw E (ΓM ad cy) RX12 cX12_town 4 (some .int) (some (.int rv.1), rv.2) 91 [(0, .ref (ad 0))] [] yw) : ∀ (n : Nat) (o : Ob), M_town_L57 k91 a1 n o = some rv → Jw E (ΓM ad cy) RX12 cX12_town 4 (some .int) (some (.int rv.1), rv.2) 57 [(0, .ref (ad 0)), (1, .int a1)] [] o := by
  intro n
  induction n with
  | zero =>
    intro o h
    rw [M_town_L57] at h
    cases h
  | succ n ih =>
    intro o h
    rw [M_town_L57] at h
    refine J_aload_n (q := 0) dX12_town_57 rfl rfl ?_
    refine gM_isBad dX12_town_58 ?_
    refine J_if_ne (tgt := 91) dX12_town_61 (by decide) (fun c12 => ?_) (fun c12 => ?_)
    · replace h := if_some h c12
      exact J_sub [0] rfl (hk91 _ h)
    · replace h := it_some h c12
      refine J_aload_n (q := 0) dX12_town_64 rfl rfl ?_
      refine gM_statements dX12_town_65 ?_
      obtain ⟨kk84, ekk84, h⟩ := jn_some h
      have K84 : kk84 = some rv → Jw E (ΓM ad cy) RX12 cX12_town 4 (some .int) (some (.int rv.1), rv.2) 84 [(0, .ref (ad 0)), (1, .int a1)] [] o := by
        subst ekk84
        clear h
        intro h
        refine J_aload_n (q := 0) dX12_town_84 rfl rfl ?_
        obtain ⟨o16, hq17, h⟩ := bd_some h
        refine kM_readStatement hi dX12_town_85 hq17 hL (by decide) (Nat.le_of_ble_eq_true rfl) ?_
        refine J_goto (tgt := 57) dX12_town_88 (by decide) ?_
        exact J_sub [0, 1] rfl (ih _ h)
      clear ekk84
      refine J_if_eq (tgt := 84) dX12_town_68 (by decide) (fun c13 => ?_) (fun c13 => ?_)
      · replace h := it_some h c13
        exact J_sub [0, 1] rfl (K84 h)
      · replace h := if_some h c13
        refine J_aload_n (q := 0) dX12_town_71 rfl rfl ?_
        refine gM_place dX12_town_72 ?_
        refine J_aload_n (q := 0) dX12_town_75 rfl rfl ?_
        refine gM_rowMany dX12_town_76 ?_
        refine J_iload_n (q := 1) dX12_town_79 rfl rfl ?_
        obtain ⟨hg14, h⟩ := gd_some h
        refine aM_ld (h := 12) (n := 8) dX12_town_80 (by decide) rfl hg14 ?_
        refine J_icmp_ge (tgt := 91) dX12_town_81 (by decide) (fun c15 => ?_) (fun c15 => ?_)
        · replace h := it_some h c15
          exact J_sub [0] rfl (hk91 _ h)
        · replace h := if_some h c15
          exact J_sub [0, 1] rfl (K84 h)
set_option maxRecDepth 20000 in
set_option maxHeartbeats 4000000 in
theorem M_town_L113_ok {E : Ec} {ad : Nat → Nat} {cy : Nat → ClassId} {rv : (Int32 × Ob)} {k129 : Int32 → Ob → Option (Int32 × Ob)} (hi : wl_inj (ΓM ad cy)) (hL : Lv E 8) (hk129 : ∀ (y3 : Int32) (yw : Ob), k129 y3 yw = some rv → Jw E (ΓM ad cy) RX12 cX12_town 4 (some .int) (some (.int rv.1), rv.2) 129 [(0, .ref (ad 0)), (3, .int y3)] [] yw) : ∀ (n : Nat) (o : Ob) (x3 : Int32), M_town_L113 k129 n o x3 = some rv → Jw E (ΓM ad cy) RX12 cX12_town 4 (some .int) (some (.int rv.1), rv.2) 113 [(0, .ref (ad 0)), (3, .int x3)] [] o := by
  intro n
  induction n with
  | zero =>
    intro o x3 h
    rw [M_town_L113] at h
    cases h
  | succ n ih =>
    intro o x3 h
    rw [M_town_L113] at h
    refine J_iload_n (q := 1) dX12_town_113 rfl rfl ?_
    refine J_aload_n (q := 0) dX12_town_114 rfl rfl ?_
    refine gM_statements dX12_town_115 ?_
    refine J_icmp_ge (tgt := 150) dX12_town_118 (by decide) (fun c21 => ?_) (fun c21 => ?_)
    · replace h := it_some h c21
      refine J_aload_n (q := 0) dX12_town_150 rfl rfl ?_
      refine gM_statements dX12_town_151 ?_
      exact J_iret dX12_town_154 (rt_i h) rfl
    · replace h := if_some h c21
      refine J_aload_n (q := 0) dX12_town_121 rfl rfl ?_
      refine J_iload_n (q := 1) dX12_town_122 rfl rfl ?_
      obtain ⟨r22, o23, hq26, h⟩ := bd2_some h
      refine kM_comesTold hi dX12_town_123 hq26 hL (by decide) (Nat.le_of_ble_eq_true rfl) ?_
      refine J_if_ne (tgt := 144) dX12_town_126 (by decide) (fun c24 => ?_) (fun c24 => ?_)
      · replace h := if_some h c24
        refine J_iinc (q := 1) (v := (x3 + (1 : Int32))) (lv' := [(3, .int (x3 + (1 : Int32))), (0, .ref (ad 0))]) dX12_town_144 rfl (congrArg (fun z => x3 + z) ic_1) (by decide) rfl ?_
        refine J_tv (fun v25 ev25 => ?_)
        replace h := nm_some ev25 h
        refine J_goto (tgt := 113) dX12_town_147 (by decide) ?_
        exact J_sub [1, 0] rfl (ih _ _ h)
      · replace h := it_some h c24
        exact J_sub [0, 1] rfl (hk129 _ _ h)
set_option maxRecDepth 20000 in
set_option maxHeartbeats 4000000 in
theorem M_town_ok {E : Ec} {ad : Nat → Nat} {cy : Nat → ClassId} {rv : (Int32 × Ob)} {o : Ob} {p1 : Int32} (hi : wl_inj (ΓM ad cy)) (hL : Lv E 8) (h : M_town o p1 = some rv) : Jw E (ΓM ad cy) RX12 cX12_town 4 (some .int) (some (.int rv.1), rv.2) 0 [(0, .ref (ad 0)), (1, .int p1)] [] o := by
  unfold M_town at h
  refine J_aload_n (q := 0) dX12_town_0 rfl rfl ?_
  refine J_iconst dX12_town_1 ic_0 ?_
  refine pM_thrown dX12_town_2 ?_
  refine J_tw (fun o1 eo1 => ?_)
  replace h := nm_some eo1 h
  refine J_aload_n (q := 0) dX12_town_5 rfl rfl ?_
  refine J_iload_n (q := 1) dX12_town_6 rfl rfl ?_
  obtain ⟨r2, hq31, h⟩ := bd_some h
  refine kM_wrongRow hi dX12_town_7 hq31 hL (by decide) (Nat.le_of_ble_eq_true rfl) ?_
  refine J_istore_n (lv' := [(2, .int r2), (0, .ref (ad 0)), (1, .int p1)]) dX12_town_10 rfl (by decide) rfl ?_
  refine J_iload_n (q := 0) dX12_town_11 rfl rfl ?_
  obtain ⟨s6, ha30, h⟩ := bd_some h
  have K30 : Jw E (ΓM ad cy) RX12 cX12_town 4 (some .int) (some (.int rv.1), rv.2) 30 [(0, .ref (ad 0)), (1, .int p1)] [.int s6] o1 := by
    clear ha30
    refine J_istore_n (lv' := [(2, .int s6), (0, .ref (ad 0)), (1, .int p1)]) dX12_town_30 rfl (by decide) rfl ?_
    refine J_iload_n (q := 0) dX12_town_31 rfl rfl ?_
    refine J_if_ge (tgt := 37) dX12_town_32 (by decide) (fun c7 => ?_) (fun c7 => ?_)
    · replace h := it_some h c7
      refine J_aload_n (q := 1) dX12_town_37 rfl rfl ?_
      refine J_iload_n (q := 2) dX12_town_38 rfl rfl ?_
      refine pM_reading dX12_town_39 ?_
      refine J_tw (fun o8 eo8 => ?_)
      replace h := nm_some eo8 h
      refine J_aload_n (q := 1) dX12_town_42 rfl rfl ?_
      refine J_iconst dX12_town_43 ic_0 ?_
      refine pM_place dX12_town_44 ?_
      refine J_tw (fun o9 eo9 => ?_)
      replace h := nm_some eo9 h
      refine J_aload_n (q := 1) dX12_town_47 rfl rfl ?_
      refine J_iconst dX12_town_48 ic_0 ?_
      refine pM_isBad dX12_town_49 rfl ?_
      refine J_tw (fun o10 eo10 => ?_)
      replace h := nm_some eo10 h
      refine J_aload_n (q := 1) dX12_town_52 rfl rfl ?_
      refine J_iconst dX12_town_53 ic_0 ?_
      refine pM_statements dX12_town_54 ?_
      refine J_tw (fun o11 eo11 => ?_)
      replace h := nm_some eo11 h
      refine J_sub [1, 2] rfl (M_town_L57_ok hi hL (fun o18 h => ?_) FU _ h)
      refine J_aload_n (q := 0) dX12_town_91 rfl rfl ?_
      refine gM_isBad dX12_town_92 ?_
      refine J_if_eq (tgt := 107) dX12_town_95 (by decide) (fun c19 => ?_) (fun c19 => ?_)
      · replace h := it_some h c19
        refine J_aload_n (q := 0) dX12_town_107 rfl rfl ?_
        obtain ⟨o20, hq32, h⟩ := bd_some h
        refine kM_think hi dX12_town_108 hq32 hL (by decide) (Nat.le_of_ble_eq_true rfl) ?_
        refine J_iconst dX12_town_111 ic_0 ?_
        refine J_istore_n (lv' := [(3, .int (0 : Int32)), (0, .ref (ad 0))]) dX12_town_112 rfl (by decide) rfl ?_
        refine J_sub [1, 0] rfl (M_town_L113_ok hi hL (fun x3_27 o28 h => ?_) FU _ _ h)
        refine J_aload_n (q := 0) dX12_town_129 rfl rfl ?_
        obtain ⟨o29, hq33, h⟩ := bd_some h
        refine kM_again hi dX12_town_130 hq33 hL (by decide) (Nat.le_of_ble_eq_true rfl) ?_
        refine J_sipush dX12_town_133 sp_m2000 ?_
        refine J_aload_n (q := 0) dX12_town_136 rfl rfl ?_
        refine gM_placeIn dX12_town_137 ?_
        refine J_iload_n (q := 1) dX12_town_140 rfl rfl ?_
        obtain ⟨hg30, h⟩ := gd_some h
        refine aM_ld (h := 14) (n := 51) dX12_town_141 (by decide) rfl hg30 ?_
        refine J_isub dX12_town_142 ?_
        exact J_iret dX12_town_143 (rt_i h) rfl
      · replace h := if_some h c19
        refine J_sipush dX12_town_98 sp_m1000 ?_
        refine J_aload_n (q := 0) dX12_town_101 rfl rfl ?_
        refine gM_place dX12_town_102 ?_
        refine J_isub dX12_town_105 ?_
        exact J_iret dX12_town_106 (rt_i h) rfl
    · replace h := if_some h c7
      refine J_iload_n (q := 0) dX12_town_35 rfl rfl ?_
      exact J_iret dX12_town_36 (rt_i h) rfl
  clear h
  obtain ⟨kk29, ekk29, ha30⟩ := jn_some ha30
  have K29 : kk29 = some (s6) → Jw E (ΓM ad cy) RX12 cX12_town 4 (some .int) (some (.int rv.1), rv.2) 29 [(0, .ref (ad 0)), (1, .int p1), (2, .int r2)] [] o1 := by
    subst ekk29
    clear ha30
    intro ha30
    refine J_iload_n (q := 2) dX12_town_29 rfl rfl ?_
    cases ha30
    exact J_sub [0, 1] rfl (K30)
  clear ekk29
  refine J_if_ne (tgt := 29) dX12_town_12 (by decide) (fun c3 => ?_) (fun c3 => ?_)
  · replace ha30 := if_some ha30 c3
    exact J_sub [1, 2, 0] rfl (K29 ha30)
  · replace ha30 := it_some ha30 c3
    refine J_aload_n (q := 1) dX12_town_15 rfl rfl ?_
    refine gM_rowSort dX12_town_16 ?_
    refine J_iload_n (q := 2) dX12_town_19 rfl rfl ?_
    obtain ⟨hg4, ha30⟩ := gd_some ha30
    refine aM_ld (h := 11) (n := 8) dX12_town_20 (by decide) rfl hg4 ?_
    refine J_if_eq (tgt := 29) dX12_town_21 (by decide) (fun c5 => ?_) (fun c5 => ?_)
    · replace ha30 := it_some ha30 c5
      exact J_sub [1, 2, 0] rfl (K29 ha30)
    · replace ha30 := if_some ha30 c5
      refine J_bipush dX12_town_24 bp_m12 ?_
      refine J_goto (tgt := 30) dX12_town_26 (by decide) ?_
      cases ha30
      exact J_sub [1, 2] rfl (K30)
set_option maxRecDepth 20000 in
set_option maxHeartbeats 4000000 in
theorem kX12_town {l : Launch} {D : va_G} {ad : Nat → Nat} {cy : Nat → ClassId} {rv : (Int32 × Ob)} {o : Ob} {p1 : Int32} (hi : wl_inj (ΓM ad cy)) (h : M_town o p1 = some rv) : Cn l D (ΓM ad cy) yX12_town cX12_town 4 (some .int) 8 [.ref (ad 0), .int p1] o (some (.int rv.1), rv.2) :=
  Cn.of hi rfl (Nat.le_of_ble_eq_true rfl) (fun _ _ _ hL => M_town_ok hi hL h)
set_option maxRecDepth 20000 in
set_option maxHeartbeats 4000000 in
theorem M_image_ok {E : Ec} {ad : Nat → Nat} {cy : Nat → ClassId} {rv : (Int32 × Ob)} {o : Ob} (hi : wl_inj (ΓM ad cy)) (hL : Lv E 2) (h : M_image o = some rv) : Jw E (ΓM ad cy) RX12 cX12_image 1 (some .int) (some (.int rv.1), rv.2) 0 [(0, .ref (ad 0))] [] o := by
  unfold M_image at h
  refine J_aload_n (q := 0) dX12_image_0 rfl rfl ?_
  refine J_iconst dX12_image_1 ic_0 ?_
  refine pM_thrown dX12_image_2 ?_
  refine J_tw (fun o1 eo1 => ?_)
  replace h := nm_some eo1 h
  refine J_aload_n (q := 0) dX12_image_5 rfl rfl ?_
  refine J_iconst dX12_image_6 ic_1 ?_
  refine pM_hasImage dX12_image_7 rfl ?_
  refine J_tw (fun o2 eo2 => ?_)
  replace h := nm_some eo2 h
  refine J_aload_n (q := 0) dX12_image_10 rfl rfl ?_
  refine J_aload_n (q := 0) dX12_image_11 rfl rfl ?_
  refine gM_imaged dX12_image_12 ?_
  refine J_iconst dX12_image_15 ic_1 ?_
  obtain ⟨o3, hq4, h⟩ := bd_some h
  refine kM_carryAll hi dX12_image_16 hq4 hL (by decide) (Nat.le_of_ble_eq_true rfl) ?_
  refine J_aload_n (q := 0) dX12_image_19 rfl rfl ?_
  refine gM_today dX12_image_20 ?_
  exact J_iret dX12_image_23 (rt_i h) rfl
set_option maxRecDepth 20000 in
set_option maxHeartbeats 4000000 in
theorem kX12_image {l : Launch} {D : va_G} {ad : Nat → Nat} {cy : Nat → ClassId} {rv : (Int32 × Ob)} {o : Ob} (hi : wl_inj (ΓM ad cy)) (h : M_image o = some rv) : Cn l D (ΓM ad cy) yX12_image cX12_image 1 (some .int) 2 [.ref (ad 0)] o (some (.int rv.1), rv.2) :=
  Cn.of hi rfl (Nat.le_of_ble_eq_true rfl) (fun _ _ _ hL => M_image_ok hi hL h)
set_option maxRecDepth 20000 in
set_option maxHeartbeats 4000000 in
theorem M_restore_ok {E : Ec} {ad : Nat → Nat} {cy : Nat → ClassId} {rv : (Int32 × Ob)} {o : Ob} (hi : wl_inj (ΓM ad cy)) (hL : Lv E 2) (h : M_restore o = some rv) : Jw E (ΓM ad cy) RX12 cX12_restore 1 (some .int) (some (.int rv.1), rv.2) 0 [(0, .ref (ad 0))] [] o := by
  unfold M_restore at h
  refine J_aload_n (q := 0) dX12_restore_0 rfl rfl ?_
  refine J_iconst dX12_restore_1 ic_0 ?_
  refine pM_thrown dX12_restore_2 ?_
  refine J_tw (fun o1 eo1 => ?_)
  replace h := nm_some eo1 h
  refine J_aload_n (q := 0) dX12_restore_5 rfl rfl ?_
  refine gM_hasImage dX12_restore_6 ?_
  refine J_if_ne (tgt := 15) dX12_restore_9 (by decide) (fun c2 => ?_) (fun c2 => ?_)
  · replace h := if_some h c2
    refine J_aload_n (q := 0) dX12_restore_15 rfl rfl ?_
    refine J_aload_n (q := 0) dX12_restore_16 rfl rfl ?_
    refine gM_imaged dX12_restore_17 ?_
    refine J_iconst dX12_restore_20 ic_0 ?_
    obtain ⟨o3, hq4, h⟩ := bd_some h
    refine kM_carryAll hi dX12_restore_21 hq4 hL (by decide) (Nat.le_of_ble_eq_true rfl) ?_
    refine J_aload_n (q := 0) dX12_restore_24 rfl rfl ?_
    refine gM_today dX12_restore_25 ?_
    exact J_iret dX12_restore_28 (rt_i h) rfl
  · replace h := it_some h c2
    refine J_bipush dX12_restore_12 bp_m3 ?_
    exact J_iret dX12_restore_14 (rt_i h) rfl
set_option maxRecDepth 20000 in
set_option maxHeartbeats 4000000 in
theorem kX12_restore {l : Launch} {D : va_G} {ad : Nat → Nat} {cy : Nat → ClassId} {rv : (Int32 × Ob)} {o : Ob} (hi : wl_inj (ΓM ad cy)) (h : M_restore o = some rv) : Cn l D (ΓM ad cy) yX12_restore cX12_restore 1 (some .int) 2 [.ref (ad 0)] o (some (.int rv.1), rv.2) :=
  Cn.of hi rfl (Nat.le_of_ble_eq_true rfl) (fun _ _ _ hL => M_restore_ok hi hL h)
set_option maxRecDepth 20000 in
set_option maxHeartbeats 4000000 in
theorem M_one_ok {E : Ec} {ad : Nat → Nat} {cy : Nat → ClassId} {rv : (Int32 × Ob)} {o : Ob} {p1 : Int32} {p2 : Int32} (hi : wl_inj (ΓM ad cy)) (hL : Lv E 2) (h : M_one o p1 p2 = some rv) : Jw E (ΓM ad cy) RX12 cX12_one 3 (some .int) (some (.int rv.1), rv.2) 0 [(0, .ref (ad 0)), (1, .int p1), (2, .int p2)] [] o := by
  unfold M_one at h
  refine J_aload_n (q := 0) dX12_one_0 rfl rfl ?_
  refine J_iconst dX12_one_1 ic_0 ?_
  refine pM_thrown dX12_one_2 ?_
  refine J_tw (fun o1 eo1 => ?_)
  replace h := nm_some eo1 h
  refine J_aload_n (q := 0) dX12_one_5 rfl rfl ?_
  refine J_iload_n (q := 1) dX12_one_6 rfl rfl ?_
  obtain ⟨r2, hq15, h⟩ := bd_some h
  refine kM_isOne hi dX12_one_7 hq15 hL (by decide) (Nat.le_of_ble_eq_true rfl) ?_
  refine J_if_eq (tgt := 25) dX12_one_10 (by decide) (fun c3 => ?_) (fun c3 => ?_)
  · replace h := it_some h c3
    refine J_iconst dX12_one_25 ic_m1 ?_
    exact J_iret dX12_one_26 (rt_i h) rfl
  · replace h := if_some h c3
    refine J_iload_n (q := 2) dX12_one_13 rfl rfl ?_
    refine J_i2l dX12_one_14 ?_
    refine J_lconst dX12_one_15 lc_0 ?_
    refine J_ldc2 dX12_one_16 tw_5_73 ?_
    obtain ⟨r4, hq16, h⟩ := bd_some h
    refine kM_in hi dX12_one_19 hq16 hL (by decide) (Nat.le_of_ble_eq_true rfl) ?_
    refine J_if_ne (tgt := 27) dX12_one_22 (by decide) (fun c5 => ?_) (fun c5 => ?_)
    · replace h := if_some h c5
      refine J_iload_n (q := 2) dX12_one_27 rfl rfl ?_
      by_cases c6 : p2 = (0 : Int32)
      · replace h := it_some h c6
        refine J_tin (tgt := 60) dX12_one_28 (by rw [c6]; decide) (by rw [c6]; decide) (by rw [c6]; rfl) (by decide) ?_
        refine J_aload_n (q := 0) dX12_one_60 rfl rfl ?_
        refine gM_kinds dX12_one_61 ?_
        refine J_iload_n (q := 1) dX12_one_64 rfl rfl ?_
        obtain ⟨hg7, h⟩ := gd_some h
        refine aM_ld (h := 4) (n := 7) dX12_one_65 (by decide) rfl hg7 ?_
        exact J_iret dX12_one_66 (rt_i h) rfl
      · replace h := if_some h c6
        by_cases c8 : p2 = (1 : Int32)
        · replace h := it_some h c8
          refine J_tin (tgt := 67) dX12_one_28 (by rw [c8]; decide) (by rw [c8]; decide) (by rw [c8]; rfl) (by decide) ?_
          refine J_aload_n (q := 0) dX12_one_67 rfl rfl ?_
          refine gM_figures dX12_one_68 ?_
          refine J_iload_n (q := 1) dX12_one_71 rfl rfl ?_
          obtain ⟨hg9, h⟩ := gd_some h
          refine aM_ld (h := 5) (n := 7) dX12_one_72 (by decide) rfl hg9 ?_
          exact J_iret dX12_one_73 (rt_i h) rfl
        · replace h := if_some h c8
          by_cases c10 : p2 = (2 : Int32)
          · replace h := it_some h c10
            refine J_tin (tgt := 74) dX12_one_28 (by rw [c10]; decide) (by rw [c10]; decide) (by rw [c10]; rfl) (by decide) ?_
            refine J_aload_n (q := 0) dX12_one_74 rfl rfl ?_
            refine gM_caring dX12_one_75 ?_
            refine J_iload_n (q := 1) dX12_one_78 rfl rfl ?_
            obtain ⟨hg11, h⟩ := gd_some h
            refine aM_ld (h := 6) (n := 7) dX12_one_79 (by decide) rfl hg11 ?_
            exact J_iret dX12_one_80 (rt_i h) rfl
          · replace h := if_some h c10
            by_cases c12 : p2 = (3 : Int32)
            · replace h := it_some h c12
              refine J_tin (tgt := 81) dX12_one_28 (by rw [c12]; decide) (by rw [c12]; decide) (by rw [c12]; rfl) (by decide) ?_
              refine J_aload_n (q := 0) dX12_one_81 rfl rfl ?_
              refine J_iload_n (q := 1) dX12_one_82 rfl rfl ?_
              obtain ⟨r13, hq17, h⟩ := bd_some h
              refine kM_ownedBy hi dX12_one_83 hq17 hL (by decide) (Nat.le_of_ble_eq_true rfl) ?_
              exact J_iret dX12_one_86 (rt_i h) rfl
            · replace h := if_some h c12
              refine J_tout (tgt := 87) dX12_one_28 (sw_out0_3 c6 c8 c10 c12) (by decide) ?_
              refine J_aload_n (q := 0) dX12_one_87 rfl rfl ?_
              refine J_iload_n (q := 1) dX12_one_88 rfl rfl ?_
              refine J_aload_n (q := 0) dX12_one_89 rfl rfl ?_
              refine gM_today dX12_one_90 ?_
              refine J_iconst dX12_one_93 ic_1 ?_
              refine J_iadd dX12_one_94 ?_
              obtain ⟨r14, hq18, h⟩ := bd_some h
              refine kM_learnsOn hi dX12_one_95 hq18 hL (by decide) (Nat.le_of_ble_eq_true rfl) ?_
              exact J_iret dX12_one_98 (rt_i h) rfl
    · replace h := it_some h c5
      refine J_iconst dX12_one_25 ic_m1 ?_
      exact J_iret dX12_one_26 (rt_i h) rfl
set_option maxRecDepth 20000 in
set_option maxHeartbeats 4000000 in
theorem kX12_one {l : Launch} {D : va_G} {ad : Nat → Nat} {cy : Nat → ClassId} {rv : (Int32 × Ob)} {o : Ob} {p1 : Int32} {p2 : Int32} (hi : wl_inj (ΓM ad cy)) (h : M_one o p1 p2 = some rv) : Cn l D (ΓM ad cy) yX12_one cX12_one 3 (some .int) 2 [.ref (ad 0), .int p1, .int p2] o (some (.int rv.1), rv.2) :=
  Cn.of hi rfl (Nat.le_of_ble_eq_true rfl) (fun _ _ _ hL => M_one_ok hi hL h)
set_option maxRecDepth 20000 in
set_option maxHeartbeats 4000000 in
theorem M_orNone_ok {E : Ec} {ad : Nat → Nat} {cy : Nat → ClassId} {rv : Int32} {o : Ob} {p0 : Int32} (hi : wl_inj (ΓM ad cy)) (hL : Lv E 0) (h : M_orNone o p0 = some rv) : Jw E (ΓM ad cy) RX12 cX12_orNone 1 (some .int) (some (.int rv), o) 0 [(0, .int p0)] [] o := by
  unfold M_orNone at h
  refine J_iload_n (q := 0) dX12_orNone_0 rfl rfl ?_
  refine J_bipush dX12_orNone_1 bp_9 ?_
  refine J_icmp_ne (tgt := 11) dX12_orNone_3 (by decide) (fun c1 => ?_) (fun c1 => ?_)
  · replace h := if_some h c1
    refine J_iload_n (q := 0) dX12_orNone_11 rfl rfl ?_
    exact J_iret dX12_orNone_12 (rt_pi h) rfl
  · replace h := it_some h c1
    refine J_bipush dX12_orNone_6 bp_m4 ?_
    refine J_goto (tgt := 12) dX12_orNone_8 (by decide) ?_
    exact J_iret dX12_orNone_12 (rt_pi h) rfl
set_option maxRecDepth 20000 in
set_option maxHeartbeats 4000000 in
theorem kX12_orNone {l : Launch} {D : va_G} {ad : Nat → Nat} {cy : Nat → ClassId} {rv : Int32} {o : Ob} {p0 : Int32} (hi : wl_inj (ΓM ad cy)) (h : M_orNone o p0 = some rv) : Cn l D (ΓM ad cy) yX12_orNone cX12_orNone 1 (some .int) 0 [.int p0] o (some (.int rv), o) :=
  Cn.of hi rfl (Nat.le_of_ble_eq_true rfl) (fun _ _ _ hL => M_orNone_ok hi hL h)
set_option maxRecDepth 20000 in
set_option maxHeartbeats 4000000 in
theorem pdX12_orNone : (parseMethodDescriptor yX12_orNone.desc).map (fun d => d.parameters.length) = some 1 := by decide +kernel
set_option maxRecDepth 20000 in
set_option maxHeartbeats 4000000 in
theorem kM_orNone {E : Ec} {ad : Nat → Nat} {cy : Nat → ClassId} {cc : ByteArray} {nL : Nat} {rt : Option FieldType} {r : Option Value × Ob} {pc n : Nat} {lv : List (Nat × Value)} {st : List Value} {o : Ob} {p0 : Int32} {v : Int32} (hi : wl_inj (ΓM ad cy)) (hd : decode cc pc = .ok (.invokestatic 223, 3)) (hq : M_orNone o p0 = some v) (hL : Lv E n) (hn : 0 + 1 ≤ n) (hW : (st.map fun v => v.category).sum ≤ 8) (k : Jw E (ΓM ad cy) RX12 cc nL rt r (pc + 3) lv (.int v :: st) o) : Jw E (ΓM ad cy) RX12 cc nL rt r pc lv (.int p0 :: st) o :=
  J_callS (av := [.int p0]) (q := (some (.int v), o)) (st := st) hd (kX12_orNone hi hq) tw_5_160 tw_5_161 tw_1_13 tw_5_162 ⟨by decide, by decide, pdX12_orNone⟩ rfl (by decide) hL hn hW k
set_option maxRecDepth 20000 in
set_option maxHeartbeats 4000000 in
theorem M_thing_ok {E : Ec} {ad : Nat → Nat} {cy : Nat → ClassId} {rv : (Int32 × Ob)} {o : Ob} {p1 : Int32} {p2 : Int32} (hi : wl_inj (ΓM ad cy)) (hL : Lv E 2) (h : M_thing o p1 p2 = some rv) : Jw E (ΓM ad cy) RX12 cX12_thing 3 (some .int) (some (.int rv.1), rv.2) 0 [(0, .ref (ad 0)), (1, .int p1), (2, .int p2)] [] o := by
  unfold M_thing at h
  refine J_aload_n (q := 0) dX12_thing_0 rfl rfl ?_
  refine J_iconst dX12_thing_1 ic_0 ?_
  refine pM_thrown dX12_thing_2 ?_
  refine J_tw (fun o1 eo1 => ?_)
  replace h := nm_some eo1 h
  refine J_iload_n (q := 1) dX12_thing_5 rfl rfl ?_
  obtain ⟨r2, hq12, h⟩ := bd_some h
  refine kM_isThing hi dX12_thing_6 hq12 hL (by decide) (Nat.le_of_ble_eq_true rfl) ?_
  refine J_if_eq (tgt := 24) dX12_thing_9 (by decide) (fun c3 => ?_) (fun c3 => ?_)
  · replace h := it_some h c3
    refine J_iconst dX12_thing_24 ic_m1 ?_
    exact J_iret dX12_thing_25 (rt_i h) rfl
  · replace h := if_some h c3
    refine J_iload_n (q := 2) dX12_thing_12 rfl rfl ?_
    refine J_i2l dX12_thing_13 ?_
    refine J_lconst dX12_thing_14 lc_0 ?_
    refine J_ldc2 dX12_thing_15 tw_5_159 ?_
    obtain ⟨r4, hq13, h⟩ := bd_some h
    refine kM_in hi dX12_thing_18 hq13 hL (by decide) (Nat.le_of_ble_eq_true rfl) ?_
    refine J_if_ne (tgt := 26) dX12_thing_21 (by decide) (fun c5 => ?_) (fun c5 => ?_)
    · replace h := if_some h c5
      refine J_iload_n (q := 2) dX12_thing_26 rfl rfl ?_
      refine J_if_ne (tgt := 39) dX12_thing_27 (by decide) (fun c6 => ?_) (fun c6 => ?_)
      · replace h := if_some h c6
        refine J_iload_n (q := 2) dX12_thing_39 rfl rfl ?_
        refine J_iconst dX12_thing_40 ic_1 ?_
        refine J_icmp_ne (tgt := 53) dX12_thing_41 (by decide) (fun c7 => ?_) (fun c7 => ?_)
        · replace h := if_some h c7
          refine J_aload_n (q := 0) dX12_thing_53 rfl rfl ?_
          refine gM_owners dX12_thing_54 ?_
          refine J_iload_n (q := 1) dX12_thing_57 rfl rfl ?_
          obtain ⟨hg8, h⟩ := gd_some h
          refine aM_ld (h := 3) (n := 5) dX12_thing_58 (by decide) rfl hg8 ?_
          obtain ⟨r9, hq14, h⟩ := bd_some h
          refine kM_orNone hi dX12_thing_59 hq14 hL (by decide) (Nat.le_of_ble_eq_true rfl) ?_
          exact J_iret dX12_thing_62 (rt_i h) rfl
        · replace h := it_some h c7
          refine J_aload_n (q := 0) dX12_thing_44 rfl rfl ?_
          refine gM_worths dX12_thing_45 ?_
          refine J_iload_n (q := 1) dX12_thing_48 rfl rfl ?_
          obtain ⟨hg10, h⟩ := gd_some h
          refine aM_ld (h := 2) (n := 5) dX12_thing_49 (by decide) rfl hg10 ?_
          refine J_goto (tgt := 62) dX12_thing_50 (by decide) ?_
          exact J_iret dX12_thing_62 (rt_i h) rfl
      · replace h := it_some h c6
        refine J_aload_n (q := 0) dX12_thing_30 rfl rfl ?_
        refine gM_pasts dX12_thing_31 ?_
        refine J_iload_n (q := 1) dX12_thing_34 rfl rfl ?_
        obtain ⟨hg11, h⟩ := gd_some h
        refine aM_ld (h := 1) (n := 5) dX12_thing_35 (by decide) rfl hg11 ?_
        refine J_goto (tgt := 62) dX12_thing_36 (by decide) ?_
        exact J_iret dX12_thing_62 (rt_i h) rfl
    · replace h := it_some h c5
      refine J_iconst dX12_thing_24 ic_m1 ?_
      exact J_iret dX12_thing_25 (rt_i h) rfl
set_option maxRecDepth 20000 in
set_option maxHeartbeats 4000000 in
theorem kX12_thing {l : Launch} {D : va_G} {ad : Nat → Nat} {cy : Nat → ClassId} {rv : (Int32 × Ob)} {o : Ob} {p1 : Int32} {p2 : Int32} (hi : wl_inj (ΓM ad cy)) (h : M_thing o p1 p2 = some rv) : Cn l D (ΓM ad cy) yX12_thing cX12_thing 3 (some .int) 2 [.ref (ad 0), .int p1, .int p2] o (some (.int rv.1), rv.2) :=
  Cn.of hi rfl (Nat.le_of_ble_eq_true rfl) (fun _ _ _ hL => M_thing_ok hi hL h)
set_option maxRecDepth 20000 in
set_option maxHeartbeats 4000000 in
theorem M_story_ok {E : Ec} {ad : Nat → Nat} {cy : Nat → ClassId} {rv : (Int32 × Ob)} {o : Ob} {p1 : Int32} {p2 : Int32} {p3 : Int32} (hi : wl_inj (ΓM ad cy)) (hL : Lv E 3) (h : M_story o p1 p2 p3 = some rv) : Jw E (ΓM ad cy) RX12 cX12_story 4 (some .int) (some (.int rv.1), rv.2) 0 [(0, .ref (ad 0)), (1, .int p1), (2, .int p2), (3, .int p3)] [] o := by
  unfold M_story at h
  refine J_aload_n (q := 0) dX12_story_0 rfl rfl ?_
  refine J_iconst dX12_story_1 ic_0 ?_
  refine pM_thrown dX12_story_2 ?_
  refine J_tw (fun o1 eo1 => ?_)
  replace h := nm_some eo1 h
  refine J_aload_n (q := 0) dX12_story_5 rfl rfl ?_
  refine J_iload_n (q := 1) dX12_story_6 rfl rfl ?_
  obtain ⟨r2, hq11, h⟩ := bd_some h
  refine kM_isOne hi dX12_story_7 hq11 hL (by decide) (Nat.le_of_ble_eq_true rfl) ?_
  refine J_if_eq (tgt := 30) dX12_story_10 (by decide) (fun c3 => ?_) (fun c3 => ?_)
  · replace h := it_some h c3
    refine J_iconst dX12_story_30 ic_m1 ?_
    exact J_iret dX12_story_31 (rt_i h) rfl
  · replace h := if_some h c3
    refine J_iload_n (q := 2) dX12_story_13 rfl rfl ?_
    obtain ⟨r4, hq12, h⟩ := bd_some h
    refine kM_isThing hi dX12_story_14 hq12 hL (by decide) (Nat.le_of_ble_eq_true rfl) ?_
    refine J_if_eq (tgt := 30) dX12_story_17 (by decide) (fun c5 => ?_) (fun c5 => ?_)
    · replace h := it_some h c5
      refine J_iconst dX12_story_30 ic_m1 ?_
      exact J_iret dX12_story_31 (rt_i h) rfl
    · replace h := if_some h c5
      refine J_iload_n (q := 3) dX12_story_20 rfl rfl ?_
      refine J_i2l dX12_story_21 ?_
      refine J_lconst dX12_story_22 lc_0 ?_
      refine J_lconst dX12_story_23 lc_1 ?_
      obtain ⟨r6, hq13, h⟩ := bd_some h
      refine kM_in hi dX12_story_24 hq13 hL (by decide) (Nat.le_of_ble_eq_true rfl) ?_
      refine J_if_ne (tgt := 32) dX12_story_27 (by decide) (fun c7 => ?_) (fun c7 => ?_)
      · replace h := if_some h c7
        refine J_iload_n (q := 3) dX12_story_32 rfl rfl ?_
        refine J_if_ne (tgt := 49) dX12_story_33 (by decide) (fun c8 => ?_) (fun c8 => ?_)
        · replace h := if_some h c8
          refine J_aload_n (q := 0) dX12_story_49 rfl rfl ?_
          refine J_iload_n (q := 1) dX12_story_50 rfl rfl ?_
          refine J_iload_n (q := 2) dX12_story_51 rfl rfl ?_
          obtain ⟨r9, hq14, h⟩ := bd_some h
          refine kM_storyOf hi dX12_story_52 hq14 hL (by decide) (Nat.le_of_ble_eq_true rfl) ?_
          exact J_iret dX12_story_55 (rt_i h) rfl
        · replace h := it_some h c8
          refine J_aload_n (q := 0) dX12_story_36 rfl rfl ?_
          refine gM_knows dX12_story_37 ?_
          refine J_iconst dX12_story_40 ic_5 ?_
          refine J_iload_n (q := 1) dX12_story_41 rfl rfl ?_
          refine J_imul dX12_story_42 ?_
          refine J_iload_n (q := 2) dX12_story_43 rfl rfl ?_
          refine J_iadd dX12_story_44 ?_
          obtain ⟨hg10, h⟩ := gd_some h
          refine aM_ld (h := 7) (n := 35) dX12_story_45 (by decide) rfl hg10 ?_
          refine J_goto (tgt := 55) dX12_story_46 (by decide) ?_
          exact J_iret dX12_story_55 (rt_i h) rfl
      · replace h := it_some h c7
        refine J_iconst dX12_story_30 ic_m1 ?_
        exact J_iret dX12_story_31 (rt_i h) rfl
set_option maxRecDepth 20000 in
set_option maxHeartbeats 4000000 in
theorem kX12_story {l : Launch} {D : va_G} {ad : Nat → Nat} {cy : Nat → ClassId} {rv : (Int32 × Ob)} {o : Ob} {p1 : Int32} {p2 : Int32} {p3 : Int32} (hi : wl_inj (ΓM ad cy)) (h : M_story o p1 p2 p3 = some rv) : Cn l D (ΓM ad cy) yX12_story cX12_story 4 (some .int) 3 [.ref (ad 0), .int p1, .int p2, .int p3] o (some (.int rv.1), rv.2) :=
  Cn.of hi rfl (Nat.le_of_ble_eq_true rfl) (fun _ _ _ hL => M_story_ok hi hL h)
set_option maxRecDepth 20000 in
set_option maxHeartbeats 4000000 in
theorem M_wrongKept_ok {E : Ec} {ad : Nat → Nat} {cy : Nat → ClassId} {rv : Int32} {o : Ob} {p1 : Int32} (hi : wl_inj (ΓM ad cy)) (hL : Lv E 1) (h : M_wrongKept o p1 = some rv) : Jw E (ΓM ad cy) RX12 cX12_wrongKept 2 (some .int) (some (.int rv), o) 0 [(0, .ref (ad 0)), (1, .int p1)] [] o := by
  unfold M_wrongKept at h
  refine J_iload_n (q := 1) dX12_wrongKept_0 rfl rfl ?_
  refine J_i2l dX12_wrongKept_1 ?_
  refine J_lconst dX12_wrongKept_2 lc_0 ?_
  refine J_ldc2 dX12_wrongKept_3 tw_5_29 ?_
  obtain ⟨r1, hq7, h⟩ := bd_some h
  refine kM_in hi dX12_wrongKept_6 hq7 hL (by decide) (Nat.le_of_ble_eq_true rfl) ?_
  refine J_if_ne (tgt := 16) dX12_wrongKept_9 (by decide) (fun c2 => ?_) (fun c2 => ?_)
  · replace h := if_some h c2
    refine J_aload_n (q := 0) dX12_wrongKept_16 rfl rfl ?_
    refine gM_holdsWhat dX12_wrongKept_17 ?_
    refine J_iload_n (q := 1) dX12_wrongKept_20 rfl rfl ?_
    obtain ⟨hg3, h⟩ := gd_some h
    refine aM_ld (h := 8) (n := 8) dX12_wrongKept_21 (by decide) rfl hg3 ?_
    refine J_if_ne (tgt := 30) dX12_wrongKept_22 (by decide) (fun c4 => ?_) (fun c4 => ?_)
    · replace h := if_some h c4
      refine J_aload_n (q := 0) dX12_wrongKept_30 rfl rfl ?_
      refine gM_holdsWhat dX12_wrongKept_31 ?_
      refine J_iload_n (q := 1) dX12_wrongKept_34 rfl rfl ?_
      obtain ⟨hg5, h⟩ := gd_some h
      refine aM_ld (h := 8) (n := 8) dX12_wrongKept_35 (by decide) rfl hg5 ?_
      refine J_iconst dX12_wrongKept_36 ic_2 ?_
      refine J_icmp_ne (tgt := 45) dX12_wrongKept_37 (by decide) (fun c6 => ?_) (fun c6 => ?_)
      · replace h := if_some h c6
        refine J_iconst dX12_wrongKept_45 ic_0 ?_
        exact J_iret dX12_wrongKept_46 (rt_pi h) rfl
      · replace h := it_some h c6
        refine J_bipush dX12_wrongKept_40 bp_m12 ?_
        refine J_goto (tgt := 46) dX12_wrongKept_42 (by decide) ?_
        exact J_iret dX12_wrongKept_46 (rt_pi h) rfl
    · replace h := it_some h c4
      refine J_bipush dX12_wrongKept_25 bp_m11 ?_
      refine J_goto (tgt := 46) dX12_wrongKept_27 (by decide) ?_
      exact J_iret dX12_wrongKept_46 (rt_pi h) rfl
  · replace h := it_some h c2
    refine J_iconst dX12_wrongKept_12 ic_m1 ?_
    refine J_goto (tgt := 46) dX12_wrongKept_13 (by decide) ?_
    exact J_iret dX12_wrongKept_46 (rt_pi h) rfl
set_option maxRecDepth 20000 in
set_option maxHeartbeats 4000000 in
theorem kX12_wrongKept {l : Launch} {D : va_G} {ad : Nat → Nat} {cy : Nat → ClassId} {rv : Int32} {o : Ob} {p1 : Int32} (hi : wl_inj (ΓM ad cy)) (h : M_wrongKept o p1 = some rv) : Cn l D (ΓM ad cy) yX12_wrongKept cX12_wrongKept 2 (some .int) 1 [.ref (ad 0), .int p1] o (some (.int rv), o) :=
  Cn.of hi rfl (Nat.le_of_ble_eq_true rfl) (fun _ _ _ hL => M_wrongKept_ok hi hL h)
set_option maxRecDepth 20000 in
set_option maxHeartbeats 4000000 in
theorem pdX12_wrongKept : (parseMethodDescriptor yX12_wrongKept.desc).map (fun d => d.parameters.length) = some 1 := by decide +kernel
set_option maxRecDepth 20000 in
set_option maxHeartbeats 4000000 in
theorem kM_wrongKept {E : Ec} {ad : Nat → Nat} {cy : Nat → ClassId} {cc : ByteArray} {nL : Nat} {rt : Option FieldType} {r : Option Value × Ob} {pc n : Nat} {lv : List (Nat × Value)} {st : List Value} {o : Ob} {p1 : Int32} {v : Int32} (hi : wl_inj (ΓM ad cy)) (hd : decode cc pc = .ok (.invokevirtual 228, 3)) (hq : M_wrongKept o p1 = some v) (hL : Lv E n) (hn : 1 + 1 ≤ n) (hW : (st.map fun v => v.category).sum ≤ 8) (k : Jw E (ΓM ad cy) RX12 cc nL rt r (pc + 3) lv (.int v :: st) o) : Jw E (ΓM ad cy) RX12 cc nL rt r pc lv (.int p1 :: .ref (ad 0) :: st) o :=
  J_callV (h := 0) (ci := 11) (av := [.int p1]) (q := (some (.int v), o)) (st := st) hd (kX12_wrongKept hi hq) tw_5_171 tw_5_173 tw_1_13 tw_5_174 sl_3_12 ⟨by decide, by decide, pdX12_wrongKept⟩ (Nat.le_of_ble_eq_true rfl) rfl rfl rfl rfl (by decide) hL hn hW k
set_option maxRecDepth 20000 in
set_option maxHeartbeats 4000000 in
theorem M_comes_ok {E : Ec} {ad : Nat → Nat} {cy : Nat → ClassId} {rv : (Int32 × Ob)} {o : Ob} {p1 : Int32} {p2 : Int32} (hi : wl_inj (ΓM ad cy)) (hL : Lv E 4) (h : M_comes o p1 p2 = some rv) : Jw E (ΓM ad cy) RX12 cX12_comes 3 (some .int) (some (.int rv.1), rv.2) 0 [(0, .ref (ad 0)), (1, .int p1), (2, .int p2)] [] o := by
  unfold M_comes at h
  refine J_aload_n (q := 0) dX12_comes_0 rfl rfl ?_
  refine J_iconst dX12_comes_1 ic_0 ?_
  refine pM_thrown dX12_comes_2 ?_
  refine J_tw (fun o1 eo1 => ?_)
  replace h := nm_some eo1 h
  refine J_iload_n (q := 1) dX12_comes_5 rfl rfl ?_
  refine J_i2l dX12_comes_6 ?_
  refine J_lconst dX12_comes_7 lc_0 ?_
  refine J_ldc2 dX12_comes_8 tw_5_29 ?_
  obtain ⟨r2, hq16, h⟩ := bd_some h
  refine kM_in hi dX12_comes_11 hq16 hL (by decide) (Nat.le_of_ble_eq_true rfl) ?_
  refine J_if_eq (tgt := 24) dX12_comes_14 (by decide) (fun c3 => ?_) (fun c3 => ?_)
  · replace h := it_some h c3
    refine J_iconst dX12_comes_24 ic_m1 ?_
    exact J_iret dX12_comes_25 (rt_i h) rfl
  · replace h := if_some h c3
    refine J_iload_n (q := 2) dX12_comes_17 rfl rfl ?_
    obtain ⟨r4, hq17, h⟩ := bd_some h
    refine kM_isCare hi dX12_comes_18 hq17 hL (by decide) (Nat.le_of_ble_eq_true rfl) ?_
    refine J_if_ne (tgt := 26) dX12_comes_21 (by decide) (fun c5 => ?_) (fun c5 => ?_)
    · replace h := if_some h c5
      refine J_aload_n (q := 0) dX12_comes_26 rfl rfl ?_
      refine J_iload_n (q := 1) dX12_comes_27 rfl rfl ?_
      obtain ⟨r6, hq18, h⟩ := bd_some h
      refine kM_wrongKept hi dX12_comes_28 hq18 hL (by decide) (Nat.le_of_ble_eq_true rfl) ?_
      obtain ⟨kk43, ekk43, h⟩ := jn_some h
      have K43 : kk43 = some rv → Jw E (ΓM ad cy) RX12 cX12_comes 3 (some .int) (some (.int rv.1), rv.2) 43 [(0, .ref (ad 0)), (1, .int p1)] [] o1 := by
        subst ekk43
        clear h
        intro h
        refine J_aload_n (q := 0) dX12_comes_43 rfl rfl ?_
        refine J_iload_n (q := 1) dX12_comes_44 rfl rfl ?_
        obtain ⟨r13, hq19, h⟩ := bd_some h
        refine kM_wrongKept hi dX12_comes_45 hq19 hL (by decide) (Nat.le_of_ble_eq_true rfl) ?_
        refine J_if_ge (tgt := 59) dX12_comes_48 (by decide) (fun c14 => ?_) (fun c14 => ?_)
        · replace h := it_some h c14
          refine J_bipush dX12_comes_59 bp_m2 ?_
          exact J_iret dX12_comes_61 (rt_i h) rfl
        · replace h := if_some h c14
          refine J_aload_n (q := 0) dX12_comes_51 rfl rfl ?_
          refine J_iload_n (q := 1) dX12_comes_52 rfl rfl ?_
          obtain ⟨r15, hq20, h⟩ := bd_some h
          refine kM_wrongKept hi dX12_comes_53 hq20 hL (by decide) (Nat.le_of_ble_eq_true rfl) ?_
          refine J_goto (tgt := 61) dX12_comes_56 (by decide) ?_
          exact J_iret dX12_comes_61 (rt_i h) rfl
      clear ekk43
      refine J_if_lt (tgt := 43) dX12_comes_31 (by decide) (fun c7 => ?_) (fun c7 => ?_)
      · replace h := it_some h c7
        exact J_sub [0, 1] rfl (K43 h)
      · replace h := if_some h c7
        refine J_aload_n (q := 0) dX12_comes_34 rfl rfl ?_
        refine gM_many dX12_comes_35 ?_
        refine J_bipush dX12_comes_38 bp_7 ?_
        refine J_icmp_ne (tgt := 62) dX12_comes_40 (by decide) (fun c8 => ?_) (fun c8 => ?_)
        · replace h := if_some h c8
          refine J_aload_n (q := 0) dX12_comes_62 rfl rfl ?_
          refine J_aload_n (q := 0) dX12_comes_63 rfl rfl ?_
          refine gM_keptKind dX12_comes_64 ?_
          refine J_iload_n (q := 1) dX12_comes_67 rfl rfl ?_
          obtain ⟨hg9, h⟩ := gd_some h
          refine aM_ld (h := 9) (n := 8) dX12_comes_68 (by decide) rfl hg9 ?_
          refine J_aload_n (q := 0) dX12_comes_69 rfl rfl ?_
          refine gM_keptFigure dX12_comes_70 ?_
          refine J_iload_n (q := 1) dX12_comes_73 rfl rfl ?_
          obtain ⟨hg10, h⟩ := gd_some h
          refine aM_ld (h := 10) (n := 8) dX12_comes_74 (by decide) rfl hg10 ?_
          refine J_iload_n (q := 2) dX12_comes_75 rfl rfl ?_
          obtain ⟨r11, o12, hq21, h⟩ := bd2_some h
          refine kM_oneComes hi dX12_comes_76 hq21 hL (by decide) (Nat.le_of_ble_eq_true rfl) ?_
          refine J_pop dX12_comes_79 rfl ?_
          refine J_aload_n (q := 0) dX12_comes_80 rfl rfl ?_
          refine gM_many dX12_comes_81 ?_
          refine J_iconst dX12_comes_84 ic_1 ?_
          refine J_isub dX12_comes_85 ?_
          exact J_iret dX12_comes_86 (rt_i h) rfl
        · replace h := it_some h c8
          exact J_sub [0, 1] rfl (K43 h)
    · replace h := it_some h c5
      refine J_iconst dX12_comes_24 ic_m1 ?_
      exact J_iret dX12_comes_25 (rt_i h) rfl
set_option maxRecDepth 20000 in
set_option maxHeartbeats 4000000 in
theorem kX12_comes {l : Launch} {D : va_G} {ad : Nat → Nat} {cy : Nat → ClassId} {rv : (Int32 × Ob)} {o : Ob} {p1 : Int32} {p2 : Int32} (hi : wl_inj (ΓM ad cy)) (h : M_comes o p1 p2 = some rv) : Cn l D (ΓM ad cy) yX12_comes cX12_comes 3 (some .int) 4 [.ref (ad 0), .int p1, .int p2] o (some (.int rv.1), rv.2) :=
  Cn.of hi rfl (Nat.le_of_ble_eq_true rfl) (fun _ _ _ hL => M_comes_ok hi hL h)
set_option maxRecDepth 20000 in
set_option maxHeartbeats 4000000 in
theorem M_learns_ok {E : Ec} {ad : Nat → Nat} {cy : Nat → ClassId} {rv : (Int32 × Ob)} {o : Ob} {p1 : Int32} {p2 : Int32} {p3 : Int32} (hi : wl_inj (ΓM ad cy)) (hL : Lv E 2) (h : M_learns o p1 p2 p3 = some rv) : Jw E (ΓM ad cy) RX12 cX12_learns 4 (some .int) (some (.int rv.1), rv.2) 0 [(0, .ref (ad 0)), (1, .int p1), (2, .int p2), (3, .int p3)] [] o := by
  unfold M_learns at h
  refine J_aload_n (q := 0) dX12_learns_0 rfl rfl ?_
  refine J_iconst dX12_learns_1 ic_0 ?_
  refine pM_thrown dX12_learns_2 ?_
  refine J_tw (fun o1 eo1 => ?_)
  replace h := nm_some eo1 h
  refine J_aload_n (q := 0) dX12_learns_5 rfl rfl ?_
  refine J_iload_n (q := 1) dX12_learns_6 rfl rfl ?_
  obtain ⟨r2, hq15, h⟩ := bd_some h
  refine kM_isOne hi dX12_learns_7 hq15 hL (by decide) (Nat.le_of_ble_eq_true rfl) ?_
  refine J_if_eq (tgt := 32) dX12_learns_10 (by decide) (fun c3 => ?_) (fun c3 => ?_)
  · replace h := it_some h c3
    refine J_iconst dX12_learns_32 ic_m1 ?_
    exact J_iret dX12_learns_33 (rt_i h) rfl
  · replace h := if_some h c3
    refine J_iload_n (q := 2) dX12_learns_13 rfl rfl ?_
    obtain ⟨r4, hq16, h⟩ := bd_some h
    refine kM_isThing hi dX12_learns_14 hq16 hL (by decide) (Nat.le_of_ble_eq_true rfl) ?_
    refine J_if_eq (tgt := 32) dX12_learns_17 (by decide) (fun c5 => ?_) (fun c5 => ?_)
    · replace h := it_some h c5
      refine J_iconst dX12_learns_32 ic_m1 ?_
      exact J_iret dX12_learns_33 (rt_i h) rfl
    · replace h := if_some h c5
      refine J_iload_n (q := 3) dX12_learns_20 rfl rfl ?_
      refine J_i2l dX12_learns_21 ?_
      refine J_lconst dX12_learns_22 lc_0 ?_
      refine J_ldc2 dX12_learns_23 tw_5_179 ?_
      obtain ⟨r6, hq17, h⟩ := bd_some h
      refine kM_in hi dX12_learns_26 hq17 hL (by decide) (Nat.le_of_ble_eq_true rfl) ?_
      refine J_if_ne (tgt := 34) dX12_learns_29 (by decide) (fun c7 => ?_) (fun c7 => ?_)
      · replace h := if_some h c7
        refine J_aload_n (q := 0) dX12_learns_34 rfl rfl ?_
        refine gM_knows dX12_learns_35 ?_
        refine J_iconst dX12_learns_38 ic_5 ?_
        refine J_iload_n (q := 1) dX12_learns_39 rfl rfl ?_
        refine J_imul dX12_learns_40 ?_
        refine J_iload_n (q := 2) dX12_learns_41 rfl rfl ?_
        refine J_iadd dX12_learns_42 ?_
        refine J_ti (fun v8 ev8 => ?_)
        replace h := nm_some ev8 h
        refine J_dup2 dX12_learns_43 rfl rfl ?_
        obtain ⟨hg9, h⟩ := gd_some h
        refine aM_ld (h := 7) (n := 35) dX12_learns_44 (by decide) rfl hg9 ?_
        refine J_iconst dX12_learns_45 ic_1 ?_
        refine J_iload_n (q := 3) dX12_learns_46 rfl rfl ?_
        refine J_ishl dX12_learns_47 ?_
        refine J_ixor dX12_learns_48 ?_
        obtain ⟨hg10, h⟩ := gd_some h
        refine aM_st (h := 7) (n := 35) dX12_learns_49 (by decide) rfl hg10 ?_
        refine J_tw (fun o11 eo11 => ?_)
        replace h := nm_some eo11 h
        refine J_aload_n (q := 0) dX12_learns_50 rfl rfl ?_
        refine gM_knows dX12_learns_51 ?_
        refine J_iconst dX12_learns_54 ic_5 ?_
        refine J_iload_n (q := 1) dX12_learns_55 rfl rfl ?_
        refine J_imul dX12_learns_56 ?_
        refine J_iload_n (q := 2) dX12_learns_57 rfl rfl ?_
        refine J_iadd dX12_learns_58 ?_
        obtain ⟨hg12, h⟩ := gd_some h
        refine aM_ld (h := 7) (n := 35) dX12_learns_59 (by decide) rfl hg12 ?_
        refine J_iload_n (q := 3) dX12_learns_60 rfl rfl ?_
        obtain ⟨r13, hq18, h⟩ := bd_some h
        refine kM_hasBit hi dX12_learns_61 hq18 hL (by decide) (Nat.le_of_ble_eq_true rfl) ?_
        refine J_if_eq (tgt := 71) dX12_learns_64 (by decide) (fun c14 => ?_) (fun c14 => ?_)
        · replace h := it_some h c14
          refine J_iconst dX12_learns_71 ic_0 ?_
          exact J_iret dX12_learns_72 (rt_i h) rfl
        · replace h := if_some h c14
          refine J_iconst dX12_learns_67 ic_1 ?_
          refine J_goto (tgt := 72) dX12_learns_68 (by decide) ?_
          exact J_iret dX12_learns_72 (rt_i h) rfl
      · replace h := it_some h c7
        refine J_iconst dX12_learns_32 ic_m1 ?_
        exact J_iret dX12_learns_33 (rt_i h) rfl
set_option maxRecDepth 20000 in
set_option maxHeartbeats 4000000 in
theorem kX12_learns {l : Launch} {D : va_G} {ad : Nat → Nat} {cy : Nat → ClassId} {rv : (Int32 × Ob)} {o : Ob} {p1 : Int32} {p2 : Int32} {p3 : Int32} (hi : wl_inj (ΓM ad cy)) (h : M_learns o p1 p2 p3 = some rv) : Cn l D (ΓM ad cy) yX12_learns cX12_learns 4 (some .int) 2 [.ref (ad 0), .int p1, .int p2, .int p3] o (some (.int rv.1), rv.2) :=
  Cn.of hi rfl (Nat.le_of_ble_eq_true rfl) (fun _ _ _ hL => M_learns_ok hi hL h)
set_option maxRecDepth 20000 in
set_option maxHeartbeats 4000000 in
theorem M_cares_ok {E : Ec} {ad : Nat → Nat} {cy : Nat → ClassId} {rv : (Int32 × Ob)} {o : Ob} {p1 : Int32} {p2 : Int32} (hi : wl_inj (ΓM ad cy)) (hL : Lv E 3) (h : M_cares o p1 p2 = some rv) : Jw E (ΓM ad cy) RX12 cX12_cares 4 (some .int) (some (.int rv.1), rv.2) 0 [(0, .ref (ad 0)), (1, .int p1), (2, .int p2)] [] o := by
  unfold M_cares at h
  refine J_aload_n (q := 0) dX12_cares_0 rfl rfl ?_
  refine J_iconst dX12_cares_1 ic_0 ?_
  refine pM_thrown dX12_cares_2 ?_
  refine J_tw (fun o1 eo1 => ?_)
  replace h := nm_some eo1 h
  refine J_aload_n (q := 0) dX12_cares_5 rfl rfl ?_
  refine J_iload_n (q := 1) dX12_cares_6 rfl rfl ?_
  obtain ⟨r2, hq10, h⟩ := bd_some h
  refine kM_isOne hi dX12_cares_7 hq10 hL (by decide) (Nat.le_of_ble_eq_true rfl) ?_
  refine J_if_eq (tgt := 20) dX12_cares_10 (by decide) (fun c3 => ?_) (fun c3 => ?_)
  · replace h := it_some h c3
    refine J_iconst dX12_cares_20 ic_m1 ?_
    exact J_iret dX12_cares_21 (rt_i h) rfl
  · replace h := if_some h c3
    refine J_iload_n (q := 2) dX12_cares_13 rfl rfl ?_
    obtain ⟨r4, hq11, h⟩ := bd_some h
    refine kM_isCare hi dX12_cares_14 hq11 hL (by decide) (Nat.le_of_ble_eq_true rfl) ?_
    refine J_if_ne (tgt := 22) dX12_cares_17 (by decide) (fun c5 => ?_) (fun c5 => ?_)
    · replace h := if_some h c5
      refine J_aload_n (q := 0) dX12_cares_22 rfl rfl ?_
      refine gM_caring dX12_cares_23 ?_
      refine J_iload_n (q := 1) dX12_cares_26 rfl rfl ?_
      obtain ⟨hg6, h⟩ := gd_some h
      refine aM_ld (h := 6) (n := 7) dX12_cares_27 (by decide) rfl hg6 ?_
      refine J_ti (fun v7 ev7 => ?_)
      replace h := nm_some ev7 h
      refine J_istore_n (lv' := [(3, .int v7), (0, .ref (ad 0)), (1, .int p1), (2, .int p2)]) dX12_cares_28 rfl (by decide) rfl ?_
      refine J_aload_n (q := 1) dX12_cares_29 rfl rfl ?_
      refine gM_caring dX12_cares_30 ?_
      refine J_iload_n (q := 2) dX12_cares_33 rfl rfl ?_
      refine J_iload_n (q := 3) dX12_cares_34 rfl rfl ?_
      obtain ⟨hg8, h⟩ := gd_some h
      refine aM_st (h := 6) (n := 7) dX12_cares_35 (by decide) rfl hg8 ?_
      refine J_tw (fun o9 eo9 => ?_)
      replace h := nm_some eo9 h
      refine J_iload_n (q := 0) dX12_cares_36 rfl rfl ?_
      exact J_iret dX12_cares_37 (rt_i h) rfl
    · replace h := it_some h c5
      refine J_iconst dX12_cares_20 ic_m1 ?_
      exact J_iret dX12_cares_21 (rt_i h) rfl
set_option maxRecDepth 20000 in
set_option maxHeartbeats 4000000 in
theorem kX12_cares {l : Launch} {D : va_G} {ad : Nat → Nat} {cy : Nat → ClassId} {rv : (Int32 × Ob)} {o : Ob} {p1 : Int32} {p2 : Int32} (hi : wl_inj (ΓM ad cy)) (h : M_cares o p1 p2 = some rv) : Cn l D (ΓM ad cy) yX12_cares cX12_cares 4 (some .int) 3 [.ref (ad 0), .int p1, .int p2] o (some (.int rv.1), rv.2) :=
  Cn.of hi rfl (Nat.le_of_ble_eq_true rfl) (fun _ _ _ hL => M_cares_ok hi hL h)
set_option maxRecDepth 20000 in
set_option maxHeartbeats 4000000 in
theorem M_gives_ok {E : Ec} {ad : Nat → Nat} {cy : Nat → ClassId} {rv : (Int32 × Ob)} {o : Ob} {p1 : Int32} {p2 : Int32} (hi : wl_inj (ΓM ad cy)) (hL : Lv E 2) (h : M_gives o p1 p2 = some rv) : Jw E (ΓM ad cy) RX12 cX12_gives 4 (some .int) (some (.int rv.1), rv.2) 0 [(0, .ref (ad 0)), (1, .int p1), (2, .int p2)] [] o := by
  unfold M_gives at h
  refine J_aload_n (q := 0) dX12_gives_0 rfl rfl ?_
  refine J_iconst dX12_gives_1 ic_0 ?_
  refine pM_thrown dX12_gives_2 ?_
  refine J_tw (fun o1 eo1 => ?_)
  replace h := nm_some eo1 h
  refine J_iload_n (q := 1) dX12_gives_5 rfl rfl ?_
  obtain ⟨r2, hq12, h⟩ := bd_some h
  refine kM_isThing hi dX12_gives_6 hq12 hL (by decide) (Nat.le_of_ble_eq_true rfl) ?_
  refine J_if_eq (tgt := 26) dX12_gives_9 (by decide) (fun c3 => ?_) (fun c3 => ?_)
  · replace h := it_some h c3
    refine J_iconst dX12_gives_26 ic_m1 ?_
    exact J_iret dX12_gives_27 (rt_i h) rfl
  · replace h := if_some h c3
    refine J_aload_n (q := 0) dX12_gives_12 rfl rfl ?_
    refine J_iload_n (q := 2) dX12_gives_13 rfl rfl ?_
    obtain ⟨r4, hq13, h⟩ := bd_some h
    refine kM_isOne hi dX12_gives_14 hq13 hL (by decide) (Nat.le_of_ble_eq_true rfl) ?_
    obtain ⟨kk28, ekk28, h⟩ := jn_some h
    have K28 : kk28 = some rv → Jw E (ΓM ad cy) RX12 cX12_gives 4 (some .int) (some (.int rv.1), rv.2) 28 [(0, .ref (ad 0)), (1, .int p1), (2, .int p2)] [] o1 := by
      subst ekk28
      clear h
      intro h
      refine J_aload_n (q := 0) dX12_gives_28 rfl rfl ?_
      refine gM_owners dX12_gives_29 ?_
      refine J_iload_n (q := 1) dX12_gives_32 rfl rfl ?_
      obtain ⟨hg7, h⟩ := gd_some h
      refine aM_ld (h := 3) (n := 5) dX12_gives_33 (by decide) rfl hg7 ?_
      refine J_ti (fun v8 ev8 => ?_)
      replace h := nm_some ev8 h
      refine J_istore_n (lv' := [(3, .int v8), (0, .ref (ad 0)), (1, .int p1), (2, .int p2)]) dX12_gives_34 rfl (by decide) rfl ?_
      refine J_aload_n (q := 1) dX12_gives_35 rfl rfl ?_
      refine gM_owners dX12_gives_36 ?_
      refine J_iload_n (q := 2) dX12_gives_39 rfl rfl ?_
      refine J_iload_n (q := 3) dX12_gives_40 rfl rfl ?_
      obtain ⟨hg9, h⟩ := gd_some h
      refine aM_st (h := 3) (n := 5) dX12_gives_41 (by decide) rfl hg9 ?_
      refine J_tw (fun o10 eo10 => ?_)
      replace h := nm_some eo10 h
      refine J_iload_n (q := 0) dX12_gives_42 rfl rfl ?_
      obtain ⟨r11, hq14, h⟩ := bd_some h
      refine kM_orNone hi dX12_gives_43 hq14 hL (by decide) (Nat.le_of_ble_eq_true rfl) ?_
      exact J_iret dX12_gives_46 (rt_i h) rfl
    clear ekk28
    refine J_if_ne (tgt := 28) dX12_gives_17 (by decide) (fun c5 => ?_) (fun c5 => ?_)
    · replace h := if_some h c5
      exact J_sub [0, 1, 2] rfl (K28 h)
    · replace h := it_some h c5
      refine J_iload_n (q := 2) dX12_gives_20 rfl rfl ?_
      refine J_bipush dX12_gives_21 bp_9 ?_
      refine J_icmp_eq (tgt := 28) dX12_gives_23 (by decide) (fun c6 => ?_) (fun c6 => ?_)
      · replace h := it_some h c6
        exact J_sub [0, 1, 2] rfl (K28 h)
      · replace h := if_some h c6
        refine J_iconst dX12_gives_26 ic_m1 ?_
        exact J_iret dX12_gives_27 (rt_i h) rfl
set_option maxRecDepth 20000 in
set_option maxHeartbeats 4000000 in
theorem kX12_gives {l : Launch} {D : va_G} {ad : Nat → Nat} {cy : Nat → ClassId} {rv : (Int32 × Ob)} {o : Ob} {p1 : Int32} {p2 : Int32} (hi : wl_inj (ΓM ad cy)) (h : M_gives o p1 p2 = some rv) : Cn l D (ΓM ad cy) yX12_gives cX12_gives 4 (some .int) 2 [.ref (ad 0), .int p1, .int p2] o (some (.int rv.1), rv.2) :=
  Cn.of hi rfl (Nat.le_of_ble_eq_true rfl) (fun _ _ _ hL => M_gives_ok hi hL h)
set_option maxRecDepth 20000 in
set_option maxHeartbeats 4000000 in
theorem M_past_ok {E : Ec} {ad : Nat → Nat} {cy : Nat → ClassId} {rv : (Int32 × Ob)} {o : Ob} {p1 : Int32} {p2 : Int32} (hi : wl_inj (ΓM ad cy)) (hL : Lv E 2) (h : M_past o p1 p2 = some rv) : Jw E (ΓM ad cy) RX12 cX12_past 4 (some .int) (some (.int rv.1), rv.2) 0 [(0, .ref (ad 0)), (1, .int p1), (2, .int p2)] [] o := by
  unfold M_past at h
  refine J_aload_n (q := 0) dX12_past_0 rfl rfl ?_
  refine J_iconst dX12_past_1 ic_0 ?_
  refine pM_thrown dX12_past_2 ?_
  refine J_tw (fun o1 eo1 => ?_)
  replace h := nm_some eo1 h
  refine J_iload_n (q := 1) dX12_past_5 rfl rfl ?_
  obtain ⟨r2, hq10, h⟩ := bd_some h
  refine kM_isThing hi dX12_past_6 hq10 hL (by decide) (Nat.le_of_ble_eq_true rfl) ?_
  refine J_if_eq (tgt := 24) dX12_past_9 (by decide) (fun c3 => ?_) (fun c3 => ?_)
  · replace h := it_some h c3
    refine J_iconst dX12_past_24 ic_m1 ?_
    exact J_iret dX12_past_25 (rt_i h) rfl
  · replace h := if_some h c3
    refine J_iload_n (q := 2) dX12_past_12 rfl rfl ?_
    refine J_i2l dX12_past_13 ?_
    refine J_lconst dX12_past_14 lc_0 ?_
    refine J_ldc2 dX12_past_15 tw_5_192 ?_
    obtain ⟨r4, hq11, h⟩ := bd_some h
    refine kM_in hi dX12_past_18 hq11 hL (by decide) (Nat.le_of_ble_eq_true rfl) ?_
    refine J_if_ne (tgt := 26) dX12_past_21 (by decide) (fun c5 => ?_) (fun c5 => ?_)
    · replace h := if_some h c5
      refine J_aload_n (q := 0) dX12_past_26 rfl rfl ?_
      refine gM_pasts dX12_past_27 ?_
      refine J_iload_n (q := 1) dX12_past_30 rfl rfl ?_
      obtain ⟨hg6, h⟩ := gd_some h
      refine aM_ld (h := 1) (n := 5) dX12_past_31 (by decide) rfl hg6 ?_
      refine J_ti (fun v7 ev7 => ?_)
      replace h := nm_some ev7 h
      refine J_istore_n (lv' := [(3, .int v7), (0, .ref (ad 0)), (1, .int p1), (2, .int p2)]) dX12_past_32 rfl (by decide) rfl ?_
      refine J_aload_n (q := 1) dX12_past_33 rfl rfl ?_
      refine gM_pasts dX12_past_34 ?_
      refine J_iload_n (q := 2) dX12_past_37 rfl rfl ?_
      refine J_iload_n (q := 3) dX12_past_38 rfl rfl ?_
      obtain ⟨hg8, h⟩ := gd_some h
      refine aM_st (h := 1) (n := 5) dX12_past_39 (by decide) rfl hg8 ?_
      refine J_tw (fun o9 eo9 => ?_)
      replace h := nm_some eo9 h
      refine J_iload_n (q := 0) dX12_past_40 rfl rfl ?_
      exact J_iret dX12_past_41 (rt_i h) rfl
    · replace h := it_some h c5
      refine J_iconst dX12_past_24 ic_m1 ?_
      exact J_iret dX12_past_25 (rt_i h) rfl
set_option maxRecDepth 20000 in
set_option maxHeartbeats 4000000 in
theorem kX12_past {l : Launch} {D : va_G} {ad : Nat → Nat} {cy : Nat → ClassId} {rv : (Int32 × Ob)} {o : Ob} {p1 : Int32} {p2 : Int32} (hi : wl_inj (ΓM ad cy)) (h : M_past o p1 p2 = some rv) : Cn l D (ΓM ad cy) yX12_past cX12_past 4 (some .int) 2 [.ref (ad 0), .int p1, .int p2] o (some (.int rv.1), rv.2) :=
  Cn.of hi rfl (Nat.le_of_ble_eq_true rfl) (fun _ _ _ hL => M_past_ok hi hL h)
set_option maxRecDepth 20000 in
set_option maxHeartbeats 4000000 in
theorem M_days_ok {E : Ec} {ad : Nat → Nat} {cy : Nat → ClassId} {rv : (Int32 × Ob)} {o : Ob} {p1 : Int32} (hi : wl_inj (ΓM ad cy)) (hL : Lv E 6) (h : M_days o p1 = some rv) : Jw E (ΓM ad cy) RX12 cX12_days 2 (some .int) (some (.int rv.1), rv.2) 0 [(0, .ref (ad 0)), (1, .int p1)] [] o := by
  unfold M_days at h
  refine J_aload_n (q := 0) dX12_days_0 rfl rfl ?_
  refine J_iconst dX12_days_1 ic_0 ?_
  refine pM_thrown dX12_days_2 ?_
  refine J_tw (fun o1 eo1 => ?_)
  replace h := nm_some eo1 h
  refine J_iload_n (q := 1) dX12_days_5 rfl rfl ?_
  refine J_i2l dX12_days_6 ?_
  refine J_lconst dX12_days_7 lc_1 ?_
  refine J_ldc2 dX12_days_8 tw_5_89 ?_
  obtain ⟨r2, hq8, h⟩ := bd_some h
  refine kM_in hi dX12_days_11 hq8 hL (by decide) (Nat.le_of_ble_eq_true rfl) ?_
  refine J_if_ne (tgt := 19) dX12_days_14 (by decide) (fun c3 => ?_) (fun c3 => ?_)
  · replace h := if_some h c3
    refine J_aload_n (q := 0) dX12_days_19 rfl rfl ?_
    refine gM_today dX12_days_20 ?_
    refine J_iload_n (q := 1) dX12_days_23 rfl rfl ?_
    refine J_iadd dX12_days_24 ?_
    refine J_sipush dX12_days_25 sp_999 ?_
    refine J_icmp_le (tgt := 34) dX12_days_28 (by decide) (fun c4 => ?_) (fun c4 => ?_)
    · replace h := it_some h c4
      refine J_aload_n (q := 0) dX12_days_34 rfl rfl ?_
      refine J_iload_n (q := 1) dX12_days_35 rfl rfl ?_
      obtain ⟨o5, hq9, h⟩ := bd_some h
      refine kM_goDays hi dX12_days_36 hq9 hL (by decide) (Nat.le_of_ble_eq_true rfl) ?_
      refine J_aload_n (q := 0) dX12_days_39 rfl rfl ?_
      obtain ⟨r6, hq10, h⟩ := bd_some h
      refine kM_ownedBits hi dX12_days_40 hq10 hL (by decide) (Nat.le_of_ble_eq_true rfl) ?_
      obtain ⟨r7, hq11, h⟩ := bd_some h
      refine kM_onesOf hi dX12_days_43 hq11 hL (by decide) (Nat.le_of_ble_eq_true rfl) ?_
      exact J_iret dX12_days_46 (rt_i h) rfl
    · replace h := if_some h c4
      refine J_bipush dX12_days_31 bp_m3 ?_
      exact J_iret dX12_days_33 (rt_i h) rfl
  · replace h := it_some h c3
    refine J_iconst dX12_days_17 ic_m1 ?_
    exact J_iret dX12_days_18 (rt_i h) rfl
set_option maxRecDepth 20000 in
set_option maxHeartbeats 4000000 in
theorem kX12_days {l : Launch} {D : va_G} {ad : Nat → Nat} {cy : Nat → ClassId} {rv : (Int32 × Ob)} {o : Ob} {p1 : Int32} (hi : wl_inj (ΓM ad cy)) (h : M_days o p1 = some rv) : Cn l D (ΓM ad cy) yX12_days cX12_days 2 (some .int) 6 [.ref (ad 0), .int p1] o (some (.int rv.1), rv.2) :=
  Cn.of hi rfl (Nat.le_of_ble_eq_true rfl) (fun _ _ _ hL => M_days_ok hi hL h)
set_option maxRecDepth 20000 in
set_option maxHeartbeats 4000000 in
theorem M_ownerThen_ok {E : Ec} {ad : Nat → Nat} {cy : Nat → ClassId} {rv : (Int32 × Ob)} {o : Ob} {p1 : Int32} {p2 : Int32} (hi : wl_inj (ΓM ad cy)) (hL : Lv E 6) (h : M_ownerThen o p1 p2 = some rv) : Jw E (ΓM ad cy) RX12 cX12_ownerThen 4 (some .int) (some (.int rv.1), rv.2) 0 [(0, .ref (ad 0)), (1, .int p1), (2, .int p2)] [] o := by
  unfold M_ownerThen at h
  refine J_aload_n (q := 0) dX12_ownerThen_0 rfl rfl ?_
  refine J_iconst dX12_ownerThen_1 ic_0 ?_
  refine pM_thrown dX12_ownerThen_2 ?_
  refine J_tw (fun o1 eo1 => ?_)
  replace h := nm_some eo1 h
  refine J_iload_n (q := 1) dX12_ownerThen_5 rfl rfl ?_
  obtain ⟨r2, hq12, h⟩ := bd_some h
  refine kM_isThing hi dX12_ownerThen_6 hq12 hL (by decide) (Nat.le_of_ble_eq_true rfl) ?_
  refine J_if_eq (tgt := 24) dX12_ownerThen_9 (by decide) (fun c3 => ?_) (fun c3 => ?_)
  · replace h := it_some h c3
    refine J_iconst dX12_ownerThen_24 ic_m1 ?_
    exact J_iret dX12_ownerThen_25 (rt_i h) rfl
  · replace h := if_some h c3
    refine J_iload_n (q := 2) dX12_ownerThen_12 rfl rfl ?_
    refine J_i2l dX12_ownerThen_13 ?_
    refine J_lconst dX12_ownerThen_14 lc_0 ?_
    refine J_ldc2 dX12_ownerThen_15 tw_5_89 ?_
    obtain ⟨r4, hq13, h⟩ := bd_some h
    refine kM_in hi dX12_ownerThen_18 hq13 hL (by decide) (Nat.le_of_ble_eq_true rfl) ?_
    refine J_if_ne (tgt := 26) dX12_ownerThen_21 (by decide) (fun c5 => ?_) (fun c5 => ?_)
    · replace h := if_some h c5
      refine J_aload_n (q := 0) dX12_ownerThen_26 rfl rfl ?_
      obtain ⟨o6, hq14, h⟩ := bd_some h
      refine kM_think hi dX12_ownerThen_27 hq14 hL (by decide) (Nat.le_of_ble_eq_true rfl) ?_
      refine J_aload_n (q := 0) dX12_ownerThen_30 rfl rfl ?_
      refine J_iload_n (q := 2) dX12_ownerThen_31 rfl rfl ?_
      obtain ⟨o7, hq15, h⟩ := bd_some h
      refine kM_goDays hi dX12_ownerThen_32 hq15 hL (by decide) (Nat.le_of_ble_eq_true rfl) ?_
      refine J_aload_n (q := 0) dX12_ownerThen_35 rfl rfl ?_
      refine gM_owners dX12_ownerThen_36 ?_
      refine J_iload_n (q := 1) dX12_ownerThen_39 rfl rfl ?_
      obtain ⟨hg8, h⟩ := gd_some h
      refine aM_ld (h := 3) (n := 5) dX12_ownerThen_40 (by decide) rfl hg8 ?_
      refine J_ti (fun v9 ev9 => ?_)
      replace h := nm_some ev9 h
      refine J_istore_n (lv' := [(3, .int v9), (0, .ref (ad 0)), (1, .int p1), (2, .int p2)]) dX12_ownerThen_41 rfl (by decide) rfl ?_
      refine J_aload_n (q := 1) dX12_ownerThen_42 rfl rfl ?_
      obtain ⟨o10, hq16, h⟩ := bd_some h
      refine kM_again hi dX12_ownerThen_43 hq16 hL (by decide) (Nat.le_of_ble_eq_true rfl) ?_
      refine J_iload_n (q := 0) dX12_ownerThen_46 rfl rfl ?_
      obtain ⟨r11, hq17, h⟩ := bd_some h
      refine kM_orNone hi dX12_ownerThen_47 hq17 hL (by decide) (Nat.le_of_ble_eq_true rfl) ?_
      exact J_iret dX12_ownerThen_50 (rt_i h) rfl
    · replace h := it_some h c5
      refine J_iconst dX12_ownerThen_24 ic_m1 ?_
      exact J_iret dX12_ownerThen_25 (rt_i h) rfl
set_option maxRecDepth 20000 in
set_option maxHeartbeats 4000000 in
theorem kX12_ownerThen {l : Launch} {D : va_G} {ad : Nat → Nat} {cy : Nat → ClassId} {rv : (Int32 × Ob)} {o : Ob} {p1 : Int32} {p2 : Int32} (hi : wl_inj (ΓM ad cy)) (h : M_ownerThen o p1 p2 = some rv) : Cn l D (ΓM ad cy) yX12_ownerThen cX12_ownerThen 4 (some .int) 6 [.ref (ad 0), .int p1, .int p2] o (some (.int rv.1), rv.2) :=
  Cn.of hi rfl (Nat.le_of_ble_eq_true rfl) (fun _ _ _ hL => M_ownerThen_ok hi hL h)
set_option maxRecDepth 20000 in
set_option maxHeartbeats 4000000 in
theorem M_storyThen_ok {E : Ec} {ad : Nat → Nat} {cy : Nat → ClassId} {rv : (Int32 × Ob)} {o : Ob} {p1 : Int32} {p2 : Int32} {p3 : Int32} (hi : wl_inj (ΓM ad cy)) (hL : Lv E 6) (h : M_storyThen o p1 p2 p3 = some rv) : Jw E (ΓM ad cy) RX12 cX12_storyThen 5 (some .int) (some (.int rv.1), rv.2) 0 [(0, .ref (ad 0)), (1, .int p1), (2, .int p2), (3, .int p3)] [] o := by
  unfold M_storyThen at h
  refine J_aload_n (q := 0) dX12_storyThen_0 rfl rfl ?_
  refine J_iconst dX12_storyThen_1 ic_0 ?_
  refine pM_thrown dX12_storyThen_2 ?_
  refine J_tw (fun o1 eo1 => ?_)
  replace h := nm_some eo1 h
  refine J_aload_n (q := 0) dX12_storyThen_5 rfl rfl ?_
  refine J_iload_n (q := 1) dX12_storyThen_6 rfl rfl ?_
  obtain ⟨r2, hq12, h⟩ := bd_some h
  refine kM_isOne hi dX12_storyThen_7 hq12 hL (by decide) (Nat.le_of_ble_eq_true rfl) ?_
  refine J_if_eq (tgt := 32) dX12_storyThen_10 (by decide) (fun c3 => ?_) (fun c3 => ?_)
  · replace h := it_some h c3
    refine J_iconst dX12_storyThen_32 ic_m1 ?_
    exact J_iret dX12_storyThen_33 (rt_i h) rfl
  · replace h := if_some h c3
    refine J_iload_n (q := 2) dX12_storyThen_13 rfl rfl ?_
    obtain ⟨r4, hq13, h⟩ := bd_some h
    refine kM_isThing hi dX12_storyThen_14 hq13 hL (by decide) (Nat.le_of_ble_eq_true rfl) ?_
    refine J_if_eq (tgt := 32) dX12_storyThen_17 (by decide) (fun c5 => ?_) (fun c5 => ?_)
    · replace h := it_some h c5
      refine J_iconst dX12_storyThen_32 ic_m1 ?_
      exact J_iret dX12_storyThen_33 (rt_i h) rfl
    · replace h := if_some h c5
      refine J_iload_n (q := 3) dX12_storyThen_20 rfl rfl ?_
      refine J_i2l dX12_storyThen_21 ?_
      refine J_lconst dX12_storyThen_22 lc_0 ?_
      refine J_ldc2 dX12_storyThen_23 tw_5_89 ?_
      obtain ⟨r6, hq14, h⟩ := bd_some h
      refine kM_in hi dX12_storyThen_26 hq14 hL (by decide) (Nat.le_of_ble_eq_true rfl) ?_
      refine J_if_ne (tgt := 34) dX12_storyThen_29 (by decide) (fun c7 => ?_) (fun c7 => ?_)
      · replace h := if_some h c7
        refine J_aload_n (q := 0) dX12_storyThen_34 rfl rfl ?_
        obtain ⟨o8, hq15, h⟩ := bd_some h
        refine kM_think hi dX12_storyThen_35 hq15 hL (by decide) (Nat.le_of_ble_eq_true rfl) ?_
        refine J_aload_n (q := 0) dX12_storyThen_38 rfl rfl ?_
        refine J_iload_n (q := 3) dX12_storyThen_39 rfl rfl ?_
        obtain ⟨o9, hq16, h⟩ := bd_some h
        refine kM_goDays hi dX12_storyThen_40 hq16 hL (by decide) (Nat.le_of_ble_eq_true rfl) ?_
        refine J_aload_n (q := 0) dX12_storyThen_43 rfl rfl ?_
        refine J_iload_n (q := 1) dX12_storyThen_44 rfl rfl ?_
        refine J_iload_n (q := 2) dX12_storyThen_45 rfl rfl ?_
        obtain ⟨r10, hq17, h⟩ := bd_some h
        refine kM_storyOf hi dX12_storyThen_46 hq17 hL (by decide) (Nat.le_of_ble_eq_true rfl) ?_
        refine J_istore (lv' := [(4, .int r10), (0, .ref (ad 0)), (1, .int p1), (2, .int p2), (3, .int p3)]) dX12_storyThen_49 (by decide) rfl ?_
        refine J_aload_n (q := 1) dX12_storyThen_51 rfl rfl ?_
        obtain ⟨o11, hq18, h⟩ := bd_some h
        refine kM_again hi dX12_storyThen_52 hq18 hL (by decide) (Nat.le_of_ble_eq_true rfl) ?_
        refine J_iload (q := 0) dX12_storyThen_55 rfl ?_
        exact J_iret dX12_storyThen_57 (rt_i h) rfl
      · replace h := it_some h c7
        refine J_iconst dX12_storyThen_32 ic_m1 ?_
        exact J_iret dX12_storyThen_33 (rt_i h) rfl
set_option maxRecDepth 20000 in
set_option maxHeartbeats 4000000 in
theorem kX12_storyThen {l : Launch} {D : va_G} {ad : Nat → Nat} {cy : Nat → ClassId} {rv : (Int32 × Ob)} {o : Ob} {p1 : Int32} {p2 : Int32} {p3 : Int32} (hi : wl_inj (ΓM ad cy)) (h : M_storyThen o p1 p2 p3 = some rv) : Cn l D (ΓM ad cy) yX12_storyThen cX12_storyThen 5 (some .int) 6 [.ref (ad 0), .int p1, .int p2, .int p3] o (some (.int rv.1), rv.2) :=
  Cn.of hi rfl (Nat.le_of_ble_eq_true rfl) (fun _ _ _ hL => M_storyThen_ok hi hL h)
set_option maxRecDepth 20000 in
set_option maxHeartbeats 4000000 in
theorem M_ownsThen_ok {E : Ec} {ad : Nat → Nat} {cy : Nat → ClassId} {rv : (Int32 × Ob)} {o : Ob} {p1 : Int32} {p2 : Int32} {p3 : Int32} (hi : wl_inj (ΓM ad cy)) (hL : Lv E 6) (h : M_ownsThen o p1 p2 p3 = some rv) : Jw E (ΓM ad cy) RX12 cX12_ownsThen 5 (some .int) (some (.int rv.1), rv.2) 0 [(0, .ref (ad 0)), (1, .int p1), (2, .int p2), (3, .int p3)] [] o := by
  unfold M_ownsThen at h
  refine J_aload_n (q := 0) dX12_ownsThen_0 rfl rfl ?_
  refine J_iconst dX12_ownsThen_1 ic_0 ?_
  refine pM_thrown dX12_ownsThen_2 ?_
  refine J_tw (fun o1 eo1 => ?_)
  replace h := nm_some eo1 h
  refine J_aload_n (q := 0) dX12_ownsThen_5 rfl rfl ?_
  refine J_iload_n (q := 1) dX12_ownsThen_6 rfl rfl ?_
  obtain ⟨r2, hq15, h⟩ := bd_some h
  refine kM_isOne hi dX12_ownsThen_7 hq15 hL (by decide) (Nat.le_of_ble_eq_true rfl) ?_
  refine J_if_eq (tgt := 35) dX12_ownsThen_10 (by decide) (fun c3 => ?_) (fun c3 => ?_)
  · replace h := it_some h c3
    refine J_iconst dX12_ownsThen_35 ic_m1 ?_
    exact J_iret dX12_ownsThen_36 (rt_i h) rfl
  · replace h := if_some h c3
    refine J_iload_n (q := 2) dX12_ownsThen_13 rfl rfl ?_
    refine J_i2l dX12_ownsThen_14 ?_
    refine J_lconst dX12_ownsThen_15 lc_0 ?_
    refine J_ldc2 dX12_ownsThen_16 tw_5_89 ?_
    obtain ⟨r4, hq16, h⟩ := bd_some h
    refine kM_in hi dX12_ownsThen_19 hq16 hL (by decide) (Nat.le_of_ble_eq_true rfl) ?_
    refine J_if_eq (tgt := 35) dX12_ownsThen_22 (by decide) (fun c5 => ?_) (fun c5 => ?_)
    · replace h := it_some h c5
      refine J_iconst dX12_ownsThen_35 ic_m1 ?_
      exact J_iret dX12_ownsThen_36 (rt_i h) rfl
    · replace h := if_some h c5
      refine J_iload_n (q := 3) dX12_ownsThen_25 rfl rfl ?_
      refine J_i2l dX12_ownsThen_26 ?_
      refine J_lconst dX12_ownsThen_27 lc_0 ?_
      refine J_lconst dX12_ownsThen_28 lc_1 ?_
      obtain ⟨r6, hq17, h⟩ := bd_some h
      refine kM_in hi dX12_ownsThen_29 hq17 hL (by decide) (Nat.le_of_ble_eq_true rfl) ?_
      refine J_if_ne (tgt := 37) dX12_ownsThen_32 (by decide) (fun c7 => ?_) (fun c7 => ?_)
      · replace h := if_some h c7
        refine J_aload_n (q := 0) dX12_ownsThen_37 rfl rfl ?_
        obtain ⟨o8, hq18, h⟩ := bd_some h
        refine kM_think hi dX12_ownsThen_38 hq18 hL (by decide) (Nat.le_of_ble_eq_true rfl) ?_
        refine J_aload_n (q := 0) dX12_ownsThen_41 rfl rfl ?_
        refine J_iload_n (q := 2) dX12_ownsThen_42 rfl rfl ?_
        obtain ⟨o9, hq19, h⟩ := bd_some h
        refine kM_goDays hi dX12_ownsThen_43 hq19 hL (by decide) (Nat.le_of_ble_eq_true rfl) ?_
        refine J_iload_n (q := 3) dX12_ownsThen_46 rfl rfl ?_
        obtain ⟨s13, ha63, h⟩ := bd_some h
        have K63 : Jw E (ΓM ad cy) RX12 cX12_ownsThen 5 (some .int) (some (.int rv.1), rv.2) 63 [(0, .ref (ad 0))] [.int s13] o9 := by
          clear ha63
          refine J_istore (lv' := [(4, .int s13), (0, .ref (ad 0))]) dX12_ownsThen_63 (by decide) rfl ?_
          refine J_aload_n (q := 1) dX12_ownsThen_65 rfl rfl ?_
          obtain ⟨o14, hq20, h⟩ := bd_some h
          refine kM_again hi dX12_ownsThen_66 hq20 hL (by decide) (Nat.le_of_ble_eq_true rfl) ?_
          refine J_iload (q := 0) dX12_ownsThen_69 rfl ?_
          exact J_iret dX12_ownsThen_71 (rt_i h) rfl
        clear h
        refine J_if_ne (tgt := 58) dX12_ownsThen_47 (by decide) (fun c10 => ?_) (fun c10 => ?_)
        · replace ha63 := if_some ha63 c10
          refine J_aload_n (q := 0) dX12_ownsThen_58 rfl rfl ?_
          refine J_iload_n (q := 1) dX12_ownsThen_59 rfl rfl ?_
          obtain ⟨r11, hq21, ha63⟩ := bd_some ha63
          refine kM_worthOf hi dX12_ownsThen_60 hq21 hL (by decide) (Nat.le_of_ble_eq_true rfl) ?_
          cases ha63
          exact J_sub [0] rfl (K63)
        · replace ha63 := it_some ha63 c10
          refine J_aload_n (q := 0) dX12_ownsThen_50 rfl rfl ?_
          refine J_iload_n (q := 1) dX12_ownsThen_51 rfl rfl ?_
          obtain ⟨r12, hq22, ha63⟩ := bd_some ha63
          refine kM_ownedBy hi dX12_ownsThen_52 hq22 hL (by decide) (Nat.le_of_ble_eq_true rfl) ?_
          refine J_goto (tgt := 63) dX12_ownsThen_55 (by decide) ?_
          cases ha63
          exact J_sub [0] rfl (K63)
      · replace h := it_some h c7
        refine J_iconst dX12_ownsThen_35 ic_m1 ?_
        exact J_iret dX12_ownsThen_36 (rt_i h) rfl
set_option maxRecDepth 20000 in
set_option maxHeartbeats 4000000 in
theorem kX12_ownsThen {l : Launch} {D : va_G} {ad : Nat → Nat} {cy : Nat → ClassId} {rv : (Int32 × Ob)} {o : Ob} {p1 : Int32} {p2 : Int32} {p3 : Int32} (hi : wl_inj (ΓM ad cy)) (h : M_ownsThen o p1 p2 p3 = some rv) : Cn l D (ΓM ad cy) yX12_ownsThen cX12_ownsThen 5 (some .int) 6 [.ref (ad 0), .int p1, .int p2, .int p3] o (some (.int rv.1), rv.2) :=
  Cn.of hi rfl (Nat.le_of_ble_eq_true rfl) (fun _ _ _ hL => M_ownsThen_ok hi hL h)
set_option maxRecDepth 20000 in
set_option maxHeartbeats 4000000 in
theorem M_when_L32_ok {E : Ec} {ad : Nat → Nat} {cy : Nat → ClassId} {rv : (Int32 × Ob)} {k71 : Int32 → Ob → Option (Int32 × Ob)} {a1 : Int32} {a2 : Int32} (hi : wl_inj (ΓM ad cy)) (hL : Lv E 5) (hk71 : ∀ (y3 : Int32) (yw : Ob), k71 y3 yw = some rv → Jw E (ΓM ad cy) RX12 cX12_when 5 (some .int) (some (.int rv.1), rv.2) 71 [(0, .ref (ad 0)), (3, .int y3)] [] yw) : ∀ (n : Nat) (o : Ob) (x3 : Int32) (x4 : Int32), M_when_L32 k71 a1 a2 n o x3 x4 = some rv → Jw E (ΓM ad cy) RX12 cX12_when 5 (some .int) (some (.int rv.1), rv.2) 32 [(0, .ref (ad 0)), (1, .int a1), (2, .int a2), (3, .int x3), (4, .int x4)] [] o := by
  intro n
  induction n with
  | zero =>
    intro o x3 x4 h
    rw [M_when_L32] at h
    cases h
  | succ n ih =>
    intro o x3 x4 h
    rw [M_when_L32] at h
    refine J_iload (q := 4) dX12_when_32 rfl ?_
    refine J_bipush dX12_when_34 bp_60 ?_
    refine J_icmp_gt (tgt := 71) dX12_when_36 (by decide) (fun c7 => ?_) (fun c7 => ?_)
    · replace h := it_some h c7
      exact J_sub [0, 3] rfl (hk71 _ _ h)
    · replace h := if_some h c7
      refine J_iload_n (q := 3) dX12_when_39 rfl rfl ?_
      refine J_if_ge (tgt := 71) dX12_when_40 (by decide) (fun c8 => ?_) (fun c8 => ?_)
      · replace h := it_some h c8
        exact J_sub [0, 3] rfl (hk71 _ _ h)
      · replace h := if_some h c8
        refine J_aload_n (q := 0) dX12_when_43 rfl rfl ?_
        refine gM_owners dX12_when_44 ?_
        refine J_iload_n (q := 2) dX12_when_47 rfl rfl ?_
        obtain ⟨hg9, h⟩ := gd_some h
        refine aM_ld (h := 3) (n := 5) dX12_when_48 (by decide) rfl hg9 ?_
        refine J_iload_n (q := 1) dX12_when_49 rfl rfl ?_
        obtain ⟨s11, ha60, h⟩ := bd_some h
        have K60 : Jw E (ΓM ad cy) RX12 cX12_when 5 (some .int) (some (.int rv.1), rv.2) 60 [(0, .ref (ad 0)), (1, .int a1), (2, .int a2), (4, .int x4)] [.int s11] o := by
          clear ha60
          refine J_istore_n (lv' := [(3, .int s11), (0, .ref (ad 0)), (1, .int a1), (2, .int a2), (4, .int x4)]) dX12_when_60 rfl (by decide) rfl ?_
          refine J_aload_n (q := 1) dX12_when_61 rfl rfl ?_
          obtain ⟨o12, hq14, h⟩ := bd_some h
          refine kM_dayOn hi dX12_when_62 hq14 hL (by decide) (Nat.le_of_ble_eq_true rfl) ?_
          refine J_iinc (q := 4) (v := (x4 + (1 : Int32))) (lv' := [(4, .int (x4 + (1 : Int32))), (3, .int s11), (0, .ref (ad 0)), (1, .int a1), (2, .int a2)]) dX12_when_65 rfl (congrArg (fun z => x4 + z) ic_1) (by decide) rfl ?_
          refine J_tv (fun v13 ev13 => ?_)
          replace h := nm_some ev13 h
          refine J_goto (tgt := 32) dX12_when_68 (by decide) ?_
          exact J_sub [2, 3, 4, 1, 0] rfl (ih _ _ _ h)
        clear h
        refine J_icmp_ne (tgt := 58) dX12_when_50 (by decide) (fun c10 => ?_) (fun c10 => ?_)
        · replace ha60 := if_some ha60 c10
          refine J_bipush dX12_when_58 bp_m4 ?_
          cases ha60
          exact J_sub [0, 1, 2, 4] rfl (K60)
        · replace ha60 := it_some ha60 c10
          refine J_iload (q := 4) dX12_when_53 rfl ?_
          refine J_goto (tgt := 60) dX12_when_55 (by decide) ?_
          cases ha60
          exact J_sub [0, 1, 2, 4] rfl (K60)
set_option maxRecDepth 20000 in
set_option maxHeartbeats 4000000 in
theorem M_when_ok {E : Ec} {ad : Nat → Nat} {cy : Nat → ClassId} {rv : (Int32 × Ob)} {o : Ob} {p1 : Int32} {p2 : Int32} (hi : wl_inj (ΓM ad cy)) (hL : Lv E 5) (h : M_when o p1 p2 = some rv) : Jw E (ΓM ad cy) RX12 cX12_when 5 (some .int) (some (.int rv.1), rv.2) 0 [(0, .ref (ad 0)), (1, .int p1), (2, .int p2)] [] o := by
  unfold M_when at h
  refine J_aload_n (q := 0) dX12_when_0 rfl rfl ?_
  refine J_iconst dX12_when_1 ic_0 ?_
  refine pM_thrown dX12_when_2 ?_
  refine J_tw (fun o1 eo1 => ?_)
  replace h := nm_some eo1 h
  refine J_aload_n (q := 0) dX12_when_5 rfl rfl ?_
  refine J_iload_n (q := 1) dX12_when_6 rfl rfl ?_
  obtain ⟨r2, hq18, h⟩ := bd_some h
  refine kM_isOne hi dX12_when_7 hq18 hL (by decide) (Nat.le_of_ble_eq_true rfl) ?_
  refine J_if_eq (tgt := 20) dX12_when_10 (by decide) (fun c3 => ?_) (fun c3 => ?_)
  · replace h := it_some h c3
    refine J_iconst dX12_when_20 ic_m1 ?_
    exact J_iret dX12_when_21 (rt_i h) rfl
  · replace h := if_some h c3
    refine J_iload_n (q := 2) dX12_when_13 rfl rfl ?_
    obtain ⟨r4, hq19, h⟩ := bd_some h
    refine kM_isThing hi dX12_when_14 hq19 hL (by decide) (Nat.le_of_ble_eq_true rfl) ?_
    refine J_if_ne (tgt := 22) dX12_when_17 (by decide) (fun c5 => ?_) (fun c5 => ?_)
    · replace h := if_some h c5
      refine J_bipush dX12_when_22 bp_m4 ?_
      refine J_istore_n (lv' := [(3, .int (-4 : Int32)), (0, .ref (ad 0)), (1, .int p1), (2, .int p2)]) dX12_when_24 rfl (by decide) rfl ?_
      refine J_aload_n (q := 1) dX12_when_25 rfl rfl ?_
      obtain ⟨o6, hq20, h⟩ := bd_some h
      refine kM_think hi dX12_when_26 hq20 hL (by decide) (Nat.le_of_ble_eq_true rfl) ?_
      refine J_iconst dX12_when_29 ic_0 ?_
      refine J_istore (lv' := [(4, .int (0 : Int32)), (3, .int (-4 : Int32)), (0, .ref (ad 0)), (1, .int p1), (2, .int p2)]) dX12_when_30 (by decide) rfl ?_
      refine J_sub [2, 3, 4, 1, 0] rfl (M_when_L32_ok hi hL (fun x3_15 o16 h => ?_) FU _ _ _ h)
      refine J_aload_n (q := 0) dX12_when_71 rfl rfl ?_
      obtain ⟨o17, hq21, h⟩ := bd_some h
      refine kM_again hi dX12_when_72 hq21 hL (by decide) (Nat.le_of_ble_eq_true rfl) ?_
      refine J_iload_n (q := 1) dX12_when_75 rfl rfl ?_
      exact J_iret dX12_when_76 (rt_i h) rfl
    · replace h := it_some h c5
      refine J_iconst dX12_when_20 ic_m1 ?_
      exact J_iret dX12_when_21 (rt_i h) rfl
set_option maxRecDepth 20000 in
set_option maxHeartbeats 4000000 in
theorem kX12_when {l : Launch} {D : va_G} {ad : Nat → Nat} {cy : Nat → ClassId} {rv : (Int32 × Ob)} {o : Ob} {p1 : Int32} {p2 : Int32} (hi : wl_inj (ΓM ad cy)) (h : M_when o p1 p2 = some rv) : Cn l D (ΓM ad cy) yX12_when cX12_when 5 (some .int) 5 [.ref (ad 0), .int p1, .int p2] o (some (.int rv.1), rv.2) :=
  Cn.of hi rfl (Nat.le_of_ble_eq_true rfl) (fun _ _ _ hL => M_when_ok hi hL h)
set_option maxRecDepth 20000 in
set_option maxHeartbeats 4000000 in
theorem M_loses_L31_ok {E : Ec} {ad : Nat → Nat} {cy : Nat → ClassId} {rv : (Int32 × Ob)} {k76 : Int32 → Ob → Option (Int32 × Ob)} {a1 : Int32} {a3 : Int32} (hi : wl_inj (ΓM ad cy)) (hL : Lv E 5) (hk76 : ∀ (y2 : Int32) (yw : Ob), k76 y2 yw = some rv → Jw E (ΓM ad cy) RX12 cX12_loses 5 (some .int) (some (.int rv.1), rv.2) 76 [(0, .ref (ad 0)), (2, .int y2)] [] yw) : ∀ (n : Nat) (o : Ob) (x2 : Int32) (x4 : Int32), M_loses_L31 k76 a1 a3 n o x2 x4 = some rv → Jw E (ΓM ad cy) RX12 cX12_loses 5 (some .int) (some (.int rv.1), rv.2) 31 [(0, .ref (ad 0)), (1, .int a1), (2, .int x2), (3, .int a3), (4, .int x4)] [] o := by
  intro n
  induction n with
  | zero =>
    intro o x2 x4 h
    rw [M_loses_L31] at h
    cases h
  | succ n ih =>
    intro o x2 x4 h
    rw [M_loses_L31] at h
    refine J_iload (q := 4) dX12_loses_31 rfl ?_
    refine J_bipush dX12_loses_33 bp_60 ?_
    refine J_icmp_gt (tgt := 76) dX12_loses_35 (by decide) (fun c7 => ?_) (fun c7 => ?_)
    · replace h := it_some h c7
      exact J_sub [0, 2] rfl (hk76 _ _ h)
    · replace h := if_some h c7
      refine J_iload_n (q := 2) dX12_loses_38 rfl rfl ?_
      refine J_if_ge (tgt := 76) dX12_loses_39 (by decide) (fun c8 => ?_) (fun c8 => ?_)
      · replace h := it_some h c8
        exact J_sub [0, 2] rfl (hk76 _ _ h)
      · replace h := if_some h c8
        refine J_iload_n (q := 3) dX12_loses_42 rfl rfl ?_
        refine J_bipush dX12_loses_43 bp_9 ?_
        refine J_icmp_eq (tgt := 76) dX12_loses_45 (by decide) (fun c9 => ?_) (fun c9 => ?_)
        · replace h := it_some h c9
          exact J_sub [0, 2] rfl (hk76 _ _ h)
        · replace h := if_some h c9
          refine J_aload_n (q := 0) dX12_loses_48 rfl rfl ?_
          refine gM_owners dX12_loses_49 ?_
          refine J_iload_n (q := 1) dX12_loses_52 rfl rfl ?_
          obtain ⟨hg10, h⟩ := gd_some h
          refine aM_ld (h := 3) (n := 5) dX12_loses_53 (by decide) rfl hg10 ?_
          refine J_iload_n (q := 3) dX12_loses_54 rfl rfl ?_
          obtain ⟨s12, ha65, h⟩ := bd_some h
          have K65 : Jw E (ΓM ad cy) RX12 cX12_loses 5 (some .int) (some (.int rv.1), rv.2) 65 [(0, .ref (ad 0)), (1, .int a1), (3, .int a3), (4, .int x4)] [.int s12] o := by
            clear ha65
            refine J_istore_n (lv' := [(2, .int s12), (0, .ref (ad 0)), (1, .int a1), (3, .int a3), (4, .int x4)]) dX12_loses_65 rfl (by decide) rfl ?_
            refine J_aload_n (q := 1) dX12_loses_66 rfl rfl ?_
            obtain ⟨o13, hq15, h⟩ := bd_some h
            refine kM_dayOn hi dX12_loses_67 hq15 hL (by decide) (Nat.le_of_ble_eq_true rfl) ?_
            refine J_iinc (q := 4) (v := (x4 + (1 : Int32))) (lv' := [(4, .int (x4 + (1 : Int32))), (2, .int s12), (0, .ref (ad 0)), (1, .int a1), (3, .int a3)]) dX12_loses_70 rfl (congrArg (fun z => x4 + z) ic_1) (by decide) rfl ?_
            refine J_tv (fun v14 ev14 => ?_)
            replace h := nm_some ev14 h
            refine J_goto (tgt := 31) dX12_loses_73 (by decide) ?_
            exact J_sub [2, 3, 1, 4, 0] rfl (ih _ _ _ h)
          clear h
          refine J_icmp_eq (tgt := 63) dX12_loses_55 (by decide) (fun c11 => ?_) (fun c11 => ?_)
          · replace ha65 := it_some ha65 c11
            refine J_bipush dX12_loses_63 bp_m4 ?_
            cases ha65
            exact J_sub [0, 1, 3, 4] rfl (K65)
          · replace ha65 := if_some ha65 c11
            refine J_iload (q := 4) dX12_loses_58 rfl ?_
            refine J_goto (tgt := 65) dX12_loses_60 (by decide) ?_
            cases ha65
            exact J_sub [0, 1, 3, 4] rfl (K65)
set_option maxRecDepth 20000 in
set_option maxHeartbeats 4000000 in
theorem M_loses_ok {E : Ec} {ad : Nat → Nat} {cy : Nat → ClassId} {rv : (Int32 × Ob)} {o : Ob} {p1 : Int32} (hi : wl_inj (ΓM ad cy)) (hL : Lv E 5) (h : M_loses o p1 = some rv) : Jw E (ΓM ad cy) RX12 cX12_loses 5 (some .int) (some (.int rv.1), rv.2) 0 [(0, .ref (ad 0)), (1, .int p1)] [] o := by
  unfold M_loses at h
  refine J_aload_n (q := 0) dX12_loses_0 rfl rfl ?_
  refine J_iconst dX12_loses_1 ic_0 ?_
  refine pM_thrown dX12_loses_2 ?_
  refine J_tw (fun o1 eo1 => ?_)
  replace h := nm_some eo1 h
  refine J_iload_n (q := 1) dX12_loses_5 rfl rfl ?_
  obtain ⟨r2, hq19, h⟩ := bd_some h
  refine kM_isThing hi dX12_loses_6 hq19 hL (by decide) (Nat.le_of_ble_eq_true rfl) ?_
  refine J_if_ne (tgt := 14) dX12_loses_9 (by decide) (fun c3 => ?_) (fun c3 => ?_)
  · replace h := if_some h c3
    refine J_bipush dX12_loses_14 bp_m4 ?_
    refine J_istore_n (lv' := [(2, .int (-4 : Int32)), (0, .ref (ad 0)), (1, .int p1)]) dX12_loses_16 rfl (by decide) rfl ?_
    refine J_aload_n (q := 1) dX12_loses_17 rfl rfl ?_
    refine gM_owners dX12_loses_18 ?_
    refine J_iload_n (q := 2) dX12_loses_21 rfl rfl ?_
    obtain ⟨hg4, h⟩ := gd_some h
    refine aM_ld (h := 3) (n := 5) dX12_loses_22 (by decide) rfl hg4 ?_
    refine J_ti (fun v5 ev5 => ?_)
    replace h := nm_some ev5 h
    refine J_istore_n (lv' := [(3, .int v5), (2, .int (-4 : Int32)), (0, .ref (ad 0)), (1, .int p1)]) dX12_loses_23 rfl (by decide) rfl ?_
    refine J_aload_n (q := 2) dX12_loses_24 rfl rfl ?_
    obtain ⟨o6, hq20, h⟩ := bd_some h
    refine kM_think hi dX12_loses_25 hq20 hL (by decide) (Nat.le_of_ble_eq_true rfl) ?_
    refine J_iconst dX12_loses_28 ic_0 ?_
    refine J_istore (lv' := [(4, .int (0 : Int32)), (3, .int v5), (2, .int (-4 : Int32)), (0, .ref (ad 0)), (1, .int p1)]) dX12_loses_29 (by decide) rfl ?_
    refine J_sub [3, 4, 2, 1, 0] rfl (M_loses_L31_ok hi hL (fun x2_16 o17 h => ?_) FU _ _ _ h)
    refine J_aload_n (q := 0) dX12_loses_76 rfl rfl ?_
    obtain ⟨o18, hq21, h⟩ := bd_some h
    refine kM_again hi dX12_loses_77 hq21 hL (by decide) (Nat.le_of_ble_eq_true rfl) ?_
    refine J_iload_n (q := 1) dX12_loses_80 rfl rfl ?_
    exact J_iret dX12_loses_81 (rt_i h) rfl
  · replace h := it_some h c3
    refine J_iconst dX12_loses_12 ic_m1 ?_
    exact J_iret dX12_loses_13 (rt_i h) rfl
set_option maxRecDepth 20000 in
set_option maxHeartbeats 4000000 in
theorem kX12_loses {l : Launch} {D : va_G} {ad : Nat → Nat} {cy : Nat → ClassId} {rv : (Int32 × Ob)} {o : Ob} {p1 : Int32} (hi : wl_inj (ΓM ad cy)) (h : M_loses o p1 = some rv) : Cn l D (ΓM ad cy) yX12_loses cX12_loses 5 (some .int) 5 [.ref (ad 0), .int p1] o (some (.int rv.1), rv.2) :=
  Cn.of hi rfl (Nat.le_of_ble_eq_true rfl) (fun _ _ _ hL => M_loses_ok hi hL h)
set_option maxRecDepth 20000 in
set_option maxHeartbeats 4000000 in
theorem M_lookAfter_L50_ok {E : Ec} {ad : Nat → Nat} {cy : Nat → ClassId} {rv : (Int32 × Ob)} {k130 : Int32 → Int32 → Ob → Option (Int32 × Ob)} {a1 : Int32} {a2 : Int32} {a3 : Int32} (hi : wl_inj (ΓM ad cy)) (hL : Lv E 6) (hk130 : ∀ (y4 : Int32) (y5 : Int32) (yw : Ob), k130 y4 y5 yw = some rv → Jw E (ΓM ad cy) RX12 cX12_lookAfter 8 (some .int) (some (.int rv.1), rv.2) 130 [(3, .int a3), (4, .int y4), (5, .int y5)] [] yw) : ∀ (n : Nat) (o : Ob) (x4 : Int32) (x5 : Int32) (x6 : Int32), M_lookAfter_L50 k130 a1 a2 a3 n o x4 x5 x6 = some rv → Jw E (ΓM ad cy) RX12 cX12_lookAfter 8 (some .int) (some (.int rv.1), rv.2) 50 [(0, .ref (ad 0)), (1, .int a1), (2, .int a2), (3, .int a3), (4, .int x4), (5, .int x5), (6, .int x6)] [] o := by
  intro n
  induction n with
  | zero =>
    intro o x4 x5 x6 h
    rw [M_lookAfter_L50] at h
    cases h
  | succ n ih =>
    intro o x4 x5 x6 h
    rw [M_lookAfter_L50] at h
    refine J_iload (q := 6) dX12_lookAfter_50 rfl ?_
    refine J_bipush dX12_lookAfter_52 bp_6 ?_
    refine J_icmp_ge (tgt := 130) dX12_lookAfter_54 (by decide) (fun c9 => ?_) (fun c9 => ?_)
    · replace h := it_some h c9
      exact J_sub [3, 4, 5] rfl (hk130 _ _ _ h)
    · replace h := if_some h c9
      refine J_aload_n (q := 0) dX12_lookAfter_57 rfl rfl ?_
      refine gM_caring dX12_lookAfter_58 ?_
      refine J_iload_n (q := 1) dX12_lookAfter_61 rfl rfl ?_
      refine J_iload (q := 6) dX12_lookAfter_62 rfl ?_
      refine J_iconst dX12_lookAfter_64 ic_5 ?_
      obtain ⟨s11, ha75, h⟩ := bd_some h
      have K75 : Jw E (ΓM ad cy) RX12 cX12_lookAfter 8 (some .int) (some (.int rv.1), rv.2) 75 [(0, .ref (ad 0)), (1, .int a1), (2, .int a2), (3, .int a3), (4, .int x4), (5, .int x5), (6, .int x6)] [.int s11, .int a1, .ref (ad 6)] o := by
        clear ha75
        obtain ⟨hg12, h⟩ := gd_some h
        refine aM_st (h := 6) (n := 7) dX12_lookAfter_75 (by decide) rfl hg12 ?_
        refine J_tw (fun o13 eo13 => ?_)
        replace h := nm_some eo13 h
        refine J_aload_n (q := 0) dX12_lookAfter_76 rfl rfl ?_
        refine J_iload_n (q := 2) dX12_lookAfter_77 rfl rfl ?_
        obtain ⟨o14, hq22, h⟩ := bd_some h
        refine kM_goDays hi dX12_lookAfter_78 hq22 hL (by decide) (Nat.le_of_ble_eq_true rfl) ?_
        refine J_aload_n (q := 0) dX12_lookAfter_81 rfl rfl ?_
        refine J_iload_n (q := 1) dX12_lookAfter_82 rfl rfl ?_
        obtain ⟨r15, hq23, h⟩ := bd_some h
        refine kM_worthOf hi dX12_lookAfter_83 hq23 hL (by decide) (Nat.le_of_ble_eq_true rfl) ?_
        refine J_istore (lv' := [(7, .int r15), (0, .ref (ad 0)), (1, .int a1), (2, .int a2), (3, .int a3), (4, .int x4), (5, .int x5), (6, .int x6)]) dX12_lookAfter_86 (by decide) rfl ?_
        refine J_aload_n (q := 1) dX12_lookAfter_88 rfl rfl ?_
        obtain ⟨o16, hq24, h⟩ := bd_some h
        refine kM_again hi dX12_lookAfter_89 hq24 hL (by decide) (Nat.le_of_ble_eq_true rfl) ?_
        refine J_iload (q := 0) dX12_lookAfter_92 rfl ?_
        refine J_iload (q := 6) dX12_lookAfter_94 rfl ?_
        obtain ⟨s18, ha106, h⟩ := bd_some h
        have K106 : Jw E (ΓM ad cy) RX12 cX12_lookAfter 8 (some .int) (some (.int rv.1), rv.2) 106 [(0, .ref (ad 0)), (1, .int a1), (2, .int a2), (3, .int a3), (5, .int x5), (6, .int x6), (7, .int r15)] [.int s18] o16 := by
          clear ha106
          refine J_istore (lv' := [(4, .int s18), (0, .ref (ad 0)), (1, .int a1), (2, .int a2), (3, .int a3), (5, .int x5), (6, .int x6), (7, .int r15)]) dX12_lookAfter_106 (by decide) rfl ?_
          refine J_iload (q := 7) dX12_lookAfter_108 rfl ?_
          refine J_iload (q := 5) dX12_lookAfter_110 rfl ?_
          obtain ⟨s20, ha122, h⟩ := bd_some h
          have K122 : Jw E (ΓM ad cy) RX12 cX12_lookAfter 8 (some .int) (some (.int rv.1), rv.2) 122 [(0, .ref (ad 0)), (1, .int a1), (2, .int a2), (3, .int a3), (4, .int s18), (6, .int x6)] [.int s20] o16 := by
            clear ha122
            refine J_istore (lv' := [(5, .int s20), (0, .ref (ad 0)), (1, .int a1), (2, .int a2), (3, .int a3), (4, .int s18), (6, .int x6)]) dX12_lookAfter_122 (by decide) rfl ?_
            refine J_iinc (q := 6) (v := (x6 + (1 : Int32))) (lv' := [(6, .int (x6 + (1 : Int32))), (5, .int s20), (0, .ref (ad 0)), (1, .int a1), (2, .int a2), (3, .int a3), (4, .int s18)]) dX12_lookAfter_124 rfl (congrArg (fun z => x6 + z) ic_1) (by decide) rfl ?_
            refine J_tv (fun v21 ev21 => ?_)
            replace h := nm_some ev21 h
            refine J_goto (tgt := 50) dX12_lookAfter_127 (by decide) ?_
            exact J_sub [2, 3, 4, 5, 6, 1, 0] rfl (ih _ _ _ _ h)
          clear h
          refine J_icmp_le (tgt := 120) dX12_lookAfter_112 (by decide) (fun c19 => ?_) (fun c19 => ?_)
          · replace ha122 := it_some ha122 c19
            refine J_iload (q := 5) dX12_lookAfter_120 rfl ?_
            cases ha122
            exact J_sub [1, 2, 3, 4, 0, 6] rfl (K122)
          · replace ha122 := if_some ha122 c19
            refine J_iload (q := 7) dX12_lookAfter_115 rfl ?_
            refine J_goto (tgt := 122) dX12_lookAfter_117 (by decide) ?_
            cases ha122
            exact J_sub [1, 2, 3, 4, 0, 6] rfl (K122)
        clear h
        refine J_icmp_le (tgt := 104) dX12_lookAfter_96 (by decide) (fun c17 => ?_) (fun c17 => ?_)
        · replace ha106 := it_some ha106 c17
          refine J_iload (q := 5) dX12_lookAfter_104 rfl ?_
          cases ha106
          exact J_sub [1, 2, 3, 4, 6, 7, 0] rfl (K106)
        · replace ha106 := if_some ha106 c17
          refine J_iload (q := 7) dX12_lookAfter_99 rfl ?_
          refine J_goto (tgt := 106) dX12_lookAfter_101 (by decide) ?_
          cases ha106
          exact J_sub [1, 2, 3, 4, 6, 7, 0] rfl (K106)
      clear h
      refine J_icmp_ne (tgt := 73) dX12_lookAfter_65 (by decide) (fun c10 => ?_) (fun c10 => ?_)
      · replace ha75 := if_some ha75 c10
        refine J_iload (q := 6) dX12_lookAfter_73 rfl ?_
        cases ha75
        exact J_sub [0, 1, 2, 3, 4, 5, 6] rfl (K75)
      · replace ha75 := it_some ha75 c10
        refine J_bipush dX12_lookAfter_68 bp_9 ?_
        refine J_goto (tgt := 75) dX12_lookAfter_70 (by decide) ?_
        cases ha75
        exact J_sub [0, 1, 2, 3, 4, 5, 6] rfl (K75)
set_option maxRecDepth 20000 in
set_option maxHeartbeats 4000000 in
theorem M_lookAfter_ok {E : Ec} {ad : Nat → Nat} {cy : Nat → ClassId} {rv : (Int32 × Ob)} {o : Ob} {p1 : Int32} {p2 : Int32} {p3 : Int32} (hi : wl_inj (ΓM ad cy)) (hL : Lv E 6) (h : M_lookAfter o p1 p2 p3 = some rv) : Jw E (ΓM ad cy) RX12 cX12_lookAfter 8 (some .int) (some (.int rv.1), rv.2) 0 [(0, .ref (ad 0)), (1, .int p1), (2, .int p2), (3, .int p3)] [] o := by
  unfold M_lookAfter at h
  refine J_aload_n (q := 0) dX12_lookAfter_0 rfl rfl ?_
  refine J_iconst dX12_lookAfter_1 ic_0 ?_
  refine pM_thrown dX12_lookAfter_2 ?_
  refine J_tw (fun o1 eo1 => ?_)
  replace h := nm_some eo1 h
  refine J_aload_n (q := 0) dX12_lookAfter_5 rfl rfl ?_
  refine J_iload_n (q := 1) dX12_lookAfter_6 rfl rfl ?_
  obtain ⟨r2, hq30, h⟩ := bd_some h
  refine kM_isOne hi dX12_lookAfter_7 hq30 hL (by decide) (Nat.le_of_ble_eq_true rfl) ?_
  refine J_if_eq (tgt := 35) dX12_lookAfter_10 (by decide) (fun c3 => ?_) (fun c3 => ?_)
  · replace h := it_some h c3
    refine J_iconst dX12_lookAfter_35 ic_m1 ?_
    exact J_iret dX12_lookAfter_36 (rt_i h) rfl
  · replace h := if_some h c3
    refine J_iload_n (q := 2) dX12_lookAfter_13 rfl rfl ?_
    refine J_i2l dX12_lookAfter_14 ?_
    refine J_lconst dX12_lookAfter_15 lc_0 ?_
    refine J_ldc2 dX12_lookAfter_16 tw_5_89 ?_
    obtain ⟨r4, hq31, h⟩ := bd_some h
    refine kM_in hi dX12_lookAfter_19 hq31 hL (by decide) (Nat.le_of_ble_eq_true rfl) ?_
    refine J_if_eq (tgt := 35) dX12_lookAfter_22 (by decide) (fun c5 => ?_) (fun c5 => ?_)
    · replace h := it_some h c5
      refine J_iconst dX12_lookAfter_35 ic_m1 ?_
      exact J_iret dX12_lookAfter_36 (rt_i h) rfl
    · replace h := if_some h c5
      refine J_iload_n (q := 3) dX12_lookAfter_25 rfl rfl ?_
      refine J_i2l dX12_lookAfter_26 ?_
      refine J_lconst dX12_lookAfter_27 lc_0 ?_
      refine J_lconst dX12_lookAfter_28 lc_1 ?_
      obtain ⟨r6, hq32, h⟩ := bd_some h
      refine kM_in hi dX12_lookAfter_29 hq32 hL (by decide) (Nat.le_of_ble_eq_true rfl) ?_
      refine J_if_ne (tgt := 37) dX12_lookAfter_32 (by decide) (fun c7 => ?_) (fun c7 => ?_)
      · replace h := if_some h c7
        refine J_iconst dX12_lookAfter_37 ic_0 ?_
        refine J_istore (lv' := [(4, .int (0 : Int32)), (0, .ref (ad 0)), (1, .int p1), (2, .int p2), (3, .int p3)]) dX12_lookAfter_38 (by decide) rfl ?_
        refine J_iconst dX12_lookAfter_40 ic_m1 ?_
        refine J_istore (lv' := [(5, .int (-1 : Int32)), (4, .int (0 : Int32)), (0, .ref (ad 0)), (1, .int p1), (2, .int p2), (3, .int p3)]) dX12_lookAfter_41 (by decide) rfl ?_
        refine J_aload_n (q := 2) dX12_lookAfter_43 rfl rfl ?_
        obtain ⟨o8, hq33, h⟩ := bd_some h
        refine kM_think hi dX12_lookAfter_44 hq33 hL (by decide) (Nat.le_of_ble_eq_true rfl) ?_
        refine J_iconst dX12_lookAfter_47 ic_0 ?_
        refine J_istore (lv' := [(6, .int (0 : Int32)), (5, .int (-1 : Int32)), (4, .int (0 : Int32)), (0, .ref (ad 0)), (1, .int p1), (2, .int p2), (3, .int p3)]) dX12_lookAfter_48 (by decide) rfl ?_
        refine J_sub [3, 4, 5, 6, 2, 1, 0] rfl (M_lookAfter_L50_ok hi hL (fun x4_25 x5_26 o27 h => ?_) FU _ _ _ _ h)
        refine J_iload_n (q := 0) dX12_lookAfter_130 rfl rfl ?_
        refine J_iconst dX12_lookAfter_131 ic_1 ?_
        refine J_icmp_ne (tgt := 140) dX12_lookAfter_132 (by decide) (fun c28 => ?_) (fun c28 => ?_)
        · replace h := if_some h c28
          refine J_iload (q := 1) dX12_lookAfter_140 rfl ?_
          refine J_iconst dX12_lookAfter_142 ic_5 ?_
          refine J_icmp_ne (tgt := 151) dX12_lookAfter_143 (by decide) (fun c29 => ?_) (fun c29 => ?_)
          · replace h := if_some h c29
            refine J_iload (q := 1) dX12_lookAfter_151 rfl ?_
            exact J_iret dX12_lookAfter_153 (rt_i h) rfl
          · replace h := it_some h c29
            refine J_bipush dX12_lookAfter_146 bp_9 ?_
            refine J_goto (tgt := 153) dX12_lookAfter_148 (by decide) ?_
            exact J_iret dX12_lookAfter_153 (rt_i h) rfl
        · replace h := it_some h c28
          refine J_iload (q := 2) dX12_lookAfter_135 rfl ?_
          refine J_goto (tgt := 153) dX12_lookAfter_137 (by decide) ?_
          exact J_iret dX12_lookAfter_153 (rt_i h) rfl
      · replace h := it_some h c7
        refine J_iconst dX12_lookAfter_35 ic_m1 ?_
        exact J_iret dX12_lookAfter_36 (rt_i h) rfl
set_option maxRecDepth 20000 in
set_option maxHeartbeats 4000000 in
theorem kX12_lookAfter {l : Launch} {D : va_G} {ad : Nat → Nat} {cy : Nat → ClassId} {rv : (Int32 × Ob)} {o : Ob} {p1 : Int32} {p2 : Int32} {p3 : Int32} (hi : wl_inj (ΓM ad cy)) (h : M_lookAfter o p1 p2 p3 = some rv) : Cn l D (ΓM ad cy) yX12_lookAfter cX12_lookAfter 8 (some .int) 6 [.ref (ad 0), .int p1, .int p2, .int p3] o (some (.int rv.1), rv.2) :=
  Cn.of hi rfl (Nat.le_of_ble_eq_true rfl) (fun _ _ _ hL => M_lookAfter_ok hi hL h)
set_option maxRecDepth 20000 in
set_option maxHeartbeats 4000000 in
theorem M_mostOfOthers_L5_ok {E : Ec} {ad : Nat → Nat} {cy : Nat → ClassId} {rv : Int32} {o : Ob} {a1 : Int32} {a2 : Int32} (hi : wl_inj (ΓM ad cy)) (hL : Lv E 3) : ∀ (n : Nat) (x3 : Int32) (x4 : Int32), M_mostOfOthers_L5 o a1 a2 n x3 x4 = some rv → Jw E (ΓM ad cy) RX12 cX12_mostOfOthers 5 (some .int) (some (.int rv), o) 5 [(0, .ref (ad 0)), (1, .int a1), (2, .int a2), (3, .int x3), (4, .int x4)] [] o := by
  intro n
  induction n with
  | zero =>
    intro x3 x4 h
    rw [M_mostOfOthers_L5] at h
    cases h
  | succ n ih =>
    intro x3 x4 h
    rw [M_mostOfOthers_L5] at h
    refine J_iload (q := 4) dX12_mostOfOthers_5 rfl ?_
    refine J_aload_n (q := 0) dX12_mostOfOthers_7 rfl rfl ?_
    refine gM_many dX12_mostOfOthers_8 ?_
    refine J_icmp_ge (tgt := 49) dX12_mostOfOthers_11 (by decide) (fun c1 => ?_) (fun c1 => ?_)
    · replace h := it_some h c1
      refine J_iload_n (q := 3) dX12_mostOfOthers_49 rfl rfl ?_
      exact J_iret dX12_mostOfOthers_50 (rt_pi h) rfl
    · replace h := if_some h c1
      refine J_iload (q := 4) dX12_mostOfOthers_14 rfl ?_
      refine J_iload_n (q := 1) dX12_mostOfOthers_16 rfl rfl ?_
      obtain ⟨s6, ha42, h⟩ := bd_some h
      have K42 : Jw E (ΓM ad cy) RX12 cX12_mostOfOthers 5 (some .int) (some (.int rv), o) 42 [(0, .ref (ad 0)), (1, .int a1), (2, .int a2), (4, .int x4)] [.int s6] o := by
        clear ha42
        refine J_istore_n (lv' := [(3, .int s6), (0, .ref (ad 0)), (1, .int a1), (2, .int a2), (4, .int x4)]) dX12_mostOfOthers_42 rfl (by decide) rfl ?_
        refine J_iinc (q := 4) (v := (x4 + (1 : Int32))) (lv' := [(4, .int (x4 + (1 : Int32))), (3, .int s6), (0, .ref (ad 0)), (1, .int a1), (2, .int a2)]) dX12_mostOfOthers_43 rfl (congrArg (fun z => x4 + z) ic_1) (by decide) rfl ?_
        refine J_tv (fun v7 ev7 => ?_)
        replace h := nm_some ev7 h
        refine J_goto (tgt := 5) dX12_mostOfOthers_46 (by decide) ?_
        exact J_sub [2, 3, 4, 1, 0] rfl (ih _ _ h)
      clear h
      obtain ⟨kk41, ekk41, ha42⟩ := jn_some ha42
      have K41 : kk41 = some (s6) → Jw E (ΓM ad cy) RX12 cX12_mostOfOthers 5 (some .int) (some (.int rv), o) 41 [(0, .ref (ad 0)), (1, .int a1), (2, .int a2), (3, .int x3), (4, .int x4)] [] o := by
        subst ekk41
        clear ha42
        intro ha42
        refine J_iload_n (q := 3) dX12_mostOfOthers_41 rfl rfl ?_
        cases ha42
        exact J_sub [0, 1, 2, 4] rfl (K42)
      clear ekk41
      refine J_icmp_eq (tgt := 41) dX12_mostOfOthers_17 (by decide) (fun c2 => ?_) (fun c2 => ?_)
      · replace ha42 := it_some ha42 c2
        exact J_sub [0, 1, 2, 3, 4] rfl (K41 ha42)
      · replace ha42 := if_some ha42 c2
        refine J_aload_n (q := 0) dX12_mostOfOthers_20 rfl rfl ?_
        refine J_iload (q := 4) dX12_mostOfOthers_21 rfl ?_
        refine J_iload_n (q := 2) dX12_mostOfOthers_23 rfl rfl ?_
        obtain ⟨r3, hq8, ha42⟩ := bd_some ha42
        refine kM_storyOf hi dX12_mostOfOthers_24 hq8 hL (by decide) (Nat.le_of_ble_eq_true rfl) ?_
        refine J_iload_n (q := 3) dX12_mostOfOthers_27 rfl rfl ?_
        refine J_icmp_le (tgt := 41) dX12_mostOfOthers_28 (by decide) (fun c4 => ?_) (fun c4 => ?_)
        · replace ha42 := it_some ha42 c4
          exact J_sub [0, 1, 2, 3, 4] rfl (K41 ha42)
        · replace ha42 := if_some ha42 c4
          refine J_aload_n (q := 0) dX12_mostOfOthers_31 rfl rfl ?_
          refine J_iload (q := 4) dX12_mostOfOthers_32 rfl ?_
          refine J_iload_n (q := 2) dX12_mostOfOthers_34 rfl rfl ?_
          obtain ⟨r5, hq9, ha42⟩ := bd_some ha42
          refine kM_storyOf hi dX12_mostOfOthers_35 hq9 hL (by decide) (Nat.le_of_ble_eq_true rfl) ?_
          refine J_goto (tgt := 42) dX12_mostOfOthers_38 (by decide) ?_
          cases ha42
          exact J_sub [0, 1, 2, 4] rfl (K42)
set_option maxRecDepth 20000 in
set_option maxHeartbeats 4000000 in
theorem M_mostOfOthers_ok {E : Ec} {ad : Nat → Nat} {cy : Nat → ClassId} {rv : Int32} {o : Ob} {p1 : Int32} {p2 : Int32} (hi : wl_inj (ΓM ad cy)) (hL : Lv E 3) (h : M_mostOfOthers o p1 p2 = some rv) : Jw E (ΓM ad cy) RX12 cX12_mostOfOthers 5 (some .int) (some (.int rv), o) 0 [(0, .ref (ad 0)), (1, .int p1), (2, .int p2)] [] o := by
  unfold M_mostOfOthers at h
  refine J_iconst dX12_mostOfOthers_0 ic_0 ?_
  refine J_istore_n (lv' := [(3, .int (0 : Int32)), (0, .ref (ad 0)), (1, .int p1), (2, .int p2)]) dX12_mostOfOthers_1 rfl (by decide) rfl ?_
  refine J_iconst dX12_mostOfOthers_2 ic_0 ?_
  refine J_istore (lv' := [(4, .int (0 : Int32)), (3, .int (0 : Int32)), (0, .ref (ad 0)), (1, .int p1), (2, .int p2)]) dX12_mostOfOthers_3 (by decide) rfl ?_
  refine J_sub [2, 3, 4, 1, 0] rfl (M_mostOfOthers_L5_ok hi hL FU _ _ h)
set_option maxRecDepth 20000 in
set_option maxHeartbeats 4000000 in
theorem kX12_mostOfOthers {l : Launch} {D : va_G} {ad : Nat → Nat} {cy : Nat → ClassId} {rv : Int32} {o : Ob} {p1 : Int32} {p2 : Int32} (hi : wl_inj (ΓM ad cy)) (h : M_mostOfOthers o p1 p2 = some rv) : Cn l D (ΓM ad cy) yX12_mostOfOthers cX12_mostOfOthers 5 (some .int) 3 [.ref (ad 0), .int p1, .int p2] o (some (.int rv), o) :=
  Cn.of hi rfl (Nat.le_of_ble_eq_true rfl) (fun _ _ _ hL => M_mostOfOthers_ok hi hL h)
set_option maxRecDepth 20000 in
set_option maxHeartbeats 4000000 in
theorem pdX12_mostOfOthers : (parseMethodDescriptor yX12_mostOfOthers.desc).map (fun d => d.parameters.length) = some 2 := by decide +kernel
set_option maxRecDepth 20000 in
set_option maxHeartbeats 4000000 in
theorem kM_mostOfOthers {E : Ec} {ad : Nat → Nat} {cy : Nat → ClassId} {cc : ByteArray} {nL : Nat} {rt : Option FieldType} {r : Option Value × Ob} {pc n : Nat} {lv : List (Nat × Value)} {st : List Value} {o : Ob} {p1 : Int32} {p2 : Int32} {v : Int32} (hi : wl_inj (ΓM ad cy)) (hd : decode cc pc = .ok (.invokevirtual 241, 3)) (hq : M_mostOfOthers o p1 p2 = some v) (hL : Lv E n) (hn : 3 + 1 ≤ n) (hW : (st.map fun v => v.category).sum ≤ 8) (k : Jw E (ΓM ad cy) RX12 cc nL rt r (pc + 3) lv (.int v :: st) o) : Jw E (ΓM ad cy) RX12 cc nL rt r pc lv (.int p2 :: .int p1 :: .ref (ad 0) :: st) o :=
  J_callV (h := 0) (ci := 11) (av := [.int p1, .int p2]) (q := (some (.int v), o)) (st := st) hd (kX12_mostOfOthers hi hq) tw_5_233 tw_5_235 tw_1_13 tw_5_236 sl_3_15 ⟨by decide, by decide, pdX12_mostOfOthers⟩ (Nat.le_of_ble_eq_true rfl) rfl rfl rfl rfl (by decide) hL hn hW k
set_option maxRecDepth 20000 in
set_option maxHeartbeats 4000000 in
theorem M_win_L44_ok {E : Ec} {ad : Nat → Nat} {cy : Nat → ClassId} {rv : (Int32 × Ob)} {o : Ob} {a1 : Int32} {a2 : Int32} {a3 : Int32} (hi : wl_inj (ΓM ad cy)) (hL : Lv E 4) : ∀ (n : Nat) (x4 : Int32) (x5 : Int32), M_win_L44 o a1 a2 a3 n x4 x5 = some rv → Jw E (ΓM ad cy) RX12 cX12_win 7 (some .int) (some (.int rv.1), rv.2) 44 [(0, .ref (ad 0)), (1, .int a1), (2, .int a2), (3, .int a3), (4, .int x4), (5, .int x5)] [] o := by
  intro n
  induction n with
  | zero =>
    intro x4 x5 h
    rw [M_win_L44] at h
    cases h
  | succ n ih =>
    intro x4 x5 h
    rw [M_win_L44] at h
    refine J_iload (q := 5) dX12_win_44 rfl ?_
    refine J_bipush dX12_win_46 bp_13 ?_
    refine J_icmp_ge (tgt := 109) dX12_win_48 (by decide) (fun c9 => ?_) (fun c9 => ?_)
    · replace h := it_some h c9
      refine J_bipush dX12_win_109 bp_m4 ?_
      exact J_iret dX12_win_111 (rt_i h) rfl
    · replace h := if_some h c9
      refine J_aload_n (q := 0) dX12_win_51 rfl rfl ?_
      refine J_iload_n (q := 1) dX12_win_52 rfl rfl ?_
      refine J_iload (q := 4) dX12_win_53 rfl ?_
      refine J_aload_n (q := 0) dX12_win_55 rfl rfl ?_
      refine gM_pasts dX12_win_56 ?_
      refine J_iload_n (q := 2) dX12_win_59 rfl rfl ?_
      obtain ⟨hg10, h⟩ := gd_some h
      refine aM_ld (h := 1) (n := 5) dX12_win_60 (by decide) rfl hg10 ?_
      obtain ⟨r11, hq18, h⟩ := bd_some h
      refine kM_storyBy hi dX12_win_61 hq18 hL (by decide) (Nat.le_of_ble_eq_true rfl) ?_
      refine J_iload_n (q := 3) dX12_win_64 rfl rfl ?_
      refine J_icmp_le (tgt := 71) dX12_win_65 (by decide) (fun c12 => ?_) (fun c12 => ?_)
      · replace h := it_some h c12
        refine J_aload_n (q := 0) dX12_win_71 rfl rfl ?_
        refine gM_pasts dX12_win_72 ?_
        refine J_iload_n (q := 2) dX12_win_75 rfl rfl ?_
        obtain ⟨hg13, h⟩ := gd_some h
        refine aM_ld (h := 1) (n := 5) dX12_win_76 (by decide) rfl hg13 ?_
        refine J_iload (q := 4) dX12_win_77 rfl ?_
        refine J_iconst dX12_win_79 ic_m1 ?_
        refine J_ixor dX12_win_80 ?_
        refine J_iand dX12_win_81 ?_
        refine J_ti (fun v14 ev14 => ?_)
        replace h := nm_some ev14 h
        refine J_istore (lv' := [(6, .int v14), (0, .ref (ad 0)), (1, .int a1), (2, .int a2), (3, .int a3), (4, .int x4), (5, .int x5)]) dX12_win_82 (by decide) rfl ?_
        refine J_iload (q := 0) dX12_win_84 rfl ?_
        refine J_if_ne (tgt := 92) dX12_win_86 (by decide) (fun c15 => ?_) (fun c15 => ?_)
        · replace h := if_some h c15
          refine J_iload (q := 5) dX12_win_92 rfl ?_
          refine J_iload (q := 0) dX12_win_94 rfl ?_
          refine J_iload (q := 0) dX12_win_96 rfl ?_
          refine J_ineg dX12_win_98 ?_
          refine J_iand dX12_win_99 ?_
          refine J_ior dX12_win_100 ?_
          refine J_ti (fun v16 ev16 => ?_)
          replace h := nm_some ev16 h
          refine J_istore (lv' := [(4, .int v16), (6, .int v14), (0, .ref (ad 0)), (1, .int a1), (2, .int a2), (3, .int a3), (5, .int x5)]) dX12_win_101 (by decide) rfl ?_
          refine J_iinc (q := 6) (v := (x5 + (1 : Int32))) (lv' := [(5, .int (x5 + (1 : Int32))), (4, .int v16), (6, .int v14), (0, .ref (ad 0)), (1, .int a1), (2, .int a2), (3, .int a3)]) dX12_win_103 rfl (congrArg (fun z => x5 + z) ic_1) (by decide) rfl ?_
          refine J_tv (fun v17 ev17 => ?_)
          replace h := nm_some ev17 h
          refine J_goto (tgt := 44) dX12_win_106 (by decide) ?_
          exact J_sub [3, 4, 5, 6, 1, 0] rfl (ih _ _ h)
        · replace h := it_some h c15
          refine J_bipush dX12_win_89 bp_m4 ?_
          exact J_iret dX12_win_91 (rt_i h) rfl
      · replace h := if_some h c12
        refine J_iload (q := 5) dX12_win_68 rfl ?_
        exact J_iret dX12_win_70 (rt_i h) rfl
set_option maxRecDepth 20000 in
set_option maxHeartbeats 4000000 in
theorem M_win_ok {E : Ec} {ad : Nat → Nat} {cy : Nat → ClassId} {rv : (Int32 × Ob)} {o : Ob} {p1 : Int32} {p2 : Int32} (hi : wl_inj (ΓM ad cy)) (hL : Lv E 4) (h : M_win o p1 p2 = some rv) : Jw E (ΓM ad cy) RX12 cX12_win 7 (some .int) (some (.int rv.1), rv.2) 0 [(0, .ref (ad 0)), (1, .int p1), (2, .int p2)] [] o := by
  unfold M_win at h
  refine J_aload_n (q := 0) dX12_win_0 rfl rfl ?_
  refine J_iconst dX12_win_1 ic_0 ?_
  refine pM_thrown dX12_win_2 ?_
  refine J_tw (fun o1 eo1 => ?_)
  replace h := nm_some eo1 h
  refine J_aload_n (q := 0) dX12_win_5 rfl rfl ?_
  refine J_iload_n (q := 1) dX12_win_6 rfl rfl ?_
  obtain ⟨r2, hq19, h⟩ := bd_some h
  refine kM_isOne hi dX12_win_7 hq19 hL (by decide) (Nat.le_of_ble_eq_true rfl) ?_
  refine J_if_eq (tgt := 20) dX12_win_10 (by decide) (fun c3 => ?_) (fun c3 => ?_)
  · replace h := it_some h c3
    refine J_iconst dX12_win_20 ic_m1 ?_
    exact J_iret dX12_win_21 (rt_i h) rfl
  · replace h := if_some h c3
    refine J_iload_n (q := 2) dX12_win_13 rfl rfl ?_
    obtain ⟨r4, hq20, h⟩ := bd_some h
    refine kM_isThing hi dX12_win_14 hq20 hL (by decide) (Nat.le_of_ble_eq_true rfl) ?_
    refine J_if_ne (tgt := 22) dX12_win_17 (by decide) (fun c5 => ?_) (fun c5 => ?_)
    · replace h := if_some h c5
      refine J_aload_n (q := 0) dX12_win_22 rfl rfl ?_
      refine J_iload_n (q := 1) dX12_win_23 rfl rfl ?_
      refine J_iload_n (q := 2) dX12_win_24 rfl rfl ?_
      obtain ⟨r6, hq21, h⟩ := bd_some h
      refine kM_mostOfOthers hi dX12_win_25 hq21 hL (by decide) (Nat.le_of_ble_eq_true rfl) ?_
      refine J_istore_n (lv' := [(3, .int r6), (0, .ref (ad 0)), (1, .int p1), (2, .int p2)]) dX12_win_28 rfl (by decide) rfl ?_
      refine J_aload_n (q := 1) dX12_win_29 rfl rfl ?_
      refine gM_knows dX12_win_30 ?_
      refine J_iconst dX12_win_33 ic_5 ?_
      refine J_iload_n (q := 2) dX12_win_34 rfl rfl ?_
      refine J_imul dX12_win_35 ?_
      refine J_iload_n (q := 3) dX12_win_36 rfl rfl ?_
      refine J_iadd dX12_win_37 ?_
      obtain ⟨hg7, h⟩ := gd_some h
      refine aM_ld (h := 7) (n := 35) dX12_win_38 (by decide) rfl hg7 ?_
      refine J_ti (fun v8 ev8 => ?_)
      replace h := nm_some ev8 h
      refine J_istore (lv' := [(4, .int v8), (3, .int r6), (0, .ref (ad 0)), (1, .int p1), (2, .int p2)]) dX12_win_39 (by decide) rfl ?_
      refine J_iconst dX12_win_41 ic_0 ?_
      refine J_istore (lv' := [(5, .int (0 : Int32)), (4, .int v8), (3, .int r6), (0, .ref (ad 0)), (1, .int p1), (2, .int p2)]) dX12_win_42 (by decide) rfl ?_
      refine J_sub [3, 4, 5, 2, 1, 0] rfl (M_win_L44_ok hi hL FU _ _ h)
    · replace h := it_some h c5
      refine J_iconst dX12_win_20 ic_m1 ?_
      exact J_iret dX12_win_21 (rt_i h) rfl
set_option maxRecDepth 20000 in
set_option maxHeartbeats 4000000 in
theorem kX12_win {l : Launch} {D : va_G} {ad : Nat → Nat} {cy : Nat → ClassId} {rv : (Int32 × Ob)} {o : Ob} {p1 : Int32} {p2 : Int32} (hi : wl_inj (ΓM ad cy)) (h : M_win o p1 p2 = some rv) : Cn l D (ΓM ad cy) yX12_win cX12_win 7 (some .int) 4 [.ref (ad 0), .int p1, .int p2] o (some (.int rv.1), rv.2) :=
  Cn.of hi rfl (Nat.le_of_ble_eq_true rfl) (fun _ _ _ hL => M_win_ok hi hL h)
set_option maxRecDepth 20000 in
set_option maxHeartbeats 4000000 in
theorem M_ask_L36_ok {E : Ec} {ad : Nat → Nat} {cy : Nat → ClassId} {rv : (Int32 × Ob)} {o : Ob} {a1 : Int32} {a2 : Int32} (hi : wl_inj (ΓM ad cy)) (hL : Lv E 3) : ∀ (n : Nat) (x3 : Int32) (x4 : Int32) (x5 : Int32), M_ask_L36 o a1 a2 n x3 x4 x5 = some rv → Jw E (ΓM ad cy) RX12 cX12_ask 7 (some .int) (some (.int rv.1), rv.2) 36 [(0, .ref (ad 0)), (1, .int a1), (2, .int a2), (3, .int x3), (4, .int x4), (5, .int x5)] [] o := by
  intro n
  induction n with
  | zero =>
    intro x3 x4 x5 h
    rw [M_ask_L36] at h
    cases h
  | succ n ih =>
    intro x3 x4 x5 h
    rw [M_ask_L36] at h
    refine J_iload (q := 5) dX12_ask_36 rfl ?_
    refine J_aload_n (q := 0) dX12_ask_38 rfl rfl ?_
    refine gM_many dX12_ask_39 ?_
    refine J_icmp_ge (tgt := 126) dX12_ask_42 (by decide) (fun c7 => ?_) (fun c7 => ?_)
    · replace h := it_some h c7
      refine J_iload_n (q := 3) dX12_ask_126 rfl rfl ?_
      exact J_iret dX12_ask_127 (rt_i h) rfl
    · replace h := if_some h c7
      refine J_iload (q := 5) dX12_ask_45 rfl ?_
      refine J_iload_n (q := 1) dX12_ask_47 rfl rfl ?_
      obtain ⟨s13, ha88, h⟩ := bd_some h
      have K88 : Jw E (ΓM ad cy) RX12 cX12_ask 7 (some .int) (some (.int rv.1), rv.2) 88 [(0, .ref (ad 0)), (1, .int a1), (2, .int a2), (3, .int x3), (4, .int x4), (5, .int x5)] [.int s13] o := by
        clear ha88
        refine J_istore (lv' := [(6, .int s13), (0, .ref (ad 0)), (1, .int a1), (2, .int a2), (3, .int x3), (4, .int x4), (5, .int x5)]) dX12_ask_88 (by decide) rfl ?_
        refine J_iload (q := 0) dX12_ask_90 rfl ?_
        refine J_iload (q := 5) dX12_ask_92 rfl ?_
        obtain ⟨s15, ha103, h⟩ := bd_some h
        have K103 : Jw E (ΓM ad cy) RX12 cX12_ask 7 (some .int) (some (.int rv.1), rv.2) 103 [(0, .ref (ad 0)), (1, .int a1), (2, .int a2), (4, .int x4), (5, .int x5), (6, .int s13)] [.int s15] o := by
          clear ha103
          refine J_istore_n (lv' := [(3, .int s15), (0, .ref (ad 0)), (1, .int a1), (2, .int a2), (4, .int x4), (5, .int x5), (6, .int s13)]) dX12_ask_103 rfl (by decide) rfl ?_
          refine J_iload (q := 6) dX12_ask_104 rfl ?_
          refine J_iload (q := 4) dX12_ask_106 rfl ?_
          obtain ⟨s17, ha118, h⟩ := bd_some h
          have K118 : Jw E (ΓM ad cy) RX12 cX12_ask 7 (some .int) (some (.int rv.1), rv.2) 118 [(0, .ref (ad 0)), (1, .int a1), (2, .int a2), (3, .int s15), (5, .int x5)] [.int s17] o := by
            clear ha118
            refine J_istore (lv' := [(4, .int s17), (0, .ref (ad 0)), (1, .int a1), (2, .int a2), (3, .int s15), (5, .int x5)]) dX12_ask_118 (by decide) rfl ?_
            refine J_iinc (q := 5) (v := (x5 + (1 : Int32))) (lv' := [(5, .int (x5 + (1 : Int32))), (4, .int s17), (0, .ref (ad 0)), (1, .int a1), (2, .int a2), (3, .int s15)]) dX12_ask_120 rfl (congrArg (fun z => x5 + z) ic_1) (by decide) rfl ?_
            refine J_tv (fun v18 ev18 => ?_)
            replace h := nm_some ev18 h
            refine J_goto (tgt := 36) dX12_ask_123 (by decide) ?_
            exact J_sub [2, 3, 4, 5, 1, 0] rfl (ih _ _ _ h)
          clear h
          refine J_icmp_le (tgt := 116) dX12_ask_108 (by decide) (fun c16 => ?_) (fun c16 => ?_)
          · replace ha118 := it_some ha118 c16
            refine J_iload (q := 4) dX12_ask_116 rfl ?_
            cases ha118
            exact J_sub [1, 2, 3, 0, 5] rfl (K118)
          · replace ha118 := if_some ha118 c16
            refine J_iload (q := 6) dX12_ask_111 rfl ?_
            refine J_goto (tgt := 118) dX12_ask_113 (by decide) ?_
            cases ha118
            exact J_sub [1, 2, 3, 0, 5] rfl (K118)
        clear h
        refine J_icmp_le (tgt := 102) dX12_ask_94 (by decide) (fun c14 => ?_) (fun c14 => ?_)
        · replace ha103 := it_some ha103 c14
          refine J_iload_n (q := 4) dX12_ask_102 rfl rfl ?_
          cases ha103
          exact J_sub [1, 2, 3, 5, 6, 0] rfl (K103)
        · replace ha103 := if_some ha103 c14
          refine J_iload (q := 6) dX12_ask_97 rfl ?_
          refine J_goto (tgt := 103) dX12_ask_99 (by decide) ?_
          cases ha103
          exact J_sub [1, 2, 3, 5, 6, 0] rfl (K103)
      clear h
      refine J_icmp_ne (tgt := 55) dX12_ask_48 (by decide) (fun c8 => ?_) (fun c8 => ?_)
      · replace ha88 := if_some ha88 c8
        refine J_aload_n (q := 0) dX12_ask_55 rfl rfl ?_
        refine J_iload_n (q := 1) dX12_ask_56 rfl rfl ?_
        refine J_aload_n (q := 0) dX12_ask_57 rfl rfl ?_
        refine gM_knows dX12_ask_58 ?_
        refine J_iconst dX12_ask_61 ic_5 ?_
        refine J_iload_n (q := 1) dX12_ask_62 rfl rfl ?_
        refine J_imul dX12_ask_63 ?_
        refine J_iload_n (q := 2) dX12_ask_64 rfl rfl ?_
        refine J_iadd dX12_ask_65 ?_
        obtain ⟨hg9, ha88⟩ := gd_some ha88
        refine aM_ld (h := 7) (n := 35) dX12_ask_66 (by decide) rfl hg9 ?_
        refine J_aload_n (q := 0) dX12_ask_67 rfl rfl ?_
        refine gM_knows dX12_ask_68 ?_
        refine J_iconst dX12_ask_71 ic_5 ?_
        refine J_iload (q := 5) dX12_ask_72 rfl ?_
        refine J_imul dX12_ask_74 ?_
        refine J_iload_n (q := 2) dX12_ask_75 rfl rfl ?_
        refine J_iadd dX12_ask_76 ?_
        obtain ⟨hg10, ha88⟩ := gd_some ha88
        refine aM_ld (h := 7) (n := 35) dX12_ask_77 (by decide) rfl hg10 ?_
        refine J_ior dX12_ask_78 ?_
        refine J_aload_n (q := 0) dX12_ask_79 rfl rfl ?_
        refine gM_pasts dX12_ask_80 ?_
        refine J_iload_n (q := 2) dX12_ask_83 rfl rfl ?_
        obtain ⟨hg11, ha88⟩ := gd_some ha88
        refine aM_ld (h := 1) (n := 5) dX12_ask_84 (by decide) rfl hg11 ?_
        obtain ⟨r12, hq19, ha88⟩ := bd_some ha88
        refine kM_storyBy hi dX12_ask_85 hq19 hL (by decide) (Nat.le_of_ble_eq_true rfl) ?_
        cases ha88
        exact J_sub [0, 1, 2, 3, 4, 5] rfl (K88)
      · replace ha88 := it_some ha88 c8
        refine J_iconst dX12_ask_51 ic_m1 ?_
        refine J_goto (tgt := 88) dX12_ask_52 (by decide) ?_
        cases ha88
        exact J_sub [0, 1, 2, 3, 4, 5] rfl (K88)
set_option maxRecDepth 20000 in
set_option maxHeartbeats 4000000 in
theorem M_ask_ok {E : Ec} {ad : Nat → Nat} {cy : Nat → ClassId} {rv : (Int32 × Ob)} {o : Ob} {p1 : Int32} {p2 : Int32} (hi : wl_inj (ΓM ad cy)) (hL : Lv E 3) (h : M_ask o p1 p2 = some rv) : Jw E (ΓM ad cy) RX12 cX12_ask 7 (some .int) (some (.int rv.1), rv.2) 0 [(0, .ref (ad 0)), (1, .int p1), (2, .int p2)] [] o := by
  unfold M_ask at h
  refine J_aload_n (q := 0) dX12_ask_0 rfl rfl ?_
  refine J_iconst dX12_ask_1 ic_0 ?_
  refine pM_thrown dX12_ask_2 ?_
  refine J_tw (fun o1 eo1 => ?_)
  replace h := nm_some eo1 h
  refine J_aload_n (q := 0) dX12_ask_5 rfl rfl ?_
  refine J_iload_n (q := 1) dX12_ask_6 rfl rfl ?_
  obtain ⟨r2, hq20, h⟩ := bd_some h
  refine kM_isOne hi dX12_ask_7 hq20 hL (by decide) (Nat.le_of_ble_eq_true rfl) ?_
  refine J_if_eq (tgt := 20) dX12_ask_10 (by decide) (fun c3 => ?_) (fun c3 => ?_)
  · replace h := it_some h c3
    refine J_iconst dX12_ask_20 ic_m1 ?_
    exact J_iret dX12_ask_21 (rt_i h) rfl
  · replace h := if_some h c3
    refine J_iload_n (q := 2) dX12_ask_13 rfl rfl ?_
    obtain ⟨r4, hq21, h⟩ := bd_some h
    refine kM_isThing hi dX12_ask_14 hq21 hL (by decide) (Nat.le_of_ble_eq_true rfl) ?_
    refine J_if_ne (tgt := 22) dX12_ask_17 (by decide) (fun c5 => ?_) (fun c5 => ?_)
    · replace h := if_some h c5
      refine J_bipush dX12_ask_22 bp_m4 ?_
      refine J_istore_n (lv' := [(3, .int (-4 : Int32)), (0, .ref (ad 0)), (1, .int p1), (2, .int p2)]) dX12_ask_24 rfl (by decide) rfl ?_
      refine J_aload_n (q := 1) dX12_ask_25 rfl rfl ?_
      refine J_iload_n (q := 2) dX12_ask_26 rfl rfl ?_
      refine J_iload_n (q := 3) dX12_ask_27 rfl rfl ?_
      obtain ⟨r6, hq22, h⟩ := bd_some h
      refine kM_storyOf hi dX12_ask_28 hq22 hL (by decide) (Nat.le_of_ble_eq_true rfl) ?_
      refine J_istore (lv' := [(4, .int r6), (3, .int (-4 : Int32)), (0, .ref (ad 0)), (1, .int p1), (2, .int p2)]) dX12_ask_31 (by decide) rfl ?_
      refine J_iconst dX12_ask_33 ic_0 ?_
      refine J_istore (lv' := [(5, .int (0 : Int32)), (4, .int r6), (3, .int (-4 : Int32)), (0, .ref (ad 0)), (1, .int p1), (2, .int p2)]) dX12_ask_34 (by decide) rfl ?_
      refine J_sub [3, 4, 5, 2, 1, 0] rfl (M_ask_L36_ok hi hL FU _ _ _ h)
    · replace h := it_some h c5
      refine J_iconst dX12_ask_20 ic_m1 ?_
      exact J_iret dX12_ask_21 (rt_i h) rfl
set_option maxRecDepth 20000 in
set_option maxHeartbeats 4000000 in
theorem kX12_ask {l : Launch} {D : va_G} {ad : Nat → Nat} {cy : Nat → ClassId} {rv : (Int32 × Ob)} {o : Ob} {p1 : Int32} {p2 : Int32} (hi : wl_inj (ΓM ad cy)) (h : M_ask o p1 p2 = some rv) : Cn l D (ΓM ad cy) yX12_ask cX12_ask 7 (some .int) 3 [.ref (ad 0), .int p1, .int p2] o (some (.int rv.1), rv.2) :=
  Cn.of hi rfl (Nat.le_of_ble_eq_true rfl) (fun _ _ _ hL => M_ask_ok hi hL h)
set_option maxRecDepth 20000 in
set_option maxHeartbeats 4000000 in
theorem M_layCare_L52_ok {E : Ec} {ad : Nat → Nat} {cy : Nat → ClassId} {rv : Ob} {k142 : Ob → Option Ob} {a1 : Int32} {a2 : Int32} {a3 : Int32} (hi : wl_inj (ΓM ad cy)) (hL : Lv E 3) (hk142 : ∀ (yw : Ob), k142 yw = some rv → Jw E (ΓM ad cy) RX12 cX12_layCare 6 none (none, rv) 142 [(0, .ref (ad 0)), (1, .int a1)] [] yw) : ∀ (n : Nat) (o : Ob) (x4 : Int32), M_layCare_L52 k142 a1 a2 a3 n o x4 = some rv → Jw E (ΓM ad cy) RX12 cX12_layCare 6 none (none, rv) 52 [(0, .ref (ad 0)), (1, .int a1), (2, .int a2), (3, .int a3), (4, .int x4)] [] o := by
  intro n
  induction n with
  | zero =>
    intro o x4 h
    rw [M_layCare_L52] at h
    cases h
  | succ n ih =>
    intro o x4 h
    rw [M_layCare_L52] at h
    refine J_iload (q := 4) dX12_layCare_52 rfl ?_
    refine J_aload_n (q := 0) dX12_layCare_54 rfl rfl ?_
    refine gM_many dX12_layCare_55 ?_
    refine J_icmp_ge (tgt := 142) dX12_layCare_58 (by decide) (fun c9 => ?_) (fun c9 => ?_)
    · replace h := it_some h c9
      exact J_sub [0, 1] rfl (hk142 _ h)
    · replace h := if_some h c9
      refine J_iload_n (q := 2) dX12_layCare_61 rfl rfl ?_
      refine J_iconst dX12_layCare_62 ic_5 ?_
      refine J_icmp_ge (tgt := 142) dX12_layCare_63 (by decide) (fun c10 => ?_) (fun c10 => ?_)
      · replace h := it_some h c10
        exact J_sub [0, 1] rfl (hk142 _ h)
      · replace h := if_some h c10
        refine J_iload_n (q := 3) dX12_layCare_66 rfl rfl ?_
        refine J_iload (q := 4) dX12_layCare_67 rfl ?_
        obtain ⟨r11, hq23, h⟩ := bd_some h
        refine kM_hasBit hi dX12_layCare_69 hq23 hL (by decide) (Nat.le_of_ble_eq_true rfl) ?_
        obtain ⟨s15, ha106, h⟩ := bd_some h
        have K106 : Jw E (ΓM ad cy) RX12 cX12_layCare 6 none (none, rv) 106 [(0, .ref (ad 0)), (1, .int a1), (2, .int a2), (3, .int a3), (4, .int x4)] [.int s15] o := by
          clear ha106
          refine J_istore (lv' := [(5, .int s15), (0, .ref (ad 0)), (1, .int a1), (2, .int a2), (3, .int a3), (4, .int x4)]) dX12_layCare_106 (by decide) rfl ?_
          refine J_aload_n (q := 1) dX12_layCare_108 rfl rfl ?_
          refine gM_mostBy dX12_layCare_109 ?_
          refine J_iload_n (q := 2) dX12_layCare_112 rfl rfl ?_
          refine J_iload (q := 0) dX12_layCare_113 rfl ?_
          refine J_aload_n (q := 1) dX12_layCare_115 rfl rfl ?_
          refine gM_mostBy dX12_layCare_116 ?_
          refine J_iload_n (q := 2) dX12_layCare_119 rfl rfl ?_
          obtain ⟨hg16, h⟩ := gd_some h
          refine aM_ld (h := 19) (n := 768) dX12_layCare_120 (by decide) rfl hg16 ?_
          obtain ⟨s19, ha135, h⟩ := bd_some h
          have K135 : Jw E (ΓM ad cy) RX12 cX12_layCare 6 none (none, rv) 135 [(0, .ref (ad 0)), (1, .int a1), (2, .int a2), (3, .int a3), (4, .int x4)] [.int s19, .int a1, .ref (ad 19)] o := by
            clear ha135
            obtain ⟨hg20, h⟩ := gd_some h
            refine aM_st (h := 19) (n := 768) dX12_layCare_135 (by decide) rfl hg20 ?_
            refine J_tw (fun o21 eo21 => ?_)
            replace h := nm_some eo21 h
            refine J_iinc (q := 4) (v := (x4 + (1 : Int32))) (lv' := [(4, .int (x4 + (1 : Int32))), (0, .ref (ad 0)), (1, .int a1), (2, .int a2), (3, .int a3)]) dX12_layCare_136 rfl (congrArg (fun z => x4 + z) ic_1) (by decide) rfl ?_
            refine J_tv (fun v22 ev22 => ?_)
            replace h := nm_some ev22 h
            refine J_goto (tgt := 52) dX12_layCare_139 (by decide) ?_
            exact J_sub [1, 2, 3, 4, 0] rfl (ih _ _ h)
          clear h
          refine J_icmp_le (tgt := 129) dX12_layCare_121 (by decide) (fun c17 => ?_) (fun c17 => ?_)
          · replace ha135 := it_some ha135 c17
            refine J_aload_n (q := 1) dX12_layCare_129 rfl rfl ?_
            refine gM_mostBy dX12_layCare_130 ?_
            refine J_iload_n (q := 2) dX12_layCare_133 rfl rfl ?_
            obtain ⟨hg18, ha135⟩ := gd_some ha135
            refine aM_ld (h := 19) (n := 768) dX12_layCare_134 (by decide) rfl hg18 ?_
            cases ha135
            exact J_sub [1, 2, 3, 4, 5] rfl (K135)
          · replace ha135 := if_some ha135 c17
            refine J_iload (q := 0) dX12_layCare_124 rfl ?_
            refine J_goto (tgt := 135) dX12_layCare_126 (by decide) ?_
            cases ha135
            exact J_sub [1, 2, 3, 4, 5] rfl (K135)
        clear h
        refine J_if_eq (tgt := 79) dX12_layCare_72 (by decide) (fun c12 => ?_) (fun c12 => ?_)
        · replace ha106 := it_some ha106 c12
          refine J_aload_n (q := 0) dX12_layCare_79 rfl rfl ?_
          refine J_iload (q := 4) dX12_layCare_80 rfl ?_
          refine J_iload_n (q := 2) dX12_layCare_82 rfl rfl ?_
          obtain ⟨r13, hq24, ha106⟩ := bd_some ha106
          refine kM_storyOf hi dX12_layCare_83 hq24 hL (by decide) (Nat.le_of_ble_eq_true rfl) ?_
          refine J_aload_n (q := 0) dX12_layCare_86 rfl rfl ?_
          refine gM_mostBy dX12_layCare_87 ?_
          refine J_sipush dX12_layCare_90 sp_128 ?_
          refine J_iload_n (q := 2) dX12_layCare_93 rfl rfl ?_
          refine J_iconst dX12_layCare_94 ic_1 ?_
          refine J_iadd dX12_layCare_95 ?_
          refine J_imul dX12_layCare_96 ?_
          refine J_iload_n (q := 3) dX12_layCare_97 rfl rfl ?_
          refine J_iconst dX12_layCare_98 ic_1 ?_
          refine J_iload (q := 4) dX12_layCare_99 rfl ?_
          refine J_ishl dX12_layCare_101 ?_
          refine J_ior dX12_layCare_102 ?_
          refine J_iadd dX12_layCare_103 ?_
          obtain ⟨hg14, ha106⟩ := gd_some ha106
          refine aM_ld (h := 19) (n := 768) dX12_layCare_104 (by decide) rfl hg14 ?_
          refine J_iadd dX12_layCare_105 ?_
          cases ha106
          exact J_sub [0, 1, 2, 3, 4] rfl (K106)
        · replace ha106 := if_some ha106 c12
          refine J_iconst dX12_layCare_75 ic_m1 ?_
          refine J_goto (tgt := 106) dX12_layCare_76 (by decide) ?_
          cases ha106
          exact J_sub [0, 1, 2, 3, 4] rfl (K106)
set_option maxRecDepth 20000 in
set_option maxHeartbeats 4000000 in
theorem M_layCare_L4_ok {E : Ec} {ad : Nat → Nat} {cy : Nat → ClassId} {rv : Ob} (hi : wl_inj (ΓM ad cy)) (hL : Lv E 3) : ∀ (n : Nat) (o : Ob) (x1 : Int32), M_layCare_L4 n o x1 = some rv → Jw E (ΓM ad cy) RX12 cX12_layCare 6 none (none, rv) 4 [(0, .ref (ad 0)), (1, .int x1)] [] o := by
  intro n
  induction n with
  | zero =>
    intro o x1 h
    rw [M_layCare_L4] at h
    cases h
  | succ n ih =>
    intro o x1 h
    rw [M_layCare_L4] at h
    refine J_iload_n (q := 1) dX12_layCare_4 rfl rfl ?_
    refine J_if_lt (tgt := 148) dX12_layCare_5 (by decide) (fun c1 => ?_) (fun c1 => ?_)
    · replace h := it_some h c1
      exact J_vret dX12_layCare_148 (rt_v h) rfl
    · replace h := if_some h c1
      refine J_iload_n (q := 1) dX12_layCare_8 rfl rfl ?_
      refine J_sipush dX12_layCare_9 sp_128 ?_
      refine J_idiv dX12_layCare_12 (by decide) ?_
      refine J_ti (fun v2 ev2 => ?_)
      replace h := nm_some ev2 h
      refine J_istore_n (lv' := [(2, .int v2), (0, .ref (ad 0)), (1, .int x1)]) dX12_layCare_13 rfl (by decide) rfl ?_
      refine J_iload_n (q := 2) dX12_layCare_14 rfl rfl ?_
      refine J_sipush dX12_layCare_15 sp_128 ?_
      refine J_irem dX12_layCare_18 (by decide) ?_
      refine J_ti (fun v3 ev3 => ?_)
      replace h := nm_some ev3 h
      refine J_istore_n (lv' := [(3, .int v3), (2, .int v2), (0, .ref (ad 0)), (1, .int x1)]) dX12_layCare_19 rfl (by decide) rfl ?_
      refine J_aload_n (q := 2) dX12_layCare_20 rfl rfl ?_
      refine gM_mostBy dX12_layCare_21 ?_
      refine J_iload_n (q := 3) dX12_layCare_24 rfl rfl ?_
      refine J_iload_n (q := 1) dX12_layCare_25 rfl rfl ?_
      refine J_iconst dX12_layCare_26 ic_5 ?_
      obtain ⟨s6, ha48, h⟩ := bd_some h
      have K48 : Jw E (ΓM ad cy) RX12 cX12_layCare 6 none (none, rv) 48 [(0, .ref (ad 0)), (1, .int x1), (2, .int v2), (3, .int v3)] [.int s6, .int x1, .ref (ad 19)] o := by
        clear ha48
        obtain ⟨hg7, h⟩ := gd_some h
        refine aM_st (h := 19) (n := 768) dX12_layCare_48 (by decide) rfl hg7 ?_
        refine J_tw (fun o8 eo8 => ?_)
        replace h := nm_some eo8 h
        refine J_iconst dX12_layCare_49 ic_0 ?_
        refine J_istore (lv' := [(4, .int (0 : Int32)), (0, .ref (ad 0)), (1, .int x1), (2, .int v2), (3, .int v3)]) dX12_layCare_50 (by decide) rfl ?_
        refine J_sub [1, 2, 3, 4, 0] rfl (M_layCare_L52_ok hi hL (fun o25 h => ?_) FU _ _ h)
        refine J_iinc (q := 1) (v := (x1 + (-1 : Int32))) (lv' := [(1, .int (x1 + (-1 : Int32))), (0, .ref (ad 0))]) dX12_layCare_142 rfl (congrArg (fun z => x1 + z) ic_m1) (by decide) rfl ?_
        refine J_tv (fun v26 ev26 => ?_)
        replace h := nm_some ev26 h
        refine J_goto (tgt := 4) dX12_layCare_145 (by decide) ?_
        exact J_sub [1, 0] rfl (ih _ _ h)
      clear h
      refine J_icmp_ne (tgt := 34) dX12_layCare_27 (by decide) (fun c4 => ?_) (fun c4 => ?_)
      · replace ha48 := if_some ha48 c4
        refine J_aload_n (q := 2) dX12_layCare_34 rfl rfl ?_
        refine gM_mostBy dX12_layCare_35 ?_
        refine J_sipush dX12_layCare_38 sp_128 ?_
        refine J_iload_n (q := 1) dX12_layCare_41 rfl rfl ?_
        refine J_iconst dX12_layCare_42 ic_1 ?_
        refine J_iadd dX12_layCare_43 ?_
        refine J_imul dX12_layCare_44 ?_
        refine J_iload_n (q := 0) dX12_layCare_45 rfl rfl ?_
        refine J_iadd dX12_layCare_46 ?_
        obtain ⟨hg5, ha48⟩ := gd_some ha48
        refine aM_ld (h := 19) (n := 768) dX12_layCare_47 (by decide) rfl hg5 ?_
        cases ha48
        exact J_sub [2, 3, 1, 0] rfl (K48)
      · replace ha48 := it_some ha48 c4
        refine J_iconst dX12_layCare_30 ic_0 ?_
        refine J_goto (tgt := 48) dX12_layCare_31 (by decide) ?_
        cases ha48
        exact J_sub [2, 3, 1, 0] rfl (K48)
set_option maxRecDepth 20000 in
set_option maxHeartbeats 4000000 in
theorem M_layCare_ok {E : Ec} {ad : Nat → Nat} {cy : Nat → ClassId} {rv : Ob} {o : Ob} (hi : wl_inj (ΓM ad cy)) (hL : Lv E 3) (h : M_layCare o = some rv) : Jw E (ΓM ad cy) RX12 cX12_layCare 6 none (none, rv) 0 [(0, .ref (ad 0))] [] o := by
  unfold M_layCare at h
  refine J_sipush dX12_layCare_0 sp_767 ?_
  refine J_istore_n (lv' := [(1, .int (767 : Int32)), (0, .ref (ad 0))]) dX12_layCare_3 rfl (by decide) rfl ?_
  refine J_sub [1, 0] rfl (M_layCare_L4_ok hi hL FU _ _ h)
set_option maxRecDepth 20000 in
set_option maxHeartbeats 4000000 in
theorem kX12_layCare {l : Launch} {D : va_G} {ad : Nat → Nat} {cy : Nat → ClassId} {rv : Ob} {o : Ob} (hi : wl_inj (ΓM ad cy)) (h : M_layCare o = some rv) : Cn l D (ΓM ad cy) yX12_layCare cX12_layCare 6 none 3 [.ref (ad 0)] o (none, rv) :=
  Cn.of hi rfl (Nat.le_of_ble_eq_true rfl) (fun _ _ _ hL => M_layCare_ok hi hL h)
set_option maxRecDepth 20000 in
set_option maxHeartbeats 4000000 in
theorem pdX12_layCare : (parseMethodDescriptor yX12_layCare.desc).map (fun d => d.parameters.length) = some 0 := by decide +kernel
set_option maxRecDepth 20000 in
set_option maxHeartbeats 4000000 in
theorem kM_layCare {E : Ec} {ad : Nat → Nat} {cy : Nat → ClassId} {cc : ByteArray} {nL : Nat} {rt : Option FieldType} {r : Option Value × Ob} {pc n : Nat} {lv : List (Nat × Value)} {st : List Value} {o : Ob} {o' : Ob} (hi : wl_inj (ΓM ad cy)) (hd : decode cc pc = .ok (.invokevirtual 246, 3)) (hq : M_layCare o = some o') (hL : Lv E n) (hn : 3 + 1 ≤ n) (hW : (st.map fun v => v.category).sum ≤ 8) (k : Jw E (ΓM ad cy) RX12 cc nL rt r (pc + 3) lv (st) o') : Jw E (ΓM ad cy) RX12 cc nL rt r pc lv (.ref (ad 0) :: st) o :=
  J_callV (h := 0) (ci := 11) (av := []) (q := (none, o')) (st := st) hd (kX12_layCare hi hq) tw_6_6 tw_6_8 tw_1_13 tw_6_9 sl_4_0 ⟨by decide, by decide, pdX12_layCare⟩ (Nat.le_of_ble_eq_true rfl) rfl rfl rfl rfl (by decide) hL hn hW k
set_option maxRecDepth 20000 in
set_option maxHeartbeats 4000000 in
theorem M_carerOf_L2_ok {E : Ec} {ad : Nat → Nat} {cy : Nat → ClassId} {rv : Int32} {o : Ob} {a1 : Int32} {a2 : Int32} (hi : wl_inj (ΓM ad cy)) (hL : Lv E 3) : ∀ (n : Nat) (x3 : Int32), M_carerOf_L2 o a1 a2 n x3 = some rv → Jw E (ΓM ad cy) RX12 cX12_carerOf 4 (some .int) (some (.int rv), o) 2 [(0, .ref (ad 0)), (1, .int a1), (2, .int a2), (3, .int x3)] [] o := by
  intro n
  induction n with
  | zero =>
    intro x3 h
    rw [M_carerOf_L2] at h
    cases h
  | succ n ih =>
    intro x3 h
    rw [M_carerOf_L2] at h
    refine J_iload_n (q := 3) dX12_carerOf_2 rfl rfl ?_
    refine J_aload_n (q := 0) dX12_carerOf_3 rfl rfl ?_
    refine gM_many dX12_carerOf_4 ?_
    refine J_icmp_ge (tgt := 66) dX12_carerOf_7 (by decide) (fun c1 => ?_) (fun c1 => ?_)
    · replace h := it_some h c1
      refine J_bipush dX12_carerOf_66 bp_9 ?_
      exact J_iret dX12_carerOf_68 (rt_pi h) rfl
    · replace h := if_some h c1
      refine J_iload_n (q := 2) dX12_carerOf_10 rfl rfl ?_
      refine J_iload_n (q := 3) dX12_carerOf_11 rfl rfl ?_
      obtain ⟨r2, hq9, h⟩ := bd_some h
      refine kM_hasBit hi dX12_carerOf_12 hq9 hL (by decide) (Nat.le_of_ble_eq_true rfl) ?_
      obtain ⟨kk60, ekk60, h⟩ := jn_some h
      have K60 : kk60 = some rv → Jw E (ΓM ad cy) RX12 cX12_carerOf 4 (some .int) (some (.int rv), o) 60 [(0, .ref (ad 0)), (1, .int a1), (2, .int a2), (3, .int x3)] [] o := by
        subst ekk60
        clear h
        intro h
        refine J_iinc (q := 3) (v := (x3 + (1 : Int32))) (lv' := [(3, .int (x3 + (1 : Int32))), (0, .ref (ad 0)), (1, .int a1), (2, .int a2)]) dX12_carerOf_60 rfl (congrArg (fun z => x3 + z) ic_1) (by decide) rfl ?_
        refine J_tv (fun v8 ev8 => ?_)
        replace h := nm_some ev8 h
        refine J_goto (tgt := 2) dX12_carerOf_63 (by decide) ?_
        exact J_sub [1, 2, 3, 0] rfl (ih _ h)
      clear ekk60
      refine J_if_ne (tgt := 60) dX12_carerOf_15 (by decide) (fun c3 => ?_) (fun c3 => ?_)
      · replace h := if_some h c3
        exact J_sub [0, 1, 2, 3] rfl (K60 h)
      · replace h := it_some h c3
        refine J_aload_n (q := 0) dX12_carerOf_18 rfl rfl ?_
        refine J_iload_n (q := 3) dX12_carerOf_19 rfl rfl ?_
        refine J_iload_n (q := 1) dX12_carerOf_20 rfl rfl ?_
        obtain ⟨r4, hq10, h⟩ := bd_some h
        refine kM_storyOf hi dX12_carerOf_21 hq10 hL (by decide) (Nat.le_of_ble_eq_true rfl) ?_
        refine J_aload_n (q := 0) dX12_carerOf_24 rfl rfl ?_
        refine gM_mostBy dX12_carerOf_25 ?_
        refine J_sipush dX12_carerOf_28 sp_128 ?_
        refine J_iload_n (q := 1) dX12_carerOf_31 rfl rfl ?_
        refine J_iconst dX12_carerOf_32 ic_1 ?_
        refine J_iadd dX12_carerOf_33 ?_
        refine J_imul dX12_carerOf_34 ?_
        refine J_iload_n (q := 2) dX12_carerOf_35 rfl rfl ?_
        refine J_iconst dX12_carerOf_36 ic_1 ?_
        refine J_iload_n (q := 3) dX12_carerOf_37 rfl rfl ?_
        refine J_ishl dX12_carerOf_38 ?_
        refine J_ior dX12_carerOf_39 ?_
        refine J_iadd dX12_carerOf_40 ?_
        obtain ⟨hg5, h⟩ := gd_some h
        refine aM_ld (h := 19) (n := 768) dX12_carerOf_41 (by decide) rfl hg5 ?_
        refine J_iadd dX12_carerOf_42 ?_
        refine J_aload_n (q := 0) dX12_carerOf_43 rfl rfl ?_
        refine gM_mostBy dX12_carerOf_44 ?_
        refine J_sipush dX12_carerOf_47 sp_128 ?_
        refine J_iload_n (q := 1) dX12_carerOf_50 rfl rfl ?_
        refine J_imul dX12_carerOf_51 ?_
        refine J_iload_n (q := 2) dX12_carerOf_52 rfl rfl ?_
        refine J_iadd dX12_carerOf_53 ?_
        obtain ⟨hg6, h⟩ := gd_some h
        refine aM_ld (h := 19) (n := 768) dX12_carerOf_54 (by decide) rfl hg6 ?_
        refine J_icmp_ne (tgt := 60) dX12_carerOf_55 (by decide) (fun c7 => ?_) (fun c7 => ?_)
        · replace h := if_some h c7
          exact J_sub [0, 1, 2, 3] rfl (K60 h)
        · replace h := it_some h c7
          refine J_iload_n (q := 3) dX12_carerOf_58 rfl rfl ?_
          exact J_iret dX12_carerOf_59 (rt_pi h) rfl
set_option maxRecDepth 20000 in
set_option maxHeartbeats 4000000 in
theorem M_carerOf_ok {E : Ec} {ad : Nat → Nat} {cy : Nat → ClassId} {rv : Int32} {o : Ob} {p1 : Int32} {p2 : Int32} (hi : wl_inj (ΓM ad cy)) (hL : Lv E 3) (h : M_carerOf o p1 p2 = some rv) : Jw E (ΓM ad cy) RX12 cX12_carerOf 4 (some .int) (some (.int rv), o) 0 [(0, .ref (ad 0)), (1, .int p1), (2, .int p2)] [] o := by
  unfold M_carerOf at h
  refine J_iconst dX12_carerOf_0 ic_0 ?_
  refine J_istore_n (lv' := [(3, .int (0 : Int32)), (0, .ref (ad 0)), (1, .int p1), (2, .int p2)]) dX12_carerOf_1 rfl (by decide) rfl ?_
  refine J_sub [1, 2, 3, 0] rfl (M_carerOf_L2_ok hi hL FU _ h)
set_option maxRecDepth 20000 in
set_option maxHeartbeats 4000000 in
theorem kX12_carerOf {l : Launch} {D : va_G} {ad : Nat → Nat} {cy : Nat → ClassId} {rv : Int32} {o : Ob} {p1 : Int32} {p2 : Int32} (hi : wl_inj (ΓM ad cy)) (h : M_carerOf o p1 p2 = some rv) : Cn l D (ΓM ad cy) yX12_carerOf cX12_carerOf 4 (some .int) 3 [.ref (ad 0), .int p1, .int p2] o (some (.int rv), o) :=
  Cn.of hi rfl (Nat.le_of_ble_eq_true rfl) (fun _ _ _ hL => M_carerOf_ok hi hL h)
set_option maxRecDepth 20000 in
set_option maxHeartbeats 4000000 in
theorem pdX12_carerOf : (parseMethodDescriptor yX12_carerOf.desc).map (fun d => d.parameters.length) = some 2 := by decide +kernel
set_option maxRecDepth 20000 in
set_option maxHeartbeats 4000000 in
theorem kM_carerOf {E : Ec} {ad : Nat → Nat} {cy : Nat → ClassId} {cc : ByteArray} {nL : Nat} {rt : Option FieldType} {r : Option Value × Ob} {pc n : Nat} {lv : List (Nat × Value)} {st : List Value} {o : Ob} {p1 : Int32} {p2 : Int32} {v : Int32} (hi : wl_inj (ΓM ad cy)) (hd : decode cc pc = .ok (.invokevirtual 249, 3)) (hq : M_carerOf o p1 p2 = some v) (hL : Lv E n) (hn : 3 + 1 ≤ n) (hW : (st.map fun v => v.category).sum ≤ 8) (k : Jw E (ΓM ad cy) RX12 cc nL rt r (pc + 3) lv (.int v :: st) o) : Jw E (ΓM ad cy) RX12 cc nL rt r pc lv (.int p2 :: .int p1 :: .ref (ad 0) :: st) o :=
  J_callV (h := 0) (ci := 11) (av := [.int p1, .int p2]) (q := (some (.int v), o)) (st := st) hd (kX12_carerOf hi hq) tw_6_10 tw_6_12 tw_1_13 tw_6_13 sl_4_1 ⟨by decide, by decide, pdX12_carerOf⟩ (Nat.le_of_ble_eq_true rfl) rfl rfl rfl rfl (by decide) hL hn hW k
set_option maxRecDepth 20000 in
set_option maxHeartbeats 4000000 in
theorem M_care_L33_ok {E : Ec} {ad : Nat → Nat} {cy : Nat → ClassId} {rv : (Int32 × Ob)} {k69 : Int32 → Option (Int32 × Ob)} {o : Ob} {a1 : Int32} (hi : wl_inj (ΓM ad cy)) (hL : Lv E 4) (hk69 : ∀ (y3 : Int32), k69 y3 = some rv → Jw E (ΓM ad cy) RX12 cX12_care 5 (some .int) (some (.int rv.1), rv.2) 69 [(0, .ref (ad 0)), (1, .int a1), (3, .int y3)] [] o) : ∀ (n : Nat) (x2 : Int32) (x3 : Int32) (x4 : Int32), M_care_L33 k69 o a1 n x2 x3 x4 = some rv → Jw E (ΓM ad cy) RX12 cX12_care 5 (some .int) (some (.int rv.1), rv.2) 33 [(0, .ref (ad 0)), (1, .int a1), (2, .int x2), (3, .int x3), (4, .int x4)] [] o := by
  intro n
  induction n with
  | zero =>
    intro x2 x3 x4 h
    rw [M_care_L33] at h
    cases h
  | succ n ih =>
    intro x2 x3 x4 h
    rw [M_care_L33] at h
    refine J_iload (q := 4) dX12_care_33 rfl ?_
    refine J_iload_n (q := 1) dX12_care_35 rfl rfl ?_
    refine J_icmp_gt (tgt := 69) dX12_care_36 (by decide) (fun c5 => ?_) (fun c5 => ?_)
    · replace h := it_some h c5
      exact J_sub [0, 1, 3] rfl (hk69 _ h)
    · replace h := if_some h c5
      refine J_aload_n (q := 0) dX12_care_39 rfl rfl ?_
      refine J_iload (q := 4) dX12_care_40 rfl ?_
      refine J_iload_n (q := 2) dX12_care_42 rfl rfl ?_
      obtain ⟨r6, hq11, h⟩ := bd_some h
      refine kM_carerOf hi dX12_care_43 hq11 hL (by decide) (Nat.le_of_ble_eq_true rfl) ?_
      refine J_istore_n (lv' := [(3, .int r6), (0, .ref (ad 0)), (1, .int a1), (2, .int x2), (4, .int x4)]) dX12_care_46 rfl (by decide) rfl ?_
      refine J_iload_n (q := 3) dX12_care_47 rfl rfl ?_
      refine J_iload_n (q := 0) dX12_care_48 rfl rfl ?_
      refine J_bipush dX12_care_49 bp_9 ?_
      obtain ⟨s8, ha61, h⟩ := bd_some h
      have K61 : Jw E (ΓM ad cy) RX12 cX12_care 5 (some .int) (some (.int rv.1), rv.2) 61 [(0, .ref (ad 0)), (1, .int a1), (3, .int r6), (4, .int x4)] [.int s8, .int x2] o := by
        clear ha61
        refine J_ior dX12_care_61 ?_
        refine J_ti (fun v9 ev9 => ?_)
        replace h := nm_some ev9 h
        refine J_istore_n (lv' := [(2, .int v9), (0, .ref (ad 0)), (1, .int a1), (3, .int r6), (4, .int x4)]) dX12_care_62 rfl (by decide) rfl ?_
        refine J_iinc (q := 4) (v := (x4 + (1 : Int32))) (lv' := [(4, .int (x4 + (1 : Int32))), (2, .int v9), (0, .ref (ad 0)), (1, .int a1), (3, .int r6)]) dX12_care_63 rfl (congrArg (fun z => x4 + z) ic_1) (by decide) rfl ?_
        refine J_tv (fun v10 ev10 => ?_)
        replace h := nm_some ev10 h
        refine J_goto (tgt := 33) dX12_care_66 (by decide) ?_
        exact J_sub [2, 3, 1, 4, 0] rfl (ih _ _ _ h)
      clear h
      refine J_icmp_ne (tgt := 58) dX12_care_51 (by decide) (fun c7 => ?_) (fun c7 => ?_)
      · replace ha61 := if_some ha61 c7
        refine J_iconst dX12_care_58 ic_1 ?_
        refine J_iload_n (q := 0) dX12_care_59 rfl rfl ?_
        refine J_ishl dX12_care_60 ?_
        cases ha61
        exact J_sub [1, 2, 0, 4] rfl (K61)
      · replace ha61 := it_some ha61 c7
        refine J_iconst dX12_care_54 ic_0 ?_
        refine J_goto (tgt := 61) dX12_care_55 (by decide) ?_
        cases ha61
        exact J_sub [1, 2, 0, 4] rfl (K61)
set_option maxRecDepth 20000 in
set_option maxHeartbeats 4000000 in
theorem M_care_ok {E : Ec} {ad : Nat → Nat} {cy : Nat → ClassId} {rv : (Int32 × Ob)} {o : Ob} {p1 : Int32} (hi : wl_inj (ΓM ad cy)) (hL : Lv E 4) (h : M_care o p1 = some rv) : Jw E (ΓM ad cy) RX12 cX12_care 5 (some .int) (some (.int rv.1), rv.2) 0 [(0, .ref (ad 0)), (1, .int p1)] [] o := by
  unfold M_care at h
  refine J_aload_n (q := 0) dX12_care_0 rfl rfl ?_
  refine J_iconst dX12_care_1 ic_0 ?_
  refine pM_thrown dX12_care_2 ?_
  refine J_tw (fun o1 eo1 => ?_)
  replace h := nm_some eo1 h
  refine J_iload_n (q := 1) dX12_care_5 rfl rfl ?_
  refine J_i2l dX12_care_6 ?_
  refine J_ldc2 dX12_care_7 tw_6_5 ?_
  refine J_ldc2 dX12_care_10 tw_5_73 ?_
  obtain ⟨r2, hq16, h⟩ := bd_some h
  refine kM_in hi dX12_care_13 hq16 hL (by decide) (Nat.le_of_ble_eq_true rfl) ?_
  refine J_if_ne (tgt := 21) dX12_care_16 (by decide) (fun c3 => ?_) (fun c3 => ?_)
  · replace h := if_some h c3
    refine J_aload_n (q := 0) dX12_care_21 rfl rfl ?_
    obtain ⟨o4, hq17, h⟩ := bd_some h
    refine kM_layCare hi dX12_care_22 hq17 hL (by decide) (Nat.le_of_ble_eq_true rfl) ?_
    refine J_iconst dX12_care_25 ic_0 ?_
    refine J_istore_n (lv' := [(2, .int (0 : Int32)), (0, .ref (ad 0)), (1, .int p1)]) dX12_care_26 rfl (by decide) rfl ?_
    refine J_bipush dX12_care_27 bp_9 ?_
    refine J_istore_n (lv' := [(3, .int (9 : Int32)), (2, .int (0 : Int32)), (0, .ref (ad 0)), (1, .int p1)]) dX12_care_29 rfl (by decide) rfl ?_
    refine J_iconst dX12_care_30 ic_0 ?_
    refine J_istore (lv' := [(4, .int (0 : Int32)), (3, .int (9 : Int32)), (2, .int (0 : Int32)), (0, .ref (ad 0)), (1, .int p1)]) dX12_care_31 (by decide) rfl ?_
    refine J_sub [3, 4, 2, 1, 0] rfl (M_care_L33_ok hi hL (fun x3_12 h => ?_) FU _ _ _ h)
    refine J_iload_n (q := 1) dX12_care_69 rfl rfl ?_
    refine J_if_ge (tgt := 82) dX12_care_70 (by decide) (fun c13 => ?_) (fun c13 => ?_)
    · replace h := it_some h c13
      refine J_iload_n (q := 2) dX12_care_82 rfl rfl ?_
      obtain ⟨r14, hq18, h⟩ := bd_some h
      refine kM_orNone hi dX12_care_83 hq18 hL (by decide) (Nat.le_of_ble_eq_true rfl) ?_
      exact J_iret dX12_care_86 (rt_i h) rfl
    · replace h := if_some h c13
      refine J_aload_n (q := 0) dX12_care_73 rfl rfl ?_
      refine gM_mostBy dX12_care_74 ?_
      refine J_iconst dX12_care_77 ic_0 ?_
      obtain ⟨hg15, h⟩ := gd_some h
      refine aM_ld (h := 19) (n := 768) dX12_care_78 (by decide) rfl hg15 ?_
      refine J_goto (tgt := 86) dX12_care_79 (by decide) ?_
      exact J_iret dX12_care_86 (rt_i h) rfl
  · replace h := it_some h c3
    refine J_iconst dX12_care_19 ic_m1 ?_
    exact J_iret dX12_care_20 (rt_i h) rfl
set_option maxRecDepth 20000 in
set_option maxHeartbeats 4000000 in
theorem kX12_care {l : Launch} {D : va_G} {ad : Nat → Nat} {cy : Nat → ClassId} {rv : (Int32 × Ob)} {o : Ob} {p1 : Int32} (hi : wl_inj (ΓM ad cy)) (h : M_care o p1 = some rv) : Cn l D (ΓM ad cy) yX12_care cX12_care 5 (some .int) 4 [.ref (ad 0), .int p1] o (some (.int rv.1), rv.2) :=
  Cn.of hi rfl (Nat.le_of_ble_eq_true rfl) (fun _ _ _ hL => M_care_ok hi hL h)
set_option maxRecDepth 20000 in
set_option maxHeartbeats 4000000 in
theorem M_richestOne_L5_ok {E : Ec} {ad : Nat → Nat} {cy : Nat → ClassId} {rv : Int32} {o : Ob} (hi : wl_inj (ΓM ad cy)) (hL : Lv E 1) : ∀ (n : Nat) (x1 : Int32) (x2 : Int32), M_richestOne_L5 o n x1 x2 = some rv → Jw E (ΓM ad cy) RX12 cX12_richestOne 3 (some .int) (some (.int rv), o) 5 [(0, .ref (ad 0)), (1, .int x1), (2, .int x2)] [] o := by
  intro n
  induction n with
  | zero =>
    intro x1 x2 h
    rw [M_richestOne_L5] at h
    cases h
  | succ n ih =>
    intro x1 x2 h
    rw [M_richestOne_L5] at h
    refine J_iload_n (q := 2) dX12_richestOne_5 rfl rfl ?_
    refine J_aload_n (q := 0) dX12_richestOne_6 rfl rfl ?_
    refine gM_many dX12_richestOne_7 ?_
    refine J_icmp_ge (tgt := 42) dX12_richestOne_10 (by decide) (fun c1 => ?_) (fun c1 => ?_)
    · replace h := it_some h c1
      refine J_iload_n (q := 1) dX12_richestOne_42 rfl rfl ?_
      exact J_iret dX12_richestOne_43 (rt_pi h) rfl
    · replace h := if_some h c1
      refine J_iload_n (q := 1) dX12_richestOne_13 rfl rfl ?_
      obtain ⟨s6, ha35, h⟩ := bd_some h
      have K35 : Jw E (ΓM ad cy) RX12 cX12_richestOne 3 (some .int) (some (.int rv), o) 35 [(0, .ref (ad 0)), (2, .int x2)] [.int s6] o := by
        clear ha35
        refine J_istore_n (lv' := [(1, .int s6), (0, .ref (ad 0)), (2, .int x2)]) dX12_richestOne_35 rfl (by decide) rfl ?_
        refine J_iinc (q := 2) (v := (x2 + (1 : Int32))) (lv' := [(2, .int (x2 + (1 : Int32))), (1, .int s6), (0, .ref (ad 0))]) dX12_richestOne_36 rfl (congrArg (fun z => x2 + z) ic_1) (by decide) rfl ?_
        refine J_tv (fun v7 ev7 => ?_)
        replace h := nm_some ev7 h
        refine J_goto (tgt := 5) dX12_richestOne_39 (by decide) ?_
        exact J_sub [2, 1, 0] rfl (ih _ _ h)
      clear h
      obtain ⟨kk30, ekk30, ha35⟩ := jn_some ha35
      have K30 : kk30 = some (s6) → Jw E (ΓM ad cy) RX12 cX12_richestOne 3 (some .int) (some (.int rv), o) 30 [(0, .ref (ad 0)), (2, .int x2)] [] o := by
        subst ekk30
        clear ha35
        intro ha35
        refine J_iload_n (q := 1) dX12_richestOne_30 rfl rfl ?_
        refine J_goto (tgt := 35) dX12_richestOne_31 (by decide) ?_
        cases ha35
        exact J_sub [0, 1] rfl (K35)
      clear ekk30
      refine J_if_lt (tgt := 30) dX12_richestOne_14 (by decide) (fun c2 => ?_) (fun c2 => ?_)
      · replace ha35 := it_some ha35 c2
        exact J_sub [0, 2] rfl (K30 ha35)
      · replace ha35 := if_some ha35 c2
        refine J_aload_n (q := 0) dX12_richestOne_17 rfl rfl ?_
        refine J_iload_n (q := 2) dX12_richestOne_18 rfl rfl ?_
        obtain ⟨r3, hq8, ha35⟩ := bd_some ha35
        refine kM_worthOf hi dX12_richestOne_19 hq8 hL (by decide) (Nat.le_of_ble_eq_true rfl) ?_
        refine J_aload_n (q := 0) dX12_richestOne_22 rfl rfl ?_
        refine J_iload_n (q := 1) dX12_richestOne_23 rfl rfl ?_
        obtain ⟨r4, hq9, ha35⟩ := bd_some ha35
        refine kM_worthOf hi dX12_richestOne_24 hq9 hL (by decide) (Nat.le_of_ble_eq_true rfl) ?_
        refine J_icmp_le (tgt := 34) dX12_richestOne_27 (by decide) (fun c5 => ?_) (fun c5 => ?_)
        · replace ha35 := it_some ha35 c5
          refine J_iload_n (q := 1) dX12_richestOne_34 rfl rfl ?_
          cases ha35
          exact J_sub [0, 2] rfl (K35)
        · replace ha35 := if_some ha35 c5
          exact J_sub [0, 2] rfl (K30 ha35)
set_option maxRecDepth 20000 in
set_option maxHeartbeats 4000000 in
theorem M_richestOne_ok {E : Ec} {ad : Nat → Nat} {cy : Nat → ClassId} {rv : Int32} {o : Ob} (hi : wl_inj (ΓM ad cy)) (hL : Lv E 1) (h : M_richestOne o = some rv) : Jw E (ΓM ad cy) RX12 cX12_richestOne 3 (some .int) (some (.int rv), o) 0 [(0, .ref (ad 0))] [] o := by
  unfold M_richestOne at h
  refine J_bipush dX12_richestOne_0 bp_m4 ?_
  refine J_istore_n (lv' := [(1, .int (-4 : Int32)), (0, .ref (ad 0))]) dX12_richestOne_2 rfl (by decide) rfl ?_
  refine J_iconst dX12_richestOne_3 ic_0 ?_
  refine J_istore_n (lv' := [(2, .int (0 : Int32)), (1, .int (-4 : Int32)), (0, .ref (ad 0))]) dX12_richestOne_4 rfl (by decide) rfl ?_
  refine J_sub [2, 1, 0] rfl (M_richestOne_L5_ok hi hL FU _ _ h)
set_option maxRecDepth 20000 in
set_option maxHeartbeats 4000000 in
theorem kX12_richestOne {l : Launch} {D : va_G} {ad : Nat → Nat} {cy : Nat → ClassId} {rv : Int32} {o : Ob} (hi : wl_inj (ΓM ad cy)) (h : M_richestOne o = some rv) : Cn l D (ΓM ad cy) yX12_richestOne cX12_richestOne 3 (some .int) 1 [.ref (ad 0)] o (some (.int rv), o) :=
  Cn.of hi rfl (Nat.le_of_ble_eq_true rfl) (fun _ _ _ hL => M_richestOne_ok hi hL h)
set_option maxRecDepth 20000 in
set_option maxHeartbeats 4000000 in
theorem pdX12_richestOne : (parseMethodDescriptor yX12_richestOne.desc).map (fun d => d.parameters.length) = some 0 := by decide +kernel
set_option maxRecDepth 20000 in
set_option maxHeartbeats 4000000 in
theorem kM_richestOne {E : Ec} {ad : Nat → Nat} {cy : Nat → ClassId} {cc : ByteArray} {nL : Nat} {rt : Option FieldType} {r : Option Value × Ob} {pc n : Nat} {lv : List (Nat × Value)} {st : List Value} {o : Ob} {v : Int32} (hi : wl_inj (ΓM ad cy)) (hd : decode cc pc = .ok (.invokevirtual 252, 3)) (hq : M_richestOne o = some v) (hL : Lv E n) (hn : 1 + 1 ≤ n) (hW : (st.map fun v => v.category).sum ≤ 8) (k : Jw E (ΓM ad cy) RX12 cc nL rt r (pc + 3) lv (.int v :: st) o) : Jw E (ΓM ad cy) RX12 cc nL rt r pc lv (.ref (ad 0) :: st) o :=
  J_callV (h := 0) (ci := 11) (av := []) (q := (some (.int v), o)) (st := st) hd (kX12_richestOne hi hq) tw_6_18 tw_6_20 tw_1_13 tw_6_21 sl_4_2 ⟨by decide, by decide, pdX12_richestOne⟩ (Nat.le_of_ble_eq_true rfl) rfl rfl rfl rfl (by decide) hL hn hW k
set_option maxRecDepth 20000 in
set_option maxHeartbeats 4000000 in
theorem M_longestStory_L7_ok {E : Ec} {ad : Nat → Nat} {cy : Nat → ClassId} {rv : Int32} {o : Ob} (hi : wl_inj (ΓM ad cy)) (hL : Lv E 3) : ∀ (n : Nat) (x1 : Int32) (x2 : Int32) (x3 : Int32), M_longestStory_L7 o n x1 x2 x3 = some rv → Jw E (ΓM ad cy) RX12 cX12_longestStory 5 (some .int) (some (.int rv), o) 7 [(0, .ref (ad 0)), (1, .int x1), (2, .int x2), (3, .int x3)] [] o := by
  intro n
  induction n with
  | zero =>
    intro x1 x2 x3 h
    rw [M_longestStory_L7] at h
    cases h
  | succ n ih =>
    intro x1 x2 x3 h
    rw [M_longestStory_L7] at h
    refine J_iload_n (q := 3) dX12_longestStory_7 rfl rfl ?_
    refine J_iconst dX12_longestStory_8 ic_5 ?_
    refine J_aload_n (q := 0) dX12_longestStory_9 rfl rfl ?_
    refine gM_many dX12_longestStory_10 ?_
    refine J_imul dX12_longestStory_13 ?_
    refine J_icmp_ge (tgt := 69) dX12_longestStory_14 (by decide) (fun c1 => ?_) (fun c1 => ?_)
    · replace h := it_some h c1
      refine J_iload_n (q := 1) dX12_longestStory_69 rfl rfl ?_
      exact J_iret dX12_longestStory_70 (rt_pi h) rfl
    · replace h := if_some h c1
      refine J_aload_n (q := 0) dX12_longestStory_17 rfl rfl ?_
      refine J_iload_n (q := 3) dX12_longestStory_18 rfl rfl ?_
      refine J_iconst dX12_longestStory_19 ic_5 ?_
      refine J_idiv dX12_longestStory_20 (by decide) ?_
      refine J_iload_n (q := 3) dX12_longestStory_21 rfl rfl ?_
      refine J_iconst dX12_longestStory_22 ic_5 ?_
      refine J_irem dX12_longestStory_23 (by decide) ?_
      obtain ⟨r2, hq8, h⟩ := bd_some h
      refine kM_storyOf hi dX12_longestStory_24 hq8 hL (by decide) (Nat.le_of_ble_eq_true rfl) ?_
      refine J_istore (lv' := [(4, .int r2), (0, .ref (ad 0)), (1, .int x1), (2, .int x2), (3, .int x3)]) dX12_longestStory_27 (by decide) rfl ?_
      refine J_iload (q := 0) dX12_longestStory_29 rfl ?_
      refine J_iload_n (q := 3) dX12_longestStory_31 rfl rfl ?_
      obtain ⟨s4, ha49, h⟩ := bd_some h
      have K49 : Jw E (ΓM ad cy) RX12 cX12_longestStory 5 (some .int) (some (.int rv), o) 49 [(0, .ref (ad 0)), (2, .int x2), (3, .int x3), (4, .int r2)] [.int s4] o := by
        clear ha49
        refine J_istore_n (lv' := [(1, .int s4), (0, .ref (ad 0)), (2, .int x2), (3, .int x3), (4, .int r2)]) dX12_longestStory_49 rfl (by decide) rfl ?_
        refine J_iload (q := 4) dX12_longestStory_50 rfl ?_
        refine J_iload_n (q := 2) dX12_longestStory_52 rfl rfl ?_
        obtain ⟨s6, ha62, h⟩ := bd_some h
        have K62 : Jw E (ΓM ad cy) RX12 cX12_longestStory 5 (some .int) (some (.int rv), o) 62 [(0, .ref (ad 0)), (1, .int s4), (3, .int x3)] [.int s6] o := by
          clear ha62
          refine J_istore_n (lv' := [(2, .int s6), (0, .ref (ad 0)), (1, .int s4), (3, .int x3)]) dX12_longestStory_62 rfl (by decide) rfl ?_
          refine J_iinc (q := 3) (v := (x3 + (1 : Int32))) (lv' := [(3, .int (x3 + (1 : Int32))), (2, .int s6), (0, .ref (ad 0)), (1, .int s4)]) dX12_longestStory_63 rfl (congrArg (fun z => x3 + z) ic_1) (by decide) rfl ?_
          refine J_tv (fun v7 ev7 => ?_)
          replace h := nm_some ev7 h
          refine J_goto (tgt := 7) dX12_longestStory_66 (by decide) ?_
          exact J_sub [2, 3, 1, 0] rfl (ih _ _ _ h)
        clear h
        refine J_icmp_le (tgt := 61) dX12_longestStory_53 (by decide) (fun c5 => ?_) (fun c5 => ?_)
        · replace ha62 := it_some ha62 c5
          refine J_iload_n (q := 2) dX12_longestStory_61 rfl rfl ?_
          cases ha62
          exact J_sub [1, 0, 3] rfl (K62)
        · replace ha62 := if_some ha62 c5
          refine J_iload (q := 4) dX12_longestStory_56 rfl ?_
          refine J_goto (tgt := 62) dX12_longestStory_58 (by decide) ?_
          cases ha62
          exact J_sub [1, 0, 3] rfl (K62)
      clear h
      refine J_icmp_le (tgt := 48) dX12_longestStory_32 (by decide) (fun c3 => ?_) (fun c3 => ?_)
      · replace ha49 := it_some ha49 c3
        refine J_iload_n (q := 2) dX12_longestStory_48 rfl rfl ?_
        cases ha49
        exact J_sub [1, 3, 4, 0] rfl (K49)
      · replace ha49 := if_some ha49 c3
        refine J_bipush dX12_longestStory_35 bp_10 ?_
        refine J_iload_n (q := 4) dX12_longestStory_37 rfl rfl ?_
        refine J_iconst dX12_longestStory_38 ic_5 ?_
        refine J_idiv dX12_longestStory_39 (by decide) ?_
        refine J_imul dX12_longestStory_40 ?_
        refine J_iload_n (q := 4) dX12_longestStory_41 rfl rfl ?_
        refine J_iconst dX12_longestStory_42 ic_5 ?_
        refine J_irem dX12_longestStory_43 (by decide) ?_
        refine J_iadd dX12_longestStory_44 ?_
        refine J_goto (tgt := 49) dX12_longestStory_45 (by decide) ?_
        cases ha49
        exact J_sub [1, 3, 4, 0] rfl (K49)
set_option maxRecDepth 20000 in
set_option maxHeartbeats 4000000 in
theorem M_longestStory_ok {E : Ec} {ad : Nat → Nat} {cy : Nat → ClassId} {rv : Int32} {o : Ob} (hi : wl_inj (ΓM ad cy)) (hL : Lv E 3) (h : M_longestStory o = some rv) : Jw E (ΓM ad cy) RX12 cX12_longestStory 5 (some .int) (some (.int rv), o) 0 [(0, .ref (ad 0))] [] o := by
  unfold M_longestStory at h
  refine J_bipush dX12_longestStory_0 bp_m4 ?_
  refine J_istore_n (lv' := [(1, .int (-4 : Int32)), (0, .ref (ad 0))]) dX12_longestStory_2 rfl (by decide) rfl ?_
  refine J_iconst dX12_longestStory_3 ic_0 ?_
  refine J_istore_n (lv' := [(2, .int (0 : Int32)), (1, .int (-4 : Int32)), (0, .ref (ad 0))]) dX12_longestStory_4 rfl (by decide) rfl ?_
  refine J_iconst dX12_longestStory_5 ic_0 ?_
  refine J_istore_n (lv' := [(3, .int (0 : Int32)), (2, .int (0 : Int32)), (1, .int (-4 : Int32)), (0, .ref (ad 0))]) dX12_longestStory_6 rfl (by decide) rfl ?_
  refine J_sub [3, 2, 1, 0] rfl (M_longestStory_L7_ok hi hL FU _ _ _ h)
set_option maxRecDepth 20000 in
set_option maxHeartbeats 4000000 in
theorem kX12_longestStory {l : Launch} {D : va_G} {ad : Nat → Nat} {cy : Nat → ClassId} {rv : Int32} {o : Ob} (hi : wl_inj (ΓM ad cy)) (h : M_longestStory o = some rv) : Cn l D (ΓM ad cy) yX12_longestStory cX12_longestStory 5 (some .int) 3 [.ref (ad 0)] o (some (.int rv), o) :=
  Cn.of hi rfl (Nat.le_of_ble_eq_true rfl) (fun _ _ _ hL => M_longestStory_ok hi hL h)
set_option maxRecDepth 20000 in
set_option maxHeartbeats 4000000 in
theorem pdX12_longestStory : (parseMethodDescriptor yX12_longestStory.desc).map (fun d => d.parameters.length) = some 0 := by decide +kernel
set_option maxRecDepth 20000 in
set_option maxHeartbeats 4000000 in
theorem kM_longestStory {E : Ec} {ad : Nat → Nat} {cy : Nat → ClassId} {cc : ByteArray} {nL : Nat} {rt : Option FieldType} {r : Option Value × Ob} {pc n : Nat} {lv : List (Nat × Value)} {st : List Value} {o : Ob} {v : Int32} (hi : wl_inj (ΓM ad cy)) (hd : decode cc pc = .ok (.invokevirtual 255, 3)) (hq : M_longestStory o = some v) (hL : Lv E n) (hn : 3 + 1 ≤ n) (hW : (st.map fun v => v.category).sum ≤ 8) (k : Jw E (ΓM ad cy) RX12 cc nL rt r (pc + 3) lv (.int v :: st) o) : Jw E (ΓM ad cy) RX12 cc nL rt r pc lv (.ref (ad 0) :: st) o :=
  J_callV (h := 0) (ci := 11) (av := []) (q := (some (.int v), o)) (st := st) hd (kX12_longestStory hi hq) tw_6_22 tw_6_24 tw_1_13 tw_6_25 sl_4_3 ⟨by decide, by decide, pdX12_longestStory⟩ (Nat.le_of_ble_eq_true rfl) rfl rfl rfl rfl (by decide) hL hn hW k
set_option maxRecDepth 20000 in
set_option maxHeartbeats 4000000 in
theorem M_stillIn_L24_ok {E : Ec} {ad : Nat → Nat} {cy : Nat → ClassId} {rv : (Int32 × Ob)} {k50 : Ob → Option (Int32 × Ob)} {a1 : Int32} {a3 : Int32} (hi : wl_inj (ΓM ad cy)) (hL : Lv E 5) (hk50 : ∀ (yw : Ob), k50 yw = some rv → Jw E (ΓM ad cy) RX12 cX12_stillIn 5 (some .int) (some (.int rv.1), rv.2) 50 [(0, .ref (ad 0)), (1, .int a1), (3, .int a3)] [] yw) : ∀ (n : Nat) (o : Ob) (x4 : Int32), M_stillIn_L24 k50 a1 a3 n o x4 = some rv → Jw E (ΓM ad cy) RX12 cX12_stillIn 5 (some .int) (some (.int rv.1), rv.2) 24 [(0, .ref (ad 0)), (1, .int a1), (3, .int a3), (4, .int x4)] [] o := by
  intro n
  induction n with
  | zero =>
    intro o x4 h
    rw [M_stillIn_L24] at h
    cases h
  | succ n ih =>
    intro o x4 h
    rw [M_stillIn_L24] at h
    refine J_iload (q := 3) dX12_stillIn_24 rfl ?_
    refine J_iconst dX12_stillIn_26 ic_5 ?_
    refine J_icmp_ge (tgt := 50) dX12_stillIn_27 (by decide) (fun c4 => ?_) (fun c4 => ?_)
    · replace h := it_some h c4
      exact J_sub [0, 1, 2] rfl (hk50 _ h)
    · replace h := if_some h c4
      refine J_aload_n (q := 0) dX12_stillIn_30 rfl rfl ?_
      refine gM_had dX12_stillIn_31 ?_
      refine J_iload (q := 3) dX12_stillIn_34 rfl ?_
      refine J_aload_n (q := 0) dX12_stillIn_36 rfl rfl ?_
      refine gM_owners dX12_stillIn_37 ?_
      refine J_iload (q := 3) dX12_stillIn_40 rfl ?_
      obtain ⟨hg5, h⟩ := gd_some h
      refine aM_ld (h := 3) (n := 5) dX12_stillIn_42 (by decide) rfl hg5 ?_
      obtain ⟨hg6, h⟩ := gd_some h
      refine aM_st (h := 20) (n := 5) dX12_stillIn_43 (by decide) rfl hg6 ?_
      refine J_tw (fun o7 eo7 => ?_)
      replace h := nm_some eo7 h
      refine J_iinc (q := 3) (v := (x4 + (1 : Int32))) (lv' := [(4, .int (x4 + (1 : Int32))), (0, .ref (ad 0)), (1, .int a1), (3, .int a3)]) dX12_stillIn_44 rfl (congrArg (fun z => x4 + z) ic_1) (by decide) rfl ?_
      refine J_tv (fun v8 ev8 => ?_)
      replace h := nm_some ev8 h
      refine J_goto (tgt := 24) dX12_stillIn_47 (by decide) ?_
      exact J_sub [1, 2, 3, 0] rfl (ih _ _ h)
set_option maxRecDepth 20000 in
set_option maxHeartbeats 4000000 in
theorem M_stillIn_L57_ok {E : Ec} {ad : Nat → Nat} {cy : Nat → ClassId} {rv : (Int32 × Ob)} {k92 : Int32 → Option (Int32 × Ob)} {o : Ob} {a3 : Int32} (hi : wl_inj (ΓM ad cy)) (hL : Lv E 5) (hk92 : ∀ (y1 : Int32), k92 y1 = some rv → Jw E (ΓM ad cy) RX12 cX12_stillIn 5 (some .int) (some (.int rv.1), rv.2) 92 [(0, .ref (ad 0)), (1, .int y1), (3, .int a3)] [] o) : ∀ (n : Nat) (x1 : Int32) (x4 : Int32), M_stillIn_L57 k92 o a3 n x1 x4 = some rv → Jw E (ΓM ad cy) RX12 cX12_stillIn 5 (some .int) (some (.int rv.1), rv.2) 57 [(0, .ref (ad 0)), (1, .int x1), (3, .int a3), (4, .int x4)] [] o := by
  intro n
  induction n with
  | zero =>
    intro x1 x4 h
    rw [M_stillIn_L57] at h
    cases h
  | succ n ih =>
    intro x1 x4 h
    rw [M_stillIn_L57] at h
    refine J_iload (q := 3) dX12_stillIn_57 rfl ?_
    refine J_iconst dX12_stillIn_59 ic_5 ?_
    refine J_icmp_ge (tgt := 92) dX12_stillIn_60 (by decide) (fun c11 => ?_) (fun c11 => ?_)
    · replace h := it_some h c11
      exact J_sub [0, 1, 2] rfl (hk92 _ h)
    · replace h := if_some h c11
      refine J_aload_n (q := 0) dX12_stillIn_63 rfl rfl ?_
      refine gM_owners dX12_stillIn_64 ?_
      refine J_iload (q := 3) dX12_stillIn_67 rfl ?_
      obtain ⟨hg12, h⟩ := gd_some h
      refine aM_ld (h := 3) (n := 5) dX12_stillIn_69 (by decide) rfl hg12 ?_
      refine J_aload_n (q := 0) dX12_stillIn_70 rfl rfl ?_
      refine gM_had dX12_stillIn_71 ?_
      refine J_iload (q := 3) dX12_stillIn_74 rfl ?_
      obtain ⟨hg13, h⟩ := gd_some h
      refine aM_ld (h := 20) (n := 5) dX12_stillIn_76 (by decide) rfl hg13 ?_
      obtain ⟨s15, ha85, h⟩ := bd_some h
      have K85 : Jw E (ΓM ad cy) RX12 cX12_stillIn 5 (some .int) (some (.int rv.1), rv.2) 85 [(0, .ref (ad 0)), (3, .int a3), (4, .int x4)] [.int s15] o := by
        clear ha85
        refine J_istore_n (lv' := [(1, .int s15), (0, .ref (ad 0)), (3, .int a3), (4, .int x4)]) dX12_stillIn_85 rfl (by decide) rfl ?_
        refine J_iinc (q := 3) (v := (x4 + (1 : Int32))) (lv' := [(4, .int (x4 + (1 : Int32))), (1, .int s15), (0, .ref (ad 0)), (3, .int a3)]) dX12_stillIn_86 rfl (congrArg (fun z => x4 + z) ic_1) (by decide) rfl ?_
        refine J_tv (fun v16 ev16 => ?_)
        replace h := nm_some ev16 h
        refine J_goto (tgt := 57) dX12_stillIn_89 (by decide) ?_
        exact J_sub [2, 1, 3, 0] rfl (ih _ _ h)
      clear h
      refine J_icmp_eq (tgt := 84) dX12_stillIn_77 (by decide) (fun c14 => ?_) (fun c14 => ?_)
      · replace ha85 := it_some ha85 c14
        refine J_iload_n (q := 1) dX12_stillIn_84 rfl rfl ?_
        cases ha85
        exact J_sub [0, 2, 3] rfl (K85)
      · replace ha85 := if_some ha85 c14
        refine J_iload_n (q := 2) dX12_stillIn_80 rfl rfl ?_
        refine J_goto (tgt := 85) dX12_stillIn_81 (by decide) ?_
        cases ha85
        exact J_sub [0, 2, 3] rfl (K85)
set_option maxRecDepth 20000 in
set_option maxHeartbeats 4000000 in
theorem M_stillIn_L11_ok {E : Ec} {ad : Nat → Nat} {cy : Nat → ClassId} {rv : (Int32 × Ob)} {k113 : Int32 → Ob → Option (Int32 × Ob)} (hi : wl_inj (ΓM ad cy)) (hL : Lv E 5) (hk113 : ∀ (y2 : Int32) (yw : Ob), k113 y2 yw = some rv → Jw E (ΓM ad cy) RX12 cX12_stillIn 5 (some .int) (some (.int rv.1), rv.2) 113 [(0, .ref (ad 0)), (2, .int y2)] [] yw) : ∀ (n : Nat) (o : Ob) (x1 : Int32) (x2 : Int32) (x3 : Int32), M_stillIn_L11 k113 n o x1 x2 x3 = some rv → Jw E (ΓM ad cy) RX12 cX12_stillIn 5 (some .int) (some (.int rv.1), rv.2) 11 [(0, .ref (ad 0)), (1, .int x1), (2, .int x2), (3, .int x3)] [] o := by
  intro n
  induction n with
  | zero =>
    intro o x1 x2 x3 h
    rw [M_stillIn_L11] at h
    cases h
  | succ n ih =>
    intro o x1 x2 x3 h
    rw [M_stillIn_L11] at h
    refine J_iload_n (q := 3) dX12_stillIn_11 rfl rfl ?_
    refine J_bipush dX12_stillIn_12 bp_60 ?_
    refine J_icmp_gt (tgt := 113) dX12_stillIn_14 (by decide) (fun c2 => ?_) (fun c2 => ?_)
    · replace h := it_some h c2
      exact J_sub [0, 2] rfl (hk113 _ _ h)
    · replace h := if_some h c2
      refine J_iload_n (q := 2) dX12_stillIn_17 rfl rfl ?_
      refine J_if_ge (tgt := 113) dX12_stillIn_18 (by decide) (fun c3 => ?_) (fun c3 => ?_)
      · replace h := it_some h c3
        exact J_sub [0, 2] rfl (hk113 _ _ h)
      · replace h := if_some h c3
        refine J_iconst dX12_stillIn_21 ic_0 ?_
        refine J_istore (lv' := [(4, .int (0 : Int32)), (0, .ref (ad 0)), (1, .int x1), (2, .int x2), (3, .int x3)]) dX12_stillIn_22 (by decide) rfl ?_
        refine J_sub [1, 2, 4, 0] rfl (M_stillIn_L24_ok hi hL (fun o9 h => ?_) FU _ _ h)
        refine J_aload_n (q := 0) dX12_stillIn_50 rfl rfl ?_
        obtain ⟨o10, hq21, h⟩ := bd_some h
        refine kM_dayOn hi dX12_stillIn_51 hq21 hL (by decide) (Nat.le_of_ble_eq_true rfl) ?_
        refine J_iconst dX12_stillIn_54 ic_0 ?_
        refine J_istore (lv' := [(4, .int (0 : Int32)), (0, .ref (ad 0)), (1, .int x1), (3, .int x3)]) dX12_stillIn_55 (by decide) rfl ?_
        refine J_sub [1, 2, 3, 0] rfl (M_stillIn_L57_ok hi hL (fun x1_17 h => ?_) FU _ _ h)
        refine J_iload_n (q := 2) dX12_stillIn_92 rfl rfl ?_
        refine J_iload_n (q := 1) dX12_stillIn_93 rfl rfl ?_
        refine J_isub dX12_stillIn_94 ?_
        refine J_bipush dX12_stillIn_95 bp_10 ?_
        obtain ⟨s19, ha106, h⟩ := bd_some h
        have K106 : Jw E (ΓM ad cy) RX12 cX12_stillIn 5 (some .int) (some (.int rv.1), rv.2) 106 [(0, .ref (ad 0)), (1, .int x1_17), (3, .int x3)] [.int s19] o10 := by
          clear ha106
          refine J_istore_n (lv' := [(2, .int s19), (0, .ref (ad 0)), (1, .int x1_17), (3, .int x3)]) dX12_stillIn_106 rfl (by decide) rfl ?_
          refine J_iinc (q := 3) (v := (x3 + (1 : Int32))) (lv' := [(3, .int (x3 + (1 : Int32))), (2, .int s19), (0, .ref (ad 0)), (1, .int x1_17)]) dX12_stillIn_107 rfl (congrArg (fun z => x3 + z) ic_1) (by decide) rfl ?_
          refine J_tv (fun v20 ev20 => ?_)
          replace h := nm_some ev20 h
          refine J_goto (tgt := 11) dX12_stillIn_110 (by decide) ?_
          exact J_sub [2, 3, 1, 0] rfl (ih _ _ _ _ h)
        clear h
        refine J_icmp_ne (tgt := 104) dX12_stillIn_97 (by decide) (fun c18 => ?_) (fun c18 => ?_)
        · replace ha106 := if_some ha106 c18
          refine J_bipush dX12_stillIn_104 bp_m4 ?_
          cases ha106
          exact J_sub [0, 1, 2] rfl (K106)
        · replace ha106 := it_some ha106 c18
          refine J_iload_n (q := 1) dX12_stillIn_100 rfl rfl ?_
          refine J_goto (tgt := 106) dX12_stillIn_101 (by decide) ?_
          cases ha106
          exact J_sub [0, 1, 2] rfl (K106)
set_option maxRecDepth 20000 in
set_option maxHeartbeats 4000000 in
theorem M_stillIn_ok {E : Ec} {ad : Nat → Nat} {cy : Nat → ClassId} {rv : (Int32 × Ob)} {o : Ob} (hi : wl_inj (ΓM ad cy)) (hL : Lv E 5) (h : M_stillIn o = some rv) : Jw E (ΓM ad cy) RX12 cX12_stillIn 5 (some .int) (some (.int rv.1), rv.2) 0 [(0, .ref (ad 0))] [] o := by
  unfold M_stillIn at h
  refine J_iconst dX12_stillIn_0 ic_0 ?_
  refine J_istore_n (lv' := [(1, .int (0 : Int32)), (0, .ref (ad 0))]) dX12_stillIn_1 rfl (by decide) rfl ?_
  refine J_bipush dX12_stillIn_2 bp_m4 ?_
  refine J_istore_n (lv' := [(2, .int (-4 : Int32)), (1, .int (0 : Int32)), (0, .ref (ad 0))]) dX12_stillIn_4 rfl (by decide) rfl ?_
  refine J_aload_n (q := 2) dX12_stillIn_5 rfl rfl ?_
  obtain ⟨o1, hq25, h⟩ := bd_some h
  refine kM_think hi dX12_stillIn_6 hq25 hL (by decide) (Nat.le_of_ble_eq_true rfl) ?_
  refine J_iconst dX12_stillIn_9 ic_1 ?_
  refine J_istore_n (lv' := [(3, .int (1 : Int32)), (2, .int (-4 : Int32)), (1, .int (0 : Int32)), (0, .ref (ad 0))]) dX12_stillIn_10 rfl (by decide) rfl ?_
  refine J_sub [3, 2, 1, 0] rfl (M_stillIn_L11_ok hi hL (fun x2_22 o23 h => ?_) FU _ _ _ _ h)
  refine J_aload_n (q := 0) dX12_stillIn_113 rfl rfl ?_
  obtain ⟨o24, hq26, h⟩ := bd_some h
  refine kM_again hi dX12_stillIn_114 hq26 hL (by decide) (Nat.le_of_ble_eq_true rfl) ?_
  refine J_iload_n (q := 1) dX12_stillIn_117 rfl rfl ?_
  exact J_iret dX12_stillIn_118 (rt_i h) rfl
set_option maxRecDepth 20000 in
set_option maxHeartbeats 4000000 in
theorem kX12_stillIn {l : Launch} {D : va_G} {ad : Nat → Nat} {cy : Nat → ClassId} {rv : (Int32 × Ob)} {o : Ob} (hi : wl_inj (ΓM ad cy)) (h : M_stillIn o = some rv) : Cn l D (ΓM ad cy) yX12_stillIn cX12_stillIn 5 (some .int) 5 [.ref (ad 0)] o (some (.int rv.1), rv.2) :=
  Cn.of hi rfl (Nat.le_of_ble_eq_true rfl) (fun _ _ _ hL => M_stillIn_ok hi hL h)
set_option maxRecDepth 20000 in
set_option maxHeartbeats 4000000 in
theorem pdX12_stillIn : (parseMethodDescriptor yX12_stillIn.desc).map (fun d => d.parameters.length) = some 0 := by decide +kernel
set_option maxRecDepth 20000 in
set_option maxHeartbeats 4000000 in
theorem kM_stillIn {E : Ec} {ad : Nat → Nat} {cy : Nat → ClassId} {cc : ByteArray} {nL : Nat} {rt : Option FieldType} {r : Option Value × Ob} {pc n : Nat} {lv : List (Nat × Value)} {st : List Value} {o : Ob} {v : Int32} {o' : Ob} (hi : wl_inj (ΓM ad cy)) (hd : decode cc pc = .ok (.invokevirtual 258, 3)) (hq : M_stillIn o = some (v, o')) (hL : Lv E n) (hn : 5 + 1 ≤ n) (hW : (st.map fun v => v.category).sum ≤ 8) (k : Jw E (ΓM ad cy) RX12 cc nL rt r (pc + 3) lv (.int v :: st) o') : Jw E (ΓM ad cy) RX12 cc nL rt r pc lv (.ref (ad 0) :: st) o :=
  J_callV (h := 0) (ci := 11) (av := []) (q := (some (.int v), o')) (st := st) hd (kX12_stillIn hi hq) tw_6_26 tw_6_28 tw_1_13 tw_6_29 sl_4_4 ⟨by decide, by decide, pdX12_stillIn⟩ (Nat.le_of_ble_eq_true rfl) rfl rfl rfl rfl (by decide) hL hn hW k
set_option maxRecDepth 20000 in
set_option maxHeartbeats 4000000 in
theorem M_richest_ok {E : Ec} {ad : Nat → Nat} {cy : Nat → ClassId} {rv : (Int32 × Ob)} {o : Ob} {p1 : Int32} (hi : wl_inj (ΓM ad cy)) (hL : Lv E 6) (h : M_richest o p1 = some rv) : Jw E (ΓM ad cy) RX12 cX12_richest 2 (some .int) (some (.int rv.1), rv.2) 0 [(0, .ref (ad 0)), (1, .int p1)] [] o := by
  unfold M_richest at h
  refine J_aload_n (q := 0) dX12_richest_0 rfl rfl ?_
  refine J_iconst dX12_richest_1 ic_0 ?_
  refine pM_thrown dX12_richest_2 ?_
  refine J_tw (fun o1 eo1 => ?_)
  replace h := nm_some eo1 h
  refine J_iload_n (q := 1) dX12_richest_5 rfl rfl ?_
  by_cases c2 : p1 = (0 : Int32)
  · replace h := it_some h c2
    refine J_tin (tgt := 36) dX12_richest_6 (by rw [c2]; decide) (by rw [c2]; decide) (by rw [c2]; rfl) (by decide) ?_
    refine J_aload_n (q := 0) dX12_richest_36 rfl rfl ?_
    obtain ⟨r3, hq11, h⟩ := bd_some h
    refine kM_richestOne hi dX12_richest_37 hq11 hL (by decide) (Nat.le_of_ble_eq_true rfl) ?_
    exact J_iret dX12_richest_40 (rt_i h) rfl
  · replace h := if_some h c2
    by_cases c4 : p1 = (1 : Int32)
    · replace h := it_some h c4
      refine J_tin (tgt := 41) dX12_richest_6 (by rw [c4]; decide) (by rw [c4]; decide) (by rw [c4]; rfl) (by decide) ?_
      refine J_aload_n (q := 0) dX12_richest_41 rfl rfl ?_
      refine J_bipush dX12_richest_42 bp_9 ?_
      obtain ⟨r5, hq12, h⟩ := bd_some h
      refine kM_ownedBy hi dX12_richest_44 hq12 hL (by decide) (Nat.le_of_ble_eq_true rfl) ?_
      exact J_iret dX12_richest_47 (rt_i h) rfl
    · replace h := if_some h c4
      by_cases c6 : p1 = (2 : Int32)
      · replace h := it_some h c6
        refine J_tin (tgt := 48) dX12_richest_6 (by rw [c6]; decide) (by rw [c6]; decide) (by rw [c6]; rfl) (by decide) ?_
        refine J_aload_n (q := 0) dX12_richest_48 rfl rfl ?_
        obtain ⟨r7, hq13, h⟩ := bd_some h
        refine kM_longestStory hi dX12_richest_49 hq13 hL (by decide) (Nat.le_of_ble_eq_true rfl) ?_
        exact J_iret dX12_richest_52 (rt_i h) rfl
      · replace h := if_some h c6
        by_cases c8 : p1 = (3 : Int32)
        · replace h := it_some h c8
          refine J_tin (tgt := 53) dX12_richest_6 (by rw [c8]; decide) (by rw [c8]; decide) (by rw [c8]; rfl) (by decide) ?_
          refine J_aload_n (q := 0) dX12_richest_53 rfl rfl ?_
          obtain ⟨r9, o10, hq14, h⟩ := bd2_some h
          refine kM_stillIn hi dX12_richest_54 hq14 hL (by decide) (Nat.le_of_ble_eq_true rfl) ?_
          exact J_iret dX12_richest_57 (rt_i h) rfl
        · replace h := if_some h c8
          refine J_tout (tgt := 58) dX12_richest_6 (sw_out0_3 c2 c4 c6 c8) (by decide) ?_
          refine J_iconst dX12_richest_58 ic_m1 ?_
          exact J_iret dX12_richest_59 (rt_i h) rfl
set_option maxRecDepth 20000 in
set_option maxHeartbeats 4000000 in
theorem kX12_richest {l : Launch} {D : va_G} {ad : Nat → Nat} {cy : Nat → ClassId} {rv : (Int32 × Ob)} {o : Ob} {p1 : Int32} (hi : wl_inj (ΓM ad cy)) (h : M_richest o p1 = some rv) : Cn l D (ΓM ad cy) yX12_richest cX12_richest 2 (some .int) 6 [.ref (ad 0), .int p1] o (some (.int rv.1), rv.2) :=
  Cn.of hi rfl (Nat.le_of_ble_eq_true rfl) (fun _ _ _ hL => M_richest_ok hi hL h)
set_option maxRecDepth 20000 in
set_option maxHeartbeats 4000000 in
theorem M_rivalTwos_L17_ok {E : Ec} {ad : Nat → Nat} {cy : Nat → ClassId} {rv : Int32} {k65 : Int32 → Option Int32} {o : Ob} {a1 : Int32} {a3 : Int32} (hi : wl_inj (ΓM ad cy)) (hL : Lv E 3) (hk65 : ∀ (y2 : Int32), k65 y2 = some rv → Jw E (ΓM ad cy) RX12 cX12_rivalTwos 5 (some .int) (some (.int rv), o) 65 [(0, .ref (ad 0)), (1, .int a1), (2, .int y2), (3, .int a3)] [] o) : ∀ (n : Nat) (x2 : Int32) (x4 : Int32), M_rivalTwos_L17 k65 o a1 a3 n x2 x4 = some rv → Jw E (ΓM ad cy) RX12 cX12_rivalTwos 5 (some .int) (some (.int rv), o) 17 [(0, .ref (ad 0)), (1, .int a1), (2, .int x2), (3, .int a3), (4, .int x4)] [] o := by
  intro n
  induction n with
  | zero =>
    intro x2 x4 h
    rw [M_rivalTwos_L17] at h
    cases h
  | succ n ih =>
    intro x2 x4 h
    rw [M_rivalTwos_L17] at h
    refine J_iload (q := 4) dX12_rivalTwos_17 rfl ?_
    refine J_aload_n (q := 0) dX12_rivalTwos_19 rfl rfl ?_
    refine gM_many dX12_rivalTwos_20 ?_
    refine J_icmp_ge (tgt := 65) dX12_rivalTwos_23 (by decide) (fun c3 => ?_) (fun c3 => ?_)
    · replace h := it_some h c3
      exact J_sub [0, 1, 2, 3] rfl (hk65 _ h)
    · replace h := if_some h c3
      refine J_iload_n (q := 2) dX12_rivalTwos_26 rfl rfl ?_
      refine J_aload_n (q := 0) dX12_rivalTwos_27 rfl rfl ?_
      refine J_iload_n (q := 3) dX12_rivalTwos_28 rfl rfl ?_
      refine J_iload_n (q := 1) dX12_rivalTwos_29 rfl rfl ?_
      obtain ⟨r4, hq12, h⟩ := bd_some h
      refine kM_storyOf hi dX12_rivalTwos_30 hq12 hL (by decide) (Nat.le_of_ble_eq_true rfl) ?_
      obtain ⟨s9, ha57, h⟩ := bd_some h
      have K57 : Jw E (ΓM ad cy) RX12 cX12_rivalTwos 5 (some .int) (some (.int rv), o) 57 [(0, .ref (ad 0)), (1, .int a1), (3, .int a3), (4, .int x4)] [.int s9, .int x2] o := by
        clear ha57
        refine J_iadd dX12_rivalTwos_57 ?_
        refine J_ti (fun v10 ev10 => ?_)
        replace h := nm_some ev10 h
        refine J_istore_n (lv' := [(2, .int v10), (0, .ref (ad 0)), (1, .int a1), (3, .int a3), (4, .int x4)]) dX12_rivalTwos_58 rfl (by decide) rfl ?_
        refine J_iinc (q := 4) (v := (x4 + (1 : Int32))) (lv' := [(4, .int (x4 + (1 : Int32))), (2, .int v10), (0, .ref (ad 0)), (1, .int a1), (3, .int a3)]) dX12_rivalTwos_59 rfl (congrArg (fun z => x4 + z) ic_1) (by decide) rfl ?_
        refine J_tv (fun v11 ev11 => ?_)
        replace h := nm_some ev11 h
        refine J_goto (tgt := 17) dX12_rivalTwos_62 (by decide) ?_
        exact J_sub [2, 3, 1, 4, 0] rfl (ih _ _ h)
      clear h
      obtain ⟨kk56, ekk56, ha57⟩ := jn_some ha57
      have K56 : kk56 = some (s9) → Jw E (ΓM ad cy) RX12 cX12_rivalTwos 5 (some .int) (some (.int rv), o) 56 [(0, .ref (ad 0)), (1, .int a1), (3, .int a3), (4, .int x4)] [.int x2] o := by
        subst ekk56
        clear ha57
        intro ha57
        refine J_iconst dX12_rivalTwos_56 ic_0 ?_
        cases ha57
        exact J_sub [0, 1, 2, 3] rfl (K57)
      clear ekk56
      refine J_if_le (tgt := 56) dX12_rivalTwos_33 (by decide) (fun c5 => ?_) (fun c5 => ?_)
      · replace ha57 := it_some ha57 c5
        exact J_sub [0, 1, 3, 4] rfl (K56 ha57)
      · replace ha57 := if_some ha57 c5
        refine J_aload_n (q := 0) dX12_rivalTwos_36 rfl rfl ?_
        refine J_iload_n (q := 3) dX12_rivalTwos_37 rfl rfl ?_
        refine J_iload_n (q := 1) dX12_rivalTwos_38 rfl rfl ?_
        obtain ⟨r6, hq13, ha57⟩ := bd_some ha57
        refine kM_storyOf hi dX12_rivalTwos_39 hq13 hL (by decide) (Nat.le_of_ble_eq_true rfl) ?_
        refine J_aload_n (q := 0) dX12_rivalTwos_42 rfl rfl ?_
        refine J_iload (q := 4) dX12_rivalTwos_43 rfl ?_
        refine J_iload_n (q := 1) dX12_rivalTwos_45 rfl rfl ?_
        obtain ⟨r7, hq14, ha57⟩ := bd_some ha57
        refine kM_storyOf hi dX12_rivalTwos_46 hq14 hL (by decide) (Nat.le_of_ble_eq_true rfl) ?_
        refine J_icmp_ne (tgt := 56) dX12_rivalTwos_49 (by decide) (fun c8 => ?_) (fun c8 => ?_)
        · replace ha57 := if_some ha57 c8
          exact J_sub [0, 1, 3, 4] rfl (K56 ha57)
        · replace ha57 := it_some ha57 c8
          refine J_iconst dX12_rivalTwos_52 ic_1 ?_
          refine J_goto (tgt := 57) dX12_rivalTwos_53 (by decide) ?_
          cases ha57
          exact J_sub [0, 1, 3, 4] rfl (K57)
set_option maxRecDepth 20000 in
set_option maxHeartbeats 4000000 in
theorem M_rivalTwos_L4_ok {E : Ec} {ad : Nat → Nat} {cy : Nat → ClassId} {rv : Int32} {o : Ob} {a1 : Int32} (hi : wl_inj (ΓM ad cy)) (hL : Lv E 3) : ∀ (n : Nat) (x2 : Int32) (x3 : Int32), M_rivalTwos_L4 o a1 n x2 x3 = some rv → Jw E (ΓM ad cy) RX12 cX12_rivalTwos 5 (some .int) (some (.int rv), o) 4 [(0, .ref (ad 0)), (1, .int a1), (2, .int x2), (3, .int x3)] [] o := by
  intro n
  induction n with
  | zero =>
    intro x2 x3 h
    rw [M_rivalTwos_L4] at h
    cases h
  | succ n ih =>
    intro x2 x3 h
    rw [M_rivalTwos_L4] at h
    refine J_iload_n (q := 3) dX12_rivalTwos_4 rfl rfl ?_
    refine J_aload_n (q := 0) dX12_rivalTwos_5 rfl rfl ?_
    refine gM_many dX12_rivalTwos_6 ?_
    refine J_icmp_ge (tgt := 71) dX12_rivalTwos_9 (by decide) (fun c1 => ?_) (fun c1 => ?_)
    · replace h := it_some h c1
      refine J_iload_n (q := 2) dX12_rivalTwos_71 rfl rfl ?_
      exact J_iret dX12_rivalTwos_72 (rt_pi h) rfl
    · replace h := if_some h c1
      refine J_iload_n (q := 3) dX12_rivalTwos_12 rfl rfl ?_
      refine J_iconst dX12_rivalTwos_13 ic_1 ?_
      refine J_iadd dX12_rivalTwos_14 ?_
      refine J_ti (fun v2 ev2 => ?_)
      replace h := nm_some ev2 h
      refine J_istore (lv' := [(4, .int v2), (0, .ref (ad 0)), (1, .int a1), (2, .int x2), (3, .int x3)]) dX12_rivalTwos_15 (by decide) rfl ?_
      refine J_sub [1, 2, 3, 4, 0] rfl (M_rivalTwos_L17_ok hi hL (fun x2_15 h => ?_) FU _ _ h)
      refine J_iinc (q := 3) (v := (x3 + (1 : Int32))) (lv' := [(3, .int (x3 + (1 : Int32))), (0, .ref (ad 0)), (1, .int a1), (2, .int x2_15)]) dX12_rivalTwos_65 rfl (congrArg (fun z => x3 + z) ic_1) (by decide) rfl ?_
      refine J_tv (fun v16 ev16 => ?_)
      replace h := nm_some ev16 h
      refine J_goto (tgt := 4) dX12_rivalTwos_68 (by decide) ?_
      exact J_sub [1, 2, 3, 0] rfl (ih _ _ h)
set_option maxRecDepth 20000 in
set_option maxHeartbeats 4000000 in
theorem M_rivalTwos_ok {E : Ec} {ad : Nat → Nat} {cy : Nat → ClassId} {rv : Int32} {o : Ob} {p1 : Int32} (hi : wl_inj (ΓM ad cy)) (hL : Lv E 3) (h : M_rivalTwos o p1 = some rv) : Jw E (ΓM ad cy) RX12 cX12_rivalTwos 5 (some .int) (some (.int rv), o) 0 [(0, .ref (ad 0)), (1, .int p1)] [] o := by
  unfold M_rivalTwos at h
  refine J_iconst dX12_rivalTwos_0 ic_0 ?_
  refine J_istore_n (lv' := [(2, .int (0 : Int32)), (0, .ref (ad 0)), (1, .int p1)]) dX12_rivalTwos_1 rfl (by decide) rfl ?_
  refine J_iconst dX12_rivalTwos_2 ic_0 ?_
  refine J_istore_n (lv' := [(3, .int (0 : Int32)), (2, .int (0 : Int32)), (0, .ref (ad 0)), (1, .int p1)]) dX12_rivalTwos_3 rfl (by decide) rfl ?_
  refine J_sub [2, 3, 1, 0] rfl (M_rivalTwos_L4_ok hi hL FU _ _ h)
set_option maxRecDepth 20000 in
set_option maxHeartbeats 4000000 in
theorem kX12_rivalTwos {l : Launch} {D : va_G} {ad : Nat → Nat} {cy : Nat → ClassId} {rv : Int32} {o : Ob} {p1 : Int32} (hi : wl_inj (ΓM ad cy)) (h : M_rivalTwos o p1 = some rv) : Cn l D (ΓM ad cy) yX12_rivalTwos cX12_rivalTwos 5 (some .int) 3 [.ref (ad 0), .int p1] o (some (.int rv), o) :=
  Cn.of hi rfl (Nat.le_of_ble_eq_true rfl) (fun _ _ _ hL => M_rivalTwos_ok hi hL h)
set_option maxRecDepth 20000 in
set_option maxHeartbeats 4000000 in
theorem pdX12_rivalTwos : (parseMethodDescriptor yX12_rivalTwos.desc).map (fun d => d.parameters.length) = some 1 := by decide +kernel
set_option maxRecDepth 20000 in
set_option maxHeartbeats 4000000 in
theorem kM_rivalTwos {E : Ec} {ad : Nat → Nat} {cy : Nat → ClassId} {cc : ByteArray} {nL : Nat} {rt : Option FieldType} {r : Option Value × Ob} {pc n : Nat} {lv : List (Nat × Value)} {st : List Value} {o : Ob} {p1 : Int32} {v : Int32} (hi : wl_inj (ΓM ad cy)) (hd : decode cc pc = .ok (.invokevirtual 263, 3)) (hq : M_rivalTwos o p1 = some v) (hL : Lv E n) (hn : 3 + 1 ≤ n) (hW : (st.map fun v => v.category).sum ≤ 8) (k : Jw E (ΓM ad cy) RX12 cc nL rt r (pc + 3) lv (.int v :: st) o) : Jw E (ΓM ad cy) RX12 cc nL rt r pc lv (.int p1 :: .ref (ad 0) :: st) o :=
  J_callV (h := 0) (ci := 11) (av := [.int p1]) (q := (some (.int v), o)) (st := st) hd (kX12_rivalTwos hi hq) tw_6_35 tw_6_37 tw_1_13 tw_6_38 sl_4_5 ⟨by decide, by decide, pdX12_rivalTwos⟩ (Nat.le_of_ble_eq_true rfl) rfl rfl rfl rfl (by decide) hL hn hW k
set_option maxRecDepth 20000 in
set_option maxHeartbeats 4000000 in
theorem M_common_L50_ok {E : Ec} {ad : Nat → Nat} {cy : Nat → ClassId} {rv : (Int32 × Ob)} {k100 : Int32 → Int32 → Int32 → Option (Int32 × Ob)} {o : Ob} {a1 : Int32} {a2 : Int32} (hi : wl_inj (ΓM ad cy)) (hL : Lv E 4) (hk100 : ∀ (y3 : Int32) (y4 : Int32) (y5 : Int32), k100 y3 y4 y5 = some rv → Jw E (ΓM ad cy) RX12 cX12_common 8 (some .int) (some (.int rv.1), rv.2) 100 [(0, .ref (ad 0)), (1, .int a1), (2, .int a2), (3, .int y3), (4, .int y4), (5, .int y5)] [] o) : ∀ (n : Nat) (x3 : Int32) (x4 : Int32) (x5 : Int32) (x6 : Int32), M_common_L50 k100 o a1 a2 n x3 x4 x5 x6 = some rv → Jw E (ΓM ad cy) RX12 cX12_common 8 (some .int) (some (.int rv.1), rv.2) 50 [(0, .ref (ad 0)), (1, .int a1), (2, .int a2), (3, .int x3), (4, .int x4), (5, .int x5), (6, .int x6)] [] o := by
  intro n
  induction n with
  | zero =>
    intro x3 x4 x5 x6 h
    rw [M_common_L50] at h
    cases h
  | succ n ih =>
    intro x3 x4 x5 x6 h
    rw [M_common_L50] at h
    refine J_iload (q := 6) dX12_common_50 rfl ?_
    refine J_aload_n (q := 0) dX12_common_52 rfl rfl ?_
    refine gM_many dX12_common_53 ?_
    refine J_icmp_ge (tgt := 100) dX12_common_56 (by decide) (fun c8 => ?_) (fun c8 => ?_)
    · replace h := it_some h c8
      exact J_sub [0, 1, 2, 3, 4, 5] rfl (hk100 _ _ _ h)
    · replace h := if_some h c8
      refine J_aload_n (q := 0) dX12_common_59 rfl rfl ?_
      refine gM_knows dX12_common_60 ?_
      refine J_iconst dX12_common_63 ic_5 ?_
      refine J_iload (q := 6) dX12_common_64 rfl ?_
      refine J_imul dX12_common_66 ?_
      refine J_iload_n (q := 1) dX12_common_67 rfl rfl ?_
      refine J_iadd dX12_common_68 ?_
      obtain ⟨hg9, h⟩ := gd_some h
      refine aM_ld (h := 7) (n := 35) dX12_common_69 (by decide) rfl hg9 ?_
      refine J_ti (fun v10 ev10 => ?_)
      replace h := nm_some ev10 h
      refine J_istore (lv' := [(7, .int v10), (0, .ref (ad 0)), (1, .int a1), (2, .int a2), (3, .int x3), (4, .int x4), (5, .int x5), (6, .int x6)]) dX12_common_70 (by decide) rfl ?_
      refine J_iload_n (q := 4) dX12_common_72 rfl rfl ?_
      refine J_iload (q := 0) dX12_common_73 rfl ?_
      refine J_iand dX12_common_75 ?_
      refine J_ti (fun v11 ev11 => ?_)
      replace h := nm_some ev11 h
      refine J_istore_n (lv' := [(3, .int v11), (7, .int v10), (0, .ref (ad 0)), (1, .int a1), (2, .int a2), (4, .int x4), (5, .int x5), (6, .int x6)]) dX12_common_76 rfl (by decide) rfl ?_
      refine J_iload (q := 6) dX12_common_77 rfl ?_
      refine J_iload (q := 5) dX12_common_79 rfl ?_
      refine J_iload (q := 1) dX12_common_81 rfl ?_
      refine J_iand dX12_common_83 ?_
      refine J_ior dX12_common_84 ?_
      refine J_ti (fun v12 ev12 => ?_)
      replace h := nm_some ev12 h
      refine J_istore (lv' := [(5, .int v12), (3, .int v11), (7, .int v10), (0, .ref (ad 0)), (1, .int a1), (2, .int a2), (4, .int x4), (6, .int x6)]) dX12_common_85 (by decide) rfl ?_
      refine J_iload (q := 6) dX12_common_87 rfl ?_
      refine J_iload (q := 2) dX12_common_89 rfl ?_
      refine J_ior dX12_common_91 ?_
      refine J_ti (fun v13 ev13 => ?_)
      replace h := nm_some ev13 h
      refine J_istore (lv' := [(4, .int v13), (5, .int v12), (3, .int v11), (7, .int v10), (0, .ref (ad 0)), (1, .int a1), (2, .int a2), (6, .int x6)]) dX12_common_92 (by decide) rfl ?_
      refine J_iinc (q := 7) (v := (x6 + (1 : Int32))) (lv' := [(6, .int (x6 + (1 : Int32))), (4, .int v13), (5, .int v12), (3, .int v11), (7, .int v10), (0, .ref (ad 0)), (1, .int a1), (2, .int a2)]) dX12_common_94 rfl (congrArg (fun z => x6 + z) ic_1) (by decide) rfl ?_
      refine J_tv (fun v14 ev14 => ?_)
      replace h := nm_some ev14 h
      refine J_goto (tgt := 50) dX12_common_97 (by decide) ?_
      exact J_sub [5, 6, 7, 3, 1, 2, 0] rfl (ih _ _ _ _ h)
set_option maxRecDepth 20000 in
set_option maxHeartbeats 4000000 in
theorem M_common_ok {E : Ec} {ad : Nat → Nat} {cy : Nat → ClassId} {rv : (Int32 × Ob)} {o : Ob} {p1 : Int32} {p2 : Int32} (hi : wl_inj (ΓM ad cy)) (hL : Lv E 4) (h : M_common o p1 p2 = some rv) : Jw E (ΓM ad cy) RX12 cX12_common 8 (some .int) (some (.int rv.1), rv.2) 0 [(0, .ref (ad 0)), (1, .int p1), (2, .int p2)] [] o := by
  unfold M_common at h
  refine J_aload_n (q := 0) dX12_common_0 rfl rfl ?_
  refine J_iconst dX12_common_1 ic_0 ?_
  refine pM_thrown dX12_common_2 ?_
  refine J_tw (fun o1 eo1 => ?_)
  replace h := nm_some eo1 h
  refine J_iload_n (q := 1) dX12_common_5 rfl rfl ?_
  obtain ⟨r2, hq23, h⟩ := bd_some h
  refine kM_isThing hi dX12_common_6 hq23 hL (by decide) (Nat.le_of_ble_eq_true rfl) ?_
  refine J_if_eq (tgt := 24) dX12_common_9 (by decide) (fun c3 => ?_) (fun c3 => ?_)
  · replace h := it_some h c3
    refine J_iconst dX12_common_24 ic_m1 ?_
    exact J_iret dX12_common_25 (rt_i h) rfl
  · replace h := if_some h c3
    refine J_iload_n (q := 2) dX12_common_12 rfl rfl ?_
    refine J_i2l dX12_common_13 ?_
    refine J_lconst dX12_common_14 lc_0 ?_
    refine J_ldc2 dX12_common_15 tw_6_34 ?_
    obtain ⟨r4, hq24, h⟩ := bd_some h
    refine kM_in hi dX12_common_18 hq24 hL (by decide) (Nat.le_of_ble_eq_true rfl) ?_
    refine J_if_ne (tgt := 26) dX12_common_21 (by decide) (fun c5 => ?_) (fun c5 => ?_)
    · replace h := if_some h c5
      refine J_aload_n (q := 0) dX12_common_26 rfl rfl ?_
      refine gM_many dX12_common_27 ?_
      obtain ⟨s7, ha40, h⟩ := bd_some h
      have K40 : Jw E (ΓM ad cy) RX12 cX12_common 8 (some .int) (some (.int rv.1), rv.2) 40 [(0, .ref (ad 0)), (1, .int p1), (2, .int p2)] [.int s7] o1 := by
        clear ha40
        refine J_istore_n (lv' := [(3, .int s7), (0, .ref (ad 0)), (1, .int p1), (2, .int p2)]) dX12_common_40 rfl (by decide) rfl ?_
        refine J_iconst dX12_common_41 ic_0 ?_
        refine J_istore (lv' := [(4, .int (0 : Int32)), (3, .int s7), (0, .ref (ad 0)), (1, .int p1), (2, .int p2)]) dX12_common_42 (by decide) rfl ?_
        refine J_iconst dX12_common_44 ic_0 ?_
        refine J_istore (lv' := [(5, .int (0 : Int32)), (4, .int (0 : Int32)), (3, .int s7), (0, .ref (ad 0)), (1, .int p1), (2, .int p2)]) dX12_common_45 (by decide) rfl ?_
        refine J_iconst dX12_common_47 ic_0 ?_
        refine J_istore (lv' := [(6, .int (0 : Int32)), (5, .int (0 : Int32)), (4, .int (0 : Int32)), (3, .int s7), (0, .ref (ad 0)), (1, .int p1), (2, .int p2)]) dX12_common_48 (by decide) rfl ?_
        refine J_sub [4, 5, 6, 3, 2, 1, 0] rfl (M_common_L50_ok hi hL (fun x3_15 x4_16 x5_17 h => ?_) FU _ _ _ _ h)
        refine J_iload_n (q := 2) dX12_common_100 rfl rfl ?_
        refine J_if_ne (tgt := 108) dX12_common_101 (by decide) (fun c18 => ?_) (fun c18 => ?_)
        · replace h := if_some h c18
          refine J_iload_n (q := 2) dX12_common_108 rfl rfl ?_
          refine J_iconst dX12_common_109 ic_1 ?_
          refine J_icmp_ne (tgt := 123) dX12_common_110 (by decide) (fun c19 => ?_) (fun c19 => ?_)
          · replace h := if_some h c19
            refine J_iload_n (q := 2) dX12_common_123 rfl rfl ?_
            refine J_iconst dX12_common_124 ic_2 ?_
            refine J_icmp_ne (tgt := 142) dX12_common_125 (by decide) (fun c20 => ?_) (fun c20 => ?_)
            · replace h := if_some h c20
              refine J_aload_n (q := 0) dX12_common_142 rfl rfl ?_
              refine J_iload_n (q := 1) dX12_common_143 rfl rfl ?_
              obtain ⟨r21, hq25, h⟩ := bd_some h
              refine kM_rivalTwos hi dX12_common_144 hq25 hL (by decide) (Nat.le_of_ble_eq_true rfl) ?_
              exact J_iret dX12_common_147 (rt_i h) rfl
            · replace h := it_some h c20
              refine J_aload_n (q := 0) dX12_common_128 rfl rfl ?_
              refine gM_pasts dX12_common_129 ?_
              refine J_iload_n (q := 1) dX12_common_132 rfl rfl ?_
              obtain ⟨hg22, h⟩ := gd_some h
              refine aM_ld (h := 1) (n := 5) dX12_common_133 (by decide) rfl hg22 ?_
              refine J_iload (q := 4) dX12_common_134 rfl ?_
              refine J_iconst dX12_common_136 ic_m1 ?_
              refine J_ixor dX12_common_137 ?_
              refine J_iand dX12_common_138 ?_
              refine J_goto (tgt := 147) dX12_common_139 (by decide) ?_
              exact J_iret dX12_common_147 (rt_i h) rfl
          · replace h := it_some h c19
            refine J_iload (q := 4) dX12_common_113 rfl ?_
            refine J_iload (q := 5) dX12_common_115 rfl ?_
            refine J_iconst dX12_common_117 ic_m1 ?_
            refine J_ixor dX12_common_118 ?_
            refine J_iand dX12_common_119 ?_
            refine J_goto (tgt := 147) dX12_common_120 (by decide) ?_
            exact J_iret dX12_common_147 (rt_i h) rfl
        · replace h := it_some h c18
          refine J_iload_n (q := 3) dX12_common_104 rfl rfl ?_
          refine J_goto (tgt := 147) dX12_common_105 (by decide) ?_
          exact J_iret dX12_common_147 (rt_i h) rfl
      clear h
      refine J_if_ne (tgt := 37) dX12_common_30 (by decide) (fun c6 => ?_) (fun c6 => ?_)
      · replace ha40 := if_some ha40 c6
        refine J_sipush dX12_common_37 sp_4095 ?_
        cases ha40
        exact J_sub [0, 1, 2] rfl (K40)
      · replace ha40 := it_some ha40 c6
        refine J_iconst dX12_common_33 ic_0 ?_
        refine J_goto (tgt := 40) dX12_common_34 (by decide) ?_
        cases ha40
        exact J_sub [0, 1, 2] rfl (K40)
    · replace h := it_some h c5
      refine J_iconst dX12_common_24 ic_m1 ?_
      exact J_iret dX12_common_25 (rt_i h) rfl
set_option maxRecDepth 20000 in
set_option maxHeartbeats 4000000 in
theorem kX12_common {l : Launch} {D : va_G} {ad : Nat → Nat} {cy : Nat → ClassId} {rv : (Int32 × Ob)} {o : Ob} {p1 : Int32} {p2 : Int32} (hi : wl_inj (ΓM ad cy)) (h : M_common o p1 p2 = some rv) : Cn l D (ΓM ad cy) yX12_common cX12_common 8 (some .int) 4 [.ref (ad 0), .int p1, .int p2] o (some (.int rv.1), rv.2) :=
  Cn.of hi rfl (Nat.le_of_ble_eq_true rfl) (fun _ _ _ hL => M_common_ok hi hL h)
set_option maxRecDepth 20000 in
set_option maxHeartbeats 4000000 in
theorem M_leastOf_ok {E : Ec} {ad : Nat → Nat} {cy : Nat → ClassId} {rv : Int64} {o : Ob} {p0 : Int32} (hi : wl_inj (ΓM ad cy)) (hL : Lv E 0) (h : M_leastOf o p0 = some rv) : Jw E (ΓM ad cy) RX12 cX12_leastOf 1 (some .long) (some (.long rv), o) 0 [(0, .int p0)] [] o := by
  unfold M_leastOf at h
  refine J_iload_n (q := 0) dX12_leastOf_0 rfl rfl ?_
  refine J_if_ne (tgt := 10) dX12_leastOf_1 (by decide) (fun c1 => ?_) (fun c1 => ?_)
  · replace h := if_some h c1
    refine J_iload_n (q := 0) dX12_leastOf_10 rfl rfl ?_
    refine J_iconst dX12_leastOf_11 ic_1 ?_
    refine J_icmp_ne (tgt := 21) dX12_leastOf_12 (by decide) (fun c2 => ?_) (fun c2 => ?_)
    · replace h := if_some h c2
      refine J_ldc2 dX12_leastOf_21 tw_6_56 ?_
      exact J_lret dX12_leastOf_24 (rt_pl h) rfl
    · replace h := it_some h c2
      refine J_ldc2 dX12_leastOf_15 tw_6_55 ?_
      refine J_goto (tgt := 24) dX12_leastOf_18 (by decide) ?_
      exact J_lret dX12_leastOf_24 (rt_pl h) rfl
  · replace h := it_some h c1
    refine J_ldc2 dX12_leastOf_4 tw_6_54 ?_
    refine J_goto (tgt := 24) dX12_leastOf_7 (by decide) ?_
    exact J_lret dX12_leastOf_24 (rt_pl h) rfl
set_option maxRecDepth 20000 in
set_option maxHeartbeats 4000000 in
theorem kX12_leastOf {l : Launch} {D : va_G} {ad : Nat → Nat} {cy : Nat → ClassId} {rv : Int64} {o : Ob} {p0 : Int32} (hi : wl_inj (ΓM ad cy)) (h : M_leastOf o p0 = some rv) : Cn l D (ΓM ad cy) yX12_leastOf cX12_leastOf 1 (some .long) 0 [.int p0] o (some (.long rv), o) :=
  Cn.of hi rfl (Nat.le_of_ble_eq_true rfl) (fun _ _ _ hL => M_leastOf_ok hi hL h)
set_option maxRecDepth 20000 in
set_option maxHeartbeats 4000000 in
theorem pdX12_leastOf : (parseMethodDescriptor yX12_leastOf.desc).map (fun d => d.parameters.length) = some 1 := by decide +kernel
set_option maxRecDepth 20000 in
set_option maxHeartbeats 4000000 in
theorem kM_leastOf {E : Ec} {ad : Nat → Nat} {cy : Nat → ClassId} {cc : ByteArray} {nL : Nat} {rt : Option FieldType} {r : Option Value × Ob} {pc n : Nat} {lv : List (Nat × Value)} {st : List Value} {o : Ob} {p0 : Int32} {v : Int64} (hi : wl_inj (ΓM ad cy)) (hd : decode cc pc = .ok (.invokestatic 272, 3)) (hq : M_leastOf o p0 = some v) (hL : Lv E n) (hn : 0 + 1 ≤ n) (hW : (st.map fun v => v.category).sum ≤ 8) (k : Jw E (ΓM ad cy) RX12 cc nL rt r (pc + 3) lv (.long v :: st) o) : Jw E (ΓM ad cy) RX12 cc nL rt r pc lv (.int p0 :: st) o :=
  J_callS (av := [.int p0]) (q := (some (.long v), o)) (st := st) hd (kX12_leastOf hi hq) tw_6_51 tw_6_52 tw_1_13 tw_6_53 ⟨by decide, by decide, pdX12_leastOf⟩ rfl (by decide) hL hn hW k
set_option maxRecDepth 20000 in
set_option maxHeartbeats 4000000 in
theorem M_isSkipped_ok {E : Ec} {ad : Nat → Nat} {cy : Nat → ClassId} {rv : Int32} {o : Ob} {p1 : Int32} {p2 : Int32} (hi : wl_inj (ΓM ad cy)) (hL : Lv E 1) (h : M_isSkipped o p1 p2 = some rv) : Jw E (ΓM ad cy) RX12 cX12_isSkipped 3 (some .boolean) (some (.int rv), o) 0 [(0, .ref (ad 0)), (1, .int p1), (2, .int p2)] [] o := by
  unfold M_isSkipped at h
  refine J_aload_n (q := 0) dX12_isSkipped_0 rfl rfl ?_
  refine gM_rows dX12_isSkipped_1 ?_
  refine J_bipush dX12_isSkipped_4 bp_100 ?_
  refine J_iload_n (q := 1) dX12_isSkipped_6 rfl rfl ?_
  refine J_imul dX12_isSkipped_7 ?_
  refine J_iload_n (q := 2) dX12_isSkipped_8 rfl rfl ?_
  refine J_iadd dX12_isSkipped_9 ?_
  obtain ⟨hg1, h⟩ := gd_some h
  refine aM_lld (h := 13) (n := 800) dX12_isSkipped_10 (by decide) rfl hg1 ?_
  refine J_aload_n (q := 0) dX12_isSkipped_11 rfl rfl ?_
  refine gM_rowSort dX12_isSkipped_12 ?_
  refine J_iload_n (q := 1) dX12_isSkipped_15 rfl rfl ?_
  obtain ⟨hg2, h⟩ := gd_some h
  refine aM_ld (h := 11) (n := 8) dX12_isSkipped_16 (by decide) rfl hg2 ?_
  obtain ⟨r3, hq5, h⟩ := bd_some h
  refine kM_leastOf hi dX12_isSkipped_17 hq5 hL (by decide) (Nat.le_of_ble_eq_true rfl) ?_
  refine J_lcmp dX12_isSkipped_20 ?_
  refine J_if_ne (tgt := 28) dX12_isSkipped_21 (by decide) (fun c4 => ?_) (fun c4 => ?_)
  · replace h := if_some h c4
    refine J_iconst dX12_isSkipped_28 ic_0 ?_
    exact J_zret dX12_isSkipped_29 (rt_pi h) rfl rfl
  · replace h := it_some h c4
    refine J_iconst dX12_isSkipped_24 ic_1 ?_
    refine J_goto (tgt := 29) dX12_isSkipped_25 (by decide) ?_
    exact J_zret dX12_isSkipped_29 (rt_pi h) rfl rfl
set_option maxRecDepth 20000 in
set_option maxHeartbeats 4000000 in
theorem kX12_isSkipped {l : Launch} {D : va_G} {ad : Nat → Nat} {cy : Nat → ClassId} {rv : Int32} {o : Ob} {p1 : Int32} {p2 : Int32} (hi : wl_inj (ΓM ad cy)) (h : M_isSkipped o p1 p2 = some rv) : Cn l D (ΓM ad cy) yX12_isSkipped cX12_isSkipped 3 (some .boolean) 1 [.ref (ad 0), .int p1, .int p2] o (some (.int rv), o) :=
  Cn.of hi rfl (Nat.le_of_ble_eq_true rfl) (fun _ _ _ hL => M_isSkipped_ok hi hL h)
set_option maxRecDepth 20000 in
set_option maxHeartbeats 4000000 in
theorem pdX12_isSkipped : (parseMethodDescriptor yX12_isSkipped.desc).map (fun d => d.parameters.length) = some 2 := by decide +kernel
set_option maxRecDepth 20000 in
set_option maxHeartbeats 4000000 in
theorem kM_isSkipped {E : Ec} {ad : Nat → Nat} {cy : Nat → ClassId} {cc : ByteArray} {nL : Nat} {rt : Option FieldType} {r : Option Value × Ob} {pc n : Nat} {lv : List (Nat × Value)} {st : List Value} {o : Ob} {p1 : Int32} {p2 : Int32} {v : Int32} (hi : wl_inj (ΓM ad cy)) (hd : decode cc pc = .ok (.invokevirtual 276, 3)) (hq : M_isSkipped o p1 p2 = some v) (hL : Lv E n) (hn : 1 + 1 ≤ n) (hW : (st.map fun v => v.category).sum ≤ 8) (k : Jw E (ΓM ad cy) RX12 cc nL rt r (pc + 3) lv (.int v :: st) o) : Jw E (ΓM ad cy) RX12 cc nL rt r pc lv (.int p2 :: .int p1 :: .ref (ad 0) :: st) o :=
  J_callV (h := 0) (ci := 11) (av := [.int p1, .int p2]) (q := (some (.int v), o)) (st := st) hd (kX12_isSkipped hi hq) tw_6_47 tw_6_49 tw_1_13 tw_6_50 sl_4_7 ⟨by decide, by decide, pdX12_isSkipped⟩ (Nat.le_of_ble_eq_true rfl) rfl rfl rfl rfl (by decide) hL hn hW k
set_option maxRecDepth 20000 in
set_option maxHeartbeats 4000000 in
theorem M_isRow_L5_ok {E : Ec} {ad : Nat → Nat} {cy : Nat → ClassId} {rv : (Int32 × Ob)} {k93 : Int32 → Ob → Option (Int32 × Ob)} {a1 : Int32} {a2 : Int32} (hi : wl_inj (ΓM ad cy)) (hL : Lv E 5) (hk93 : ∀ (y3 : Int32) (yw : Ob), k93 y3 yw = some rv → Jw E (ΓM ad cy) RX12 cX12_isRow 6 (some .boolean) (some (.int rv.1), rv.2) 93 [(0, .ref (ad 0)), (3, .int y3)] [] yw) : ∀ (n : Nat) (o : Ob) (x3 : Int32) (x4 : Int32), M_isRow_L5 k93 a1 a2 n o x3 x4 = some rv → Jw E (ΓM ad cy) RX12 cX12_isRow 6 (some .boolean) (some (.int rv.1), rv.2) 5 [(0, .ref (ad 0)), (1, .int a1), (2, .int a2), (3, .int x3), (4, .int x4)] [] o := by
  intro n
  induction n with
  | zero =>
    intro o x3 x4 h
    rw [M_isRow_L5] at h
    cases h
  | succ n ih =>
    intro o x3 x4 h
    rw [M_isRow_L5] at h
    refine J_iload (q := 4) dX12_isRow_5 rfl ?_
    refine J_aload_n (q := 0) dX12_isRow_7 rfl rfl ?_
    refine gM_rowMany dX12_isRow_8 ?_
    refine J_iload_n (q := 1) dX12_isRow_11 rfl rfl ?_
    obtain ⟨hg1, h⟩ := gd_some h
    refine aM_ld (h := 12) (n := 8) dX12_isRow_12 (by decide) rfl hg1 ?_
    refine J_icmp_ge (tgt := 93) dX12_isRow_13 (by decide) (fun c2 => ?_) (fun c2 => ?_)
    · replace h := it_some h c2
      exact J_sub [0, 3] rfl (hk93 _ _ h)
    · replace h := if_some h c2
      refine J_iload_n (q := 3) dX12_isRow_16 rfl rfl ?_
      refine J_if_eq (tgt := 93) dX12_isRow_17 (by decide) (fun c3 => ?_) (fun c3 => ?_)
      · replace h := it_some h c3
        exact J_sub [0, 3] rfl (hk93 _ _ h)
      · replace h := if_some h c3
        refine J_aload_n (q := 0) dX12_isRow_20 rfl rfl ?_
        refine gM_caring dX12_isRow_21 ?_
        refine J_iload_n (q := 2) dX12_isRow_24 rfl rfl ?_
        obtain ⟨hg4, h⟩ := gd_some h
        refine aM_ld (h := 6) (n := 7) dX12_isRow_25 (by decide) rfl hg4 ?_
        refine J_bipush dX12_isRow_26 bp_9 ?_
        obtain ⟨s8, ha46, h⟩ := bd_some h
        have K46 : Jw E (ΓM ad cy) RX12 cX12_isRow 6 (some .boolean) (some (.int rv.1), rv.2) 46 [(0, .ref (ad 0)), (1, .int a1), (2, .int a2), (4, .int x4)] [.int s8] o := by
          clear ha46
          refine J_istore (lv' := [(5, .int s8), (0, .ref (ad 0)), (1, .int a1), (2, .int a2), (4, .int x4)]) dX12_isRow_46 (by decide) rfl ?_
          refine J_aload_n (q := 1) dX12_isRow_48 rfl rfl ?_
          refine J_iload_n (q := 2) dX12_isRow_49 rfl rfl ?_
          refine J_iload (q := 4) dX12_isRow_50 rfl ?_
          obtain ⟨r9, hq16, h⟩ := bd_some h
          refine kM_isSkipped hi dX12_isRow_52 hq16 hL (by decide) (Nat.le_of_ble_eq_true rfl) ?_
          obtain ⟨s13, ha82, h⟩ := bd_some h
          have K82 : Jw E (ΓM ad cy) RX12 cX12_isRow 6 (some .boolean) (some (.int rv.1), rv.2) 82 [(0, .ref (ad 0)), (1, .int a1), (2, .int a2), (4, .int x4)] [.int s13] o := by
            clear ha82
            refine J_istore_n (lv' := [(3, .int s13), (0, .ref (ad 0)), (1, .int a1), (2, .int a2), (4, .int x4)]) dX12_isRow_82 rfl (by decide) rfl ?_
            refine J_aload_n (q := 1) dX12_isRow_83 rfl rfl ?_
            obtain ⟨o14, hq17, h⟩ := bd_some h
            refine kM_dayOn hi dX12_isRow_84 hq17 hL (by decide) (Nat.le_of_ble_eq_true rfl) ?_
            refine J_iinc (q := 4) (v := (x4 + (1 : Int32))) (lv' := [(4, .int (x4 + (1 : Int32))), (3, .int s13), (0, .ref (ad 0)), (1, .int a1), (2, .int a2)]) dX12_isRow_87 rfl (congrArg (fun z => x4 + z) ic_1) (by decide) rfl ?_
            refine J_tv (fun v15 ev15 => ?_)
            replace h := nm_some ev15 h
            refine J_goto (tgt := 5) dX12_isRow_90 (by decide) ?_
            exact J_sub [2, 3, 4, 1, 0] rfl (ih _ _ _ h)
          clear h
          obtain ⟨kk77, ekk77, ha82⟩ := jn_some ha82
          have K77 : kk77 = some (s13) → Jw E (ΓM ad cy) RX12 cX12_isRow 6 (some .boolean) (some (.int rv.1), rv.2) 77 [(0, .ref (ad 0)), (1, .int a1), (2, .int a2), (4, .int x4)] [] o := by
            subst ekk77
            clear ha82
            intro ha82
            refine J_iconst dX12_isRow_77 ic_1 ?_
            refine J_goto (tgt := 82) dX12_isRow_78 (by decide) ?_
            cases ha82
            exact J_sub [0, 1, 2, 3] rfl (K82)
          clear ekk77
          refine J_if_ne (tgt := 77) dX12_isRow_55 (by decide) (fun c10 => ?_) (fun c10 => ?_)
          · replace ha82 := if_some ha82 c10
            exact J_sub [1, 2, 3, 4] rfl (K77 ha82)
          · replace ha82 := it_some ha82 c10
            refine J_aload_n (q := 1) dX12_isRow_58 rfl rfl ?_
            refine gM_rows dX12_isRow_59 ?_
            refine J_bipush dX12_isRow_62 bp_100 ?_
            refine J_iload_n (q := 2) dX12_isRow_64 rfl rfl ?_
            refine J_imul dX12_isRow_65 ?_
            refine J_iload (q := 4) dX12_isRow_66 rfl ?_
            refine J_iadd dX12_isRow_68 ?_
            obtain ⟨hg11, ha82⟩ := gd_some ha82
            refine aM_lld (h := 13) (n := 800) dX12_isRow_69 (by decide) rfl hg11 ?_
            refine J_iload (q := 0) dX12_isRow_70 rfl ?_
            refine J_i2l dX12_isRow_72 ?_
            refine J_lcmp dX12_isRow_73 ?_
            refine J_if_ne (tgt := 81) dX12_isRow_74 (by decide) (fun c12 => ?_) (fun c12 => ?_)
            · replace ha82 := if_some ha82 c12
              refine J_iconst dX12_isRow_81 ic_0 ?_
              cases ha82
              exact J_sub [1, 2, 3, 4] rfl (K82)
            · replace ha82 := it_some ha82 c12
              exact J_sub [1, 2, 3, 4] rfl (K77 ha82)
        clear h
        refine J_icmp_ne (tgt := 35) dX12_isRow_28 (by decide) (fun c5 => ?_) (fun c5 => ?_)
        · replace ha46 := if_some ha46 c5
          refine J_aload_n (q := 0) dX12_isRow_35 rfl rfl ?_
          refine J_iload_n (q := 2) dX12_isRow_36 rfl rfl ?_
          refine J_aload_n (q := 0) dX12_isRow_37 rfl rfl ?_
          refine gM_caring dX12_isRow_38 ?_
          refine J_iload_n (q := 2) dX12_isRow_41 rfl rfl ?_
          obtain ⟨hg6, ha46⟩ := gd_some ha46
          refine aM_ld (h := 6) (n := 7) dX12_isRow_42 (by decide) rfl hg6 ?_
          obtain ⟨r7, hq18, ha46⟩ := bd_some ha46
          refine kM_storyOf hi dX12_isRow_43 hq18 hL (by decide) (Nat.le_of_ble_eq_true rfl) ?_
          cases ha46
          exact J_sub [0, 1, 2, 4] rfl (K46)
        · replace ha46 := it_some ha46 c5
          refine J_iconst dX12_isRow_31 ic_0 ?_
          refine J_goto (tgt := 46) dX12_isRow_32 (by decide) ?_
          cases ha46
          exact J_sub [0, 1, 2, 4] rfl (K46)
set_option maxRecDepth 20000 in
set_option maxHeartbeats 4000000 in
theorem M_isRow_ok {E : Ec} {ad : Nat → Nat} {cy : Nat → ClassId} {rv : (Int32 × Ob)} {o : Ob} {p1 : Int32} {p2 : Int32} (hi : wl_inj (ΓM ad cy)) (hL : Lv E 5) (h : M_isRow o p1 p2 = some rv) : Jw E (ΓM ad cy) RX12 cX12_isRow 6 (some .boolean) (some (.int rv.1), rv.2) 0 [(0, .ref (ad 0)), (1, .int p1), (2, .int p2)] [] o := by
  unfold M_isRow at h
  refine J_iconst dX12_isRow_0 ic_1 ?_
  refine J_istore_n (lv' := [(3, .int (1 : Int32)), (0, .ref (ad 0)), (1, .int p1), (2, .int p2)]) dX12_isRow_1 rfl (by decide) rfl ?_
  refine J_iconst dX12_isRow_2 ic_0 ?_
  refine J_istore (lv' := [(4, .int (0 : Int32)), (3, .int (1 : Int32)), (0, .ref (ad 0)), (1, .int p1), (2, .int p2)]) dX12_isRow_3 (by decide) rfl ?_
  refine J_sub [2, 3, 4, 1, 0] rfl (M_isRow_L5_ok hi hL (fun x3_19 o20 h => ?_) FU _ _ _ h)
  refine J_aload_n (q := 0) dX12_isRow_93 rfl rfl ?_
  obtain ⟨o21, hq23, h⟩ := bd_some h
  refine kM_again hi dX12_isRow_94 hq23 hL (by decide) (Nat.le_of_ble_eq_true rfl) ?_
  refine J_iload_n (q := 1) dX12_isRow_97 rfl rfl ?_
  obtain ⟨hg22, h⟩ := gd_some h
  exact J_zret dX12_isRow_98 (rt_i h) rfl hg22
set_option maxRecDepth 20000 in
set_option maxHeartbeats 4000000 in
theorem kX12_isRow {l : Launch} {D : va_G} {ad : Nat → Nat} {cy : Nat → ClassId} {rv : (Int32 × Ob)} {o : Ob} {p1 : Int32} {p2 : Int32} (hi : wl_inj (ΓM ad cy)) (h : M_isRow o p1 p2 = some rv) : Cn l D (ΓM ad cy) yX12_isRow cX12_isRow 6 (some .boolean) 5 [.ref (ad 0), .int p1, .int p2] o (some (.int rv.1), rv.2) :=
  Cn.of hi rfl (Nat.le_of_ble_eq_true rfl) (fun _ _ _ hL => M_isRow_ok hi hL h)
set_option maxRecDepth 20000 in
set_option maxHeartbeats 4000000 in
theorem pdX12_isRow : (parseMethodDescriptor yX12_isRow.desc).map (fun d => d.parameters.length) = some 2 := by decide +kernel
set_option maxRecDepth 20000 in
set_option maxHeartbeats 4000000 in
theorem kM_isRow {E : Ec} {ad : Nat → Nat} {cy : Nat → ClassId} {cc : ByteArray} {nL : Nat} {rt : Option FieldType} {r : Option Value × Ob} {pc n : Nat} {lv : List (Nat × Value)} {st : List Value} {o : Ob} {p1 : Int32} {p2 : Int32} {v : Int32} {o' : Ob} (hi : wl_inj (ΓM ad cy)) (hd : decode cc pc = .ok (.invokevirtual 279, 3)) (hq : M_isRow o p1 p2 = some (v, o')) (hL : Lv E n) (hn : 5 + 1 ≤ n) (hW : (st.map fun v => v.category).sum ≤ 8) (k : Jw E (ΓM ad cy) RX12 cc nL rt r (pc + 3) lv (.int v :: st) o') : Jw E (ΓM ad cy) RX12 cc nL rt r pc lv (.int p2 :: .int p1 :: .ref (ad 0) :: st) o :=
  J_callV (h := 0) (ci := 11) (av := [.int p1, .int p2]) (q := (some (.int v), o')) (st := st) hd (kX12_isRow hi hq) tw_6_43 tw_6_45 tw_1_13 tw_6_46 sl_4_6 ⟨by decide, by decide, pdX12_isRow⟩ (Nat.le_of_ble_eq_true rfl) rfl rfl rfl rfl (by decide) hL hn hW k
set_option maxRecDepth 20000 in
set_option maxHeartbeats 4000000 in
theorem M_whatIs_L52_ok {E : Ec} {ad : Nat → Nat} {cy : Nat → ClassId} {rv : (Int32 × Ob)} {a1 : Int32} {a2 : Int32} {a3 : Int32} (hi : wl_inj (ΓM ad cy)) (hL : Lv E 6) : ∀ (n : Nat) (o : Ob) (x5 : Int32) (x6 : Int32), M_whatIs_L52 a1 a2 a3 n o x5 x6 = some rv → Jw E (ΓM ad cy) RX12 cX12_whatIs 7 (some .int) (some (.int rv.1), rv.2) 52 [(0, .ref (ad 0)), (1, .int a1), (2, .int a2), (3, .int a3), (5, .int x5), (6, .int x6)] [] o := by
  intro n
  induction n with
  | zero =>
    intro o x5 x6 h
    rw [M_whatIs_L52] at h
    cases h
  | succ n ih =>
    intro o x5 x6 h
    rw [M_whatIs_L52] at h
    refine J_iload (q := 5) dX12_whatIs_52 rfl ?_
    refine J_iload_n (q := 3) dX12_whatIs_54 rfl rfl ?_
    obtain ⟨s11, ha65, h⟩ := bd_some h
    have K65 : Jw E (ΓM ad cy) RX12 cX12_whatIs 7 (some .int) (some (.int rv.1), rv.2) 65 [(0, .ref (ad 0)), (1, .int a1), (2, .int a2), (3, .int a3), (5, .int x5), (6, .int x6)] [.int s11, .int x6] o := by
      clear ha65
      refine J_icmp_ge (tgt := 139) dX12_whatIs_65 (by decide) (fun c12 => ?_) (fun c12 => ?_)
      · replace h := it_some h c12
        refine J_iload (q := 4) dX12_whatIs_139 rfl ?_
        exact J_iret dX12_whatIs_141 (rt_i h) rfl
      · replace h := if_some h c12
        refine J_aload_n (q := 0) dX12_whatIs_68 rfl rfl ?_
        refine gM_kinds dX12_whatIs_69 ?_
        refine J_iload_n (q := 2) dX12_whatIs_72 rfl rfl ?_
        refine J_iload_n (q := 3) dX12_whatIs_73 rfl rfl ?_
        obtain ⟨s15, ha88, h⟩ := bd_some h
        have K88 : Jw E (ΓM ad cy) RX12 cX12_whatIs 7 (some .int) (some (.int rv.1), rv.2) 88 [(0, .ref (ad 0)), (1, .int a1), (2, .int a2), (3, .int a3), (5, .int x5), (6, .int x6)] [.int s15, .int a2, .ref (ad 4)] o := by
          clear ha88
          obtain ⟨hg16, h⟩ := gd_some h
          refine aM_st (h := 4) (n := 7) dX12_whatIs_88 (by decide) rfl hg16 ?_
          refine J_tw (fun o17 eo17 => ?_)
          replace h := nm_some eo17 h
          refine J_aload_n (q := 0) dX12_whatIs_89 rfl rfl ?_
          refine gM_figures dX12_whatIs_90 ?_
          refine J_iload_n (q := 2) dX12_whatIs_93 rfl rfl ?_
          refine J_iload_n (q := 3) dX12_whatIs_94 rfl rfl ?_
          refine J_iconst dX12_whatIs_95 ic_1 ?_
          obtain ⟨s20, ha110, h⟩ := bd_some h
          have K110 : Jw E (ΓM ad cy) RX12 cX12_whatIs 7 (some .int) (some (.int rv.1), rv.2) 110 [(0, .ref (ad 0)), (1, .int a1), (2, .int a2), (3, .int a3), (5, .int x5), (6, .int x6)] [.int s20, .int a2, .ref (ad 5)] o17 := by
            clear ha110
            obtain ⟨hg21, h⟩ := gd_some h
            refine aM_st (h := 5) (n := 7) dX12_whatIs_110 (by decide) rfl hg21 ?_
            refine J_tw (fun o22 eo22 => ?_)
            replace h := nm_some eo22 h
            refine J_iload (q := 4) dX12_whatIs_111 rfl ?_
            refine J_aload_n (q := 0) dX12_whatIs_113 rfl rfl ?_
            refine J_iload_n (q := 1) dX12_whatIs_114 rfl rfl ?_
            refine J_iload_n (q := 2) dX12_whatIs_115 rfl rfl ?_
            obtain ⟨r23, o24, hq29, h⟩ := bd2_some h
            refine kM_isRow hi dX12_whatIs_116 hq29 hL (by decide) (Nat.le_of_ble_eq_true rfl) ?_
            obtain ⟨s26, ha130, h⟩ := bd_some h
            have K130 : Jw E (ΓM ad cy) RX12 cX12_whatIs 7 (some .int) (some (.int rv.1), rv.2) 130 [(0, .ref (ad 0)), (1, .int a1), (2, .int a2), (3, .int a3), (6, .int x6)] [.int s26, .int x5] o24 := by
              clear ha130
              refine J_ior dX12_whatIs_130 ?_
              refine J_ti (fun v27 ev27 => ?_)
              replace h := nm_some ev27 h
              refine J_istore (lv' := [(5, .int v27), (0, .ref (ad 0)), (1, .int a1), (2, .int a2), (3, .int a3), (6, .int x6)]) dX12_whatIs_131 (by decide) rfl ?_
              refine J_iinc (q := 5) (v := (x6 + (1 : Int32))) (lv' := [(6, .int (x6 + (1 : Int32))), (5, .int v27), (0, .ref (ad 0)), (1, .int a1), (2, .int a2), (3, .int a3)]) dX12_whatIs_133 rfl (congrArg (fun z => x6 + z) ic_1) (by decide) rfl ?_
              refine J_tv (fun v28 ev28 => ?_)
              replace h := nm_some ev28 h
              refine J_goto (tgt := 52) dX12_whatIs_136 (by decide) ?_
              exact J_sub [2, 3, 4, 5, 1, 0] rfl (ih _ _ _ h)
            clear h
            refine J_if_eq (tgt := 129) dX12_whatIs_119 (by decide) (fun c25 => ?_) (fun c25 => ?_)
            · replace ha130 := it_some ha130 c25
              refine J_iconst dX12_whatIs_129 ic_0 ?_
              cases ha130
              exact J_sub [0, 1, 2, 3, 5] rfl (K130)
            · replace ha130 := if_some ha130 c25
              refine J_iconst dX12_whatIs_122 ic_1 ?_
              refine J_iload (q := 5) dX12_whatIs_123 rfl ?_
              refine J_ishl dX12_whatIs_125 ?_
              refine J_goto (tgt := 130) dX12_whatIs_126 (by decide) ?_
              cases ha130
              exact J_sub [0, 1, 2, 3, 5] rfl (K130)
          clear h
          refine J_icmp_ne (tgt := 104) dX12_whatIs_96 (by decide) (fun c18 => ?_) (fun c18 => ?_)
          · replace ha110 := if_some ha110 c18
            refine J_aload_n (q := 0) dX12_whatIs_104 rfl rfl ?_
            refine gM_figures dX12_whatIs_105 ?_
            refine J_iload_n (q := 2) dX12_whatIs_108 rfl rfl ?_
            obtain ⟨hg19, ha110⟩ := gd_some ha110
            refine aM_ld (h := 5) (n := 7) dX12_whatIs_109 (by decide) rfl hg19 ?_
            cases ha110
            exact J_sub [0, 1, 2, 3, 4, 5] rfl (K110)
          · replace ha110 := it_some ha110 c18
            refine J_iload (q := 5) dX12_whatIs_99 rfl ?_
            refine J_goto (tgt := 110) dX12_whatIs_101 (by decide) ?_
            cases ha110
            exact J_sub [0, 1, 2, 3, 4, 5] rfl (K110)
        clear h
        refine J_if_ne (tgt := 82) dX12_whatIs_74 (by decide) (fun c13 => ?_) (fun c13 => ?_)
        · replace ha88 := if_some ha88 c13
          refine J_aload_n (q := 0) dX12_whatIs_82 rfl rfl ?_
          refine gM_kinds dX12_whatIs_83 ?_
          refine J_iload_n (q := 2) dX12_whatIs_86 rfl rfl ?_
          obtain ⟨hg14, ha88⟩ := gd_some ha88
          refine aM_ld (h := 4) (n := 7) dX12_whatIs_87 (by decide) rfl hg14 ?_
          cases ha88
          exact J_sub [0, 1, 2, 3, 4, 5] rfl (K88)
        · replace ha88 := it_some ha88 c13
          refine J_iload (q := 5) dX12_whatIs_77 rfl ?_
          refine J_goto (tgt := 88) dX12_whatIs_79 (by decide) ?_
          cases ha88
          exact J_sub [0, 1, 2, 3, 4, 5] rfl (K88)
    clear h
    refine J_if_ne (tgt := 63) dX12_whatIs_55 (by decide) (fun c10 => ?_) (fun c10 => ?_)
    · replace ha65 := if_some ha65 c10
      refine J_bipush dX12_whatIs_63 bp_10 ?_
      cases ha65
      exact J_sub [0, 1, 2, 3, 4, 5] rfl (K65)
    · replace ha65 := it_some ha65 c10
      refine J_bipush dX12_whatIs_58 bp_8 ?_
      refine J_goto (tgt := 65) dX12_whatIs_60 (by decide) ?_
      cases ha65
      exact J_sub [0, 1, 2, 3, 4, 5] rfl (K65)
set_option maxRecDepth 20000 in
set_option maxHeartbeats 4000000 in
theorem M_whatIs_ok {E : Ec} {ad : Nat → Nat} {cy : Nat → ClassId} {rv : (Int32 × Ob)} {o : Ob} {p1 : Int32} {p2 : Int32} {p3 : Int32} (hi : wl_inj (ΓM ad cy)) (hL : Lv E 6) (h : M_whatIs o p1 p2 p3 = some rv) : Jw E (ΓM ad cy) RX12 cX12_whatIs 7 (some .int) (some (.int rv.1), rv.2) 0 [(0, .ref (ad 0)), (1, .int p1), (2, .int p2), (3, .int p3)] [] o := by
  unfold M_whatIs at h
  refine J_aload_n (q := 0) dX12_whatIs_0 rfl rfl ?_
  refine J_iconst dX12_whatIs_1 ic_0 ?_
  refine pM_thrown dX12_whatIs_2 ?_
  refine J_tw (fun o1 eo1 => ?_)
  replace h := nm_some eo1 h
  refine J_aload_n (q := 0) dX12_whatIs_5 rfl rfl ?_
  refine J_iload_n (q := 2) dX12_whatIs_6 rfl rfl ?_
  obtain ⟨r2, hq30, h⟩ := bd_some h
  refine kM_isOne hi dX12_whatIs_7 hq30 hL (by decide) (Nat.le_of_ble_eq_true rfl) ?_
  obtain ⟨s7, ha32, h⟩ := bd_some h
  have K32 : Jw E (ΓM ad cy) RX12 cX12_whatIs 7 (some .int) (some (.int rv.1), rv.2) 32 [(0, .ref (ad 0)), (1, .int p1), (2, .int p2), (3, .int p3)] [.int s7] o1 := by
    clear ha32
    refine J_istore (lv' := [(4, .int s7), (0, .ref (ad 0)), (1, .int p1), (2, .int p2), (3, .int p3)]) dX12_whatIs_32 (by decide) rfl ?_
    refine J_iload (q := 0) dX12_whatIs_34 rfl ?_
    refine J_if_ge (tgt := 42) dX12_whatIs_36 (by decide) (fun c8 => ?_) (fun c8 => ?_)
    · replace h := it_some h c8
      refine J_iconst dX12_whatIs_42 ic_0 ?_
      refine J_istore (lv' := [(5, .int (0 : Int32)), (4, .int s7), (0, .ref (ad 0)), (1, .int p1), (2, .int p2), (3, .int p3)]) dX12_whatIs_43 (by decide) rfl ?_
      refine J_aload_n (q := 2) dX12_whatIs_45 rfl rfl ?_
      obtain ⟨o9, hq31, h⟩ := bd_some h
      refine kM_think hi dX12_whatIs_46 hq31 hL (by decide) (Nat.le_of_ble_eq_true rfl) ?_
      refine J_iconst dX12_whatIs_49 ic_0 ?_
      refine J_istore (lv' := [(6, .int (0 : Int32)), (5, .int (0 : Int32)), (4, .int s7), (0, .ref (ad 0)), (1, .int p1), (2, .int p2), (3, .int p3)]) dX12_whatIs_50 (by decide) rfl ?_
      refine J_sub [3, 4, 5, 6, 1, 0] rfl (M_whatIs_L52_ok hi hL FU _ _ _ h)
    · replace h := if_some h c8
      refine J_iload (q := 0) dX12_whatIs_39 rfl ?_
      exact J_iret dX12_whatIs_41 (rt_i h) rfl
  clear h
  obtain ⟨kk31, ekk31, ha32⟩ := jn_some ha32
  have K31 : kk31 = some (s7) → Jw E (ΓM ad cy) RX12 cX12_whatIs 7 (some .int) (some (.int rv.1), rv.2) 31 [(0, .ref (ad 0)), (1, .int p1), (2, .int p2), (3, .int p3)] [] o1 := by
    subst ekk31
    clear ha32
    intro ha32
    refine J_iconst dX12_whatIs_31 ic_m1 ?_
    cases ha32
    exact J_sub [0, 1, 2, 3] rfl (K32)
  clear ekk31
  refine J_if_eq (tgt := 31) dX12_whatIs_10 (by decide) (fun c3 => ?_) (fun c3 => ?_)
  · replace ha32 := it_some ha32 c3
    exact J_sub [0, 1, 2, 3] rfl (K31 ha32)
  · replace ha32 := if_some ha32 c3
    refine J_iload_n (q := 3) dX12_whatIs_13 rfl rfl ?_
    refine J_i2l dX12_whatIs_14 ?_
    refine J_lconst dX12_whatIs_15 lc_0 ?_
    refine J_lconst dX12_whatIs_16 lc_1 ?_
    obtain ⟨r4, hq32, ha32⟩ := bd_some ha32
    refine kM_in hi dX12_whatIs_17 hq32 hL (by decide) (Nat.le_of_ble_eq_true rfl) ?_
    refine J_if_eq (tgt := 31) dX12_whatIs_20 (by decide) (fun c5 => ?_) (fun c5 => ?_)
    · replace ha32 := it_some ha32 c5
      exact J_sub [0, 1, 2, 3] rfl (K31 ha32)
    · replace ha32 := if_some ha32 c5
      refine J_aload_n (q := 0) dX12_whatIs_23 rfl rfl ?_
      refine J_iload_n (q := 1) dX12_whatIs_24 rfl rfl ?_
      obtain ⟨r6, hq33, ha32⟩ := bd_some ha32
      refine kM_wrongRow hi dX12_whatIs_25 hq33 hL (by decide) (Nat.le_of_ble_eq_true rfl) ?_
      refine J_goto (tgt := 32) dX12_whatIs_28 (by decide) ?_
      cases ha32
      exact J_sub [0, 1, 2, 3] rfl (K32)
set_option maxRecDepth 20000 in
set_option maxHeartbeats 4000000 in
theorem kX12_whatIs {l : Launch} {D : va_G} {ad : Nat → Nat} {cy : Nat → ClassId} {rv : (Int32 × Ob)} {o : Ob} {p1 : Int32} {p2 : Int32} {p3 : Int32} (hi : wl_inj (ΓM ad cy)) (h : M_whatIs o p1 p2 p3 = some rv) : Cn l D (ΓM ad cy) yX12_whatIs cX12_whatIs 7 (some .int) 6 [.ref (ad 0), .int p1, .int p2, .int p3] o (some (.int rv.1), rv.2) :=
  Cn.of hi rfl (Nat.le_of_ble_eq_true rfl) (fun _ _ _ hL => M_whatIs_ok hi hL h)
set_option maxRecDepth 20000 in
set_option maxHeartbeats 4000000 in
theorem M_isPast_L23_ok {E : Ec} {ad : Nat → Nat} {cy : Nat → ClassId} {rv : Int32} {o : Ob} {a1 : Int32} {a2 : Int32} {a3 : Int32} (hi : wl_inj (ΓM ad cy)) (hL : Lv E 2) : ∀ (n : Nat) (x4 : Int32) (x5 : Int32), M_isPast_L23 o a1 a2 a3 n x4 x5 = some rv → Jw E (ΓM ad cy) RX12 cX12_isPast 6 (some .boolean) (some (.int rv), o) 23 [(0, .ref (ad 0)), (1, .int a1), (2, .int a2), (3, .int a3), (4, .int x4), (5, .int x5)] [] o := by
  intro n
  induction n with
  | zero =>
    intro x4 x5 h
    rw [M_isPast_L23] at h
    cases h
  | succ n ih =>
    intro x4 x5 h
    rw [M_isPast_L23] at h
    refine J_iload (q := 5) dX12_isPast_23 rfl ?_
    refine J_aload_n (q := 0) dX12_isPast_25 rfl rfl ?_
    refine gM_rowMany dX12_isPast_26 ?_
    refine J_iload_n (q := 1) dX12_isPast_29 rfl rfl ?_
    obtain ⟨hg4, h⟩ := gd_some h
    refine aM_ld (h := 12) (n := 8) dX12_isPast_30 (by decide) rfl hg4 ?_
    refine J_icmp_ge (tgt := 97) dX12_isPast_31 (by decide) (fun c5 => ?_) (fun c5 => ?_)
    · replace h := it_some h c5
      refine J_iload (q := 4) dX12_isPast_97 rfl ?_
      obtain ⟨hg6, h⟩ := gd_some h
      exact J_zret dX12_isPast_99 (rt_pi h) rfl hg6
    · replace h := if_some h c5
      refine J_iload (q := 4) dX12_isPast_34 rfl ?_
      refine J_if_eq (tgt := 97) dX12_isPast_36 (by decide) (fun c7 => ?_) (fun c7 => ?_)
      · replace h := it_some h c7
        refine J_iload (q := 4) dX12_isPast_97 rfl ?_
        obtain ⟨hg8, h⟩ := gd_some h
        exact J_zret dX12_isPast_99 (rt_pi h) rfl hg8
      · replace h := if_some h c7
        refine J_aload_n (q := 0) dX12_isPast_39 rfl rfl ?_
        refine J_iload_n (q := 1) dX12_isPast_40 rfl rfl ?_
        refine J_iload (q := 5) dX12_isPast_41 rfl ?_
        obtain ⟨r9, hq17, h⟩ := bd_some h
        refine kM_isSkipped hi dX12_isPast_43 hq17 hL (by decide) (Nat.le_of_ble_eq_true rfl) ?_
        obtain ⟨s15, ha89, h⟩ := bd_some h
        have K89 : Jw E (ΓM ad cy) RX12 cX12_isPast 6 (some .boolean) (some (.int rv), o) 89 [(0, .ref (ad 0)), (1, .int a1), (2, .int a2), (3, .int a3), (5, .int x5)] [.int s15] o := by
          clear ha89
          refine J_istore (lv' := [(4, .int s15), (0, .ref (ad 0)), (1, .int a1), (2, .int a2), (3, .int a3), (5, .int x5)]) dX12_isPast_89 (by decide) rfl ?_
          refine J_iinc (q := 5) (v := (x5 + (1 : Int32))) (lv' := [(5, .int (x5 + (1 : Int32))), (4, .int s15), (0, .ref (ad 0)), (1, .int a1), (2, .int a2), (3, .int a3)]) dX12_isPast_91 rfl (congrArg (fun z => x5 + z) ic_1) (by decide) rfl ?_
          refine J_tv (fun v16 ev16 => ?_)
          replace h := nm_some ev16 h
          refine J_goto (tgt := 23) dX12_isPast_94 (by decide) ?_
          exact J_sub [2, 3, 4, 5, 1, 0] rfl (ih _ _ h)
        clear h
        obtain ⟨kk84, ekk84, ha89⟩ := jn_some ha89
        have K84 : kk84 = some (s15) → Jw E (ΓM ad cy) RX12 cX12_isPast 6 (some .boolean) (some (.int rv), o) 84 [(0, .ref (ad 0)), (1, .int a1), (2, .int a2), (3, .int a3), (5, .int x5)] [] o := by
          subst ekk84
          clear ha89
          intro ha89
          refine J_iconst dX12_isPast_84 ic_1 ?_
          refine J_goto (tgt := 89) dX12_isPast_85 (by decide) ?_
          cases ha89
          exact J_sub [0, 1, 2, 3, 4] rfl (K89)
        clear ekk84
        refine J_if_ne (tgt := 84) dX12_isPast_46 (by decide) (fun c10 => ?_) (fun c10 => ?_)
        · replace ha89 := if_some ha89 c10
          exact J_sub [0, 1, 2, 3, 5] rfl (K84 ha89)
        · replace ha89 := it_some ha89 c10
          refine J_aload_n (q := 0) dX12_isPast_49 rfl rfl ?_
          refine gM_rows dX12_isPast_50 ?_
          refine J_bipush dX12_isPast_53 bp_100 ?_
          refine J_iload_n (q := 1) dX12_isPast_55 rfl rfl ?_
          refine J_imul dX12_isPast_56 ?_
          refine J_iload (q := 5) dX12_isPast_57 rfl ?_
          refine J_iadd dX12_isPast_59 ?_
          obtain ⟨hg11, ha89⟩ := gd_some ha89
          refine aM_lld (h := 13) (n := 800) dX12_isPast_60 (by decide) rfl hg11 ?_
          refine J_aload_n (q := 0) dX12_isPast_61 rfl rfl ?_
          refine J_iload (q := 5) dX12_isPast_62 rfl ?_
          refine J_aload_n (q := 0) dX12_isPast_64 rfl rfl ?_
          refine gM_knows dX12_isPast_65 ?_
          refine J_iconst dX12_isPast_68 ic_5 ?_
          refine J_iload (q := 5) dX12_isPast_69 rfl ?_
          refine J_imul dX12_isPast_71 ?_
          refine J_iload_n (q := 2) dX12_isPast_72 rfl rfl ?_
          refine J_iadd dX12_isPast_73 ?_
          obtain ⟨hg12, ha89⟩ := gd_some ha89
          refine aM_ld (h := 7) (n := 35) dX12_isPast_74 (by decide) rfl hg12 ?_
          refine J_iload_n (q := 3) dX12_isPast_75 rfl rfl ?_
          obtain ⟨r13, hq18, ha89⟩ := bd_some ha89
          refine kM_storyBy hi dX12_isPast_76 hq18 hL (by decide) (Nat.le_of_ble_eq_true rfl) ?_
          refine J_i2l dX12_isPast_79 ?_
          refine J_lcmp dX12_isPast_80 ?_
          refine J_if_ne (tgt := 88) dX12_isPast_81 (by decide) (fun c14 => ?_) (fun c14 => ?_)
          · replace ha89 := if_some ha89 c14
            refine J_iconst dX12_isPast_88 ic_0 ?_
            cases ha89
            exact J_sub [0, 1, 2, 3, 5] rfl (K89)
          · replace ha89 := it_some ha89 c14
            exact J_sub [0, 1, 2, 3, 5] rfl (K84 ha89)
set_option maxRecDepth 20000 in
set_option maxHeartbeats 4000000 in
theorem M_isPast_ok {E : Ec} {ad : Nat → Nat} {cy : Nat → ClassId} {rv : Int32} {o : Ob} {p1 : Int32} {p2 : Int32} {p3 : Int32} (hi : wl_inj (ΓM ad cy)) (hL : Lv E 2) (h : M_isPast o p1 p2 p3 = some rv) : Jw E (ΓM ad cy) RX12 cX12_isPast 6 (some .boolean) (some (.int rv), o) 0 [(0, .ref (ad 0)), (1, .int p1), (2, .int p2), (3, .int p3)] [] o := by
  unfold M_isPast at h
  refine J_aload_n (q := 0) dX12_isPast_0 rfl rfl ?_
  refine gM_rowMany dX12_isPast_1 ?_
  refine J_iload_n (q := 1) dX12_isPast_4 rfl rfl ?_
  obtain ⟨hg1, h⟩ := gd_some h
  refine aM_ld (h := 12) (n := 8) dX12_isPast_5 (by decide) rfl hg1 ?_
  refine J_aload_n (q := 0) dX12_isPast_6 rfl rfl ?_
  refine gM_many dX12_isPast_7 ?_
  obtain ⟨s3, ha18, h⟩ := bd_some h
  have K18 : Jw E (ΓM ad cy) RX12 cX12_isPast 6 (some .boolean) (some (.int rv), o) 18 [(0, .ref (ad 0)), (1, .int p1), (2, .int p2), (3, .int p3)] [.int s3] o := by
    clear ha18
    refine J_istore (lv' := [(4, .int s3), (0, .ref (ad 0)), (1, .int p1), (2, .int p2), (3, .int p3)]) dX12_isPast_18 (by decide) rfl ?_
    refine J_iconst dX12_isPast_20 ic_0 ?_
    refine J_istore (lv' := [(5, .int (0 : Int32)), (4, .int s3), (0, .ref (ad 0)), (1, .int p1), (2, .int p2), (3, .int p3)]) dX12_isPast_21 (by decide) rfl ?_
    refine J_sub [2, 3, 4, 5, 1, 0] rfl (M_isPast_L23_ok hi hL FU _ _ h)
  clear h
  refine J_icmp_gt (tgt := 17) dX12_isPast_10 (by decide) (fun c2 => ?_) (fun c2 => ?_)
  · replace ha18 := it_some ha18 c2
    refine J_iconst dX12_isPast_17 ic_0 ?_
    cases ha18
    exact J_sub [0, 1, 2, 3] rfl (K18)
  · replace ha18 := if_some ha18 c2
    refine J_iconst dX12_isPast_13 ic_1 ?_
    refine J_goto (tgt := 18) dX12_isPast_14 (by decide) ?_
    cases ha18
    exact J_sub [0, 1, 2, 3] rfl (K18)
set_option maxRecDepth 20000 in
set_option maxHeartbeats 4000000 in
theorem kX12_isPast {l : Launch} {D : va_G} {ad : Nat → Nat} {cy : Nat → ClassId} {rv : Int32} {o : Ob} {p1 : Int32} {p2 : Int32} {p3 : Int32} (hi : wl_inj (ΓM ad cy)) (h : M_isPast o p1 p2 p3 = some rv) : Cn l D (ΓM ad cy) yX12_isPast cX12_isPast 6 (some .boolean) 2 [.ref (ad 0), .int p1, .int p2, .int p3] o (some (.int rv), o) :=
  Cn.of hi rfl (Nat.le_of_ble_eq_true rfl) (fun _ _ _ hL => M_isPast_ok hi hL h)
set_option maxRecDepth 20000 in
set_option maxHeartbeats 4000000 in
theorem pdX12_isPast : (parseMethodDescriptor yX12_isPast.desc).map (fun d => d.parameters.length) = some 3 := by decide +kernel
set_option maxRecDepth 20000 in
set_option maxHeartbeats 4000000 in
theorem kM_isPast {E : Ec} {ad : Nat → Nat} {cy : Nat → ClassId} {cc : ByteArray} {nL : Nat} {rt : Option FieldType} {r : Option Value × Ob} {pc n : Nat} {lv : List (Nat × Value)} {st : List Value} {o : Ob} {p1 : Int32} {p2 : Int32} {p3 : Int32} {v : Int32} (hi : wl_inj (ΓM ad cy)) (hd : decode cc pc = .ok (.invokevirtual 282, 3)) (hq : M_isPast o p1 p2 p3 = some v) (hL : Lv E n) (hn : 2 + 1 ≤ n) (hW : (st.map fun v => v.category).sum ≤ 8) (k : Jw E (ΓM ad cy) RX12 cc nL rt r (pc + 3) lv (.int v :: st) o) : Jw E (ΓM ad cy) RX12 cc nL rt r pc lv (.int p3 :: .int p2 :: .int p1 :: .ref (ad 0) :: st) o :=
  J_callV (h := 0) (ci := 11) (av := [.int p1, .int p2, .int p3]) (q := (some (.int v), o)) (st := st) hd (kX12_isPast hi hq) tw_6_61 tw_6_63 tw_1_13 tw_6_64 sl_4_8 ⟨by decide, by decide, pdX12_isPast⟩ (Nat.le_of_ble_eq_true rfl) rfl rfl rfl rfl (by decide) hL hn hW k
set_option maxRecDepth 20000 in
set_option maxHeartbeats 4000000 in
theorem M_whichPast_L57_ok {E : Ec} {ad : Nat → Nat} {cy : Nat → ClassId} {rv : (Int32 × Ob)} {k103 : Int32 → Int32 → Int32 → Option (Int32 × Ob)} {o : Ob} {a1 : Int32} {a2 : Int32} {a3 : Int32} (hi : wl_inj (ΓM ad cy)) (hL : Lv E 3) (hk103 : ∀ (y5 : Int32) (y6 : Int32) (y7 : Int32), k103 y5 y6 y7 = some rv → Jw E (ΓM ad cy) RX12 cX12_whichPast 9 (some .int) (some (.int rv.1), rv.2) 103 [(3, .int a3), (5, .int y5), (6, .int y6), (7, .int y7)] [] o) : ∀ (n : Nat) (x5 : Int32) (x6 : Int32) (x7 : Int32) (x8 : Int32), M_whichPast_L57 k103 o a1 a2 a3 n x5 x6 x7 x8 = some rv → Jw E (ΓM ad cy) RX12 cX12_whichPast 9 (some .int) (some (.int rv.1), rv.2) 57 [(0, .ref (ad 0)), (1, .int a1), (2, .int a2), (3, .int a3), (5, .int x5), (6, .int x6), (7, .int x7), (8, .int x8)] [] o := by
  intro n
  induction n with
  | zero =>
    intro x5 x6 x7 x8 h
    rw [M_whichPast_L57] at h
    cases h
  | succ n ih =>
    intro x5 x6 x7 x8 h
    rw [M_whichPast_L57] at h
    refine J_iload (q := 7) dX12_whichPast_57 rfl ?_
    refine J_sipush dX12_whichPast_59 sp_4096 ?_
    refine J_icmp_ge (tgt := 103) dX12_whichPast_62 (by decide) (fun c9 => ?_) (fun c9 => ?_)
    · replace h := it_some h c9
      exact J_sub [3, 4, 5, 6] rfl (hk103 _ _ _ h)
    · replace h := if_some h c9
      refine J_aload_n (q := 0) dX12_whichPast_65 rfl rfl ?_
      refine J_iload_n (q := 1) dX12_whichPast_66 rfl rfl ?_
      refine J_iload_n (q := 2) dX12_whichPast_67 rfl rfl ?_
      refine J_iload (q := 7) dX12_whichPast_68 rfl ?_
      obtain ⟨r10, hq19, h⟩ := bd_some h
      refine kM_isPast hi dX12_whichPast_70 hq19 hL (by decide) (Nat.le_of_ble_eq_true rfl) ?_
      obtain ⟨x5_15, x6_16, x7_17, ha97, h⟩ := bd3_some h
      have K97 : Jw E (ΓM ad cy) RX12 cX12_whichPast 9 (some .int) (some (.int rv.1), rv.2) 97 [(0, .ref (ad 0)), (1, .int a1), (2, .int a2), (3, .int a3), (5, .int x5_15), (6, .int x6_16), (7, .int x7_17), (8, .int x8)] [] o := by
        clear ha97
        refine J_iinc (q := 7) (v := (x8 + (1 : Int32))) (lv' := [(8, .int (x8 + (1 : Int32))), (0, .ref (ad 0)), (1, .int a1), (2, .int a2), (3, .int a3), (5, .int x5_15), (6, .int x6_16), (7, .int x7_17)]) dX12_whichPast_97 rfl (congrArg (fun z => x8 + z) ic_1) (by decide) rfl ?_
        refine J_tv (fun v18 ev18 => ?_)
        replace h := nm_some ev18 h
        refine J_goto (tgt := 57) dX12_whichPast_100 (by decide) ?_
        exact J_sub [1, 2, 3, 4, 5, 6, 7, 0] rfl (ih _ _ _ _ h)
      clear h
      refine J_if_eq (tgt := 97) dX12_whichPast_73 (by decide) (fun c11 => ?_) (fun c11 => ?_)
      · replace ha97 := it_some ha97 c11
        cases ha97
        exact J_sub [0, 1, 2, 3, 4, 5, 6, 7] rfl (K97)
      · replace ha97 := if_some ha97 c11
        refine J_iinc (q := 4) (v := (x5 + (1 : Int32))) (lv' := [(5, .int (x5 + (1 : Int32))), (0, .ref (ad 0)), (1, .int a1), (2, .int a2), (3, .int a3), (6, .int x6), (7, .int x7), (8, .int x8)]) dX12_whichPast_76 rfl (congrArg (fun z => x5 + z) ic_1) (by decide) rfl ?_
        refine J_tv (fun v12 ev12 => ?_)
        replace ha97 := nm_some ev12 ha97
        refine J_iload (q := 5) dX12_whichPast_79 rfl ?_
        obtain ⟨s14, ha91, ha97⟩ := bd_some ha97
        have K91 : Jw E (ΓM ad cy) RX12 cX12_whichPast 9 (some .int) (some (.int rv.1), rv.2) 91 [(0, .ref (ad 0)), (1, .int a1), (2, .int a2), (3, .int a3), (5, .int v12), (8, .int x8)] [.int s14] o := by
          clear ha91
          refine J_istore (lv' := [(6, .int s14), (0, .ref (ad 0)), (1, .int a1), (2, .int a2), (3, .int a3), (5, .int v12), (8, .int x8)]) dX12_whichPast_91 (by decide) rfl ?_
          refine J_iload (q := 6) dX12_whichPast_93 rfl ?_
          refine J_istore (lv' := [(7, .int x8), (6, .int s14), (0, .ref (ad 0)), (1, .int a1), (2, .int a2), (3, .int a3), (5, .int v12), (8, .int x8)]) dX12_whichPast_95 (by decide) rfl ?_
          cases ha97
          exact J_sub [2, 3, 4, 5, 6, 1, 0, 7] rfl (K97)
        clear ha97
        refine J_if_ge (tgt := 89) dX12_whichPast_81 (by decide) (fun c13 => ?_) (fun c13 => ?_)
        · replace ha91 := it_some ha91 c13
          refine J_iload (q := 5) dX12_whichPast_89 rfl ?_
          cases ha91
          exact J_sub [1, 2, 3, 4, 0, 7] rfl (K91)
        · replace ha91 := if_some ha91 c13
          refine J_iload (q := 7) dX12_whichPast_84 rfl ?_
          refine J_goto (tgt := 91) dX12_whichPast_86 (by decide) ?_
          cases ha91
          exact J_sub [1, 2, 3, 4, 0, 7] rfl (K91)
set_option maxRecDepth 20000 in
set_option maxHeartbeats 4000000 in
theorem M_whichPast_ok {E : Ec} {ad : Nat → Nat} {cy : Nat → ClassId} {rv : (Int32 × Ob)} {o : Ob} {p1 : Int32} {p2 : Int32} {p3 : Int32} (hi : wl_inj (ΓM ad cy)) (hL : Lv E 3) (h : M_whichPast o p1 p2 p3 = some rv) : Jw E (ΓM ad cy) RX12 cX12_whichPast 9 (some .int) (some (.int rv.1), rv.2) 0 [(0, .ref (ad 0)), (1, .int p1), (2, .int p2), (3, .int p3)] [] o := by
  unfold M_whichPast at h
  refine J_aload_n (q := 0) dX12_whichPast_0 rfl rfl ?_
  refine J_iconst dX12_whichPast_1 ic_0 ?_
  refine pM_thrown dX12_whichPast_2 ?_
  refine J_tw (fun o1 eo1 => ?_)
  replace h := nm_some eo1 h
  refine J_iload_n (q := 2) dX12_whichPast_5 rfl rfl ?_
  obtain ⟨r2, hq25, h⟩ := bd_some h
  refine kM_isThing hi dX12_whichPast_6 hq25 hL (by decide) (Nat.le_of_ble_eq_true rfl) ?_
  obtain ⟨s7, ha33, h⟩ := bd_some h
  have K33 : Jw E (ΓM ad cy) RX12 cX12_whichPast 9 (some .int) (some (.int rv.1), rv.2) 33 [(0, .ref (ad 0)), (1, .int p1), (2, .int p2), (3, .int p3)] [.int s7] o1 := by
    clear ha33
    refine J_istore (lv' := [(4, .int s7), (0, .ref (ad 0)), (1, .int p1), (2, .int p2), (3, .int p3)]) dX12_whichPast_33 (by decide) rfl ?_
    refine J_iload (q := 0) dX12_whichPast_35 rfl ?_
    refine J_if_ge (tgt := 43) dX12_whichPast_37 (by decide) (fun c8 => ?_) (fun c8 => ?_)
    · replace h := it_some h c8
      refine J_iconst dX12_whichPast_43 ic_0 ?_
      refine J_istore (lv' := [(5, .int (0 : Int32)), (4, .int s7), (0, .ref (ad 0)), (1, .int p1), (2, .int p2), (3, .int p3)]) dX12_whichPast_44 (by decide) rfl ?_
      refine J_bipush dX12_whichPast_46 bp_m4 ?_
      refine J_istore (lv' := [(6, .int (-4 : Int32)), (5, .int (0 : Int32)), (4, .int s7), (0, .ref (ad 0)), (1, .int p1), (2, .int p2), (3, .int p3)]) dX12_whichPast_48 (by decide) rfl ?_
      refine J_bipush dX12_whichPast_50 bp_m4 ?_
      refine J_istore (lv' := [(7, .int (-4 : Int32)), (6, .int (-4 : Int32)), (5, .int (0 : Int32)), (4, .int s7), (0, .ref (ad 0)), (1, .int p1), (2, .int p2), (3, .int p3)]) dX12_whichPast_52 (by decide) rfl ?_
      refine J_iconst dX12_whichPast_54 ic_0 ?_
      refine J_istore (lv' := [(8, .int (0 : Int32)), (7, .int (-4 : Int32)), (6, .int (-4 : Int32)), (5, .int (0 : Int32)), (4, .int s7), (0, .ref (ad 0)), (1, .int p1), (2, .int p2), (3, .int p3)]) dX12_whichPast_55 (by decide) rfl ?_
      refine J_sub [5, 6, 7, 8, 3, 2, 1, 0] rfl (M_whichPast_L57_ok hi hL (fun x5_20 x6_21 x7_22 h => ?_) FU _ _ _ _ h)
      refine J_iload_n (q := 0) dX12_whichPast_103 rfl rfl ?_
      refine J_if_ne (tgt := 112) dX12_whichPast_104 (by decide) (fun c23 => ?_) (fun c23 => ?_)
      · replace h := if_some h c23
        refine J_iload_n (q := 0) dX12_whichPast_112 rfl rfl ?_
        refine J_iconst dX12_whichPast_113 ic_1 ?_
        refine J_icmp_ne (tgt := 122) dX12_whichPast_114 (by decide) (fun c24 => ?_) (fun c24 => ?_)
        · replace h := if_some h c24
          refine J_iload (q := 3) dX12_whichPast_122 rfl ?_
          exact J_iret dX12_whichPast_124 (rt_i h) rfl
        · replace h := it_some h c24
          refine J_iload (q := 2) dX12_whichPast_117 rfl ?_
          refine J_goto (tgt := 124) dX12_whichPast_119 (by decide) ?_
          exact J_iret dX12_whichPast_124 (rt_i h) rfl
      · replace h := it_some h c23
        refine J_iload (q := 1) dX12_whichPast_107 rfl ?_
        refine J_goto (tgt := 124) dX12_whichPast_109 (by decide) ?_
        exact J_iret dX12_whichPast_124 (rt_i h) rfl
    · replace h := if_some h c8
      refine J_iload (q := 0) dX12_whichPast_40 rfl ?_
      exact J_iret dX12_whichPast_42 (rt_i h) rfl
  clear h
  obtain ⟨kk32, ekk32, ha33⟩ := jn_some ha33
  have K32 : kk32 = some (s7) → Jw E (ΓM ad cy) RX12 cX12_whichPast 9 (some .int) (some (.int rv.1), rv.2) 32 [(0, .ref (ad 0)), (1, .int p1), (2, .int p2), (3, .int p3)] [] o1 := by
    subst ekk32
    clear ha33
    intro ha33
    refine J_iconst dX12_whichPast_32 ic_m1 ?_
    cases ha33
    exact J_sub [0, 1, 2, 3] rfl (K33)
  clear ekk32
  refine J_if_eq (tgt := 32) dX12_whichPast_9 (by decide) (fun c3 => ?_) (fun c3 => ?_)
  · replace ha33 := it_some ha33 c3
    exact J_sub [0, 1, 2, 3] rfl (K32 ha33)
  · replace ha33 := if_some ha33 c3
    refine J_iload_n (q := 3) dX12_whichPast_12 rfl rfl ?_
    refine J_i2l dX12_whichPast_13 ?_
    refine J_lconst dX12_whichPast_14 lc_0 ?_
    refine J_ldc2 dX12_whichPast_15 tw_5_159 ?_
    obtain ⟨r4, hq26, ha33⟩ := bd_some ha33
    refine kM_in hi dX12_whichPast_18 hq26 hL (by decide) (Nat.le_of_ble_eq_true rfl) ?_
    refine J_if_eq (tgt := 32) dX12_whichPast_21 (by decide) (fun c5 => ?_) (fun c5 => ?_)
    · replace ha33 := it_some ha33 c5
      exact J_sub [0, 1, 2, 3] rfl (K32 ha33)
    · replace ha33 := if_some ha33 c5
      refine J_aload_n (q := 0) dX12_whichPast_24 rfl rfl ?_
      refine J_iload_n (q := 1) dX12_whichPast_25 rfl rfl ?_
      obtain ⟨r6, hq27, ha33⟩ := bd_some ha33
      refine kM_wrongRow hi dX12_whichPast_26 hq27 hL (by decide) (Nat.le_of_ble_eq_true rfl) ?_
      refine J_goto (tgt := 33) dX12_whichPast_29 (by decide) ?_
      cases ha33
      exact J_sub [0, 1, 2, 3] rfl (K33)
set_option maxRecDepth 20000 in
set_option maxHeartbeats 4000000 in
theorem kX12_whichPast {l : Launch} {D : va_G} {ad : Nat → Nat} {cy : Nat → ClassId} {rv : (Int32 × Ob)} {o : Ob} {p1 : Int32} {p2 : Int32} {p3 : Int32} (hi : wl_inj (ΓM ad cy)) (h : M_whichPast o p1 p2 p3 = some rv) : Cn l D (ΓM ad cy) yX12_whichPast cX12_whichPast 9 (some .int) 3 [.ref (ad 0), .int p1, .int p2, .int p3] o (some (.int rv.1), rv.2) :=
  Cn.of hi rfl (Nat.le_of_ble_eq_true rfl) (fun _ _ _ hL => M_whichPast_ok hi hL h)
set_option maxRecDepth 20000 in
set_option maxHeartbeats 4000000 in
theorem M_two_L55_ok {E : Ec} {ad : Nat → Nat} {cy : Nat → ClassId} {rv : (Int32 × Ob)} {k165 : Ob → Option (Int32 × Ob)} {a1 : Int32} {a2 : Int32} {a3 : Int32} {a4 : Int32} (hi : wl_inj (ΓM ad cy)) (hL : Lv E 6) (hk165 : ∀ (yw : Ob), k165 yw = some rv → Jw E (ΓM ad cy) RX12 cX12_two 8 (some .int) (some (.int rv.1), rv.2) 165 [(0, .ref (ad 0))] [] yw) : ∀ (n : Nat) (o : Ob) (x5 : Int32), M_two_L55 k165 a1 a2 a3 a4 n o x5 = some rv → Jw E (ΓM ad cy) RX12 cX12_two 8 (some .int) (some (.int rv.1), rv.2) 55 [(0, .ref (ad 0)), (1, .int a1), (2, .int a2), (3, .int a3), (4, .int a4), (5, .int x5)] [] o := by
  intro n
  induction n with
  | zero =>
    intro o x5 h
    rw [M_two_L55] at h
    cases h
  | succ n ih =>
    intro o x5 h
    rw [M_two_L55] at h
    refine J_iload (q := 5) dX12_two_55 rfl ?_
    refine J_iconst dX12_two_57 ic_4 ?_
    refine J_icmp_ge (tgt := 165) dX12_two_58 (by decide) (fun c12 => ?_) (fun c12 => ?_)
    · replace h := it_some h c12
      exact J_sub [0] rfl (hk165 _ h)
    · replace h := if_some h c12
      refine J_aload_n (q := 0) dX12_two_61 rfl rfl ?_
      refine gM_caring dX12_two_62 ?_
      refine J_iload_n (q := 1) dX12_two_65 rfl rfl ?_
      refine J_iload (q := 5) dX12_two_66 rfl ?_
      refine J_iconst dX12_two_68 ic_2 ?_
      refine J_idiv dX12_two_69 (by decide) ?_
      refine J_iconst dX12_two_70 ic_1 ?_
      obtain ⟨s15, ha84, h⟩ := bd_some h
      have K84 : Jw E (ΓM ad cy) RX12 cX12_two 8 (some .int) (some (.int rv.1), rv.2) 84 [(0, .ref (ad 0)), (1, .int a1), (2, .int a2), (3, .int a3), (4, .int a4), (5, .int x5)] [.int s15, .int a1, .ref (ad 6)] o := by
        clear ha84
        obtain ⟨hg16, h⟩ := gd_some h
        refine aM_st (h := 6) (n := 7) dX12_two_84 (by decide) rfl hg16 ?_
        refine J_tw (fun o17 eo17 => ?_)
        replace h := nm_some eo17 h
        refine J_aload_n (q := 0) dX12_two_85 rfl rfl ?_
        refine gM_caring dX12_two_86 ?_
        refine J_iload_n (q := 2) dX12_two_89 rfl rfl ?_
        refine J_iload (q := 5) dX12_two_90 rfl ?_
        refine J_iconst dX12_two_92 ic_2 ?_
        refine J_irem dX12_two_93 (by decide) ?_
        refine J_iconst dX12_two_94 ic_1 ?_
        obtain ⟨s20, ha108, h⟩ := bd_some h
        have K108 : Jw E (ΓM ad cy) RX12 cX12_two 8 (some .int) (some (.int rv.1), rv.2) 108 [(0, .ref (ad 0)), (1, .int a1), (2, .int a2), (3, .int a3), (4, .int a4), (5, .int x5)] [.int s20, .int a2, .ref (ad 6)] o17 := by
          clear ha108
          obtain ⟨hg21, h⟩ := gd_some h
          refine aM_st (h := 6) (n := 7) dX12_two_108 (by decide) rfl hg21 ?_
          refine J_tw (fun o22 eo22 => ?_)
          replace h := nm_some eo22 h
          refine J_aload_n (q := 0) dX12_two_109 rfl rfl ?_
          refine J_iload (q := 4) dX12_two_110 rfl ?_
          obtain ⟨o23, hq32, h⟩ := bd_some h
          refine kM_goDays hi dX12_two_112 hq32 hL (by decide) (Nat.le_of_ble_eq_true rfl) ?_
          refine J_aload_n (q := 0) dX12_two_115 rfl rfl ?_
          refine gM_gains dX12_two_116 ?_
          refine J_iconst dX12_two_119 ic_2 ?_
          refine J_iload (q := 5) dX12_two_120 rfl ?_
          refine J_imul dX12_two_122 ?_
          refine J_aload_n (q := 0) dX12_two_123 rfl rfl ?_
          refine J_iload_n (q := 1) dX12_two_124 rfl rfl ?_
          obtain ⟨r24, hq33, h⟩ := bd_some h
          refine kM_worthOf hi dX12_two_125 hq33 hL (by decide) (Nat.le_of_ble_eq_true rfl) ?_
          refine J_iload (q := 5) dX12_two_128 rfl ?_
          refine J_iconst dX12_two_130 ic_2 ?_
          refine J_idiv dX12_two_131 (by decide) ?_
          refine J_isub dX12_two_132 ?_
          obtain ⟨hg25, h⟩ := gd_some h
          refine aM_st (h := 21) (n := 8) dX12_two_133 (by decide) rfl hg25 ?_
          refine J_tw (fun o26 eo26 => ?_)
          replace h := nm_some eo26 h
          refine J_aload_n (q := 0) dX12_two_134 rfl rfl ?_
          refine gM_gains dX12_two_135 ?_
          refine J_iconst dX12_two_138 ic_2 ?_
          refine J_iload (q := 5) dX12_two_139 rfl ?_
          refine J_imul dX12_two_141 ?_
          refine J_iconst dX12_two_142 ic_1 ?_
          refine J_iadd dX12_two_143 ?_
          refine J_aload_n (q := 0) dX12_two_144 rfl rfl ?_
          refine J_iload_n (q := 2) dX12_two_145 rfl rfl ?_
          obtain ⟨r27, hq34, h⟩ := bd_some h
          refine kM_worthOf hi dX12_two_146 hq34 hL (by decide) (Nat.le_of_ble_eq_true rfl) ?_
          refine J_iload (q := 5) dX12_two_149 rfl ?_
          refine J_iconst dX12_two_151 ic_2 ?_
          refine J_irem dX12_two_152 (by decide) ?_
          refine J_isub dX12_two_153 ?_
          obtain ⟨hg28, h⟩ := gd_some h
          refine aM_st (h := 21) (n := 8) dX12_two_154 (by decide) rfl hg28 ?_
          refine J_tw (fun o29 eo29 => ?_)
          replace h := nm_some eo29 h
          refine J_aload_n (q := 0) dX12_two_155 rfl rfl ?_
          obtain ⟨o30, hq35, h⟩ := bd_some h
          refine kM_again hi dX12_two_156 hq35 hL (by decide) (Nat.le_of_ble_eq_true rfl) ?_
          refine J_iinc (q := 5) (v := (x5 + (1 : Int32))) (lv' := [(5, .int (x5 + (1 : Int32))), (0, .ref (ad 0)), (1, .int a1), (2, .int a2), (3, .int a3), (4, .int a4)]) dX12_two_159 rfl (congrArg (fun z => x5 + z) ic_1) (by decide) rfl ?_
          refine J_tv (fun v31 ev31 => ?_)
          replace h := nm_some ev31 h
          refine J_goto (tgt := 55) dX12_two_162 (by decide) ?_
          exact J_sub [1, 2, 3, 4, 5, 0] rfl (ih _ _ h)
        clear h
        refine J_icmp_ne (tgt := 102) dX12_two_95 (by decide) (fun c18 => ?_) (fun c18 => ?_)
        · replace ha108 := if_some ha108 c18
          refine J_aload_n (q := 0) dX12_two_102 rfl rfl ?_
          refine gM_caring dX12_two_103 ?_
          refine J_iload_n (q := 2) dX12_two_106 rfl rfl ?_
          obtain ⟨hg19, ha108⟩ := gd_some ha108
          refine aM_ld (h := 6) (n := 7) dX12_two_107 (by decide) rfl hg19 ?_
          cases ha108
          exact J_sub [0, 1, 2, 3, 4, 5] rfl (K108)
        · replace ha108 := it_some ha108 c18
          refine J_iload_n (q := 3) dX12_two_98 rfl rfl ?_
          refine J_goto (tgt := 108) dX12_two_99 (by decide) ?_
          cases ha108
          exact J_sub [0, 1, 2, 3, 4, 5] rfl (K108)
      clear h
      refine J_icmp_ne (tgt := 78) dX12_two_71 (by decide) (fun c13 => ?_) (fun c13 => ?_)
      · replace ha84 := if_some ha84 c13
        refine J_aload_n (q := 0) dX12_two_78 rfl rfl ?_
        refine gM_caring dX12_two_79 ?_
        refine J_iload_n (q := 1) dX12_two_82 rfl rfl ?_
        obtain ⟨hg14, ha84⟩ := gd_some ha84
        refine aM_ld (h := 6) (n := 7) dX12_two_83 (by decide) rfl hg14 ?_
        cases ha84
        exact J_sub [0, 1, 2, 3, 4, 5] rfl (K84)
      · replace ha84 := it_some ha84 c13
        refine J_iload_n (q := 3) dX12_two_74 rfl rfl ?_
        refine J_goto (tgt := 84) dX12_two_75 (by decide) ?_
        cases ha84
        exact J_sub [0, 1, 2, 3, 4, 5] rfl (K84)
set_option maxRecDepth 20000 in
set_option maxHeartbeats 4000000 in
theorem M_two_L168_ok {E : Ec} {ad : Nat → Nat} {cy : Nat → ClassId} {rv : (Int32 × Ob)} {k250 : Int32 → Option (Int32 × Ob)} {o : Ob} (hi : wl_inj (ΓM ad cy)) (hL : Lv E 6) (hk250 : ∀ (y5 : Int32), k250 y5 = some rv → Jw E (ΓM ad cy) RX12 cX12_two 8 (some .int) (some (.int rv.1), rv.2) 250 [(5, .int y5)] [] o) : ∀ (n : Nat) (x5 : Int32), M_two_L168 k250 o n x5 = some rv → Jw E (ΓM ad cy) RX12 cX12_two 8 (some .int) (some (.int rv.1), rv.2) 168 [(0, .ref (ad 0)), (5, .int x5)] [] o := by
  intro n
  induction n with
  | zero =>
    intro x5 h
    rw [M_two_L168] at h
    cases h
  | succ n ih =>
    intro x5 h
    rw [M_two_L168] at h
    refine J_iload (q := 1) dX12_two_168 rfl ?_
    refine J_iconst dX12_two_170 ic_4 ?_
    refine J_icmp_ge (tgt := 269) dX12_two_171 (by decide) (fun c37 => ?_) (fun c37 => ?_)
    · replace h := it_some h c37
      refine J_bipush dX12_two_269 bp_m4 ?_
      exact J_iret dX12_two_271 (rt_i h) rfl
    · replace h := if_some h c37
      refine J_iconst dX12_two_174 ic_2 ?_
      refine J_iconst dX12_two_175 ic_1 ?_
      refine J_iload (q := 1) dX12_two_176 rfl ?_
      refine J_iconst dX12_two_178 ic_2 ?_
      refine J_idiv dX12_two_179 (by decide) ?_
      refine J_isub dX12_two_180 ?_
      refine J_imul dX12_two_181 ?_
      refine J_iload (q := 1) dX12_two_182 rfl ?_
      refine J_iconst dX12_two_184 ic_2 ?_
      refine J_irem dX12_two_185 (by decide) ?_
      refine J_iadd dX12_two_186 ?_
      refine J_ti (fun v38 ev38 => ?_)
      replace h := nm_some ev38 h
      refine J_istore (lv' := [(6, .int v38), (0, .ref (ad 0)), (5, .int x5)]) dX12_two_187 (by decide) rfl ?_
      refine J_iconst dX12_two_189 ic_2 ?_
      refine J_iload (q := 2) dX12_two_190 rfl ?_
      refine J_iconst dX12_two_192 ic_2 ?_
      refine J_idiv dX12_two_193 (by decide) ?_
      refine J_imul dX12_two_194 ?_
      refine J_iconst dX12_two_195 ic_1 ?_
      refine J_iadd dX12_two_196 ?_
      refine J_iload (q := 2) dX12_two_197 rfl ?_
      refine J_iconst dX12_two_199 ic_2 ?_
      refine J_irem dX12_two_200 (by decide) ?_
      refine J_isub dX12_two_201 ?_
      refine J_ti (fun v39 ev39 => ?_)
      replace h := nm_some ev39 h
      refine J_istore (lv' := [(7, .int v39), (6, .int v38), (0, .ref (ad 0)), (5, .int x5)]) dX12_two_202 (by decide) rfl ?_
      refine J_aload_n (q := 2) dX12_two_204 rfl rfl ?_
      refine gM_gains dX12_two_205 ?_
      refine J_iconst dX12_two_208 ic_2 ?_
      refine J_iload (q := 3) dX12_two_209 rfl ?_
      refine J_imul dX12_two_211 ?_
      obtain ⟨hg40, h⟩ := gd_some h
      refine aM_ld (h := 21) (n := 8) dX12_two_212 (by decide) rfl hg40 ?_
      refine J_aload_n (q := 2) dX12_two_213 rfl rfl ?_
      refine gM_gains dX12_two_214 ?_
      refine J_iconst dX12_two_217 ic_2 ?_
      refine J_iload (q := 1) dX12_two_218 rfl ?_
      refine J_imul dX12_two_220 ?_
      obtain ⟨hg41, h⟩ := gd_some h
      refine aM_ld (h := 21) (n := 8) dX12_two_221 (by decide) rfl hg41 ?_
      obtain ⟨kk263, ekk263, h⟩ := jn_some h
      have K263 : kk263 = some rv → Jw E (ΓM ad cy) RX12 cX12_two 8 (some .int) (some (.int rv.1), rv.2) 263 [(0, .ref (ad 0)), (5, .int x5)] [] o := by
        subst ekk263
        clear h
        intro h
        refine J_iinc (q := 1) (v := (x5 + (1 : Int32))) (lv' := [(5, .int (x5 + (1 : Int32))), (0, .ref (ad 0))]) dX12_two_263 rfl (congrArg (fun z => x5 + z) ic_1) (by decide) rfl ?_
        refine J_tv (fun v46 ev46 => ?_)
        replace h := nm_some ev46 h
        refine J_goto (tgt := 168) dX12_two_266 (by decide) ?_
        exact J_sub [1, 0] rfl (ih _ h)
      clear ekk263
      refine J_icmp_lt (tgt := 263) dX12_two_222 (by decide) (fun c42 => ?_) (fun c42 => ?_)
      · replace h := it_some h c42
        exact J_sub [2, 3] rfl (K263 h)
      · replace h := if_some h c42
        refine J_aload_n (q := 2) dX12_two_225 rfl rfl ?_
        refine gM_gains dX12_two_226 ?_
        refine J_iconst dX12_two_229 ic_2 ?_
        refine J_iload (q := 3) dX12_two_230 rfl ?_
        refine J_imul dX12_two_232 ?_
        refine J_iconst dX12_two_233 ic_1 ?_
        refine J_iadd dX12_two_234 ?_
        obtain ⟨hg43, h⟩ := gd_some h
        refine aM_ld (h := 21) (n := 8) dX12_two_235 (by decide) rfl hg43 ?_
        refine J_aload_n (q := 2) dX12_two_236 rfl rfl ?_
        refine gM_gains dX12_two_237 ?_
        refine J_iconst dX12_two_240 ic_2 ?_
        refine J_iload (q := 0) dX12_two_241 rfl ?_
        refine J_imul dX12_two_243 ?_
        refine J_iconst dX12_two_244 ic_1 ?_
        refine J_iadd dX12_two_245 ?_
        obtain ⟨hg44, h⟩ := gd_some h
        refine aM_ld (h := 21) (n := 8) dX12_two_246 (by decide) rfl hg44 ?_
        refine J_icmp_lt (tgt := 263) dX12_two_247 (by decide) (fun c45 => ?_) (fun c45 => ?_)
        · replace h := it_some h c45
          exact J_sub [2, 3] rfl (K263 h)
        · replace h := if_some h c45
          exact J_sub [3] rfl (hk250 _ h)
set_option maxRecDepth 20000 in
set_option maxHeartbeats 4000000 in
theorem M_two_ok {E : Ec} {ad : Nat → Nat} {cy : Nat → ClassId} {rv : (Int32 × Ob)} {o : Ob} {p1 : Int32} {p2 : Int32} {p3 : Int32} {p4 : Int32} (hi : wl_inj (ΓM ad cy)) (hL : Lv E 6) (h : M_two o p1 p2 p3 p4 = some rv) : Jw E (ΓM ad cy) RX12 cX12_two 8 (some .int) (some (.int rv.1), rv.2) 0 [(0, .ref (ad 0)), (1, .int p1), (2, .int p2), (3, .int p3), (4, .int p4)] [] o := by
  unfold M_two at h
  refine J_aload_n (q := 0) dX12_two_0 rfl rfl ?_
  refine J_iconst dX12_two_1 ic_0 ?_
  refine pM_thrown dX12_two_2 ?_
  refine J_tw (fun o1 eo1 => ?_)
  replace h := nm_some eo1 h
  refine J_aload_n (q := 0) dX12_two_5 rfl rfl ?_
  refine J_iload_n (q := 1) dX12_two_6 rfl rfl ?_
  obtain ⟨r2, hq48, h⟩ := bd_some h
  refine kM_isOne hi dX12_two_7 hq48 hL (by decide) (Nat.le_of_ble_eq_true rfl) ?_
  refine J_if_eq (tgt := 46) dX12_two_10 (by decide) (fun c3 => ?_) (fun c3 => ?_)
  · replace h := it_some h c3
    refine J_iconst dX12_two_46 ic_m1 ?_
    exact J_iret dX12_two_47 (rt_i h) rfl
  · replace h := if_some h c3
    refine J_aload_n (q := 0) dX12_two_13 rfl rfl ?_
    refine J_iload_n (q := 2) dX12_two_14 rfl rfl ?_
    obtain ⟨r4, hq49, h⟩ := bd_some h
    refine kM_isOne hi dX12_two_15 hq49 hL (by decide) (Nat.le_of_ble_eq_true rfl) ?_
    refine J_if_eq (tgt := 46) dX12_two_18 (by decide) (fun c5 => ?_) (fun c5 => ?_)
    · replace h := it_some h c5
      refine J_iconst dX12_two_46 ic_m1 ?_
      exact J_iret dX12_two_47 (rt_i h) rfl
    · replace h := if_some h c5
      refine J_iload_n (q := 1) dX12_two_21 rfl rfl ?_
      refine J_iload_n (q := 2) dX12_two_22 rfl rfl ?_
      refine J_icmp_eq (tgt := 46) dX12_two_23 (by decide) (fun c6 => ?_) (fun c6 => ?_)
      · replace h := it_some h c6
        refine J_iconst dX12_two_46 ic_m1 ?_
        exact J_iret dX12_two_47 (rt_i h) rfl
      · replace h := if_some h c6
        refine J_iload_n (q := 3) dX12_two_26 rfl rfl ?_
        obtain ⟨r7, hq50, h⟩ := bd_some h
        refine kM_isThing hi dX12_two_27 hq50 hL (by decide) (Nat.le_of_ble_eq_true rfl) ?_
        refine J_if_eq (tgt := 46) dX12_two_30 (by decide) (fun c8 => ?_) (fun c8 => ?_)
        · replace h := it_some h c8
          refine J_iconst dX12_two_46 ic_m1 ?_
          exact J_iret dX12_two_47 (rt_i h) rfl
        · replace h := if_some h c8
          refine J_iload (q := 4) dX12_two_33 rfl ?_
          refine J_i2l dX12_two_35 ?_
          refine J_lconst dX12_two_36 lc_1 ?_
          refine J_ldc2 dX12_two_37 tw_6_69 ?_
          obtain ⟨r9, hq51, h⟩ := bd_some h
          refine kM_in hi dX12_two_40 hq51 hL (by decide) (Nat.le_of_ble_eq_true rfl) ?_
          refine J_if_ne (tgt := 48) dX12_two_43 (by decide) (fun c10 => ?_) (fun c10 => ?_)
          · replace h := if_some h c10
            refine J_aload_n (q := 0) dX12_two_48 rfl rfl ?_
            obtain ⟨o11, hq52, h⟩ := bd_some h
            refine kM_think hi dX12_two_49 hq52 hL (by decide) (Nat.le_of_ble_eq_true rfl) ?_
            refine J_iconst dX12_two_52 ic_0 ?_
            refine J_istore (lv' := [(5, .int (0 : Int32)), (0, .ref (ad 0)), (1, .int p1), (2, .int p2), (3, .int p3), (4, .int p4)]) dX12_two_53 (by decide) rfl ?_
            refine J_sub [1, 2, 3, 4, 5, 0] rfl (M_two_L55_ok hi hL (fun o36 h => ?_) FU _ _ h)
            refine J_iconst dX12_two_165 ic_0 ?_
            refine J_istore (lv' := [(5, .int (0 : Int32)), (0, .ref (ad 0))]) dX12_two_166 (by decide) rfl ?_
            refine J_sub [1, 0] rfl (M_two_L168_ok hi hL (fun x5_47 h => ?_) FU _ h)
            refine J_bipush dX12_two_250 bp_10 ?_
            refine J_iload (q := 0) dX12_two_252 rfl ?_
            refine J_iconst dX12_two_254 ic_2 ?_
            refine J_idiv dX12_two_255 (by decide) ?_
            refine J_imul dX12_two_256 ?_
            refine J_iload (q := 0) dX12_two_257 rfl ?_
            refine J_iconst dX12_two_259 ic_2 ?_
            refine J_irem dX12_two_260 (by decide) ?_
            refine J_iadd dX12_two_261 ?_
            exact J_iret dX12_two_262 (rt_i h) rfl
          · replace h := it_some h c10
            refine J_iconst dX12_two_46 ic_m1 ?_
            exact J_iret dX12_two_47 (rt_i h) rfl
set_option maxRecDepth 20000 in
set_option maxHeartbeats 4000000 in
theorem kX12_two {l : Launch} {D : va_G} {ad : Nat → Nat} {cy : Nat → ClassId} {rv : (Int32 × Ob)} {o : Ob} {p1 : Int32} {p2 : Int32} {p3 : Int32} {p4 : Int32} (hi : wl_inj (ΓM ad cy)) (h : M_two o p1 p2 p3 p4 = some rv) : Cn l D (ΓM ad cy) yX12_two cX12_two 8 (some .int) 6 [.ref (ad 0), .int p1, .int p2, .int p3, .int p4] o (some (.int rv.1), rv.2) :=
  Cn.of hi rfl (Nat.le_of_ble_eq_true rfl) (fun _ _ _ hL => M_two_ok hi hL h)
set_option maxRecDepth 20000 in
set_option maxHeartbeats 4000000 in
theorem M_divisor_L6_ok {E : Ec} {ad : Nat → Nat} {cy : Nat → ClassId} {rv : Int64} {o : Ob} (hi : wl_inj (ΓM ad cy)) (hL : Lv E 0) : ∀ (n : Nat) (x4 : Int64) (x6 : Int64), M_divisor_L6 o n x4 x6 = some rv → Jw E (ΓM ad cy) RX12 cX12_divisor 10 (some .long) (some (.long rv), o) 6 [(4, .long x4), (6, .long x6)] [] o := by
  intro n
  induction n with
  | zero =>
    intro x4 x6 h
    rw [M_divisor_L6] at h
    cases h
  | succ n ih =>
    intro x4 x6 h
    rw [M_divisor_L6] at h
    refine J_lload (q := 1) dX12_divisor_6 rfl ?_
    refine J_lconst dX12_divisor_8 lc_0 ?_
    refine J_lcmp dX12_divisor_9 ?_
    refine J_if_eq (tgt := 31) dX12_divisor_10 (by decide) (fun c1 => ?_) (fun c1 => ?_)
    · replace h := it_some h c1
      refine J_lload (q := 0) dX12_divisor_31 rfl ?_
      exact J_lret dX12_divisor_33 (rt_pl h) rfl
    · replace h := if_some h c1
      refine J_lload (q := 0) dX12_divisor_13 rfl ?_
      refine J_lload (q := 1) dX12_divisor_15 rfl ?_
      obtain ⟨hg2, h⟩ := gd_some h
      refine J_lrem dX12_divisor_17 (nz_J hg2) ?_
      refine J_tl (fun v3 ev3 => ?_)
      replace h := nm_some ev3 h
      refine J_lstore (lv' := [(8, .long v3), (4, .long x4), (6, .long x6)]) dX12_divisor_18 (by decide) rfl ?_
      refine J_lload (q := 2) dX12_divisor_20 rfl ?_
      refine J_lstore (lv' := [(4, .long x6), (8, .long v3), (6, .long x6)]) dX12_divisor_22 (by decide) rfl ?_
      refine J_lload (q := 1) dX12_divisor_24 rfl ?_
      refine J_lstore (lv' := [(6, .long v3), (4, .long x6), (8, .long v3)]) dX12_divisor_26 (by decide) rfl ?_
      refine J_goto (tgt := 6) dX12_divisor_28 (by decide) ?_
      exact J_sub [1, 0] rfl (ih _ _ h)
set_option maxRecDepth 20000 in
set_option maxHeartbeats 4000000 in
theorem M_divisor_ok {E : Ec} {ad : Nat → Nat} {cy : Nat → ClassId} {rv : Int64} {o : Ob} {p0 : Int64} {p2 : Int64} (hi : wl_inj (ΓM ad cy)) (hL : Lv E 0) (h : M_divisor o p0 p2 = some rv) : Jw E (ΓM ad cy) RX12 cX12_divisor 10 (some .long) (some (.long rv), o) 0 [(0, .long p0), (2, .long p2)] [] o := by
  unfold M_divisor at h
  refine J_lload_n (q := 0) dX12_divisor_0 rfl rfl ?_
  refine J_lstore (lv' := [(4, .long p0), (0, .long p0), (2, .long p2)]) dX12_divisor_1 (by decide) rfl ?_
  refine J_lload_n (q := 2) dX12_divisor_3 rfl rfl ?_
  refine J_lstore (lv' := [(6, .long p2), (4, .long p0), (0, .long p0), (2, .long p2)]) dX12_divisor_4 (by decide) rfl ?_
  refine J_sub [1, 0] rfl (M_divisor_L6_ok hi hL FU _ _ h)
set_option maxRecDepth 20000 in
set_option maxHeartbeats 4000000 in
theorem kX12_divisor {l : Launch} {D : va_G} {ad : Nat → Nat} {cy : Nat → ClassId} {rv : Int64} {o : Ob} {p0 : Int64} {p2 : Int64} (hi : wl_inj (ΓM ad cy)) (h : M_divisor o p0 p2 = some rv) : Cn l D (ΓM ad cy) yX12_divisor cX12_divisor 10 (some .long) 0 [.long p0, .long p2] o (some (.long rv), o) :=
  Cn.of hi rfl (Nat.le_of_ble_eq_true rfl) (fun _ _ _ hL => M_divisor_ok hi hL h)
set_option maxRecDepth 20000 in
set_option maxHeartbeats 4000000 in
theorem pdX12_divisor : (parseMethodDescriptor yX12_divisor.desc).map (fun d => d.parameters.length) = some 2 := by decide +kernel
set_option maxRecDepth 20000 in
set_option maxHeartbeats 4000000 in
theorem kM_divisor {E : Ec} {ad : Nat → Nat} {cy : Nat → ClassId} {cc : ByteArray} {nL : Nat} {rt : Option FieldType} {r : Option Value × Ob} {pc n : Nat} {lv : List (Nat × Value)} {st : List Value} {o : Ob} {p0 : Int64} {p2 : Int64} {v : Int64} (hi : wl_inj (ΓM ad cy)) (hd : decode cc pc = .ok (.invokestatic 287, 3)) (hq : M_divisor o p0 p2 = some v) (hL : Lv E n) (hn : 0 + 1 ≤ n) (hW : (st.map fun v => v.category).sum ≤ 8) (k : Jw E (ΓM ad cy) RX12 cc nL rt r (pc + 3) lv (.long v :: st) o) : Jw E (ΓM ad cy) RX12 cc nL rt r pc lv (.long p2 :: .long p0 :: st) o :=
  J_callS (av := [.long p0, .long p2]) (q := (some (.long v), o)) (st := st) hd (kX12_divisor hi hq) tw_6_79 tw_6_80 tw_1_13 tw_6_81 ⟨by decide, by decide, pdX12_divisor⟩ rfl (by decide) hL hn hW k
set_option maxRecDepth 20000 in
set_option maxHeartbeats 4000000 in
theorem M_partOf_ok {E : Ec} {ad : Nat → Nat} {cy : Nat → ClassId} {rv : Int64} {o : Ob} {p0 : Int64} {p2 : Int64} {p4 : Int32} (hi : wl_inj (ΓM ad cy)) (hL : Lv E 1) (h : M_partOf o p0 p2 p4 = some rv) : Jw E (ΓM ad cy) RX12 cX12_partOf 7 (some .long) (some (.long rv), o) 0 [(0, .long p0), (2, .long p2), (4, .int p4)] [] o := by
  unfold M_partOf at h
  refine J_lload_n (q := 0) dX12_partOf_0 rfl rfl ?_
  refine J_lconst dX12_partOf_1 lc_0 ?_
  refine J_lcmp dX12_partOf_2 ?_
  refine J_if_ne (tgt := 10) dX12_partOf_3 (by decide) (fun c1 => ?_) (fun c1 => ?_)
  · replace h := if_some h c1
    refine J_lload_n (q := 0) dX12_partOf_10 rfl rfl ?_
    refine J_lload_n (q := 1) dX12_partOf_11 rfl rfl ?_
    obtain ⟨r2, hq6, h⟩ := bd_some h
    refine kM_divisor hi dX12_partOf_12 hq6 hL (by decide) (Nat.le_of_ble_eq_true rfl) ?_
    refine J_lstore (lv' := [(5, .long r2), (0, .long p0), (2, .long p2), (4, .int p4)]) dX12_partOf_15 (by decide) rfl ?_
    refine J_iload (q := 3) dX12_partOf_17 rfl ?_
    refine J_if_ne (tgt := 29) dX12_partOf_19 (by decide) (fun c3 => ?_) (fun c3 => ?_)
    · replace h := if_some h c3
      refine J_lload_n (q := 2) dX12_partOf_29 rfl rfl ?_
      refine J_lload (q := 0) dX12_partOf_30 rfl ?_
      obtain ⟨hg4, h⟩ := gd_some h
      refine J_ldiv dX12_partOf_32 (nz_J hg4) ?_
      exact J_lret dX12_partOf_33 (rt_pl h) rfl
    · replace h := it_some h c3
      refine J_lload_n (q := 1) dX12_partOf_22 rfl rfl ?_
      refine J_lload (q := 0) dX12_partOf_23 rfl ?_
      obtain ⟨hg5, h⟩ := gd_some h
      refine J_ldiv dX12_partOf_25 (nz_J hg5) ?_
      refine J_goto (tgt := 33) dX12_partOf_26 (by decide) ?_
      exact J_lret dX12_partOf_33 (rt_pl h) rfl
  · replace h := it_some h c1
    refine J_iload (q := 2) dX12_partOf_6 rfl ?_
    refine J_i2l dX12_partOf_8 ?_
    exact J_lret dX12_partOf_9 (rt_pl h) rfl
set_option maxRecDepth 20000 in
set_option maxHeartbeats 4000000 in
theorem kX12_partOf {l : Launch} {D : va_G} {ad : Nat → Nat} {cy : Nat → ClassId} {rv : Int64} {o : Ob} {p0 : Int64} {p2 : Int64} {p4 : Int32} (hi : wl_inj (ΓM ad cy)) (h : M_partOf o p0 p2 p4 = some rv) : Cn l D (ΓM ad cy) yX12_partOf cX12_partOf 7 (some .long) 1 [.long p0, .long p2, .int p4] o (some (.long rv), o) :=
  Cn.of hi rfl (Nat.le_of_ble_eq_true rfl) (fun _ _ _ hL => M_partOf_ok hi hL h)
set_option maxRecDepth 20000 in
set_option maxHeartbeats 4000000 in
theorem pdX12_partOf : (parseMethodDescriptor yX12_partOf.desc).map (fun d => d.parameters.length) = some 3 := by decide +kernel
set_option maxRecDepth 20000 in
set_option maxHeartbeats 4000000 in
theorem kM_partOf {E : Ec} {ad : Nat → Nat} {cy : Nat → ClassId} {cc : ByteArray} {nL : Nat} {rt : Option FieldType} {r : Option Value × Ob} {pc n : Nat} {lv : List (Nat × Value)} {st : List Value} {o : Ob} {p0 : Int64} {p2 : Int64} {p4 : Int32} {v : Int64} (hi : wl_inj (ΓM ad cy)) (hd : decode cc pc = .ok (.invokestatic 295, 3)) (hq : M_partOf o p0 p2 p4 = some v) (hL : Lv E n) (hn : 1 + 1 ≤ n) (hW : (st.map fun v => v.category).sum ≤ 8) (k : Jw E (ΓM ad cy) RX12 cc nL rt r (pc + 3) lv (.long v :: st) o) : Jw E (ΓM ad cy) RX12 cc nL rt r pc lv (.int p4 :: .long p2 :: .long p0 :: st) o :=
  J_callS (av := [.long p0, .long p2, .int p4]) (q := (some (.long v), o)) (st := st) hd (kX12_partOf hi hq) tw_6_76 tw_6_77 tw_1_13 tw_6_78 ⟨by decide, by decide, pdX12_partOf⟩ rfl (by decide) hL hn hW k
set_option maxRecDepth 20000 in
set_option maxHeartbeats 4000000 in
theorem M_floods_L71_ok {E : Ec} {ad : Nat → Nat} {cy : Nat → ClassId} {rv : (Int64 × Ob)} {k91 : Int64 → Option (Int64 × Ob)} {o : Ob} {a1 : Int32} {a2 : Int32} {a3 : Int32} {a4 : Int32} {a5 : Int32} {a6 : Int64} (hi : wl_inj (ΓM ad cy)) (hL : Lv E 5) (hk91 : ∀ (y8 : Int64), k91 y8 = some rv → Jw E (ΓM ad cy) RX12 cX12_floods 15 (some .long) (some (.long rv.1), rv.2) 91 [(0, .ref (ad 0)), (1, .int a1), (2, .int a2), (3, .int a3), (4, .int a4), (5, .int a5), (6, .long a6), (8, .long y8)] [] o) : ∀ (n : Nat) (x8 : Int64) (x10 : Int32), M_floods_L71 k91 o a1 a2 a3 a4 a5 a6 n x8 x10 = some rv → Jw E (ΓM ad cy) RX12 cX12_floods 15 (some .long) (some (.long rv.1), rv.2) 71 [(0, .ref (ad 0)), (1, .int a1), (2, .int a2), (3, .int a3), (4, .int a4), (5, .int a5), (6, .long a6), (8, .long x8), (10, .int x10)] [] o := by
  intro n
  induction n with
  | zero =>
    intro x8 x10 h
    rw [M_floods_L71] at h
    cases h
  | succ n ih =>
    intro x8 x10 h
    rw [M_floods_L71] at h
    refine J_iload (q := 8) dX12_floods_71 rfl ?_
    refine J_iload_n (q := 3) dX12_floods_73 rfl rfl ?_
    refine J_icmp_ge (tgt := 91) dX12_floods_74 (by decide) (fun c12 => ?_) (fun c12 => ?_)
    · replace h := it_some h c12
      exact J_sub [0, 1, 2, 3, 4, 5, 6, 7] rfl (hk91 _ h)
    · replace h := if_some h c12
      refine J_lload (q := 7) dX12_floods_77 rfl ?_
      refine J_iload (q := 4) dX12_floods_79 rfl ?_
      refine J_i2l dX12_floods_81 ?_
      refine J_lmul dX12_floods_82 ?_
      refine J_tl (fun v13 ev13 => ?_)
      replace h := nm_some ev13 h
      refine J_lstore (lv' := [(8, .long v13), (0, .ref (ad 0)), (1, .int a1), (2, .int a2), (3, .int a3), (4, .int a4), (5, .int a5), (6, .long a6), (10, .int x10)]) dX12_floods_83 (by decide) rfl ?_
      refine J_iinc (q := 8) (v := (x10 + (1 : Int32))) (lv' := [(10, .int (x10 + (1 : Int32))), (8, .long v13), (0, .ref (ad 0)), (1, .int a1), (2, .int a2), (3, .int a3), (4, .int a4), (5, .int a5), (6, .long a6)]) dX12_floods_85 rfl (congrArg (fun z => x10 + z) ic_1) (by decide) rfl ?_
      refine J_tv (fun v14 ev14 => ?_)
      replace h := nm_some ev14 h
      refine J_goto (tgt := 71) dX12_floods_88 (by decide) ?_
      exact J_sub [2, 3, 4, 5, 6, 7, 8, 1, 0] rfl (ih _ _ h)
set_option maxRecDepth 20000 in
set_option maxHeartbeats 4000000 in
theorem M_floods_L145_ok {E : Ec} {ad : Nat → Nat} {cy : Nat → ClassId} {rv : (Int64 × Ob)} {k191 : Ob → Option (Int64 × Ob)} {a1 : Int32} {a2 : Int32} {a3 : Int32} {a4 : Int32} {a5 : Int32} {a6 : Int64} {a8 : Int64} {a10 : Int32} {a11 : Int64} {a13 : Int32} (hi : wl_inj (ΓM ad cy)) (hL : Lv E 5) (hk191 : ∀ (yw : Ob), k191 yw = some rv → Jw E (ΓM ad cy) RX12 cX12_floods 15 (some .long) (some (.long rv.1), rv.2) 191 [(0, .ref (ad 0)), (1, .int a1), (2, .int a2), (3, .int a3), (4, .int a4), (5, .int a5), (6, .long a6), (8, .long a8), (10, .int a10), (11, .long a11), (13, .int a13)] [] yw) : ∀ (n : Nat) (o : Ob) (x14 : Int32), M_floods_L145 k191 a1 a2 a3 a4 a5 a6 a8 a10 a11 a13 n o x14 = some rv → Jw E (ΓM ad cy) RX12 cX12_floods 15 (some .long) (some (.long rv.1), rv.2) 145 [(0, .ref (ad 0)), (1, .int a1), (2, .int a2), (3, .int a3), (4, .int a4), (5, .int a5), (6, .long a6), (8, .long a8), (10, .int a10), (11, .long a11), (13, .int a13), (14, .int x14)] [] o := by
  intro n
  induction n with
  | zero =>
    intro o x14 h
    rw [M_floods_L145] at h
    cases h
  | succ n ih =>
    intro o x14 h
    rw [M_floods_L145] at h
    refine J_iload (q := 11) dX12_floods_145 rfl ?_
    refine J_iconst dX12_floods_147 ic_5 ?_
    refine J_aload_n (q := 0) dX12_floods_148 rfl rfl ?_
    refine gM_many dX12_floods_149 ?_
    refine J_imul dX12_floods_152 ?_
    refine J_icmp_ge (tgt := 191) dX12_floods_153 (by decide) (fun c23 => ?_) (fun c23 => ?_)
    · replace h := it_some h c23
      exact J_sub [0, 1, 2, 3, 4, 5, 6, 7, 8, 9, 10] rfl (hk191 _ h)
    · replace h := if_some h c23
      refine J_iload (q := 8) dX12_floods_156 rfl ?_
      refine J_iload (q := 10) dX12_floods_158 rfl ?_
      obtain ⟨r24, hq31, h⟩ := bd_some h
      refine kM_hasBit hi dX12_floods_160 hq31 hL (by decide) (Nat.le_of_ble_eq_true rfl) ?_
      refine J_if_eq (tgt := 191) dX12_floods_163 (by decide) (fun c25 => ?_) (fun c25 => ?_)
      · replace h := it_some h c25
        exact J_sub [0, 1, 2, 3, 4, 5, 6, 7, 8, 9, 10] rfl (hk191 _ h)
      · replace h := if_some h c25
        refine J_aload_n (q := 0) dX12_floods_166 rfl rfl ?_
        refine gM_knows dX12_floods_167 ?_
        refine J_iload (q := 11) dX12_floods_170 rfl ?_
        refine J_dup2 dX12_floods_172 rfl rfl ?_
        obtain ⟨hg26, h⟩ := gd_some h
        refine aM_ld (h := 7) (n := 35) dX12_floods_173 (by decide) rfl hg26 ?_
        refine J_aload_n (q := 0) dX12_floods_174 rfl rfl ?_
        refine gM_knows dX12_floods_175 ?_
        refine J_iload (q := 11) dX12_floods_178 rfl ?_
        obtain ⟨hg27, h⟩ := gd_some h
        refine aM_ld (h := 7) (n := 35) dX12_floods_180 (by decide) rfl hg27 ?_
        refine J_iconst dX12_floods_181 ic_1 ?_
        refine J_isub dX12_floods_182 ?_
        refine J_iand dX12_floods_183 ?_
        obtain ⟨hg28, h⟩ := gd_some h
        refine aM_st (h := 7) (n := 35) dX12_floods_184 (by decide) rfl hg28 ?_
        refine J_tw (fun o29 eo29 => ?_)
        replace h := nm_some eo29 h
        refine J_iinc (q := 11) (v := (x14 + (1 : Int32))) (lv' := [(14, .int (x14 + (1 : Int32))), (0, .ref (ad 0)), (1, .int a1), (2, .int a2), (3, .int a3), (4, .int a4), (5, .int a5), (6, .long a6), (8, .long a8), (10, .int a10), (11, .long a11), (13, .int a13)]) dX12_floods_185 rfl (congrArg (fun z => x14 + z) ic_1) (by decide) rfl ?_
        refine J_tv (fun v30 ev30 => ?_)
        replace h := nm_some ev30 h
        refine J_goto (tgt := 145) dX12_floods_188 (by decide) ?_
        exact J_sub [1, 2, 3, 4, 5, 6, 7, 8, 9, 10, 11, 0] rfl (ih _ _ h)
set_option maxRecDepth 20000 in
set_option maxHeartbeats 4000000 in
theorem M_floods_L112_ok {E : Ec} {ad : Nat → Nat} {cy : Nat → ClassId} {rv : (Int64 × Ob)} {k201 : Int64 → Ob → Option (Int64 × Ob)} {a1 : Int32} {a2 : Int32} {a3 : Int32} {a4 : Int32} {a5 : Int32} {a6 : Int64} {a8 : Int64} {a10 : Int32} (hi : wl_inj (ΓM ad cy)) (hL : Lv E 5) (hk201 : ∀ (y11 : Int64) (yw : Ob), k201 y11 yw = some rv → Jw E (ΓM ad cy) RX12 cX12_floods 15 (some .long) (some (.long rv.1), rv.2) 201 [(0, .ref (ad 0)), (1, .int a1), (2, .int a2), (3, .int a3), (4, .int a4), (5, .int a5), (6, .long a6), (8, .long a8), (10, .int a10), (11, .long y11)] [] yw) : ∀ (n : Nat) (o : Ob) (x11 : Int64) (x13 : Int32), M_floods_L112 k201 a1 a2 a3 a4 a5 a6 a8 a10 n o x11 x13 = some rv → Jw E (ΓM ad cy) RX12 cX12_floods 15 (some .long) (some (.long rv.1), rv.2) 112 [(0, .ref (ad 0)), (1, .int a1), (2, .int a2), (3, .int a3), (4, .int a4), (5, .int a5), (6, .long a6), (8, .long a8), (10, .int a10), (11, .long x11), (13, .int x13)] [] o := by
  intro n
  induction n with
  | zero =>
    intro o x11 x13 h
    rw [M_floods_L112] at h
    cases h
  | succ n ih =>
    intro o x11 x13 h
    rw [M_floods_L112] at h
    refine J_iload (q := 10) dX12_floods_112 rfl ?_
    refine J_iload_n (q := 3) dX12_floods_114 rfl rfl ?_
    refine J_icmp_ge (tgt := 201) dX12_floods_115 (by decide) (fun c18 => ?_) (fun c18 => ?_)
    · replace h := it_some h c18
      exact J_sub [0, 1, 2, 3, 4, 5, 6, 7, 8, 9] rfl (hk201 _ _ h)
    · replace h := if_some h c18
      refine J_lload (q := 9) dX12_floods_118 rfl ?_
      refine J_iload (q := 8) dX12_floods_120 rfl ?_
      refine J_iload (q := 10) dX12_floods_122 rfl ?_
      obtain ⟨r19, hq35, h⟩ := bd_some h
      refine kM_hasBit hi dX12_floods_124 hq35 hL (by decide) (Nat.le_of_ble_eq_true rfl) ?_
      obtain ⟨s21, ha139, h⟩ := bd_some h
      have K139 : Jw E (ΓM ad cy) RX12 cX12_floods 15 (some .long) (some (.long rv.1), rv.2) 139 [(0, .ref (ad 0)), (1, .int a1), (2, .int a2), (3, .int a3), (4, .int a4), (5, .int a5), (6, .long a6), (8, .long a8), (10, .int a10), (13, .int x13)] [.long s21, .long x11] o := by
        clear ha139
        refine J_lmul dX12_floods_139 ?_
        refine J_tl (fun v22 ev22 => ?_)
        replace h := nm_some ev22 h
        refine J_lstore (lv' := [(11, .long v22), (0, .ref (ad 0)), (1, .int a1), (2, .int a2), (3, .int a3), (4, .int a4), (5, .int a5), (6, .long a6), (8, .long a8), (10, .int a10), (13, .int x13)]) dX12_floods_140 (by decide) rfl ?_
        refine J_iconst dX12_floods_142 ic_0 ?_
        refine J_istore (lv' := [(14, .int (0 : Int32)), (11, .long v22), (0, .ref (ad 0)), (1, .int a1), (2, .int a2), (3, .int a3), (4, .int a4), (5, .int a5), (6, .long a6), (8, .long a8), (10, .int a10), (13, .int x13)]) dX12_floods_143 (by decide) rfl ?_
        refine J_sub [2, 3, 4, 5, 6, 7, 8, 9, 10, 1, 11, 0] rfl (M_floods_L145_ok hi hL (fun o32 h => ?_) FU _ _ h)
        refine J_aload_n (q := 0) dX12_floods_191 rfl rfl ?_
        obtain ⟨o33, hq36, h⟩ := bd_some h
        refine kM_dayOn hi dX12_floods_192 hq36 hL (by decide) (Nat.le_of_ble_eq_true rfl) ?_
        refine J_iinc (q := 10) (v := (x13 + (1 : Int32))) (lv' := [(13, .int (x13 + (1 : Int32))), (0, .ref (ad 0)), (1, .int a1), (2, .int a2), (3, .int a3), (4, .int a4), (5, .int a5), (6, .long a6), (8, .long a8), (10, .int a10), (11, .long v22)]) dX12_floods_195 rfl (congrArg (fun z => x13 + z) ic_1) (by decide) rfl ?_
        refine J_tv (fun v34 ev34 => ?_)
        replace h := nm_some ev34 h
        refine J_goto (tgt := 112) dX12_floods_198 (by decide) ?_
        exact J_sub [1, 2, 3, 4, 5, 6, 7, 8, 9, 10, 0] rfl (ih _ _ _ h)
      clear h
      refine J_if_eq (tgt := 134) dX12_floods_127 (by decide) (fun c20 => ?_) (fun c20 => ?_)
      · replace ha139 := it_some ha139 c20
        refine J_iload (q := 4) dX12_floods_134 rfl ?_
        refine J_iconst dX12_floods_136 ic_1 ?_
        refine J_isub dX12_floods_137 ?_
        refine J_i2l dX12_floods_138 ?_
        cases ha139
        exact J_sub [0, 1, 2, 3, 4, 5, 6, 7, 8, 10] rfl (K139)
      · replace ha139 := if_some ha139 c20
        refine J_lconst dX12_floods_130 lc_1 ?_
        refine J_goto (tgt := 139) dX12_floods_131 (by decide) ?_
        cases ha139
        exact J_sub [0, 1, 2, 3, 4, 5, 6, 7, 8, 10] rfl (K139)
set_option maxRecDepth 20000 in
set_option maxHeartbeats 4000000 in
theorem M_floods_L98_ok {E : Ec} {ad : Nat → Nat} {cy : Nat → ClassId} {rv : (Int64 × Ob)} {k232 : Int64 → Ob → Option (Int64 × Ob)} {a1 : Int32} {a2 : Int32} {a3 : Int32} {a4 : Int32} {a5 : Int32} {a8 : Int64} (hi : wl_inj (ΓM ad cy)) (hL : Lv E 5) (hk232 : ∀ (y6 : Int64) (yw : Ob), k232 y6 yw = some rv → Jw E (ΓM ad cy) RX12 cX12_floods 15 (some .long) (some (.long rv.1), rv.2) 232 [(5, .int a5), (6, .long y6), (8, .long a8)] [] yw) : ∀ (n : Nat) (o : Ob) (x6 : Int64) (x10 : Int32), M_floods_L98 k232 a1 a2 a3 a4 a5 a8 n o x6 x10 = some rv → Jw E (ΓM ad cy) RX12 cX12_floods 15 (some .long) (some (.long rv.1), rv.2) 98 [(0, .ref (ad 0)), (1, .int a1), (2, .int a2), (3, .int a3), (4, .int a4), (5, .int a5), (6, .long x6), (8, .long a8), (10, .int x10)] [] o := by
  intro n
  induction n with
  | zero =>
    intro o x6 x10 h
    rw [M_floods_L98] at h
    cases h
  | succ n ih =>
    intro o x6 x10 h
    rw [M_floods_L98] at h
    refine J_iload (q := 8) dX12_floods_98 rfl ?_
    refine J_iconst dX12_floods_100 ic_1 ?_
    refine J_iload_n (q := 3) dX12_floods_101 rfl rfl ?_
    refine J_ishl dX12_floods_102 ?_
    refine J_icmp_ge (tgt := 232) dX12_floods_103 (by decide) (fun c17 => ?_) (fun c17 => ?_)
    · replace h := it_some h c17
      exact J_sub [5, 6, 7] rfl (hk232 _ _ h)
    · replace h := if_some h c17
      refine J_lconst dX12_floods_106 lc_1 ?_
      refine J_lstore (lv' := [(11, .long (1 : Int64)), (0, .ref (ad 0)), (1, .int a1), (2, .int a2), (3, .int a3), (4, .int a4), (5, .int a5), (6, .long x6), (8, .long a8), (10, .int x10)]) dX12_floods_107 (by decide) rfl ?_
      refine J_iconst dX12_floods_109 ic_0 ?_
      refine J_istore (lv' := [(13, .int (0 : Int32)), (11, .long (1 : Int64)), (0, .ref (ad 0)), (1, .int a1), (2, .int a2), (3, .int a3), (4, .int a4), (5, .int a5), (6, .long x6), (8, .long a8), (10, .int x10)]) dX12_floods_110 (by decide) rfl ?_
      refine J_sub [2, 3, 4, 5, 6, 7, 8, 9, 10, 1, 0] rfl (M_floods_L112_ok hi hL (fun x11_37 o38 h => ?_) FU _ _ _ h)
      refine J_lload (q := 6) dX12_floods_201 rfl ?_
      refine J_aload_n (q := 0) dX12_floods_203 rfl rfl ?_
      refine gM_owners dX12_floods_204 ?_
      refine J_iload_n (q := 2) dX12_floods_207 rfl rfl ?_
      obtain ⟨hg39, h⟩ := gd_some h
      refine aM_ld (h := 3) (n := 5) dX12_floods_208 (by decide) rfl hg39 ?_
      refine J_iload_n (q := 1) dX12_floods_209 rfl rfl ?_
      obtain ⟨s41, ha219, h⟩ := bd_some h
      have K219 : Jw E (ΓM ad cy) RX12 cX12_floods 15 (some .long) (some (.long rv.1), rv.2) 219 [(0, .ref (ad 0)), (1, .int a1), (2, .int a2), (3, .int a3), (4, .int a4), (5, .int a5), (8, .long a8), (10, .int x10)] [.long s41, .long x6] o38 := by
        clear ha219
        refine J_ladd dX12_floods_219 ?_
        refine J_tl (fun v42 ev42 => ?_)
        replace h := nm_some ev42 h
        refine J_lstore (lv' := [(6, .long v42), (0, .ref (ad 0)), (1, .int a1), (2, .int a2), (3, .int a3), (4, .int a4), (5, .int a5), (8, .long a8), (10, .int x10)]) dX12_floods_220 (by decide) rfl ?_
        refine J_aload_n (q := 1) dX12_floods_222 rfl rfl ?_
        obtain ⟨o43, hq45, h⟩ := bd_some h
        refine kM_again hi dX12_floods_223 hq45 hL (by decide) (Nat.le_of_ble_eq_true rfl) ?_
        refine J_iinc (q := 8) (v := (x10 + (1 : Int32))) (lv' := [(10, .int (x10 + (1 : Int32))), (6, .long v42), (0, .ref (ad 0)), (1, .int a1), (2, .int a2), (3, .int a3), (4, .int a4), (5, .int a5), (8, .long a8)]) dX12_floods_226 rfl (congrArg (fun z => x10 + z) ic_1) (by decide) rfl ?_
        refine J_tv (fun v44 ev44 => ?_)
        replace h := nm_some ev44 h
        refine J_goto (tgt := 98) dX12_floods_229 (by decide) ?_
        exact J_sub [2, 3, 4, 5, 6, 7, 1, 8, 0] rfl (ih _ _ _ h)
      clear h
      refine J_icmp_ne (tgt := 218) dX12_floods_210 (by decide) (fun c40 => ?_) (fun c40 => ?_)
      · replace ha219 := if_some ha219 c40
        refine J_lconst dX12_floods_218 lc_0 ?_
        cases ha219
        exact J_sub [0, 1, 2, 3, 4, 5, 7, 8] rfl (K219)
      · replace ha219 := it_some ha219 c40
        refine J_lload (q := 9) dX12_floods_213 rfl ?_
        refine J_goto (tgt := 219) dX12_floods_215 (by decide) ?_
        cases ha219
        exact J_sub [0, 1, 2, 3, 4, 5, 7, 8] rfl (K219)
set_option maxRecDepth 20000 in
set_option maxHeartbeats 4000000 in
theorem M_floods_ok {E : Ec} {ad : Nat → Nat} {cy : Nat → ClassId} {rv : (Int64 × Ob)} {o : Ob} {p1 : Int32} {p2 : Int32} {p3 : Int32} {p4 : Int32} {p5 : Int32} (hi : wl_inj (ΓM ad cy)) (hL : Lv E 5) (h : M_floods o p1 p2 p3 p4 p5 = some rv) : Jw E (ΓM ad cy) RX12 cX12_floods 15 (some .long) (some (.long rv.1), rv.2) 0 [(0, .ref (ad 0)), (1, .int p1), (2, .int p2), (3, .int p3), (4, .int p4), (5, .int p5)] [] o := by
  unfold M_floods at h
  refine J_aload_n (q := 0) dX12_floods_0 rfl rfl ?_
  refine J_iconst dX12_floods_1 ic_0 ?_
  refine pM_thrown dX12_floods_2 ?_
  refine J_tw (fun o1 eo1 => ?_)
  replace h := nm_some eo1 h
  refine J_aload_n (q := 0) dX12_floods_5 rfl rfl ?_
  refine J_iload_n (q := 1) dX12_floods_6 rfl rfl ?_
  obtain ⟨r2, hq49, h⟩ := bd_some h
  refine kM_isOne hi dX12_floods_7 hq49 hL (by decide) (Nat.le_of_ble_eq_true rfl) ?_
  refine J_if_eq (tgt := 58) dX12_floods_10 (by decide) (fun c3 => ?_) (fun c3 => ?_)
  · replace h := it_some h c3
    refine J_ldc2 dX12_floods_58 tw_6_75 ?_
    exact J_lret dX12_floods_61 (rt_l h) rfl
  · replace h := if_some h c3
    refine J_iload_n (q := 2) dX12_floods_13 rfl rfl ?_
    obtain ⟨r4, hq50, h⟩ := bd_some h
    refine kM_isThing hi dX12_floods_14 hq50 hL (by decide) (Nat.le_of_ble_eq_true rfl) ?_
    refine J_if_eq (tgt := 58) dX12_floods_17 (by decide) (fun c5 => ?_) (fun c5 => ?_)
    · replace h := it_some h c5
      refine J_ldc2 dX12_floods_58 tw_6_75 ?_
      exact J_lret dX12_floods_61 (rt_l h) rfl
    · replace h := if_some h c5
      refine J_iload_n (q := 3) dX12_floods_20 rfl rfl ?_
      refine J_i2l dX12_floods_21 ?_
      refine J_lconst dX12_floods_22 lc_0 ?_
      refine J_ldc2 dX12_floods_23 tw_5_29 ?_
      obtain ⟨r6, hq51, h⟩ := bd_some h
      refine kM_in hi dX12_floods_26 hq51 hL (by decide) (Nat.le_of_ble_eq_true rfl) ?_
      refine J_if_eq (tgt := 58) dX12_floods_29 (by decide) (fun c7 => ?_) (fun c7 => ?_)
      · replace h := it_some h c7
        refine J_ldc2 dX12_floods_58 tw_6_75 ?_
        exact J_lret dX12_floods_61 (rt_l h) rfl
      · replace h := if_some h c7
        refine J_iload (q := 4) dX12_floods_32 rfl ?_
        refine J_i2l dX12_floods_34 ?_
        refine J_ldc2 dX12_floods_35 tw_5_159 ?_
        refine J_ldc2 dX12_floods_38 tw_6_74 ?_
        obtain ⟨r8, hq52, h⟩ := bd_some h
        refine kM_in hi dX12_floods_41 hq52 hL (by decide) (Nat.le_of_ble_eq_true rfl) ?_
        refine J_if_eq (tgt := 58) dX12_floods_44 (by decide) (fun c9 => ?_) (fun c9 => ?_)
        · replace h := it_some h c9
          refine J_ldc2 dX12_floods_58 tw_6_75 ?_
          exact J_lret dX12_floods_61 (rt_l h) rfl
        · replace h := if_some h c9
          refine J_iload (q := 5) dX12_floods_47 rfl ?_
          refine J_i2l dX12_floods_49 ?_
          refine J_lconst dX12_floods_50 lc_0 ?_
          refine J_lconst dX12_floods_51 lc_1 ?_
          obtain ⟨r10, hq53, h⟩ := bd_some h
          refine kM_in hi dX12_floods_52 hq53 hL (by decide) (Nat.le_of_ble_eq_true rfl) ?_
          refine J_if_ne (tgt := 62) dX12_floods_55 (by decide) (fun c11 => ?_) (fun c11 => ?_)
          · replace h := if_some h c11
            refine J_lconst dX12_floods_62 lc_0 ?_
            refine J_lstore (lv' := [(6, .long (0 : Int64)), (0, .ref (ad 0)), (1, .int p1), (2, .int p2), (3, .int p3), (4, .int p4), (5, .int p5)]) dX12_floods_63 (by decide) rfl ?_
            refine J_lconst dX12_floods_65 lc_1 ?_
            refine J_lstore (lv' := [(8, .long (1 : Int64)), (6, .long (0 : Int64)), (0, .ref (ad 0)), (1, .int p1), (2, .int p2), (3, .int p3), (4, .int p4), (5, .int p5)]) dX12_floods_66 (by decide) rfl ?_
            refine J_iconst dX12_floods_68 ic_0 ?_
            refine J_istore (lv' := [(10, .int (0 : Int32)), (8, .long (1 : Int64)), (6, .long (0 : Int64)), (0, .ref (ad 0)), (1, .int p1), (2, .int p2), (3, .int p3), (4, .int p4), (5, .int p5)]) dX12_floods_69 (by decide) rfl ?_
            refine J_sub [3, 4, 5, 6, 7, 8, 2, 1, 0] rfl (M_floods_L71_ok hi hL (fun x8_15 h => ?_) FU _ _ h)
            refine J_aload_n (q := 0) dX12_floods_91 rfl rfl ?_
            obtain ⟨o16, hq54, h⟩ := bd_some h
            refine kM_think hi dX12_floods_92 hq54 hL (by decide) (Nat.le_of_ble_eq_true rfl) ?_
            refine J_iconst dX12_floods_95 ic_0 ?_
            refine J_istore (lv' := [(10, .int (0 : Int32)), (0, .ref (ad 0)), (1, .int p1), (2, .int p2), (3, .int p3), (4, .int p4), (5, .int p5), (6, .long (0 : Int64)), (8, .long x8_15)]) dX12_floods_96 (by decide) rfl ?_
            refine J_sub [1, 2, 3, 4, 5, 6, 7, 8, 0] rfl (M_floods_L98_ok hi hL (fun x6_46 o47 h => ?_) FU _ _ _ h)
            refine J_lload (q := 1) dX12_floods_232 rfl ?_
            refine J_lload (q := 2) dX12_floods_234 rfl ?_
            refine J_iload (q := 0) dX12_floods_236 rfl ?_
            obtain ⟨r48, hq55, h⟩ := bd_some h
            refine kM_partOf hi dX12_floods_238 hq55 hL (by decide) (Nat.le_of_ble_eq_true rfl) ?_
            exact J_lret dX12_floods_241 (rt_l h) rfl
          · replace h := it_some h c11
            refine J_ldc2 dX12_floods_58 tw_6_75 ?_
            exact J_lret dX12_floods_61 (rt_l h) rfl
set_option maxRecDepth 20000 in
set_option maxHeartbeats 4000000 in
theorem kX12_floods {l : Launch} {D : va_G} {ad : Nat → Nat} {cy : Nat → ClassId} {rv : (Int64 × Ob)} {o : Ob} {p1 : Int32} {p2 : Int32} {p3 : Int32} {p4 : Int32} {p5 : Int32} (hi : wl_inj (ΓM ad cy)) (h : M_floods o p1 p2 p3 p4 p5 = some rv) : Cn l D (ΓM ad cy) yX12_floods cX12_floods 15 (some .long) 5 [.ref (ad 0), .int p1, .int p2, .int p3, .int p4, .int p5] o (some (.long rv.1), rv.2) :=
  Cn.of hi rfl (Nat.le_of_ble_eq_true rfl) (fun _ _ _ hL => M_floods_ok hi hL h)
set_option maxRecDepth 20000 in
set_option maxHeartbeats 4000000 in
theorem M_allWorth_L4_ok {E : Ec} {ad : Nat → Nat} {cy : Nat → ClassId} {rv : Int32} {o : Ob} (hi : wl_inj (ΓM ad cy)) (hL : Lv E 0) : ∀ (n : Nat) (x1 : Int32) (x2 : Int32), M_allWorth_L4 o n x1 x2 = some rv → Jw E (ΓM ad cy) RX12 cX12_allWorth 3 (some .int) (some (.int rv), o) 4 [(0, .ref (ad 0)), (1, .int x1), (2, .int x2)] [] o := by
  intro n
  induction n with
  | zero =>
    intro x1 x2 h
    rw [M_allWorth_L4] at h
    cases h
  | succ n ih =>
    intro x1 x2 h
    rw [M_allWorth_L4] at h
    refine J_iload_n (q := 2) dX12_allWorth_4 rfl rfl ?_
    refine J_iconst dX12_allWorth_5 ic_5 ?_
    refine J_icmp_ge (tgt := 24) dX12_allWorth_6 (by decide) (fun c1 => ?_) (fun c1 => ?_)
    · replace h := it_some h c1
      refine J_iload_n (q := 1) dX12_allWorth_24 rfl rfl ?_
      exact J_iret dX12_allWorth_25 (rt_pi h) rfl
    · replace h := if_some h c1
      refine J_iload_n (q := 1) dX12_allWorth_9 rfl rfl ?_
      refine J_aload_n (q := 0) dX12_allWorth_10 rfl rfl ?_
      refine gM_worths dX12_allWorth_11 ?_
      refine J_iload_n (q := 2) dX12_allWorth_14 rfl rfl ?_
      obtain ⟨hg2, h⟩ := gd_some h
      refine aM_ld (h := 2) (n := 5) dX12_allWorth_15 (by decide) rfl hg2 ?_
      refine J_iadd dX12_allWorth_16 ?_
      refine J_ti (fun v3 ev3 => ?_)
      replace h := nm_some ev3 h
      refine J_istore_n (lv' := [(1, .int v3), (0, .ref (ad 0)), (2, .int x2)]) dX12_allWorth_17 rfl (by decide) rfl ?_
      refine J_iinc (q := 2) (v := (x2 + (1 : Int32))) (lv' := [(2, .int (x2 + (1 : Int32))), (1, .int v3), (0, .ref (ad 0))]) dX12_allWorth_18 rfl (congrArg (fun z => x2 + z) ic_1) (by decide) rfl ?_
      refine J_tv (fun v4 ev4 => ?_)
      replace h := nm_some ev4 h
      refine J_goto (tgt := 4) dX12_allWorth_21 (by decide) ?_
      exact J_sub [2, 1, 0] rfl (ih _ _ h)
set_option maxRecDepth 20000 in
set_option maxHeartbeats 4000000 in
theorem M_allWorth_ok {E : Ec} {ad : Nat → Nat} {cy : Nat → ClassId} {rv : Int32} {o : Ob} (hi : wl_inj (ΓM ad cy)) (hL : Lv E 0) (h : M_allWorth o = some rv) : Jw E (ΓM ad cy) RX12 cX12_allWorth 3 (some .int) (some (.int rv), o) 0 [(0, .ref (ad 0))] [] o := by
  unfold M_allWorth at h
  refine J_iconst dX12_allWorth_0 ic_0 ?_
  refine J_istore_n (lv' := [(1, .int (0 : Int32)), (0, .ref (ad 0))]) dX12_allWorth_1 rfl (by decide) rfl ?_
  refine J_iconst dX12_allWorth_2 ic_0 ?_
  refine J_istore_n (lv' := [(2, .int (0 : Int32)), (1, .int (0 : Int32)), (0, .ref (ad 0))]) dX12_allWorth_3 rfl (by decide) rfl ?_
  refine J_sub [2, 1, 0] rfl (M_allWorth_L4_ok hi hL FU _ _ h)
set_option maxRecDepth 20000 in
set_option maxHeartbeats 4000000 in
theorem kX12_allWorth {l : Launch} {D : va_G} {ad : Nat → Nat} {cy : Nat → ClassId} {rv : Int32} {o : Ob} (hi : wl_inj (ΓM ad cy)) (h : M_allWorth o = some rv) : Cn l D (ΓM ad cy) yX12_allWorth cX12_allWorth 3 (some .int) 0 [.ref (ad 0)] o (some (.int rv), o) :=
  Cn.of hi rfl (Nat.le_of_ble_eq_true rfl) (fun _ _ _ hL => M_allWorth_ok hi hL h)
set_option maxRecDepth 20000 in
set_option maxHeartbeats 4000000 in
theorem pdX12_allWorth : (parseMethodDescriptor yX12_allWorth.desc).map (fun d => d.parameters.length) = some 0 := by decide +kernel
set_option maxRecDepth 20000 in
set_option maxHeartbeats 4000000 in
theorem kM_allWorth {E : Ec} {ad : Nat → Nat} {cy : Nat → ClassId} {cc : ByteArray} {nL : Nat} {rt : Option FieldType} {r : Option Value × Ob} {pc n : Nat} {lv : List (Nat × Value)} {st : List Value} {o : Ob} {v : Int32} (hi : wl_inj (ΓM ad cy)) (hd : decode cc pc = .ok (.invokevirtual 299, 3)) (hq : M_allWorth o = some v) (hL : Lv E n) (hn : 0 + 1 ≤ n) (hW : (st.map fun v => v.category).sum ≤ 8) (k : Jw E (ΓM ad cy) RX12 cc nL rt r (pc + 3) lv (.int v :: st) o) : Jw E (ΓM ad cy) RX12 cc nL rt r pc lv (.ref (ad 0) :: st) o :=
  J_callV (h := 0) (ci := 11) (av := []) (q := (some (.int v), o)) (st := st) hd (kX12_allWorth hi hq) tw_6_86 tw_6_88 tw_1_13 tw_6_89 sl_4_9 ⟨by decide, by decide, pdX12_allWorth⟩ (Nat.le_of_ble_eq_true rfl) rfl rfl rfl rfl (by decide) hL hn hW k
set_option maxRecDepth 20000 in
set_option maxHeartbeats 4000000 in
theorem M_share_ok {E : Ec} {ad : Nat → Nat} {cy : Nat → ClassId} {rv : (Int64 × Ob)} {o : Ob} {p1 : Int32} {p2 : Int32} (hi : wl_inj (ΓM ad cy)) (hL : Lv E 2) (h : M_share o p1 p2 = some rv) : Jw E (ΓM ad cy) RX12 cX12_share 3 (some .long) (some (.long rv.1), rv.2) 0 [(0, .ref (ad 0)), (1, .int p1), (2, .int p2)] [] o := by
  unfold M_share at h
  refine J_aload_n (q := 0) dX12_share_0 rfl rfl ?_
  refine J_iconst dX12_share_1 ic_0 ?_
  refine pM_thrown dX12_share_2 ?_
  refine J_tw (fun o1 eo1 => ?_)
  replace h := nm_some eo1 h
  refine J_aload_n (q := 0) dX12_share_5 rfl rfl ?_
  refine J_iload_n (q := 1) dX12_share_6 rfl rfl ?_
  obtain ⟨r2, hq9, h⟩ := bd_some h
  refine kM_isOne hi dX12_share_7 hq9 hL (by decide) (Nat.le_of_ble_eq_true rfl) ?_
  refine J_if_eq (tgt := 41) dX12_share_10 (by decide) (fun c3 => ?_) (fun c3 => ?_)
  · replace h := it_some h c3
    refine J_ldc2 dX12_share_41 tw_6_75 ?_
    exact J_lret dX12_share_44 (rt_l h) rfl
  · replace h := if_some h c3
    refine J_iload_n (q := 2) dX12_share_13 rfl rfl ?_
    refine J_i2l dX12_share_14 ?_
    refine J_lconst dX12_share_15 lc_0 ?_
    refine J_lconst dX12_share_16 lc_1 ?_
    obtain ⟨r4, hq10, h⟩ := bd_some h
    refine kM_in hi dX12_share_17 hq10 hL (by decide) (Nat.le_of_ble_eq_true rfl) ?_
    refine J_if_eq (tgt := 41) dX12_share_20 (by decide) (fun c5 => ?_) (fun c5 => ?_)
    · replace h := it_some h c5
      refine J_ldc2 dX12_share_41 tw_6_75 ?_
      exact J_lret dX12_share_44 (rt_l h) rfl
    · replace h := if_some h c5
      refine J_aload_n (q := 0) dX12_share_23 rfl rfl ?_
      refine J_iload_n (q := 1) dX12_share_24 rfl rfl ?_
      obtain ⟨r6, hq11, h⟩ := bd_some h
      refine kM_worthOf hi dX12_share_25 hq11 hL (by decide) (Nat.le_of_ble_eq_true rfl) ?_
      refine J_i2l dX12_share_28 ?_
      refine J_aload_n (q := 0) dX12_share_29 rfl rfl ?_
      obtain ⟨r7, hq12, h⟩ := bd_some h
      refine kM_allWorth hi dX12_share_30 hq12 hL (by decide) (Nat.le_of_ble_eq_true rfl) ?_
      refine J_i2l dX12_share_33 ?_
      refine J_iload_n (q := 2) dX12_share_34 rfl rfl ?_
      obtain ⟨r8, hq13, h⟩ := bd_some h
      refine kM_partOf hi dX12_share_35 hq13 hL (by decide) (Nat.le_of_ble_eq_true rfl) ?_
      refine J_goto (tgt := 44) dX12_share_38 (by decide) ?_
      exact J_lret dX12_share_44 (rt_l h) rfl
set_option maxRecDepth 20000 in
set_option maxHeartbeats 4000000 in
theorem kX12_share {l : Launch} {D : va_G} {ad : Nat → Nat} {cy : Nat → ClassId} {rv : (Int64 × Ob)} {o : Ob} {p1 : Int32} {p2 : Int32} (hi : wl_inj (ΓM ad cy)) (h : M_share o p1 p2 = some rv) : Cn l D (ΓM ad cy) yX12_share cX12_share 3 (some .long) 2 [.ref (ad 0), .int p1, .int p2] o (some (.long rv.1), rv.2) :=
  Cn.of hi rfl (Nat.le_of_ble_eq_true rfl) (fun _ _ _ hL => M_share_ok hi hL h)
set_option maxRecDepth 20000 in
set_option maxHeartbeats 4000000 in
theorem M_forged_L19_ok {E : Ec} {ad : Nat → Nat} {cy : Nat → ClassId} {rv : (Int32 × Ob)} {o : Ob} {a1 : Int32} (hi : wl_inj (ΓM ad cy)) (hL : Lv E 2) : ∀ (n : Nat) (x3 : Int32), M_forged_L19 o a1 n x3 = some rv → Jw E (ΓM ad cy) RX12 cX12_forged 4 (some .int) (some (.int rv.1), rv.2) 19 [(0, .ref (ad 0)), (1, .int a1), (3, .int x3)] [] o := by
  intro n
  induction n with
  | zero =>
    intro x3 h
    rw [M_forged_L19] at h
    cases h
  | succ n ih =>
    intro x3 h
    rw [M_forged_L19] at h
    refine J_iload_n (q := 2) dX12_forged_19 rfl rfl ?_
    refine J_aload_n (q := 0) dX12_forged_20 rfl rfl ?_
    refine gM_rowMany dX12_forged_21 ?_
    refine J_iload_n (q := 1) dX12_forged_24 rfl rfl ?_
    obtain ⟨hg4, h⟩ := gd_some h
    refine aM_ld (h := 12) (n := 8) dX12_forged_25 (by decide) rfl hg4 ?_
    refine J_icmp_ge (tgt := 64) dX12_forged_26 (by decide) (fun c5 => ?_) (fun c5 => ?_)
    · replace h := it_some h c5
      refine J_bipush dX12_forged_64 bp_m4 ?_
      exact J_iret dX12_forged_66 (rt_i h) rfl
    · replace h := if_some h c5
      refine J_iload_n (q := 2) dX12_forged_29 rfl rfl ?_
      refine J_iconst dX12_forged_30 ic_5 ?_
      refine J_icmp_ge (tgt := 56) dX12_forged_31 (by decide) (fun c6 => ?_) (fun c6 => ?_)
      · replace h := it_some h c6
        refine J_iload_n (q := 2) dX12_forged_56 rfl rfl ?_
        exact J_iret dX12_forged_57 (rt_i h) rfl
      · replace h := if_some h c6
        refine J_aload_n (q := 0) dX12_forged_34 rfl rfl ?_
        refine gM_rows dX12_forged_35 ?_
        refine J_bipush dX12_forged_38 bp_100 ?_
        refine J_iload_n (q := 1) dX12_forged_40 rfl rfl ?_
        refine J_imul dX12_forged_41 ?_
        refine J_iload_n (q := 2) dX12_forged_42 rfl rfl ?_
        refine J_iadd dX12_forged_43 ?_
        obtain ⟨hg7, h⟩ := gd_some h
        refine aM_lld (h := 13) (n := 800) dX12_forged_44 (by decide) rfl hg7 ?_
        refine J_aload_n (q := 0) dX12_forged_45 rfl rfl ?_
        refine gM_owners dX12_forged_46 ?_
        refine J_iload_n (q := 2) dX12_forged_49 rfl rfl ?_
        obtain ⟨hg8, h⟩ := gd_some h
        refine aM_ld (h := 3) (n := 5) dX12_forged_50 (by decide) rfl hg8 ?_
        refine J_i2l dX12_forged_51 ?_
        refine J_lcmp dX12_forged_52 ?_
        refine J_if_eq (tgt := 58) dX12_forged_53 (by decide) (fun c9 => ?_) (fun c9 => ?_)
        · replace h := it_some h c9
          refine J_iinc (q := 2) (v := (x3 + (1 : Int32))) (lv' := [(3, .int (x3 + (1 : Int32))), (0, .ref (ad 0)), (1, .int a1)]) dX12_forged_58 rfl (congrArg (fun z => x3 + z) ic_1) (by decide) rfl ?_
          refine J_tv (fun v10 ev10 => ?_)
          replace h := nm_some ev10 h
          refine J_goto (tgt := 19) dX12_forged_61 (by decide) ?_
          exact J_sub [1, 2, 0] rfl (ih _ h)
        · replace h := if_some h c9
          refine J_iload_n (q := 2) dX12_forged_56 rfl rfl ?_
          exact J_iret dX12_forged_57 (rt_i h) rfl
set_option maxRecDepth 20000 in
set_option maxHeartbeats 4000000 in
theorem M_forged_ok {E : Ec} {ad : Nat → Nat} {cy : Nat → ClassId} {rv : (Int32 × Ob)} {o : Ob} {p1 : Int32} (hi : wl_inj (ΓM ad cy)) (hL : Lv E 2) (h : M_forged o p1 = some rv) : Jw E (ΓM ad cy) RX12 cX12_forged 4 (some .int) (some (.int rv.1), rv.2) 0 [(0, .ref (ad 0)), (1, .int p1)] [] o := by
  unfold M_forged at h
  refine J_aload_n (q := 0) dX12_forged_0 rfl rfl ?_
  refine J_iconst dX12_forged_1 ic_0 ?_
  refine pM_thrown dX12_forged_2 ?_
  refine J_tw (fun o1 eo1 => ?_)
  replace h := nm_some eo1 h
  refine J_aload_n (q := 0) dX12_forged_5 rfl rfl ?_
  refine J_iload_n (q := 1) dX12_forged_6 rfl rfl ?_
  obtain ⟨r2, hq11, h⟩ := bd_some h
  refine kM_wrongRow hi dX12_forged_7 hq11 hL (by decide) (Nat.le_of_ble_eq_true rfl) ?_
  refine J_istore_n (lv' := [(2, .int r2), (0, .ref (ad 0)), (1, .int p1)]) dX12_forged_10 rfl (by decide) rfl ?_
  refine J_iload_n (q := 0) dX12_forged_11 rfl rfl ?_
  refine J_if_ge (tgt := 17) dX12_forged_12 (by decide) (fun c3 => ?_) (fun c3 => ?_)
  · replace h := it_some h c3
    refine J_iconst dX12_forged_17 ic_0 ?_
    refine J_istore_n (lv' := [(3, .int (0 : Int32)), (2, .int r2), (0, .ref (ad 0)), (1, .int p1)]) dX12_forged_18 rfl (by decide) rfl ?_
    refine J_sub [2, 3, 0] rfl (M_forged_L19_ok hi hL FU _ h)
  · replace h := if_some h c3
    refine J_iload_n (q := 0) dX12_forged_15 rfl rfl ?_
    exact J_iret dX12_forged_16 (rt_i h) rfl
set_option maxRecDepth 20000 in
set_option maxHeartbeats 4000000 in
theorem kX12_forged {l : Launch} {D : va_G} {ad : Nat → Nat} {cy : Nat → ClassId} {rv : (Int32 × Ob)} {o : Ob} {p1 : Int32} (hi : wl_inj (ΓM ad cy)) (h : M_forged o p1 = some rv) : Cn l D (ΓM ad cy) yX12_forged cX12_forged 4 (some .int) 2 [.ref (ad 0), .int p1] o (some (.int rv.1), rv.2) :=
  Cn.of hi rfl (Nat.le_of_ble_eq_true rfl) (fun _ _ _ hL => M_forged_ok hi hL h)
set_option maxRecDepth 20000 in
set_option maxHeartbeats 4000000 in
theorem M_judge_L40_ok {E : Ec} {ad : Nat → Nat} {cy : Nat → ClassId} {rv : (Int32 × Ob)} {k110 : Int32 → Ob → Option (Int32 × Ob)} {a1 : Int32} {a2 : Int32} (hi : wl_inj (ΓM ad cy)) (hL : Lv E 5) (hk110 : ∀ (y4 : Int32) (yw : Ob), k110 y4 yw = some rv → Jw E (ΓM ad cy) RX12 cX12_judge 6 (some .int) (some (.int rv.1), rv.2) 110 [(0, .ref (ad 0)), (4, .int y4)] [] yw) : ∀ (n : Nat) (o : Ob) (x4 : Int32) (x5 : Int32), M_judge_L40 k110 a1 a2 n o x4 x5 = some rv → Jw E (ΓM ad cy) RX12 cX12_judge 6 (some .int) (some (.int rv.1), rv.2) 40 [(0, .ref (ad 0)), (1, .int a1), (2, .int a2), (4, .int x4), (5, .int x5)] [] o := by
  intro n
  induction n with
  | zero =>
    intro o x4 x5 h
    rw [M_judge_L40] at h
    cases h
  | succ n ih =>
    intro o x4 x5 h
    rw [M_judge_L40] at h
    refine J_iload (q := 4) dX12_judge_40 rfl ?_
    refine J_aload_n (q := 0) dX12_judge_42 rfl rfl ?_
    refine gM_rowMany dX12_judge_43 ?_
    refine J_iload_n (q := 1) dX12_judge_46 rfl rfl ?_
    obtain ⟨hg8, h⟩ := gd_some h
    refine aM_ld (h := 12) (n := 8) dX12_judge_47 (by decide) rfl hg8 ?_
    refine J_icmp_ge (tgt := 110) dX12_judge_48 (by decide) (fun c9 => ?_) (fun c9 => ?_)
    · replace h := it_some h c9
      exact J_sub [0, 3] rfl (hk110 _ _ h)
    · replace h := if_some h c9
      refine J_iload (q := 3) dX12_judge_51 rfl ?_
      refine J_if_ge (tgt := 110) dX12_judge_53 (by decide) (fun c10 => ?_) (fun c10 => ?_)
      · replace h := it_some h c10
        exact J_sub [0, 3] rfl (hk110 _ _ h)
      · replace h := if_some h c10
        refine J_aload_n (q := 0) dX12_judge_56 rfl rfl ?_
        refine J_iload_n (q := 1) dX12_judge_57 rfl rfl ?_
        refine J_iload (q := 4) dX12_judge_58 rfl ?_
        obtain ⟨r11, hq20, h⟩ := bd_some h
        refine kM_isSkipped hi dX12_judge_60 hq20 hL (by decide) (Nat.le_of_ble_eq_true rfl) ?_
        obtain ⟨s17, ha98, h⟩ := bd_some h
        have K98 : Jw E (ΓM ad cy) RX12 cX12_judge 6 (some .int) (some (.int rv.1), rv.2) 98 [(0, .ref (ad 0)), (1, .int a1), (2, .int a2), (5, .int x5)] [.int s17] o := by
          clear ha98
          refine J_istore (lv' := [(4, .int s17), (0, .ref (ad 0)), (1, .int a1), (2, .int a2), (5, .int x5)]) dX12_judge_98 (by decide) rfl ?_
          refine J_aload_n (q := 1) dX12_judge_100 rfl rfl ?_
          obtain ⟨o18, hq21, h⟩ := bd_some h
          refine kM_dayOn hi dX12_judge_101 hq21 hL (by decide) (Nat.le_of_ble_eq_true rfl) ?_
          refine J_iinc (q := 4) (v := (x5 + (1 : Int32))) (lv' := [(5, .int (x5 + (1 : Int32))), (4, .int s17), (0, .ref (ad 0)), (1, .int a1), (2, .int a2)]) dX12_judge_104 rfl (congrArg (fun z => x5 + z) ic_1) (by decide) rfl ?_
          refine J_tv (fun v19 ev19 => ?_)
          replace h := nm_some ev19 h
          refine J_goto (tgt := 40) dX12_judge_107 (by decide) ?_
          exact J_sub [2, 3, 4, 1, 0] rfl (ih _ _ _ h)
        clear h
        obtain ⟨kk96, ekk96, ha98⟩ := jn_some ha98
        have K96 : kk96 = some (s17) → Jw E (ΓM ad cy) RX12 cX12_judge 6 (some .int) (some (.int rv.1), rv.2) 96 [(0, .ref (ad 0)), (1, .int a1), (2, .int a2), (5, .int x5)] [] o := by
          subst ekk96
          clear ha98
          intro ha98
          refine J_bipush dX12_judge_96 bp_m4 ?_
          cases ha98
          exact J_sub [0, 1, 2, 3] rfl (K98)
        clear ekk96
        refine J_if_ne (tgt := 96) dX12_judge_63 (by decide) (fun c12 => ?_) (fun c12 => ?_)
        · replace ha98 := if_some ha98 c12
          exact J_sub [0, 1, 2, 4] rfl (K96 ha98)
        · replace ha98 := it_some ha98 c12
          refine J_aload_n (q := 0) dX12_judge_66 rfl rfl ?_
          refine gM_rows dX12_judge_67 ?_
          refine J_bipush dX12_judge_70 bp_100 ?_
          refine J_iload_n (q := 1) dX12_judge_72 rfl rfl ?_
          refine J_imul dX12_judge_73 ?_
          refine J_iload (q := 4) dX12_judge_74 rfl ?_
          refine J_iadd dX12_judge_76 ?_
          obtain ⟨hg13, ha98⟩ := gd_some ha98
          refine aM_lld (h := 13) (n := 800) dX12_judge_77 (by decide) rfl hg13 ?_
          refine J_aload_n (q := 0) dX12_judge_78 rfl rfl ?_
          refine J_iload_n (q := 2) dX12_judge_79 rfl rfl ?_
          obtain ⟨r14, hq22, ha98⟩ := bd_some ha98
          refine kM_ownedBy hi dX12_judge_80 hq22 hL (by decide) (Nat.le_of_ble_eq_true rfl) ?_
          obtain ⟨r15, hq23, ha98⟩ := bd_some ha98
          refine kM_onesOf hi dX12_judge_83 hq23 hL (by decide) (Nat.le_of_ble_eq_true rfl) ?_
          refine J_i2l dX12_judge_86 ?_
          refine J_lcmp dX12_judge_87 ?_
          refine J_if_eq (tgt := 96) dX12_judge_88 (by decide) (fun c16 => ?_) (fun c16 => ?_)
          · replace ha98 := it_some ha98 c16
            exact J_sub [0, 1, 2, 4] rfl (K96 ha98)
          · replace ha98 := if_some ha98 c16
            refine J_iload (q := 4) dX12_judge_91 rfl ?_
            refine J_goto (tgt := 98) dX12_judge_93 (by decide) ?_
            cases ha98
            exact J_sub [0, 1, 2, 4] rfl (K98)
set_option maxRecDepth 20000 in
set_option maxHeartbeats 4000000 in
theorem M_judge_ok {E : Ec} {ad : Nat → Nat} {cy : Nat → ClassId} {rv : (Int32 × Ob)} {o : Ob} {p1 : Int32} {p2 : Int32} (hi : wl_inj (ΓM ad cy)) (hL : Lv E 5) (h : M_judge o p1 p2 = some rv) : Jw E (ΓM ad cy) RX12 cX12_judge 6 (some .int) (some (.int rv.1), rv.2) 0 [(0, .ref (ad 0)), (1, .int p1), (2, .int p2)] [] o := by
  unfold M_judge at h
  refine J_aload_n (q := 0) dX12_judge_0 rfl rfl ?_
  refine J_iconst dX12_judge_1 ic_0 ?_
  refine pM_thrown dX12_judge_2 ?_
  refine J_tw (fun o1 eo1 => ?_)
  replace h := nm_some eo1 h
  refine J_aload_n (q := 0) dX12_judge_5 rfl rfl ?_
  refine J_iload_n (q := 2) dX12_judge_6 rfl rfl ?_
  obtain ⟨r2, hq27, h⟩ := bd_some h
  refine kM_isOne hi dX12_judge_7 hq27 hL (by decide) (Nat.le_of_ble_eq_true rfl) ?_
  obtain ⟨s5, ha22, h⟩ := bd_some h
  have K22 : Jw E (ΓM ad cy) RX12 cX12_judge 6 (some .int) (some (.int rv.1), rv.2) 22 [(0, .ref (ad 0)), (1, .int p1), (2, .int p2)] [.int s5] o1 := by
    clear ha22
    refine J_istore_n (lv' := [(3, .int s5), (0, .ref (ad 0)), (1, .int p1), (2, .int p2)]) dX12_judge_22 rfl (by decide) rfl ?_
    refine J_iload_n (q := 0) dX12_judge_23 rfl rfl ?_
    refine J_if_ge (tgt := 29) dX12_judge_24 (by decide) (fun c6 => ?_) (fun c6 => ?_)
    · replace h := it_some h c6
      refine J_bipush dX12_judge_29 bp_m4 ?_
      refine J_istore (lv' := [(4, .int (-4 : Int32)), (3, .int s5), (0, .ref (ad 0)), (1, .int p1), (2, .int p2)]) dX12_judge_31 (by decide) rfl ?_
      refine J_aload_n (q := 2) dX12_judge_33 rfl rfl ?_
      obtain ⟨o7, hq28, h⟩ := bd_some h
      refine kM_think hi dX12_judge_34 hq28 hL (by decide) (Nat.le_of_ble_eq_true rfl) ?_
      refine J_iconst dX12_judge_37 ic_0 ?_
      refine J_istore (lv' := [(5, .int (0 : Int32)), (4, .int (-4 : Int32)), (3, .int s5), (0, .ref (ad 0)), (1, .int p1), (2, .int p2)]) dX12_judge_38 (by decide) rfl ?_
      refine J_sub [3, 4, 5, 1, 0] rfl (M_judge_L40_ok hi hL (fun x4_24 o25 h => ?_) FU _ _ _ h)
      refine J_aload_n (q := 0) dX12_judge_110 rfl rfl ?_
      obtain ⟨o26, hq29, h⟩ := bd_some h
      refine kM_again hi dX12_judge_111 hq29 hL (by decide) (Nat.le_of_ble_eq_true rfl) ?_
      refine J_iload (q := 1) dX12_judge_114 rfl ?_
      exact J_iret dX12_judge_116 (rt_i h) rfl
    · replace h := if_some h c6
      refine J_iload_n (q := 0) dX12_judge_27 rfl rfl ?_
      exact J_iret dX12_judge_28 (rt_i h) rfl
  clear h
  refine J_if_eq (tgt := 21) dX12_judge_10 (by decide) (fun c3 => ?_) (fun c3 => ?_)
  · replace ha22 := it_some ha22 c3
    refine J_iconst dX12_judge_21 ic_m1 ?_
    cases ha22
    exact J_sub [0, 1, 2] rfl (K22)
  · replace ha22 := if_some ha22 c3
    refine J_aload_n (q := 0) dX12_judge_13 rfl rfl ?_
    refine J_iload_n (q := 1) dX12_judge_14 rfl rfl ?_
    obtain ⟨r4, hq30, ha22⟩ := bd_some ha22
    refine kM_wrongRow hi dX12_judge_15 hq30 hL (by decide) (Nat.le_of_ble_eq_true rfl) ?_
    refine J_goto (tgt := 22) dX12_judge_18 (by decide) ?_
    cases ha22
    exact J_sub [0, 1, 2] rfl (K22)
set_option maxRecDepth 20000 in
set_option maxHeartbeats 4000000 in
theorem kX12_judge {l : Launch} {D : va_G} {ad : Nat → Nat} {cy : Nat → ClassId} {rv : (Int32 × Ob)} {o : Ob} {p1 : Int32} {p2 : Int32} (hi : wl_inj (ΓM ad cy)) (h : M_judge o p1 p2 = some rv) : Cn l D (ΓM ad cy) yX12_judge cX12_judge 6 (some .int) 5 [.ref (ad 0), .int p1, .int p2] o (some (.int rv.1), rv.2) :=
  Cn.of hi rfl (Nat.le_of_ble_eq_true rfl) (fun _ _ _ hL => M_judge_ok hi hL h)
set_option maxRecDepth 20000 in
set_option maxHeartbeats 4000000 in
theorem M_drawBelow_ok {E : Ec} {ad : Nat → Nat} {cy : Nat → ClassId} {rv : (Int32 × Ob)} {o : Ob} {p1 : Int32} (hi : wl_inj (ΓM ad cy)) (hL : Lv E 0) (h : M_drawBelow o p1 = some rv) : Jw E (ΓM ad cy) RX12 cX12_drawBelow 2 (some .int) (some (.int rv.1), rv.2) 0 [(0, .ref (ad 0)), (1, .int p1)] [] o := by
  unfold M_drawBelow at h
  refine J_aload_n (q := 0) dX12_drawBelow_0 rfl rfl ?_
  refine J_aload_n (q := 0) dX12_drawBelow_1 rfl rfl ?_
  refine gM_seed dX12_drawBelow_2 ?_
  refine J_ldcw dX12_drawBelow_5 tw_6_106 ?_
  refine J_imul dX12_drawBelow_8 ?_
  refine J_sipush dX12_drawBelow_9 sp_12345 ?_
  refine J_iadd dX12_drawBelow_12 ?_
  refine pM_seed dX12_drawBelow_13 ?_
  refine J_tw (fun o1 eo1 => ?_)
  replace h := nm_some eo1 h
  refine J_aload_n (q := 0) dX12_drawBelow_16 rfl rfl ?_
  refine gM_seed dX12_drawBelow_17 ?_
  refine J_ldcw dX12_drawBelow_20 tw_6_107 ?_
  refine J_iand dX12_drawBelow_23 ?_
  refine J_ldcw dX12_drawBelow_24 tw_6_108 ?_
  refine J_idiv dX12_drawBelow_27 (by decide) ?_
  refine J_iload_n (q := 1) dX12_drawBelow_28 rfl rfl ?_
  obtain ⟨hg2, h⟩ := gd_some h
  refine J_irem dX12_drawBelow_29 (nz_I hg2) ?_
  exact J_iret dX12_drawBelow_30 (rt_i h) rfl
set_option maxRecDepth 20000 in
set_option maxHeartbeats 4000000 in
theorem kX12_drawBelow {l : Launch} {D : va_G} {ad : Nat → Nat} {cy : Nat → ClassId} {rv : (Int32 × Ob)} {o : Ob} {p1 : Int32} (hi : wl_inj (ΓM ad cy)) (h : M_drawBelow o p1 = some rv) : Cn l D (ΓM ad cy) yX12_drawBelow cX12_drawBelow 2 (some .int) 0 [.ref (ad 0), .int p1] o (some (.int rv.1), rv.2) :=
  Cn.of hi rfl (Nat.le_of_ble_eq_true rfl) (fun _ _ _ hL => M_drawBelow_ok hi hL h)
set_option maxRecDepth 20000 in
set_option maxHeartbeats 4000000 in
theorem pdX12_drawBelow : (parseMethodDescriptor yX12_drawBelow.desc).map (fun d => d.parameters.length) = some 1 := by decide +kernel
set_option maxRecDepth 20000 in
set_option maxHeartbeats 4000000 in
theorem kM_drawBelow {E : Ec} {ad : Nat → Nat} {cy : Nat → ClassId} {cc : ByteArray} {nL : Nat} {rt : Option FieldType} {r : Option Value × Ob} {pc n : Nat} {lv : List (Nat × Value)} {st : List Value} {o : Ob} {p1 : Int32} {v : Int32} {o' : Ob} (hi : wl_inj (ΓM ad cy)) (hd : decode cc pc = .ok (.invokevirtual 308, 3)) (hq : M_drawBelow o p1 = some (v, o')) (hL : Lv E n) (hn : 0 + 1 ≤ n) (hW : (st.map fun v => v.category).sum ≤ 8) (k : Jw E (ΓM ad cy) RX12 cc nL rt r (pc + 3) lv (.int v :: st) o') : Jw E (ΓM ad cy) RX12 cc nL rt r pc lv (.int p1 :: .ref (ad 0) :: st) o :=
  J_callV (h := 0) (ci := 11) (av := [.int p1]) (q := (some (.int v), o')) (st := st) hd (kX12_drawBelow hi hq) tw_6_102 tw_6_104 tw_1_13 tw_6_105 sl_4_10 ⟨by decide, by decide, pdX12_drawBelow⟩ (Nat.le_of_ble_eq_true rfl) rfl rfl rfl rfl (by decide) hL hn hW k
set_option maxRecDepth 20000 in
set_option maxHeartbeats 4000000 in
theorem M_ownedAnew_L4_ok {E : Ec} {ad : Nat → Nat} {cy : Nat → ClassId} {rv : Int32} {o : Ob} (hi : wl_inj (ΓM ad cy)) (hL : Lv E 0) : ∀ (n : Nat) (x1 : Int32) (x2 : Int32), M_ownedAnew_L4 o n x1 x2 = some rv → Jw E (ΓM ad cy) RX12 cX12_ownedAnew 3 (some .int) (some (.int rv), o) 4 [(0, .ref (ad 0)), (1, .int x1), (2, .int x2)] [] o := by
  intro n
  induction n with
  | zero =>
    intro x1 x2 h
    rw [M_ownedAnew_L4] at h
    cases h
  | succ n ih =>
    intro x1 x2 h
    rw [M_ownedAnew_L4] at h
    refine J_iload_n (q := 2) dX12_ownedAnew_4 rfl rfl ?_
    refine J_iconst dX12_ownedAnew_5 ic_5 ?_
    refine J_icmp_ge (tgt := 49) dX12_ownedAnew_6 (by decide) (fun c1 => ?_) (fun c1 => ?_)
    · replace h := it_some h c1
      refine J_iload_n (q := 1) dX12_ownedAnew_49 rfl rfl ?_
      exact J_iret dX12_ownedAnew_50 (rt_pi h) rfl
    · replace h := if_some h c1
      refine J_iload_n (q := 1) dX12_ownedAnew_9 rfl rfl ?_
      refine J_aload_n (q := 0) dX12_ownedAnew_10 rfl rfl ?_
      refine gM_owners dX12_ownedAnew_11 ?_
      refine J_iload_n (q := 2) dX12_ownedAnew_14 rfl rfl ?_
      obtain ⟨hg2, h⟩ := gd_some h
      refine aM_ld (h := 3) (n := 5) dX12_ownedAnew_15 (by decide) rfl hg2 ?_
      refine J_bipush dX12_ownedAnew_16 bp_9 ?_
      obtain ⟨s7, ha41, h⟩ := bd_some h
      have K41 : Jw E (ΓM ad cy) RX12 cX12_ownedAnew 3 (some .int) (some (.int rv), o) 41 [(0, .ref (ad 0)), (2, .int x2)] [.int s7, .int x1] o := by
        clear ha41
        refine J_iadd dX12_ownedAnew_41 ?_
        refine J_ti (fun v8 ev8 => ?_)
        replace h := nm_some ev8 h
        refine J_istore_n (lv' := [(1, .int v8), (0, .ref (ad 0)), (2, .int x2)]) dX12_ownedAnew_42 rfl (by decide) rfl ?_
        refine J_iinc (q := 2) (v := (x2 + (1 : Int32))) (lv' := [(2, .int (x2 + (1 : Int32))), (1, .int v8), (0, .ref (ad 0))]) dX12_ownedAnew_43 rfl (congrArg (fun z => x2 + z) ic_1) (by decide) rfl ?_
        refine J_tv (fun v9 ev9 => ?_)
        replace h := nm_some ev9 h
        refine J_goto (tgt := 4) dX12_ownedAnew_46 (by decide) ?_
        exact J_sub [2, 1, 0] rfl (ih _ _ h)
      clear h
      obtain ⟨kk40, ekk40, ha41⟩ := jn_some ha41
      have K40 : kk40 = some (s7) → Jw E (ΓM ad cy) RX12 cX12_ownedAnew 3 (some .int) (some (.int rv), o) 40 [(0, .ref (ad 0)), (2, .int x2)] [.int x1] o := by
        subst ekk40
        clear ha41
        intro ha41
        refine J_iconst dX12_ownedAnew_40 ic_0 ?_
        cases ha41
        exact J_sub [0, 1] rfl (K41)
      clear ekk40
      refine J_icmp_eq (tgt := 40) dX12_ownedAnew_18 (by decide) (fun c3 => ?_) (fun c3 => ?_)
      · replace ha41 := it_some ha41 c3
        exact J_sub [0, 2] rfl (K40 ha41)
      · replace ha41 := if_some ha41 c3
        refine J_aload_n (q := 0) dX12_ownedAnew_21 rfl rfl ?_
        refine gM_owners dX12_ownedAnew_22 ?_
        refine J_iload_n (q := 2) dX12_ownedAnew_25 rfl rfl ?_
        obtain ⟨hg4, ha41⟩ := gd_some ha41
        refine aM_ld (h := 3) (n := 5) dX12_ownedAnew_26 (by decide) rfl hg4 ?_
        refine J_aload_n (q := 0) dX12_ownedAnew_27 rfl rfl ?_
        refine gM_had dX12_ownedAnew_28 ?_
        refine J_iload_n (q := 2) dX12_ownedAnew_31 rfl rfl ?_
        obtain ⟨hg5, ha41⟩ := gd_some ha41
        refine aM_ld (h := 20) (n := 5) dX12_ownedAnew_32 (by decide) rfl hg5 ?_
        refine J_icmp_eq (tgt := 40) dX12_ownedAnew_33 (by decide) (fun c6 => ?_) (fun c6 => ?_)
        · replace ha41 := it_some ha41 c6
          exact J_sub [0, 2] rfl (K40 ha41)
        · replace ha41 := if_some ha41 c6
          refine J_iconst dX12_ownedAnew_36 ic_1 ?_
          refine J_goto (tgt := 41) dX12_ownedAnew_37 (by decide) ?_
          cases ha41
          exact J_sub [0, 2] rfl (K41)
set_option maxRecDepth 20000 in
set_option maxHeartbeats 4000000 in
theorem M_ownedAnew_ok {E : Ec} {ad : Nat → Nat} {cy : Nat → ClassId} {rv : Int32} {o : Ob} (hi : wl_inj (ΓM ad cy)) (hL : Lv E 0) (h : M_ownedAnew o = some rv) : Jw E (ΓM ad cy) RX12 cX12_ownedAnew 3 (some .int) (some (.int rv), o) 0 [(0, .ref (ad 0))] [] o := by
  unfold M_ownedAnew at h
  refine J_iconst dX12_ownedAnew_0 ic_0 ?_
  refine J_istore_n (lv' := [(1, .int (0 : Int32)), (0, .ref (ad 0))]) dX12_ownedAnew_1 rfl (by decide) rfl ?_
  refine J_iconst dX12_ownedAnew_2 ic_0 ?_
  refine J_istore_n (lv' := [(2, .int (0 : Int32)), (1, .int (0 : Int32)), (0, .ref (ad 0))]) dX12_ownedAnew_3 rfl (by decide) rfl ?_
  refine J_sub [2, 1, 0] rfl (M_ownedAnew_L4_ok hi hL FU _ _ h)
set_option maxRecDepth 20000 in
set_option maxHeartbeats 4000000 in
theorem kX12_ownedAnew {l : Launch} {D : va_G} {ad : Nat → Nat} {cy : Nat → ClassId} {rv : Int32} {o : Ob} (hi : wl_inj (ΓM ad cy)) (h : M_ownedAnew o = some rv) : Cn l D (ΓM ad cy) yX12_ownedAnew cX12_ownedAnew 3 (some .int) 0 [.ref (ad 0)] o (some (.int rv), o) :=
  Cn.of hi rfl (Nat.le_of_ble_eq_true rfl) (fun _ _ _ hL => M_ownedAnew_ok hi hL h)
set_option maxRecDepth 20000 in
set_option maxHeartbeats 4000000 in
theorem pdX12_ownedAnew : (parseMethodDescriptor yX12_ownedAnew.desc).map (fun d => d.parameters.length) = some 0 := by decide +kernel
set_option maxRecDepth 20000 in
set_option maxHeartbeats 4000000 in
theorem kM_ownedAnew {E : Ec} {ad : Nat → Nat} {cy : Nat → ClassId} {cc : ByteArray} {nL : Nat} {rt : Option FieldType} {r : Option Value × Ob} {pc n : Nat} {lv : List (Nat × Value)} {st : List Value} {o : Ob} {v : Int32} (hi : wl_inj (ΓM ad cy)) (hd : decode cc pc = .ok (.invokevirtual 311, 3)) (hq : M_ownedAnew o = some v) (hL : Lv E n) (hn : 0 + 1 ≤ n) (hW : (st.map fun v => v.category).sum ≤ 8) (k : Jw E (ΓM ad cy) RX12 cc nL rt r (pc + 3) lv (.int v :: st) o) : Jw E (ΓM ad cy) RX12 cc nL rt r pc lv (.ref (ad 0) :: st) o :=
  J_callV (h := 0) (ci := 11) (av := []) (q := (some (.int v), o)) (st := st) hd (kX12_ownedAnew hi hq) tw_6_109 tw_6_111 tw_1_13 tw_6_112 sl_4_11 ⟨by decide, by decide, pdX12_ownedAnew⟩ (Nat.le_of_ble_eq_true rfl) rfl rfl rfl rfl (by decide) hL hn hW k
set_option maxRecDepth 20000 in
set_option maxHeartbeats 4000000 in
theorem M_years_L44_ok {E : Ec} {ad : Nat → Nat} {cy : Nat → ClassId} {rv : (Int32 × Ob)} {k70 : Ob → Option (Int32 × Ob)} {a1 : Int32} {a3 : Int32} {a4 : Int32} (hi : wl_inj (ΓM ad cy)) (hL : Lv E 6) (hk70 : ∀ (yw : Ob), k70 yw = some rv → Jw E (ΓM ad cy) RX12 cX12_years 7 (some .int) (some (.int rv.1), rv.2) 70 [(0, .ref (ad 0)), (1, .int a1), (3, .int a3), (4, .int a4)] [] yw) : ∀ (n : Nat) (o : Ob) (x5 : Int32), M_years_L44 k70 a1 a3 a4 n o x5 = some rv → Jw E (ΓM ad cy) RX12 cX12_years 7 (some .int) (some (.int rv.1), rv.2) 44 [(0, .ref (ad 0)), (1, .int a1), (3, .int a3), (4, .int a4), (5, .int x5)] [] o := by
  intro n
  induction n with
  | zero =>
    intro o x5 h
    rw [M_years_L44] at h
    cases h
  | succ n ih =>
    intro o x5 h
    rw [M_years_L44] at h
    refine J_iload (q := 4) dX12_years_44 rfl ?_
    refine J_iconst dX12_years_46 ic_5 ?_
    refine J_icmp_ge (tgt := 70) dX12_years_47 (by decide) (fun c8 => ?_) (fun c8 => ?_)
    · replace h := it_some h c8
      exact J_sub [0, 1, 2, 3] rfl (hk70 _ h)
    · replace h := if_some h c8
      refine J_aload_n (q := 0) dX12_years_50 rfl rfl ?_
      refine gM_had dX12_years_51 ?_
      refine J_iload (q := 4) dX12_years_54 rfl ?_
      refine J_aload_n (q := 0) dX12_years_56 rfl rfl ?_
      refine gM_owners dX12_years_57 ?_
      refine J_iload (q := 4) dX12_years_60 rfl ?_
      obtain ⟨hg9, h⟩ := gd_some h
      refine aM_ld (h := 3) (n := 5) dX12_years_62 (by decide) rfl hg9 ?_
      obtain ⟨hg10, h⟩ := gd_some h
      refine aM_st (h := 20) (n := 5) dX12_years_63 (by decide) rfl hg10 ?_
      refine J_tw (fun o11 eo11 => ?_)
      replace h := nm_some eo11 h
      refine J_iinc (q := 4) (v := (x5 + (1 : Int32))) (lv' := [(5, .int (x5 + (1 : Int32))), (0, .ref (ad 0)), (1, .int a1), (3, .int a3), (4, .int a4)]) dX12_years_64 rfl (congrArg (fun z => x5 + z) ic_1) (by decide) rfl ?_
      refine J_tv (fun v12 ev12 => ?_)
      replace h := nm_some ev12 h
      refine J_goto (tgt := 44) dX12_years_67 (by decide) ?_
      exact J_sub [1, 2, 3, 4, 0] rfl (ih _ _ h)
set_option maxRecDepth 20000 in
set_option maxHeartbeats 4000000 in
theorem M_years_L82_ok {E : Ec} {ad : Nat → Nat} {cy : Nat → ClassId} {rv : (Int32 × Ob)} {k108 : Ob → Option (Int32 × Ob)} {a1 : Int32} {a3 : Int32} {a4 : Int32} {a5 : Int32} (hi : wl_inj (ΓM ad cy)) (hL : Lv E 6) (hk108 : ∀ (yw : Ob), k108 yw = some rv → Jw E (ΓM ad cy) RX12 cX12_years 7 (some .int) (some (.int rv.1), rv.2) 108 [(0, .ref (ad 0)), (1, .int a1), (3, .int a3), (4, .int a4), (5, .int a5)] [] yw) : ∀ (n : Nat) (o : Ob) (x6 : Int32), M_years_L82 k108 a1 a3 a4 a5 n o x6 = some rv → Jw E (ΓM ad cy) RX12 cX12_years 7 (some .int) (some (.int rv.1), rv.2) 82 [(0, .ref (ad 0)), (1, .int a1), (3, .int a3), (4, .int a4), (5, .int a5), (6, .int x6)] [] o := by
  intro n
  induction n with
  | zero =>
    intro o x6 h
    rw [M_years_L82] at h
    cases h
  | succ n ih =>
    intro o x6 h
    rw [M_years_L82] at h
    refine J_iload (q := 5) dX12_years_82 rfl ?_
    refine J_iconst dX12_years_84 ic_5 ?_
    refine J_icmp_ge (tgt := 108) dX12_years_85 (by decide) (fun c15 => ?_) (fun c15 => ?_)
    · replace h := it_some h c15
      exact J_sub [0, 1, 2, 3, 4] rfl (hk108 _ h)
    · replace h := if_some h c15
      refine J_aload_n (q := 0) dX12_years_88 rfl rfl ?_
      refine gM_pasts dX12_years_89 ?_
      refine J_iload (q := 5) dX12_years_92 rfl ?_
      refine J_aload_n (q := 0) dX12_years_94 rfl rfl ?_
      refine J_sipush dX12_years_95 sp_4096 ?_
      obtain ⟨r16, o17, hq21, h⟩ := bd2_some h
      refine kM_drawBelow hi dX12_years_98 hq21 hL (by decide) (Nat.le_of_ble_eq_true rfl) ?_
      obtain ⟨hg18, h⟩ := gd_some h
      refine aM_st (h := 1) (n := 5) dX12_years_101 (by decide) rfl hg18 ?_
      refine J_tw (fun o19 eo19 => ?_)
      replace h := nm_some eo19 h
      refine J_iinc (q := 5) (v := (x6 + (1 : Int32))) (lv' := [(6, .int (x6 + (1 : Int32))), (0, .ref (ad 0)), (1, .int a1), (3, .int a3), (4, .int a4), (5, .int a5)]) dX12_years_102 rfl (congrArg (fun z => x6 + z) ic_1) (by decide) rfl ?_
      refine J_tv (fun v20 ev20 => ?_)
      replace h := nm_some ev20 h
      refine J_goto (tgt := 82) dX12_years_105 (by decide) ?_
      exact J_sub [1, 2, 3, 4, 5, 0] rfl (ih _ _ h)
set_option maxRecDepth 20000 in
set_option maxHeartbeats 4000000 in
theorem M_years_L111_ok {E : Ec} {ad : Nat → Nat} {cy : Nat → ClassId} {rv : (Int32 × Ob)} {k138 : Ob → Option (Int32 × Ob)} {a1 : Int32} {a3 : Int32} {a4 : Int32} {a5 : Int32} (hi : wl_inj (ΓM ad cy)) (hL : Lv E 6) (hk138 : ∀ (yw : Ob), k138 yw = some rv → Jw E (ΓM ad cy) RX12 cX12_years 7 (some .int) (some (.int rv.1), rv.2) 138 [(0, .ref (ad 0)), (1, .int a1), (3, .int a3), (4, .int a4), (5, .int a5)] [] yw) : ∀ (n : Nat) (o : Ob) (x6 : Int32), M_years_L111 k138 a1 a3 a4 a5 n o x6 = some rv → Jw E (ΓM ad cy) RX12 cX12_years 7 (some .int) (some (.int rv.1), rv.2) 111 [(0, .ref (ad 0)), (1, .int a1), (3, .int a3), (4, .int a4), (5, .int a5), (6, .int x6)] [] o := by
  intro n
  induction n with
  | zero =>
    intro o x6 h
    rw [M_years_L111] at h
    cases h
  | succ n ih =>
    intro o x6 h
    rw [M_years_L111] at h
    refine J_iload (q := 5) dX12_years_111 rfl ?_
    refine J_aload_n (q := 0) dX12_years_113 rfl rfl ?_
    refine gM_many dX12_years_114 ?_
    refine J_icmp_ge (tgt := 138) dX12_years_117 (by decide) (fun c23 => ?_) (fun c23 => ?_)
    · replace h := it_some h c23
      exact J_sub [0, 1, 2, 3, 4] rfl (hk138 _ h)
    · replace h := if_some h c23
      refine J_aload_n (q := 0) dX12_years_120 rfl rfl ?_
      refine gM_caring dX12_years_121 ?_
      refine J_iload (q := 5) dX12_years_124 rfl ?_
      refine J_aload_n (q := 0) dX12_years_126 rfl rfl ?_
      refine J_iconst dX12_years_127 ic_5 ?_
      obtain ⟨r24, o25, hq29, h⟩ := bd2_some h
      refine kM_drawBelow hi dX12_years_128 hq29 hL (by decide) (Nat.le_of_ble_eq_true rfl) ?_
      obtain ⟨hg26, h⟩ := gd_some h
      refine aM_st (h := 6) (n := 7) dX12_years_131 (by decide) rfl hg26 ?_
      refine J_tw (fun o27 eo27 => ?_)
      replace h := nm_some eo27 h
      refine J_iinc (q := 5) (v := (x6 + (1 : Int32))) (lv' := [(6, .int (x6 + (1 : Int32))), (0, .ref (ad 0)), (1, .int a1), (3, .int a3), (4, .int a4), (5, .int a5)]) dX12_years_132 rfl (congrArg (fun z => x6 + z) ic_1) (by decide) rfl ?_
      refine J_tv (fun v28 ev28 => ?_)
      replace h := nm_some ev28 h
      refine J_goto (tgt := 111) dX12_years_135 (by decide) ?_
      exact J_sub [1, 2, 3, 4, 5, 0] rfl (ih _ _ h)
set_option maxRecDepth 20000 in
set_option maxHeartbeats 4000000 in
theorem M_years_L73_ok {E : Ec} {ad : Nat → Nat} {cy : Nat → ClassId} {rv : (Int32 × Ob)} {a1 : Int32} {a3 : Int32} (hi : wl_inj (ΓM ad cy)) (hL : Lv E 6) : ∀ (n : Nat) (o : Ob) (x4 : Int32) (x5 : Int32), M_years_L73 a1 a3 n o x4 x5 = some rv → Jw E (ΓM ad cy) RX12 cX12_years 7 (some .int) (some (.int rv.1), rv.2) 73 [(0, .ref (ad 0)), (1, .int a1), (3, .int a3), (4, .int x4), (5, .int x5)] [] o := by
  intro n
  induction n with
  | zero =>
    intro o x4 x5 h
    rw [M_years_L73] at h
    cases h
  | succ n ih =>
    intro o x4 x5 h
    rw [M_years_L73] at h
    refine J_iload (q := 4) dX12_years_73 rfl ?_
    refine J_iload_n (q := 1) dX12_years_75 rfl rfl ?_
    refine J_icmp_ge (tgt := 177) dX12_years_76 (by decide) (fun c14 => ?_) (fun c14 => ?_)
    · replace h := it_some h c14
      refine J_iload (q := 3) dX12_years_177 rfl ?_
      exact J_iret dX12_years_179 (rt_i h) rfl
    · replace h := if_some h c14
      refine J_iconst dX12_years_79 ic_0 ?_
      refine J_istore (lv' := [(6, .int (0 : Int32)), (0, .ref (ad 0)), (1, .int a1), (3, .int a3), (4, .int x4), (5, .int x5)]) dX12_years_80 (by decide) rfl ?_
      refine J_sub [1, 2, 3, 4, 5, 0] rfl (M_years_L82_ok hi hL (fun o22 h => ?_) FU _ _ h)
      refine J_iconst dX12_years_108 ic_0 ?_
      refine J_istore (lv' := [(6, .int (0 : Int32)), (0, .ref (ad 0)), (1, .int a1), (3, .int a3), (4, .int x4), (5, .int x5)]) dX12_years_109 (by decide) rfl ?_
      refine J_sub [1, 2, 3, 4, 5, 0] rfl (M_years_L111_ok hi hL (fun o30 h => ?_) FU _ _ h)
      refine J_aload_n (q := 0) dX12_years_138 rfl rfl ?_
      refine J_bipush dX12_years_139 bp_8 ?_
      obtain ⟨o31, hq40, h⟩ := bd_some h
      refine kM_goDays hi dX12_years_141 hq40 hL (by decide) (Nat.le_of_ble_eq_true rfl) ?_
      refine J_iload (q := 3) dX12_years_144 rfl ?_
      refine J_iload_n (q := 2) dX12_years_146 rfl rfl ?_
      obtain ⟨s36, ha164, h⟩ := bd_some h
      have K164 : Jw E (ΓM ad cy) RX12 cX12_years 7 (some .int) (some (.int rv.1), rv.2) 164 [(0, .ref (ad 0)), (1, .int a1), (3, .int a3), (5, .int x5)] [.int s36, .int x4] o31 := by
        clear ha164
        refine J_iadd dX12_years_164 ?_
        refine J_ti (fun v37 ev37 => ?_)
        replace h := nm_some ev37 h
        refine J_istore (lv' := [(4, .int v37), (0, .ref (ad 0)), (1, .int a1), (3, .int a3), (5, .int x5)]) dX12_years_165 (by decide) rfl ?_
        refine J_aload_n (q := 1) dX12_years_167 rfl rfl ?_
        obtain ⟨o38, hq41, h⟩ := bd_some h
        refine kM_again hi dX12_years_168 hq41 hL (by decide) (Nat.le_of_ble_eq_true rfl) ?_
        refine J_iinc (q := 4) (v := (x5 + (1 : Int32))) (lv' := [(5, .int (x5 + (1 : Int32))), (4, .int v37), (0, .ref (ad 0)), (1, .int a1), (3, .int a3)]) dX12_years_171 rfl (congrArg (fun z => x5 + z) ic_1) (by decide) rfl ?_
        refine J_tv (fun v39 ev39 => ?_)
        replace h := nm_some ev39 h
        refine J_goto (tgt := 73) dX12_years_174 (by decide) ?_
        exact J_sub [2, 3, 4, 1, 0] rfl (ih _ _ _ h)
      clear h
      refine J_if_ne (tgt := 160) dX12_years_147 (by decide) (fun c32 => ?_) (fun c32 => ?_)
      · replace ha164 := if_some ha164 c32
        refine J_aload_n (q := 0) dX12_years_160 rfl rfl ?_
        obtain ⟨r33, hq42, ha164⟩ := bd_some ha164
        refine kM_ownedAnew hi dX12_years_161 hq42 hL (by decide) (Nat.le_of_ble_eq_true rfl) ?_
        cases ha164
        exact J_sub [0, 1, 2, 4] rfl (K164)
      · replace ha164 := it_some ha164 c32
        refine J_aload_n (q := 0) dX12_years_150 rfl rfl ?_
        obtain ⟨r34, hq43, ha164⟩ := bd_some ha164
        refine kM_ownedBits hi dX12_years_151 hq43 hL (by decide) (Nat.le_of_ble_eq_true rfl) ?_
        obtain ⟨r35, hq44, ha164⟩ := bd_some ha164
        refine kM_onesOf hi dX12_years_154 hq44 hL (by decide) (Nat.le_of_ble_eq_true rfl) ?_
        refine J_goto (tgt := 164) dX12_years_157 (by decide) ?_
        cases ha164
        exact J_sub [0, 1, 2, 4] rfl (K164)
set_option maxRecDepth 20000 in
set_option maxHeartbeats 4000000 in
theorem M_years_ok {E : Ec} {ad : Nat → Nat} {cy : Nat → ClassId} {rv : (Int32 × Ob)} {o : Ob} {p1 : Int32} {p2 : Int32} {p3 : Int32} (hi : wl_inj (ΓM ad cy)) (hL : Lv E 6) (h : M_years o p1 p2 p3 = some rv) : Jw E (ΓM ad cy) RX12 cX12_years 7 (some .int) (some (.int rv.1), rv.2) 0 [(0, .ref (ad 0)), (1, .int p1), (2, .int p2), (3, .int p3)] [] o := by
  unfold M_years at h
  refine J_aload_n (q := 0) dX12_years_0 rfl rfl ?_
  refine J_iconst dX12_years_1 ic_0 ?_
  refine pM_thrown dX12_years_2 ?_
  refine J_tw (fun o1 eo1 => ?_)
  replace h := nm_some eo1 h
  refine J_iload_n (q := 1) dX12_years_5 rfl rfl ?_
  refine J_i2l dX12_years_6 ?_
  refine J_lconst dX12_years_7 lc_1 ?_
  refine J_ldc2 dX12_years_8 tw_6_74 ?_
  obtain ⟨r2, hq45, h⟩ := bd_some h
  refine kM_in hi dX12_years_11 hq45 hL (by decide) (Nat.le_of_ble_eq_true rfl) ?_
  refine J_if_eq (tgt := 27) dX12_years_14 (by decide) (fun c3 => ?_) (fun c3 => ?_)
  · replace h := it_some h c3
    refine J_iconst dX12_years_27 ic_m1 ?_
    exact J_iret dX12_years_28 (rt_i h) rfl
  · replace h := if_some h c3
    refine J_iload_n (q := 3) dX12_years_17 rfl rfl ?_
    refine J_i2l dX12_years_18 ?_
    refine J_lconst dX12_years_19 lc_0 ?_
    refine J_lconst dX12_years_20 lc_1 ?_
    obtain ⟨r4, hq46, h⟩ := bd_some h
    refine kM_in hi dX12_years_21 hq46 hL (by decide) (Nat.le_of_ble_eq_true rfl) ?_
    refine J_if_ne (tgt := 29) dX12_years_24 (by decide) (fun c5 => ?_) (fun c5 => ?_)
    · replace h := if_some h c5
      refine J_aload_n (q := 0) dX12_years_29 rfl rfl ?_
      refine J_iload_n (q := 2) dX12_years_30 rfl rfl ?_
      refine pM_seed dX12_years_31 ?_
      refine J_tw (fun o6 eo6 => ?_)
      replace h := nm_some eo6 h
      refine J_iconst dX12_years_34 ic_0 ?_
      refine J_istore (lv' := [(4, .int (0 : Int32)), (0, .ref (ad 0)), (1, .int p1), (2, .int p2), (3, .int p3)]) dX12_years_35 (by decide) rfl ?_
      refine J_aload_n (q := 1) dX12_years_37 rfl rfl ?_
      obtain ⟨o7, hq47, h⟩ := bd_some h
      refine kM_think hi dX12_years_38 hq47 hL (by decide) (Nat.le_of_ble_eq_true rfl) ?_
      refine J_iconst dX12_years_41 ic_0 ?_
      refine J_istore (lv' := [(5, .int (0 : Int32)), (4, .int (0 : Int32)), (0, .ref (ad 0)), (1, .int p1), (2, .int p2), (3, .int p3)]) dX12_years_42 (by decide) rfl ?_
      refine J_sub [2, 3, 5, 1, 0] rfl (M_years_L44_ok hi hL (fun o13 h => ?_) FU _ _ h)
      refine J_iconst dX12_years_70 ic_0 ?_
      refine J_istore (lv' := [(5, .int (0 : Int32)), (0, .ref (ad 0)), (1, .int p1), (3, .int p3), (4, .int (0 : Int32))]) dX12_years_71 (by decide) rfl ?_
      refine J_sub [1, 2, 3, 4, 0] rfl (M_years_L73_ok hi hL FU _ _ _ h)
    · replace h := it_some h c5
      refine J_iconst dX12_years_27 ic_m1 ?_
      exact J_iret dX12_years_28 (rt_i h) rfl
set_option maxRecDepth 20000 in
set_option maxHeartbeats 4000000 in
theorem kX12_years {l : Launch} {D : va_G} {ad : Nat → Nat} {cy : Nat → ClassId} {rv : (Int32 × Ob)} {o : Ob} {p1 : Int32} {p2 : Int32} {p3 : Int32} (hi : wl_inj (ΓM ad cy)) (h : M_years o p1 p2 p3 = some rv) : Cn l D (ΓM ad cy) yX12_years cX12_years 7 (some .int) 6 [.ref (ad 0), .int p1, .int p2, .int p3] o (some (.int rv.1), rv.2) :=
  Cn.of hi rfl (Nat.le_of_ble_eq_true rfl) (fun _ _ _ hL => M_years_ok hi hL h)
set_option maxRecDepth 20000 in
set_option maxHeartbeats 4000000 in
theorem M_allKnown_L4_ok {E : Ec} {ad : Nat → Nat} {cy : Nat → ClassId} {rv : Int32} {o : Ob} (hi : wl_inj (ΓM ad cy)) (hL : Lv E 1) : ∀ (n : Nat) (x1 : Int32) (x2 : Int32), M_allKnown_L4 o n x1 x2 = some rv → Jw E (ΓM ad cy) RX12 cX12_allKnown 3 (some .int) (some (.int rv), o) 4 [(0, .ref (ad 0)), (1, .int x1), (2, .int x2)] [] o := by
  intro n
  induction n with
  | zero =>
    intro x1 x2 h
    rw [M_allKnown_L4] at h
    cases h
  | succ n ih =>
    intro x1 x2 h
    rw [M_allKnown_L4] at h
    refine J_iload_n (q := 2) dX12_allKnown_4 rfl rfl ?_
    refine J_iconst dX12_allKnown_5 ic_5 ?_
    refine J_aload_n (q := 0) dX12_allKnown_6 rfl rfl ?_
    refine gM_many dX12_allKnown_7 ?_
    refine J_imul dX12_allKnown_10 ?_
    refine J_icmp_ge (tgt := 32) dX12_allKnown_11 (by decide) (fun c1 => ?_) (fun c1 => ?_)
    · replace h := it_some h c1
      refine J_iload_n (q := 1) dX12_allKnown_32 rfl rfl ?_
      exact J_iret dX12_allKnown_33 (rt_pi h) rfl
    · replace h := if_some h c1
      refine J_iload_n (q := 1) dX12_allKnown_14 rfl rfl ?_
      refine J_aload_n (q := 0) dX12_allKnown_15 rfl rfl ?_
      refine gM_knows dX12_allKnown_16 ?_
      refine J_iload_n (q := 2) dX12_allKnown_19 rfl rfl ?_
      obtain ⟨hg2, h⟩ := gd_some h
      refine aM_ld (h := 7) (n := 35) dX12_allKnown_20 (by decide) rfl hg2 ?_
      obtain ⟨r3, hq6, h⟩ := bd_some h
      refine kM_onesOf hi dX12_allKnown_21 hq6 hL (by decide) (Nat.le_of_ble_eq_true rfl) ?_
      refine J_iadd dX12_allKnown_24 ?_
      refine J_ti (fun v4 ev4 => ?_)
      replace h := nm_some ev4 h
      refine J_istore_n (lv' := [(1, .int v4), (0, .ref (ad 0)), (2, .int x2)]) dX12_allKnown_25 rfl (by decide) rfl ?_
      refine J_iinc (q := 2) (v := (x2 + (1 : Int32))) (lv' := [(2, .int (x2 + (1 : Int32))), (1, .int v4), (0, .ref (ad 0))]) dX12_allKnown_26 rfl (congrArg (fun z => x2 + z) ic_1) (by decide) rfl ?_
      refine J_tv (fun v5 ev5 => ?_)
      replace h := nm_some ev5 h
      refine J_goto (tgt := 4) dX12_allKnown_29 (by decide) ?_
      exact J_sub [2, 1, 0] rfl (ih _ _ h)
set_option maxRecDepth 20000 in
set_option maxHeartbeats 4000000 in
theorem M_allKnown_ok {E : Ec} {ad : Nat → Nat} {cy : Nat → ClassId} {rv : Int32} {o : Ob} (hi : wl_inj (ΓM ad cy)) (hL : Lv E 1) (h : M_allKnown o = some rv) : Jw E (ΓM ad cy) RX12 cX12_allKnown 3 (some .int) (some (.int rv), o) 0 [(0, .ref (ad 0))] [] o := by
  unfold M_allKnown at h
  refine J_iconst dX12_allKnown_0 ic_0 ?_
  refine J_istore_n (lv' := [(1, .int (0 : Int32)), (0, .ref (ad 0))]) dX12_allKnown_1 rfl (by decide) rfl ?_
  refine J_iconst dX12_allKnown_2 ic_0 ?_
  refine J_istore_n (lv' := [(2, .int (0 : Int32)), (1, .int (0 : Int32)), (0, .ref (ad 0))]) dX12_allKnown_3 rfl (by decide) rfl ?_
  refine J_sub [2, 1, 0] rfl (M_allKnown_L4_ok hi hL FU _ _ h)
set_option maxRecDepth 20000 in
set_option maxHeartbeats 4000000 in
theorem kX12_allKnown {l : Launch} {D : va_G} {ad : Nat → Nat} {cy : Nat → ClassId} {rv : Int32} {o : Ob} (hi : wl_inj (ΓM ad cy)) (h : M_allKnown o = some rv) : Cn l D (ΓM ad cy) yX12_allKnown cX12_allKnown 3 (some .int) 1 [.ref (ad 0)] o (some (.int rv), o) :=
  Cn.of hi rfl (Nat.le_of_ble_eq_true rfl) (fun _ _ _ hL => M_allKnown_ok hi hL h)
set_option maxRecDepth 20000 in
set_option maxHeartbeats 4000000 in
theorem pdX12_allKnown : (parseMethodDescriptor yX12_allKnown.desc).map (fun d => d.parameters.length) = some 0 := by decide +kernel
set_option maxRecDepth 20000 in
set_option maxHeartbeats 4000000 in
theorem kM_allKnown {E : Ec} {ad : Nat → Nat} {cy : Nat → ClassId} {cc : ByteArray} {nL : Nat} {rt : Option FieldType} {r : Option Value × Ob} {pc n : Nat} {lv : List (Nat × Value)} {st : List Value} {o : Ob} {v : Int32} (hi : wl_inj (ΓM ad cy)) (hd : decode cc pc = .ok (.invokevirtual 314, 3)) (hq : M_allKnown o = some v) (hL : Lv E n) (hn : 1 + 1 ≤ n) (hW : (st.map fun v => v.category).sum ≤ 8) (k : Jw E (ΓM ad cy) RX12 cc nL rt r (pc + 3) lv (.int v :: st) o) : Jw E (ΓM ad cy) RX12 cc nL rt r pc lv (.ref (ad 0) :: st) o :=
  J_callV (h := 0) (ci := 11) (av := []) (q := (some (.int v), o)) (st := st) hd (kX12_allKnown hi hq) tw_6_117 tw_6_119 tw_1_13 tw_6_120 sl_4_12 ⟨by decide, by decide, pdX12_allKnown⟩ (Nat.le_of_ble_eq_true rfl) rfl rfl rfl rfl (by decide) hL hn hW k
set_option maxRecDepth 20000 in
set_option maxHeartbeats 4000000 in
theorem M_count_ok {E : Ec} {ad : Nat → Nat} {cy : Nat → ClassId} {rv : (Int32 × Ob)} {o : Ob} {p1 : Int32} (hi : wl_inj (ΓM ad cy)) (hL : Lv E 2) (h : M_count o p1 = some rv) : Jw E (ΓM ad cy) RX12 cX12_count 2 (some .int) (some (.int rv.1), rv.2) 0 [(0, .ref (ad 0)), (1, .int p1)] [] o := by
  unfold M_count at h
  refine J_aload_n (q := 0) dX12_count_0 rfl rfl ?_
  refine J_iconst dX12_count_1 ic_0 ?_
  refine pM_thrown dX12_count_2 ?_
  refine J_tw (fun o1 eo1 => ?_)
  replace h := nm_some eo1 h
  refine J_iload_n (q := 1) dX12_count_5 rfl rfl ?_
  by_cases c2 : p1 = (0 : Int32)
  · replace h := it_some h c2
    refine J_tin (tgt := 40) dX12_count_6 (by rw [c2]; decide) (by rw [c2]; decide) (by rw [c2]; rfl) (by decide) ?_
    refine J_aload_n (q := 0) dX12_count_40 rfl rfl ?_
    refine gM_many dX12_count_41 ?_
    exact J_iret dX12_count_44 (rt_i h) rfl
  · replace h := if_some h c2
    by_cases c3 : p1 = (1 : Int32)
    · replace h := it_some h c3
      refine J_tin (tgt := 45) dX12_count_6 (by rw [c3]; decide) (by rw [c3]; decide) (by rw [c3]; rfl) (by decide) ?_
      refine J_aload_n (q := 0) dX12_count_45 rfl rfl ?_
      refine gM_today dX12_count_46 ?_
      exact J_iret dX12_count_49 (rt_i h) rfl
    · replace h := if_some h c3
      by_cases c4 : p1 = (2 : Int32)
      · replace h := it_some h c4
        refine J_tin (tgt := 50) dX12_count_6 (by rw [c4]; decide) (by rw [c4]; decide) (by rw [c4]; rfl) (by decide) ?_
        refine J_aload_n (q := 0) dX12_count_50 rfl rfl ?_
        obtain ⟨r5, hq10, h⟩ := bd_some h
        refine kM_ownedBits hi dX12_count_51 hq10 hL (by decide) (Nat.le_of_ble_eq_true rfl) ?_
        exact J_iret dX12_count_54 (rt_i h) rfl
      · replace h := if_some h c4
        by_cases c6 : p1 = (3 : Int32)
        · replace h := it_some h c6
          refine J_tin (tgt := 55) dX12_count_6 (by rw [c6]; decide) (by rw [c6]; decide) (by rw [c6]; rfl) (by decide) ?_
          refine J_aload_n (q := 0) dX12_count_55 rfl rfl ?_
          obtain ⟨r7, hq11, h⟩ := bd_some h
          refine kM_allWorth hi dX12_count_56 hq11 hL (by decide) (Nat.le_of_ble_eq_true rfl) ?_
          exact J_iret dX12_count_59 (rt_i h) rfl
        · replace h := if_some h c6
          by_cases c8 : p1 = (4 : Int32)
          · replace h := it_some h c8
            refine J_tin (tgt := 60) dX12_count_6 (by rw [c8]; decide) (by rw [c8]; decide) (by rw [c8]; rfl) (by decide) ?_
            refine J_aload_n (q := 0) dX12_count_60 rfl rfl ?_
            obtain ⟨r9, hq12, h⟩ := bd_some h
            refine kM_allKnown hi dX12_count_61 hq12 hL (by decide) (Nat.le_of_ble_eq_true rfl) ?_
            exact J_iret dX12_count_64 (rt_i h) rfl
          · replace h := if_some h c8
            refine J_tout (tgt := 65) dX12_count_6 (sw_out0_4 c2 c3 c4 c6 c8) (by decide) ?_
            refine J_iconst dX12_count_65 ic_m1 ?_
            exact J_iret dX12_count_66 (rt_i h) rfl
set_option maxRecDepth 20000 in
set_option maxHeartbeats 4000000 in
theorem kX12_count {l : Launch} {D : va_G} {ad : Nat → Nat} {cy : Nat → ClassId} {rv : (Int32 × Ob)} {o : Ob} {p1 : Int32} (hi : wl_inj (ΓM ad cy)) (h : M_count o p1 = some rv) : Cn l D (ΓM ad cy) yX12_count cX12_count 2 (some .int) 2 [.ref (ad 0), .int p1] o (some (.int rv.1), rv.2) :=
  Cn.of hi rfl (Nat.le_of_ble_eq_true rfl) (fun _ _ _ hL => M_count_ok hi hL h)
set_option maxRecDepth 20000 in
set_option maxHeartbeats 4000000 in
theorem M_keep_ok {E : Ec} {ad : Nat → Nat} {cy : Nat → ClassId} {rv : (Int32 × Ob)} {o : Ob} {p1 : Int32} {p2 : Int32} {p3 : Int32} {p4 : Int32} (hi : wl_inj (ΓM ad cy)) (hL : Lv E 1) (h : M_keep o p1 p2 p3 p4 = some rv) : Jw E (ΓM ad cy) RX12 cX12_keep 5 (some .int) (some (.int rv.1), rv.2) 0 [(0, .ref (ad 0)), (1, .int p1), (2, .int p2), (3, .int p3), (4, .int p4)] [] o := by
  unfold M_keep at h
  refine J_aload_n (q := 0) dX12_keep_0 rfl rfl ?_
  refine J_iconst dX12_keep_1 ic_0 ?_
  refine pM_thrown dX12_keep_2 ?_
  refine J_tw (fun o1 eo1 => ?_)
  replace h := nm_some eo1 h
  refine J_iload_n (q := 1) dX12_keep_5 rfl rfl ?_
  refine J_i2l dX12_keep_6 ?_
  refine J_lconst dX12_keep_7 lc_0 ?_
  refine J_ldc2 dX12_keep_8 tw_5_29 ?_
  obtain ⟨r2, hq21, h⟩ := bd_some h
  refine kM_in hi dX12_keep_11 hq21 hL (by decide) (Nat.le_of_ble_eq_true rfl) ?_
  refine J_if_eq (tgt := 57) dX12_keep_14 (by decide) (fun c3 => ?_) (fun c3 => ?_)
  · replace h := it_some h c3
    refine J_iconst dX12_keep_57 ic_m1 ?_
    exact J_iret dX12_keep_58 (rt_i h) rfl
  · replace h := if_some h c3
    refine J_iload_n (q := 2) dX12_keep_17 rfl rfl ?_
    refine J_i2l dX12_keep_18 ?_
    refine J_lconst dX12_keep_19 lc_0 ?_
    refine J_lconst dX12_keep_20 lc_1 ?_
    obtain ⟨r4, hq22, h⟩ := bd_some h
    refine kM_in hi dX12_keep_21 hq22 hL (by decide) (Nat.le_of_ble_eq_true rfl) ?_
    refine J_if_eq (tgt := 57) dX12_keep_24 (by decide) (fun c5 => ?_) (fun c5 => ?_)
    · replace h := it_some h c5
      refine J_iconst dX12_keep_57 ic_m1 ?_
      exact J_iret dX12_keep_58 (rt_i h) rfl
    · replace h := if_some h c5
      refine J_iload_n (q := 2) dX12_keep_27 rfl rfl ?_
      refine J_iconst dX12_keep_28 ic_1 ?_
      obtain ⟨kk59, ekk59, h⟩ := jn_some h
      have K59 : kk59 = some rv → Jw E (ΓM ad cy) RX12 cX12_keep 5 (some .int) (some (.int rv.1), rv.2) 59 [(0, .ref (ad 0)), (1, .int p1), (2, .int p2), (3, .int p3), (4, .int p4)] [] o1 := by
        subst ekk59
        clear h
        intro h
        refine J_aload_n (q := 0) dX12_keep_59 rfl rfl ?_
        refine gM_holdsWhat dX12_keep_60 ?_
        refine J_iload_n (q := 1) dX12_keep_63 rfl rfl ?_
        refine J_iload_n (q := 2) dX12_keep_64 rfl rfl ?_
        obtain ⟨hg11, h⟩ := gd_some h
        refine aM_st (h := 8) (n := 8) dX12_keep_65 (by decide) rfl hg11 ?_
        refine J_tw (fun o12 eo12 => ?_)
        replace h := nm_some eo12 h
        refine J_aload_n (q := 0) dX12_keep_66 rfl rfl ?_
        refine gM_keptKind dX12_keep_67 ?_
        refine J_iload_n (q := 1) dX12_keep_70 rfl rfl ?_
        refine J_iload_n (q := 2) dX12_keep_71 rfl rfl ?_
        refine J_iconst dX12_keep_72 ic_1 ?_
        obtain ⟨s14, ha81, h⟩ := bd_some h
        have K81 : Jw E (ΓM ad cy) RX12 cX12_keep 5 (some .int) (some (.int rv.1), rv.2) 81 [(0, .ref (ad 0)), (1, .int p1), (2, .int p2), (4, .int p4)] [.int s14, .int p1, .ref (ad 9)] o12 := by
          clear ha81
          obtain ⟨hg15, h⟩ := gd_some h
          refine aM_st (h := 9) (n := 8) dX12_keep_81 (by decide) rfl hg15 ?_
          refine J_tw (fun o16 eo16 => ?_)
          replace h := nm_some eo16 h
          refine J_aload_n (q := 0) dX12_keep_82 rfl rfl ?_
          refine gM_keptFigure dX12_keep_83 ?_
          refine J_iload_n (q := 1) dX12_keep_86 rfl rfl ?_
          refine J_iload_n (q := 2) dX12_keep_87 rfl rfl ?_
          refine J_iconst dX12_keep_88 ic_1 ?_
          obtain ⟨s18, ha98, h⟩ := bd_some h
          have K98 : Jw E (ΓM ad cy) RX12 cX12_keep 5 (some .int) (some (.int rv.1), rv.2) 98 [] [.int s18, .int p1, .ref (ad 10)] o16 := by
            clear ha98
            obtain ⟨hg19, h⟩ := gd_some h
            refine aM_st (h := 10) (n := 8) dX12_keep_98 (by decide) rfl hg19 ?_
            refine J_tw (fun o20 eo20 => ?_)
            replace h := nm_some eo20 h
            refine J_iconst dX12_keep_99 ic_0 ?_
            exact J_iret dX12_keep_100 (rt_i h) rfl
          clear h
          refine J_icmp_ne (tgt := 97) dX12_keep_89 (by decide) (fun c17 => ?_) (fun c17 => ?_)
          · replace ha98 := if_some ha98 c17
            refine J_iconst dX12_keep_97 ic_0 ?_
            cases ha98
            exact J_sub [] rfl (K98)
          · replace ha98 := it_some ha98 c17
            refine J_iload (q := 3) dX12_keep_92 rfl ?_
            refine J_goto (tgt := 98) dX12_keep_94 (by decide) ?_
            cases ha98
            exact J_sub [] rfl (K98)
        clear h
        refine J_icmp_ne (tgt := 80) dX12_keep_73 (by decide) (fun c13 => ?_) (fun c13 => ?_)
        · replace ha81 := if_some ha81 c13
          refine J_iconst dX12_keep_80 ic_0 ?_
          cases ha81
          exact J_sub [0, 1, 2, 4] rfl (K81)
        · replace ha81 := it_some ha81 c13
          refine J_iload_n (q := 3) dX12_keep_76 rfl rfl ?_
          refine J_goto (tgt := 81) dX12_keep_77 (by decide) ?_
          cases ha81
          exact J_sub [0, 1, 2, 4] rfl (K81)
      clear ekk59
      refine J_icmp_ne (tgt := 59) dX12_keep_29 (by decide) (fun c6 => ?_) (fun c6 => ?_)
      · replace h := if_some h c6
        exact J_sub [0, 1, 2, 3, 4] rfl (K59 h)
      · replace h := it_some h c6
        refine J_iload_n (q := 3) dX12_keep_32 rfl rfl ?_
        refine J_i2l dX12_keep_33 ?_
        refine J_lconst dX12_keep_34 lc_0 ?_
        refine J_ldc2 dX12_keep_35 tw_5_29 ?_
        obtain ⟨r7, hq23, h⟩ := bd_some h
        refine kM_in hi dX12_keep_38 hq23 hL (by decide) (Nat.le_of_ble_eq_true rfl) ?_
        refine J_if_eq (tgt := 57) dX12_keep_41 (by decide) (fun c8 => ?_) (fun c8 => ?_)
        · replace h := it_some h c8
          refine J_iconst dX12_keep_57 ic_m1 ?_
          exact J_iret dX12_keep_58 (rt_i h) rfl
        · replace h := if_some h c8
          refine J_iload (q := 4) dX12_keep_44 rfl ?_
          refine J_i2l dX12_keep_46 ?_
          refine J_lconst dX12_keep_47 lc_0 ?_
          refine J_ldc2 dX12_keep_48 tw_6_125 ?_
          obtain ⟨r9, hq24, h⟩ := bd_some h
          refine kM_in hi dX12_keep_51 hq24 hL (by decide) (Nat.le_of_ble_eq_true rfl) ?_
          refine J_if_ne (tgt := 59) dX12_keep_54 (by decide) (fun c10 => ?_) (fun c10 => ?_)
          · replace h := if_some h c10
            exact J_sub [0, 1, 2, 3, 4] rfl (K59 h)
          · replace h := it_some h c10
            refine J_iconst dX12_keep_57 ic_m1 ?_
            exact J_iret dX12_keep_58 (rt_i h) rfl
set_option maxRecDepth 20000 in
set_option maxHeartbeats 4000000 in
theorem kX12_keep {l : Launch} {D : va_G} {ad : Nat → Nat} {cy : Nat → ClassId} {rv : (Int32 × Ob)} {o : Ob} {p1 : Int32} {p2 : Int32} {p3 : Int32} {p4 : Int32} (hi : wl_inj (ΓM ad cy)) (h : M_keep o p1 p2 p3 p4 = some rv) : Cn l D (ΓM ad cy) yX12_keep cX12_keep 5 (some .int) 1 [.ref (ad 0), .int p1, .int p2, .int p3, .int p4] o (some (.int rv.1), rv.2) :=
  Cn.of hi rfl (Nat.le_of_ble_eq_true rfl) (fun _ _ _ hL => M_keep_ok hi hL h)
set_option maxRecDepth 20000 in
set_option maxHeartbeats 4000000 in
theorem M_narrowed_ok {E : Ec} {ad : Nat → Nat} {cy : Nat → ClassId} {rv : Int64} {o : Ob} {p0 : Int32} {p1 : Int32} (hi : wl_inj (ΓM ad cy)) (hL : Lv E 0) (h : M_narrowed o p0 p1 = some rv) : Jw E (ΓM ad cy) RX12 cX12_narrowed 2 (some .long) (some (.long rv), o) 0 [(0, .int p0), (1, .int p1)] [] o := by
  unfold M_narrowed at h
  refine J_iload_n (q := 1) dX12_narrowed_0 rfl rfl ?_
  refine J_if_ne (tgt := 10) dX12_narrowed_1 (by decide) (fun c1 => ?_) (fun c1 => ?_)
  · replace h := if_some h c1
    refine J_iload_n (q := 1) dX12_narrowed_10 rfl rfl ?_
    refine J_iconst dX12_narrowed_11 ic_1 ?_
    refine J_icmp_ne (tgt := 21) dX12_narrowed_12 (by decide) (fun c2 => ?_) (fun c2 => ?_)
    · replace h := if_some h c2
      refine J_iload_n (q := 0) dX12_narrowed_21 rfl rfl ?_
      refine J_i2l dX12_narrowed_22 ?_
      exact J_lret dX12_narrowed_23 (rt_pl h) rfl
    · replace h := it_some h c2
      refine J_iload_n (q := 0) dX12_narrowed_15 rfl rfl ?_
      refine J_i2s dX12_narrowed_16 ?_
      refine J_i2l dX12_narrowed_17 ?_
      refine J_goto (tgt := 23) dX12_narrowed_18 (by decide) ?_
      exact J_lret dX12_narrowed_23 (rt_pl h) rfl
  · replace h := it_some h c1
    refine J_iload_n (q := 0) dX12_narrowed_4 rfl rfl ?_
    refine J_i2b dX12_narrowed_5 ?_
    refine J_i2l dX12_narrowed_6 ?_
    refine J_goto (tgt := 23) dX12_narrowed_7 (by decide) ?_
    exact J_lret dX12_narrowed_23 (rt_pl h) rfl
set_option maxRecDepth 20000 in
set_option maxHeartbeats 4000000 in
theorem kX12_narrowed {l : Launch} {D : va_G} {ad : Nat → Nat} {cy : Nat → ClassId} {rv : Int64} {o : Ob} {p0 : Int32} {p1 : Int32} (hi : wl_inj (ΓM ad cy)) (h : M_narrowed o p0 p1 = some rv) : Cn l D (ΓM ad cy) yX12_narrowed cX12_narrowed 2 (some .long) 0 [.int p0, .int p1] o (some (.long rv), o) :=
  Cn.of hi rfl (Nat.le_of_ble_eq_true rfl) (fun _ _ _ hL => M_narrowed_ok hi hL h)
set_option maxRecDepth 20000 in
set_option maxHeartbeats 4000000 in
theorem pdX12_narrowed : (parseMethodDescriptor yX12_narrowed.desc).map (fun d => d.parameters.length) = some 2 := by decide +kernel
set_option maxRecDepth 20000 in
set_option maxHeartbeats 4000000 in
theorem kM_narrowed {E : Ec} {ad : Nat → Nat} {cy : Nat → ClassId} {cc : ByteArray} {nL : Nat} {rt : Option FieldType} {r : Option Value × Ob} {pc n : Nat} {lv : List (Nat × Value)} {st : List Value} {o : Ob} {p0 : Int32} {p1 : Int32} {v : Int64} (hi : wl_inj (ΓM ad cy)) (hd : decode cc pc = .ok (.invokestatic 319, 3)) (hq : M_narrowed o p0 p1 = some v) (hL : Lv E n) (hn : 0 + 1 ≤ n) (hW : (st.map fun v => v.category).sum ≤ 8) (k : Jw E (ΓM ad cy) RX12 cc nL rt r (pc + 3) lv (.long v :: st) o) : Jw E (ΓM ad cy) RX12 cc nL rt r pc lv (.int p1 :: .int p0 :: st) o :=
  J_callS (av := [.int p0, .int p1]) (q := (some (.long v), o)) (st := st) hd (kX12_narrowed hi hq) tw_6_134 tw_6_135 tw_1_13 tw_6_136 ⟨by decide, by decide, pdX12_narrowed⟩ rfl (by decide) hL hn hW k
set_option maxRecDepth 20000 in
set_option maxHeartbeats 4000000 in
theorem M_row_L68_ok {E : Ec} {ad : Nat → Nat} {cy : Nat → ClassId} {rv : (Int32 × Ob)} {a1 : Int32} (hi : wl_inj (ΓM ad cy)) (hL : Lv E 1) : ∀ (n : Nat) (o : Ob) (x4 : Int32), M_row_L68 a1 n o x4 = some rv → Jw E (ΓM ad cy) RX12 cX12_row 5 (some .int) (some (.int rv.1), rv.2) 68 [(0, .ref (ad 0)), (1, .int a1), (4, .int x4)] [] o := by
  intro n
  induction n with
  | zero =>
    intro o x4 h
    rw [M_row_L68] at h
    cases h
  | succ n ih =>
    intro o x4 h
    rw [M_row_L68] at h
    refine J_iload (q := 2) dX12_row_68 rfl ?_
    refine J_bipush dX12_row_70 bp_100 ?_
    refine J_icmp_ge (tgt := 94) dX12_row_72 (by decide) (fun c14 => ?_) (fun c14 => ?_)
    · replace h := it_some h c14
      refine J_iconst dX12_row_94 ic_0 ?_
      exact J_iret dX12_row_95 (rt_i h) rfl
    · replace h := if_some h c14
      refine J_aload_n (q := 0) dX12_row_75 rfl rfl ?_
      refine gM_rows dX12_row_76 ?_
      refine J_bipush dX12_row_79 bp_100 ?_
      refine J_iload_n (q := 1) dX12_row_81 rfl rfl ?_
      refine J_imul dX12_row_82 ?_
      refine J_iload (q := 2) dX12_row_83 rfl ?_
      refine J_iadd dX12_row_85 ?_
      refine J_lconst dX12_row_86 lc_0 ?_
      obtain ⟨hg15, h⟩ := gd_some h
      refine aM_lst (h := 13) (n := 800) dX12_row_87 (by decide) rfl hg15 ?_
      refine J_tw (fun o16 eo16 => ?_)
      replace h := nm_some eo16 h
      refine J_iinc (q := 2) (v := (x4 + (1 : Int32))) (lv' := [(4, .int (x4 + (1 : Int32))), (0, .ref (ad 0)), (1, .int a1)]) dX12_row_88 rfl (congrArg (fun z => x4 + z) ic_1) (by decide) rfl ?_
      refine J_tv (fun v17 ev17 => ?_)
      replace h := nm_some ev17 h
      refine J_goto (tgt := 68) dX12_row_91 (by decide) ?_
      exact J_sub [1, 2, 0] rfl (ih _ _ h)
set_option maxRecDepth 20000 in
set_option maxHeartbeats 4000000 in
theorem M_row_ok {E : Ec} {ad : Nat → Nat} {cy : Nat → ClassId} {rv : (Int32 × Ob)} {o : Ob} {p1 : Int32} {p2 : Int32} {p3 : Int32} (hi : wl_inj (ΓM ad cy)) (hL : Lv E 1) (h : M_row o p1 p2 p3 = some rv) : Jw E (ΓM ad cy) RX12 cX12_row 5 (some .int) (some (.int rv.1), rv.2) 0 [(0, .ref (ad 0)), (1, .int p1), (2, .int p2), (3, .int p3)] [] o := by
  unfold M_row at h
  refine J_aload_n (q := 0) dX12_row_0 rfl rfl ?_
  refine J_iconst dX12_row_1 ic_0 ?_
  refine pM_thrown dX12_row_2 ?_
  refine J_tw (fun o1 eo1 => ?_)
  replace h := nm_some eo1 h
  refine J_iload_n (q := 1) dX12_row_5 rfl rfl ?_
  refine J_i2l dX12_row_6 ?_
  refine J_lconst dX12_row_7 lc_0 ?_
  refine J_ldc2 dX12_row_8 tw_5_29 ?_
  obtain ⟨r2, hq18, h⟩ := bd_some h
  refine kM_in hi dX12_row_11 hq18 hL (by decide) (Nat.le_of_ble_eq_true rfl) ?_
  refine J_if_eq (tgt := 35) dX12_row_14 (by decide) (fun c3 => ?_) (fun c3 => ?_)
  · replace h := it_some h c3
    refine J_iconst dX12_row_35 ic_m1 ?_
    exact J_iret dX12_row_36 (rt_i h) rfl
  · replace h := if_some h c3
    refine J_iload_n (q := 2) dX12_row_17 rfl rfl ?_
    refine J_i2l dX12_row_18 ?_
    refine J_lconst dX12_row_19 lc_0 ?_
    refine J_ldc2 dX12_row_20 tw_5_159 ?_
    obtain ⟨r4, hq19, h⟩ := bd_some h
    refine kM_in hi dX12_row_23 hq19 hL (by decide) (Nat.le_of_ble_eq_true rfl) ?_
    refine J_if_eq (tgt := 35) dX12_row_26 (by decide) (fun c5 => ?_) (fun c5 => ?_)
    · replace h := it_some h c5
      refine J_iconst dX12_row_35 ic_m1 ?_
      exact J_iret dX12_row_36 (rt_i h) rfl
    · replace h := if_some h c5
      refine J_iload_n (q := 3) dX12_row_29 rfl rfl ?_
      refine J_bipush dX12_row_30 bp_100 ?_
      refine J_icmp_le (tgt := 37) dX12_row_32 (by decide) (fun c6 => ?_) (fun c6 => ?_)
      · replace h := it_some h c6
        refine J_iload_n (q := 3) dX12_row_37 rfl rfl ?_
        refine J_if_ge (tgt := 44) dX12_row_38 (by decide) (fun c7 => ?_) (fun c7 => ?_)
        · replace h := it_some h c7
          refine J_aload_n (q := 0) dX12_row_44 rfl rfl ?_
          refine gM_holdsWhat dX12_row_45 ?_
          refine J_iload_n (q := 1) dX12_row_48 rfl rfl ?_
          refine J_iconst dX12_row_49 ic_2 ?_
          obtain ⟨hg8, h⟩ := gd_some h
          refine aM_st (h := 8) (n := 8) dX12_row_50 (by decide) rfl hg8 ?_
          refine J_tw (fun o9 eo9 => ?_)
          replace h := nm_some eo9 h
          refine J_aload_n (q := 0) dX12_row_51 rfl rfl ?_
          refine gM_rowSort dX12_row_52 ?_
          refine J_iload_n (q := 1) dX12_row_55 rfl rfl ?_
          refine J_iload_n (q := 2) dX12_row_56 rfl rfl ?_
          obtain ⟨hg10, h⟩ := gd_some h
          refine aM_st (h := 11) (n := 8) dX12_row_57 (by decide) rfl hg10 ?_
          refine J_tw (fun o11 eo11 => ?_)
          replace h := nm_some eo11 h
          refine J_aload_n (q := 0) dX12_row_58 rfl rfl ?_
          refine gM_rowMany dX12_row_59 ?_
          refine J_iload_n (q := 1) dX12_row_62 rfl rfl ?_
          refine J_iload_n (q := 3) dX12_row_63 rfl rfl ?_
          obtain ⟨hg12, h⟩ := gd_some h
          refine aM_st (h := 12) (n := 8) dX12_row_64 (by decide) rfl hg12 ?_
          refine J_tw (fun o13 eo13 => ?_)
          replace h := nm_some eo13 h
          refine J_iconst dX12_row_65 ic_0 ?_
          refine J_istore (lv' := [(4, .int (0 : Int32)), (0, .ref (ad 0)), (1, .int p1), (2, .int p2), (3, .int p3)]) dX12_row_66 (by decide) rfl ?_
          refine J_sub [1, 2, 0] rfl (M_row_L68_ok hi hL FU _ _ h)
        · replace h := if_some h c7
          refine J_bipush dX12_row_41 bp_m14 ?_
          exact J_iret dX12_row_43 (rt_i h) rfl
      · replace h := if_some h c6
        refine J_iconst dX12_row_35 ic_m1 ?_
        exact J_iret dX12_row_36 (rt_i h) rfl
set_option maxRecDepth 20000 in
set_option maxHeartbeats 4000000 in
theorem kX12_row {l : Launch} {D : va_G} {ad : Nat → Nat} {cy : Nat → ClassId} {rv : (Int32 × Ob)} {o : Ob} {p1 : Int32} {p2 : Int32} {p3 : Int32} (hi : wl_inj (ΓM ad cy)) (h : M_row o p1 p2 p3 = some rv) : Cn l D (ΓM ad cy) yX12_row cX12_row 5 (some .int) 1 [.ref (ad 0), .int p1, .int p2, .int p3] o (some (.int rv.1), rv.2) :=
  Cn.of hi rfl (Nat.le_of_ble_eq_true rfl) (fun _ _ _ hL => M_row_ok hi hL h)
set_option maxRecDepth 20000 in
set_option maxHeartbeats 4000000 in
theorem M_put_ok {E : Ec} {ad : Nat → Nat} {cy : Nat → ClassId} {rv : (Int32 × Ob)} {o : Ob} {p1 : Int32} {p2 : Int32} {p3 : Int32} (hi : wl_inj (ΓM ad cy)) (hL : Lv E 2) (h : M_put o p1 p2 p3 = some rv) : Jw E (ΓM ad cy) RX12 cX12_put 5 (some .int) (some (.int rv.1), rv.2) 0 [(0, .ref (ad 0)), (1, .int p1), (2, .int p2), (3, .int p3)] [] o := by
  unfold M_put at h
  refine J_aload_n (q := 0) dX12_put_0 rfl rfl ?_
  refine J_iconst dX12_put_1 ic_0 ?_
  refine pM_thrown dX12_put_2 ?_
  refine J_tw (fun o1 eo1 => ?_)
  replace h := nm_some eo1 h
  refine J_aload_n (q := 0) dX12_put_5 rfl rfl ?_
  refine J_iload_n (q := 1) dX12_put_6 rfl rfl ?_
  obtain ⟨r2, hq11, h⟩ := bd_some h
  refine kM_wrongRow hi dX12_put_7 hq11 hL (by decide) (Nat.le_of_ble_eq_true rfl) ?_
  refine J_istore (lv' := [(4, .int r2), (0, .ref (ad 0)), (1, .int p1), (2, .int p2), (3, .int p3)]) dX12_put_10 (by decide) rfl ?_
  refine J_iload (q := 0) dX12_put_12 rfl ?_
  refine J_if_ge (tgt := 20) dX12_put_14 (by decide) (fun c3 => ?_) (fun c3 => ?_)
  · replace h := it_some h c3
    refine J_iload_n (q := 3) dX12_put_20 rfl rfl ?_
    refine J_i2l dX12_put_21 ?_
    refine J_lconst dX12_put_22 lc_0 ?_
    refine J_aload_n (q := 1) dX12_put_23 rfl rfl ?_
    refine gM_rowMany dX12_put_24 ?_
    refine J_iload_n (q := 2) dX12_put_27 rfl rfl ?_
    obtain ⟨hg4, h⟩ := gd_some h
    refine aM_ld (h := 12) (n := 8) dX12_put_28 (by decide) rfl hg4 ?_
    refine J_iconst dX12_put_29 ic_1 ?_
    refine J_isub dX12_put_30 ?_
    refine J_i2l dX12_put_31 ?_
    obtain ⟨r5, hq12, h⟩ := bd_some h
    refine kM_in hi dX12_put_32 hq12 hL (by decide) (Nat.le_of_ble_eq_true rfl) ?_
    refine J_if_ne (tgt := 41) dX12_put_35 (by decide) (fun c6 => ?_) (fun c6 => ?_)
    · replace h := if_some h c6
      refine J_aload_n (q := 1) dX12_put_41 rfl rfl ?_
      refine gM_rows dX12_put_42 ?_
      refine J_bipush dX12_put_45 bp_100 ?_
      refine J_iload_n (q := 2) dX12_put_47 rfl rfl ?_
      refine J_imul dX12_put_48 ?_
      refine J_iload_n (q := 3) dX12_put_49 rfl rfl ?_
      refine J_iadd dX12_put_50 ?_
      refine J_iload_n (q := 4) dX12_put_51 rfl rfl ?_
      refine J_aload_n (q := 1) dX12_put_52 rfl rfl ?_
      refine gM_rowSort dX12_put_53 ?_
      refine J_iload_n (q := 2) dX12_put_56 rfl rfl ?_
      obtain ⟨hg7, h⟩ := gd_some h
      refine aM_ld (h := 11) (n := 8) dX12_put_57 (by decide) rfl hg7 ?_
      obtain ⟨r8, hq13, h⟩ := bd_some h
      refine kM_narrowed hi dX12_put_58 hq13 hL (by decide) (Nat.le_of_ble_eq_true rfl) ?_
      obtain ⟨hg9, h⟩ := gd_some h
      refine aM_lst (h := 13) (n := 800) dX12_put_61 (by decide) rfl hg9 ?_
      refine J_tw (fun o10 eo10 => ?_)
      replace h := nm_some eo10 h
      refine J_iconst dX12_put_62 ic_0 ?_
      exact J_iret dX12_put_63 (rt_i h) rfl
    · replace h := it_some h c6
      refine J_bipush dX12_put_38 bp_m13 ?_
      exact J_iret dX12_put_40 (rt_i h) rfl
  · replace h := if_some h c3
    refine J_iload (q := 0) dX12_put_17 rfl ?_
    exact J_iret dX12_put_19 (rt_i h) rfl
set_option maxRecDepth 20000 in
set_option maxHeartbeats 4000000 in
theorem kX12_put {l : Launch} {D : va_G} {ad : Nat → Nat} {cy : Nat → ClassId} {rv : (Int32 × Ob)} {o : Ob} {p1 : Int32} {p2 : Int32} {p3 : Int32} (hi : wl_inj (ΓM ad cy)) (h : M_put o p1 p2 p3 = some rv) : Cn l D (ΓM ad cy) yX12_put cX12_put 5 (some .int) 2 [.ref (ad 0), .int p1, .int p2, .int p3] o (some (.int rv.1), rv.2) :=
  Cn.of hi rfl (Nat.le_of_ble_eq_true rfl) (fun _ _ _ hL => M_put_ok hi hL h)
set_option maxRecDepth 20000 in
set_option maxHeartbeats 4000000 in
theorem M_element_ok {E : Ec} {ad : Nat → Nat} {cy : Nat → ClassId} {rv : (Int64 × Ob)} {o : Ob} {p1 : Int32} {p2 : Int32} (hi : wl_inj (ΓM ad cy)) (hL : Lv E 2) (h : M_element o p1 p2 = some rv) : Jw E (ΓM ad cy) RX12 cX12_element 4 (some .long) (some (.long rv.1), rv.2) 0 [(0, .ref (ad 0)), (1, .int p1), (2, .int p2)] [] o := by
  unfold M_element at h
  refine J_aload_n (q := 0) dX12_element_0 rfl rfl ?_
  refine J_iload_n (q := 1) dX12_element_1 rfl rfl ?_
  obtain ⟨r1, hq11, h⟩ := bd_some h
  refine kM_wrongRow hi dX12_element_2 hq11 hL (by decide) (Nat.le_of_ble_eq_true rfl) ?_
  refine J_istore_n (lv' := [(3, .int r1), (0, .ref (ad 0)), (1, .int p1), (2, .int p2)]) dX12_element_5 rfl (by decide) rfl ?_
  refine J_aload_n (q := 1) dX12_element_6 rfl rfl ?_
  refine J_iload_n (q := 0) dX12_element_7 rfl rfl ?_
  refine J_iconst dX12_element_8 ic_m1 ?_
  obtain ⟨s7, ha43, h⟩ := bd_some h
  have K43 : Jw E (ΓM ad cy) RX12 cX12_element 4 (some .long) (some (.long rv.1), rv.2) 43 [(0, .ref (ad 0)), (1, .int p1), (2, .int p2)] [.int s7, .ref (ad 0)] o := by
    clear ha43
    refine pM_thrown dX12_element_43 ?_
    refine J_tw (fun o8 eo8 => ?_)
    replace h := nm_some eo8 h
    refine J_aload_n (q := 0) dX12_element_46 rfl rfl ?_
    refine gM_thrown dX12_element_47 ?_
    refine J_if_le (tgt := 57) dX12_element_50 (by decide) (fun c9 => ?_) (fun c9 => ?_)
    · replace h := it_some h c9
      refine J_aload_n (q := 0) dX12_element_57 rfl rfl ?_
      refine gM_rows dX12_element_58 ?_
      refine J_bipush dX12_element_61 bp_100 ?_
      refine J_iload_n (q := 1) dX12_element_63 rfl rfl ?_
      refine J_imul dX12_element_64 ?_
      refine J_iload_n (q := 2) dX12_element_65 rfl rfl ?_
      refine J_iadd dX12_element_66 ?_
      obtain ⟨hg10, h⟩ := gd_some h
      refine aM_lld (h := 13) (n := 800) dX12_element_67 (by decide) rfl hg10 ?_
      exact J_lret dX12_element_68 (rt_l h) rfl
    · replace h := if_some h c9
      refine J_lconst dX12_element_53 lc_0 ?_
      refine J_goto (tgt := 68) dX12_element_54 (by decide) ?_
      exact J_lret dX12_element_68 (rt_l h) rfl
  clear h
  refine J_icmp_ne (tgt := 16) dX12_element_9 (by decide) (fun c2 => ?_) (fun c2 => ?_)
  · replace ha43 := if_some ha43 c2
    refine J_iload_n (q := 0) dX12_element_16 rfl rfl ?_
    obtain ⟨kk38, ekk38, ha43⟩ := jn_some ha43
    have K38 : kk38 = some (s7) → Jw E (ΓM ad cy) RX12 cX12_element 4 (some .long) (some (.long rv.1), rv.2) 38 [(0, .ref (ad 0)), (1, .int p1), (2, .int p2)] [.ref (ad 0)] o := by
      subst ekk38
      clear ha43
      intro ha43
      refine J_iconst dX12_element_38 ic_2 ?_
      refine J_goto (tgt := 43) dX12_element_39 (by decide) ?_
      cases ha43
      exact J_sub [0, 1, 2] rfl (K43)
    clear ekk38
    refine J_if_lt (tgt := 38) dX12_element_17 (by decide) (fun c3 => ?_) (fun c3 => ?_)
    · replace ha43 := it_some ha43 c3
      exact J_sub [1, 2, 3] rfl (K38 ha43)
    · replace ha43 := if_some ha43 c3
      refine J_iload_n (q := 3) dX12_element_20 rfl rfl ?_
      refine J_i2l dX12_element_21 ?_
      refine J_lconst dX12_element_22 lc_0 ?_
      refine J_aload_n (q := 1) dX12_element_23 rfl rfl ?_
      refine gM_rowMany dX12_element_24 ?_
      refine J_iload_n (q := 2) dX12_element_27 rfl rfl ?_
      obtain ⟨hg4, ha43⟩ := gd_some ha43
      refine aM_ld (h := 12) (n := 8) dX12_element_28 (by decide) rfl hg4 ?_
      refine J_iconst dX12_element_29 ic_1 ?_
      refine J_isub dX12_element_30 ?_
      refine J_i2l dX12_element_31 ?_
      obtain ⟨r5, hq12, ha43⟩ := bd_some ha43
      refine kM_in hi dX12_element_32 hq12 hL (by decide) (Nat.le_of_ble_eq_true rfl) ?_
      refine J_if_ne (tgt := 42) dX12_element_35 (by decide) (fun c6 => ?_) (fun c6 => ?_)
      · replace ha43 := if_some ha43 c6
        refine J_iconst dX12_element_42 ic_0 ?_
        cases ha43
        exact J_sub [1, 2, 3] rfl (K43)
      · replace ha43 := it_some ha43 c6
        exact J_sub [1, 2, 3] rfl (K38 ha43)
  · replace ha43 := it_some ha43 c2
    refine J_iconst dX12_element_12 ic_1 ?_
    refine J_goto (tgt := 43) dX12_element_13 (by decide) ?_
    cases ha43
    exact J_sub [1, 2, 3] rfl (K43)
set_option maxRecDepth 20000 in
set_option maxHeartbeats 4000000 in
theorem kX12_element {l : Launch} {D : va_G} {ad : Nat → Nat} {cy : Nat → ClassId} {rv : (Int64 × Ob)} {o : Ob} {p1 : Int32} {p2 : Int32} (hi : wl_inj (ΓM ad cy)) (h : M_element o p1 p2 = some rv) : Cn l D (ΓM ad cy) yX12_element cX12_element 4 (some .long) 2 [.ref (ad 0), .int p1, .int p2] o (some (.long rv.1), rv.2) :=
  Cn.of hi rfl (Nat.le_of_ble_eq_true rfl) (fun _ _ _ hL => M_element_ok hi hL h)
set_option maxRecDepth 20000 in
set_option maxHeartbeats 4000000 in
theorem M_copy_L137_ok {E : Ec} {ad : Nat → Nat} {cy : Nat → ClassId} {rv : (Int32 × Ob)} {k171 : Ob → Option (Int32 × Ob)} {a1 : Int32} {a2 : Int32} {a3 : Int32} {a4 : Int32} {a5 : Int32} (hi : wl_inj (ΓM ad cy)) (hL : Lv E 1) (hk171 : ∀ (yw : Ob), k171 yw = some rv → Jw E (ΓM ad cy) RX12 cX12_copy 7 (some .int) (some (.int rv.1), rv.2) 171 [(0, .ref (ad 0)), (3, .int a3), (4, .int a4), (5, .int a5)] [] yw) : ∀ (n : Nat) (o : Ob) (x6 : Int32), M_copy_L137 k171 a1 a2 a3 a4 a5 n o x6 = some rv → Jw E (ΓM ad cy) RX12 cX12_copy 7 (some .int) (some (.int rv.1), rv.2) 137 [(0, .ref (ad 0)), (1, .int a1), (2, .int a2), (3, .int a3), (4, .int a4), (5, .int a5), (6, .int x6)] [] o := by
  intro n
  induction n with
  | zero =>
    intro o x6 h
    rw [M_copy_L137] at h
    cases h
  | succ n ih =>
    intro o x6 h
    rw [M_copy_L137] at h
    refine J_iload (q := 6) dX12_copy_137 rfl ?_
    refine J_iload (q := 5) dX12_copy_139 rfl ?_
    refine J_icmp_ge (tgt := 171) dX12_copy_141 (by decide) (fun c24 => ?_) (fun c24 => ?_)
    · replace h := it_some h c24
      exact J_sub [0, 3, 4, 5] rfl (hk171 _ h)
    · replace h := if_some h c24
      refine J_aload_n (q := 0) dX12_copy_144 rfl rfl ?_
      refine gM_between dX12_copy_145 ?_
      refine J_iload (q := 6) dX12_copy_148 rfl ?_
      refine J_aload_n (q := 0) dX12_copy_150 rfl rfl ?_
      refine gM_rows dX12_copy_151 ?_
      refine J_bipush dX12_copy_154 bp_100 ?_
      refine J_iload_n (q := 1) dX12_copy_156 rfl rfl ?_
      refine J_imul dX12_copy_157 ?_
      refine J_iload_n (q := 2) dX12_copy_158 rfl rfl ?_
      refine J_iadd dX12_copy_159 ?_
      refine J_iload (q := 6) dX12_copy_160 rfl ?_
      refine J_iadd dX12_copy_162 ?_
      obtain ⟨hg25, h⟩ := gd_some h
      refine aM_lld (h := 13) (n := 800) dX12_copy_163 (by decide) rfl hg25 ?_
      obtain ⟨hg26, h⟩ := gd_some h
      refine aM_lst (h := 22) (n := 100) dX12_copy_164 (by decide) rfl hg26 ?_
      refine J_tw (fun o27 eo27 => ?_)
      replace h := nm_some eo27 h
      refine J_iinc (q := 6) (v := (x6 + (1 : Int32))) (lv' := [(6, .int (x6 + (1 : Int32))), (0, .ref (ad 0)), (1, .int a1), (2, .int a2), (3, .int a3), (4, .int a4), (5, .int a5)]) dX12_copy_165 rfl (congrArg (fun z => x6 + z) ic_1) (by decide) rfl ?_
      refine J_tv (fun v28 ev28 => ?_)
      replace h := nm_some ev28 h
      refine J_goto (tgt := 137) dX12_copy_168 (by decide) ?_
      exact J_sub [1, 2, 3, 4, 5, 6, 0] rfl (ih _ _ h)
set_option maxRecDepth 20000 in
set_option maxHeartbeats 4000000 in
theorem M_copy_L174_ok {E : Ec} {ad : Nat → Nat} {cy : Nat → ClassId} {rv : (Int32 × Ob)} {a3 : Int32} {a4 : Int32} {a5 : Int32} (hi : wl_inj (ΓM ad cy)) (hL : Lv E 1) : ∀ (n : Nat) (o : Ob) (x6 : Int32), M_copy_L174 a3 a4 a5 n o x6 = some rv → Jw E (ΓM ad cy) RX12 cX12_copy 7 (some .int) (some (.int rv.1), rv.2) 174 [(0, .ref (ad 0)), (3, .int a3), (4, .int a4), (5, .int a5), (6, .int x6)] [] o := by
  intro n
  induction n with
  | zero =>
    intro o x6 h
    rw [M_copy_L174] at h
    cases h
  | succ n ih =>
    intro o x6 h
    rw [M_copy_L174] at h
    refine J_iload (q := 4) dX12_copy_174 rfl ?_
    refine J_iload (q := 3) dX12_copy_176 rfl ?_
    refine J_icmp_ge (tgt := 209) dX12_copy_178 (by decide) (fun c30 => ?_) (fun c30 => ?_)
    · replace h := it_some h c30
      refine J_iload (q := 3) dX12_copy_209 rfl ?_
      exact J_iret dX12_copy_211 (rt_i h) rfl
    · replace h := if_some h c30
      refine J_aload_n (q := 0) dX12_copy_181 rfl rfl ?_
      refine gM_rows dX12_copy_182 ?_
      refine J_bipush dX12_copy_185 bp_100 ?_
      refine J_iload_n (q := 1) dX12_copy_187 rfl rfl ?_
      refine J_imul dX12_copy_188 ?_
      refine J_iload (q := 2) dX12_copy_189 rfl ?_
      refine J_iadd dX12_copy_191 ?_
      refine J_iload (q := 4) dX12_copy_192 rfl ?_
      refine J_iadd dX12_copy_194 ?_
      refine J_aload_n (q := 0) dX12_copy_195 rfl rfl ?_
      refine gM_between dX12_copy_196 ?_
      refine J_iload (q := 4) dX12_copy_199 rfl ?_
      obtain ⟨hg31, h⟩ := gd_some h
      refine aM_lld (h := 22) (n := 100) dX12_copy_201 (by decide) rfl hg31 ?_
      obtain ⟨hg32, h⟩ := gd_some h
      refine aM_lst (h := 13) (n := 800) dX12_copy_202 (by decide) rfl hg32 ?_
      refine J_tw (fun o33 eo33 => ?_)
      replace h := nm_some eo33 h
      refine J_iinc (q := 4) (v := (x6 + (1 : Int32))) (lv' := [(6, .int (x6 + (1 : Int32))), (0, .ref (ad 0)), (3, .int a3), (4, .int a4), (5, .int a5)]) dX12_copy_203 rfl (congrArg (fun z => x6 + z) ic_1) (by decide) rfl ?_
      refine J_tv (fun v34 ev34 => ?_)
      replace h := nm_some ev34 h
      refine J_goto (tgt := 174) dX12_copy_206 (by decide) ?_
      exact J_sub [1, 2, 3, 4, 0] rfl (ih _ _ h)
set_option maxRecDepth 20000 in
set_option maxHeartbeats 4000000 in
theorem M_copy_ok {E : Ec} {ad : Nat → Nat} {cy : Nat → ClassId} {rv : (Int32 × Ob)} {o : Ob} {p1 : Int32} {p2 : Int32} {p3 : Int32} {p4 : Int32} {p5 : Int32} (hi : wl_inj (ΓM ad cy)) (hL : Lv E 1) (h : M_copy o p1 p2 p3 p4 p5 = some rv) : Jw E (ΓM ad cy) RX12 cX12_copy 7 (some .int) (some (.int rv.1), rv.2) 0 [(0, .ref (ad 0)), (1, .int p1), (2, .int p2), (3, .int p3), (4, .int p4), (5, .int p5)] [] o := by
  unfold M_copy at h
  refine J_aload_n (q := 0) dX12_copy_0 rfl rfl ?_
  refine J_iconst dX12_copy_1 ic_0 ?_
  refine pM_thrown dX12_copy_2 ?_
  refine J_tw (fun o1 eo1 => ?_)
  replace h := nm_some eo1 h
  refine J_iload_n (q := 1) dX12_copy_5 rfl rfl ?_
  refine J_i2l dX12_copy_6 ?_
  refine J_lconst dX12_copy_7 lc_0 ?_
  refine J_ldc2 dX12_copy_8 tw_5_29 ?_
  obtain ⟨r2, hq35, h⟩ := bd_some h
  refine kM_in hi dX12_copy_11 hq35 hL (by decide) (Nat.le_of_ble_eq_true rfl) ?_
  refine J_if_eq (tgt := 29) dX12_copy_14 (by decide) (fun c3 => ?_) (fun c3 => ?_)
  · replace h := it_some h c3
    refine J_iconst dX12_copy_29 ic_m1 ?_
    exact J_iret dX12_copy_30 (rt_i h) rfl
  · replace h := if_some h c3
    refine J_iload_n (q := 3) dX12_copy_17 rfl rfl ?_
    refine J_i2l dX12_copy_18 ?_
    refine J_lconst dX12_copy_19 lc_0 ?_
    refine J_ldc2 dX12_copy_20 tw_5_29 ?_
    obtain ⟨r4, hq36, h⟩ := bd_some h
    refine kM_in hi dX12_copy_23 hq36 hL (by decide) (Nat.le_of_ble_eq_true rfl) ?_
    refine J_if_ne (tgt := 31) dX12_copy_26 (by decide) (fun c5 => ?_) (fun c5 => ?_)
    · replace h := if_some h c5
      refine J_aload_n (q := 0) dX12_copy_31 rfl rfl ?_
      refine gM_holdsWhat dX12_copy_32 ?_
      refine J_iload_n (q := 1) dX12_copy_35 rfl rfl ?_
      obtain ⟨hg6, h⟩ := gd_some h
      refine aM_ld (h := 8) (n := 8) dX12_copy_36 (by decide) rfl hg6 ?_
      refine J_if_eq (tgt := 49) dX12_copy_37 (by decide) (fun c7 => ?_) (fun c7 => ?_)
      · replace h := it_some h c7
        refine J_bipush dX12_copy_49 bp_m11 ?_
        exact J_iret dX12_copy_51 (rt_i h) rfl
      · replace h := if_some h c7
        refine J_aload_n (q := 0) dX12_copy_40 rfl rfl ?_
        refine gM_holdsWhat dX12_copy_41 ?_
        refine J_iload_n (q := 3) dX12_copy_44 rfl rfl ?_
        obtain ⟨hg8, h⟩ := gd_some h
        refine aM_ld (h := 8) (n := 8) dX12_copy_45 (by decide) rfl hg8 ?_
        refine J_if_ne (tgt := 52) dX12_copy_46 (by decide) (fun c9 => ?_) (fun c9 => ?_)
        · replace h := if_some h c9
          refine J_aload_n (q := 0) dX12_copy_52 rfl rfl ?_
          refine gM_holdsWhat dX12_copy_53 ?_
          refine J_iload_n (q := 1) dX12_copy_56 rfl rfl ?_
          obtain ⟨hg10, h⟩ := gd_some h
          refine aM_ld (h := 8) (n := 8) dX12_copy_57 (by decide) rfl hg10 ?_
          refine J_iconst dX12_copy_58 ic_2 ?_
          refine J_icmp_ne (tgt := 87) dX12_copy_59 (by decide) (fun c11 => ?_) (fun c11 => ?_)
          · replace h := if_some h c11
            refine J_bipush dX12_copy_87 bp_m12 ?_
            exact J_iret dX12_copy_89 (rt_i h) rfl
          · replace h := it_some h c11
            refine J_aload_n (q := 0) dX12_copy_62 rfl rfl ?_
            refine gM_holdsWhat dX12_copy_63 ?_
            refine J_iload_n (q := 3) dX12_copy_66 rfl rfl ?_
            obtain ⟨hg12, h⟩ := gd_some h
            refine aM_ld (h := 8) (n := 8) dX12_copy_67 (by decide) rfl hg12 ?_
            refine J_iconst dX12_copy_68 ic_2 ?_
            refine J_icmp_ne (tgt := 87) dX12_copy_69 (by decide) (fun c13 => ?_) (fun c13 => ?_)
            · replace h := if_some h c13
              refine J_bipush dX12_copy_87 bp_m12 ?_
              exact J_iret dX12_copy_89 (rt_i h) rfl
            · replace h := it_some h c13
              refine J_aload_n (q := 0) dX12_copy_72 rfl rfl ?_
              refine gM_rowSort dX12_copy_73 ?_
              refine J_iload_n (q := 1) dX12_copy_76 rfl rfl ?_
              obtain ⟨hg14, h⟩ := gd_some h
              refine aM_ld (h := 11) (n := 8) dX12_copy_77 (by decide) rfl hg14 ?_
              refine J_aload_n (q := 0) dX12_copy_78 rfl rfl ?_
              refine gM_rowSort dX12_copy_79 ?_
              refine J_iload_n (q := 3) dX12_copy_82 rfl rfl ?_
              obtain ⟨hg15, h⟩ := gd_some h
              refine aM_ld (h := 11) (n := 8) dX12_copy_83 (by decide) rfl hg15 ?_
              refine J_icmp_eq (tgt := 90) dX12_copy_84 (by decide) (fun c16 => ?_) (fun c16 => ?_)
              · replace h := it_some h c16
                refine J_iload (q := 5) dX12_copy_90 rfl ?_
                refine J_if_lt (tgt := 131) dX12_copy_92 (by decide) (fun c17 => ?_) (fun c17 => ?_)
                · replace h := it_some h c17
                  refine J_bipush dX12_copy_131 bp_m13 ?_
                  exact J_iret dX12_copy_133 (rt_i h) rfl
                · replace h := if_some h c17
                  refine J_iload_n (q := 2) dX12_copy_95 rfl rfl ?_
                  refine J_if_lt (tgt := 131) dX12_copy_96 (by decide) (fun c18 => ?_) (fun c18 => ?_)
                  · replace h := it_some h c18
                    refine J_bipush dX12_copy_131 bp_m13 ?_
                    exact J_iret dX12_copy_133 (rt_i h) rfl
                  · replace h := if_some h c18
                    refine J_iload (q := 4) dX12_copy_99 rfl ?_
                    refine J_if_lt (tgt := 131) dX12_copy_101 (by decide) (fun c19 => ?_) (fun c19 => ?_)
                    · replace h := it_some h c19
                      refine J_bipush dX12_copy_131 bp_m13 ?_
                      exact J_iret dX12_copy_133 (rt_i h) rfl
                    · replace h := if_some h c19
                      refine J_iload_n (q := 2) dX12_copy_104 rfl rfl ?_
                      refine J_aload_n (q := 0) dX12_copy_105 rfl rfl ?_
                      refine gM_rowMany dX12_copy_106 ?_
                      refine J_iload_n (q := 1) dX12_copy_109 rfl rfl ?_
                      obtain ⟨hg20, h⟩ := gd_some h
                      refine aM_ld (h := 12) (n := 8) dX12_copy_110 (by decide) rfl hg20 ?_
                      refine J_iload (q := 5) dX12_copy_111 rfl ?_
                      refine J_isub dX12_copy_113 ?_
                      refine J_icmp_gt (tgt := 131) dX12_copy_114 (by decide) (fun c21 => ?_) (fun c21 => ?_)
                      · replace h := it_some h c21
                        refine J_bipush dX12_copy_131 bp_m13 ?_
                        exact J_iret dX12_copy_133 (rt_i h) rfl
                      · replace h := if_some h c21
                        refine J_iload (q := 4) dX12_copy_117 rfl ?_
                        refine J_aload_n (q := 0) dX12_copy_119 rfl rfl ?_
                        refine gM_rowMany dX12_copy_120 ?_
                        refine J_iload_n (q := 3) dX12_copy_123 rfl rfl ?_
                        obtain ⟨hg22, h⟩ := gd_some h
                        refine aM_ld (h := 12) (n := 8) dX12_copy_124 (by decide) rfl hg22 ?_
                        refine J_iload (q := 5) dX12_copy_125 rfl ?_
                        refine J_isub dX12_copy_127 ?_
                        refine J_icmp_le (tgt := 134) dX12_copy_128 (by decide) (fun c23 => ?_) (fun c23 => ?_)
                        · replace h := it_some h c23
                          refine J_iconst dX12_copy_134 ic_0 ?_
                          refine J_istore (lv' := [(6, .int (0 : Int32)), (0, .ref (ad 0)), (1, .int p1), (2, .int p2), (3, .int p3), (4, .int p4), (5, .int p5)]) dX12_copy_135 (by decide) rfl ?_
                          refine J_sub [1, 2, 3, 4, 5, 6, 0] rfl (M_copy_L137_ok hi hL (fun o29 h => ?_) FU _ _ h)
                          refine J_iconst dX12_copy_171 ic_0 ?_
                          refine J_istore (lv' := [(6, .int (0 : Int32)), (0, .ref (ad 0)), (3, .int p3), (4, .int p4), (5, .int p5)]) dX12_copy_172 (by decide) rfl ?_
                          refine J_sub [1, 2, 3, 4, 0] rfl (M_copy_L174_ok hi hL FU _ _ h)
                        · replace h := if_some h c23
                          refine J_bipush dX12_copy_131 bp_m13 ?_
                          exact J_iret dX12_copy_133 (rt_i h) rfl
              · replace h := if_some h c16
                refine J_bipush dX12_copy_87 bp_m12 ?_
                exact J_iret dX12_copy_89 (rt_i h) rfl
        · replace h := it_some h c9
          refine J_bipush dX12_copy_49 bp_m11 ?_
          exact J_iret dX12_copy_51 (rt_i h) rfl
    · replace h := it_some h c5
      refine J_iconst dX12_copy_29 ic_m1 ?_
      exact J_iret dX12_copy_30 (rt_i h) rfl
set_option maxRecDepth 20000 in
set_option maxHeartbeats 4000000 in
theorem kX12_copy {l : Launch} {D : va_G} {ad : Nat → Nat} {cy : Nat → ClassId} {rv : (Int32 × Ob)} {o : Ob} {p1 : Int32} {p2 : Int32} {p3 : Int32} {p4 : Int32} {p5 : Int32} (hi : wl_inj (ΓM ad cy)) (h : M_copy o p1 p2 p3 p4 p5 = some rv) : Cn l D (ΓM ad cy) yX12_copy cX12_copy 7 (some .int) 1 [.ref (ad 0), .int p1, .int p2, .int p3, .int p4, .int p5] o (some (.int rv.1), rv.2) :=
  Cn.of hi rfl (Nat.le_of_ble_eq_true rfl) (fun _ _ _ hL => M_copy_ok hi hL h)
set_option maxRecDepth 20000 in
set_option maxHeartbeats 4000000 in
theorem M_costOf_ok {E : Ec} {ad : Nat → Nat} {cy : Nat → ClassId} {rv : Int32} {o : Ob} {p0 : Int32} {p1 : Int32} (hi : wl_inj (ΓM ad cy)) (hL : Lv E 0) (h : M_costOf o p0 p1 = some rv) : Jw E (ΓM ad cy) RX12 cX12_costOf 2 (some .int) (some (.int rv), o) 0 [(0, .int p0), (1, .int p1)] [] o := by
  unfold M_costOf at h
  refine J_iload_n (q := 0) dX12_costOf_0 rfl rfl ?_
  by_cases c1 : p0 = (0 : Int32)
  · replace h := it_some h c1
    refine J_tin (tgt := 44) dX12_costOf_1 (by rw [c1]; decide) (by rw [c1]; decide) (by rw [c1]; rfl) (by decide) ?_
    refine J_iconst dX12_costOf_44 ic_2 ?_
    exact J_iret dX12_costOf_45 (rt_pi h) rfl
  · replace h := if_some h c1
    by_cases c2 : p0 = (1 : Int32)
    · replace h := it_some h c2
      refine J_tin (tgt := 46) dX12_costOf_1 (by rw [c2]; decide) (by rw [c2]; decide) (by rw [c2]; rfl) (by decide) ?_
      refine J_iconst dX12_costOf_46 ic_1 ?_
      exact J_iret dX12_costOf_47 (rt_pi h) rfl
    · replace h := if_some h c2
      by_cases c3 : p0 = (2 : Int32)
      · replace h := it_some h c3
        refine J_tin (tgt := 48) dX12_costOf_1 (by rw [c3]; decide) (by rw [c3]; decide) (by rw [c3]; rfl) (by decide) ?_
        refine J_iconst dX12_costOf_48 ic_2 ?_
        refine J_iload_n (q := 1) dX12_costOf_49 rfl rfl ?_
        refine J_iadd dX12_costOf_50 ?_
        exact J_iret dX12_costOf_51 (rt_pi h) rfl
      · replace h := if_some h c3
        by_cases c4 : p0 = (3 : Int32)
        · replace h := it_some h c4
          refine J_tin (tgt := 52) dX12_costOf_1 (by rw [c4]; decide) (by rw [c4]; decide) (by rw [c4]; rfl) (by decide) ?_
          refine J_iconst dX12_costOf_52 ic_3 ?_
          exact J_iret dX12_costOf_53 (rt_pi h) rfl
        · replace h := if_some h c4
          by_cases c5 : p0 = (4 : Int32)
          · replace h := it_some h c5
            refine J_tin (tgt := 54) dX12_costOf_1 (by rw [c5]; decide) (by rw [c5]; decide) (by rw [c5]; rfl) (by decide) ?_
            refine J_bipush dX12_costOf_54 bp_7 ?_
            exact J_iret dX12_costOf_56 (rt_pi h) rfl
          · replace h := if_some h c5
            by_cases c6 : p0 = (5 : Int32)
            · replace h := it_some h c6
              refine J_tin (tgt := 57) dX12_costOf_1 (by rw [c6]; decide) (by rw [c6]; decide) (by rw [c6]; rfl) (by decide) ?_
              refine J_iconst dX12_costOf_57 ic_2 ?_
              refine J_iconst dX12_costOf_58 ic_2 ?_
              refine J_iload_n (q := 1) dX12_costOf_59 rfl rfl ?_
              refine J_iadd dX12_costOf_60 ?_
              refine J_imul dX12_costOf_61 ?_
              exact J_iret dX12_costOf_62 (rt_pi h) rfl
            · replace h := if_some h c6
              by_cases c7 : p0 = (6 : Int32)
              · replace h := it_some h c7
                refine J_tin (tgt := 63) dX12_costOf_1 (by rw [c7]; decide) (by rw [c7]; decide) (by rw [c7]; rfl) (by decide) ?_
                refine J_iconst dX12_costOf_63 ic_0 ?_
                exact J_iret dX12_costOf_64 (rt_pi h) rfl
              · replace h := if_some h c7
                refine J_tout (tgt := 65) dX12_costOf_1 (sw_out0_6 c1 c2 c3 c4 c5 c6 c7) (by decide) ?_
                refine J_iconst dX12_costOf_65 ic_1 ?_
                exact J_iret dX12_costOf_66 (rt_pi h) rfl
set_option maxRecDepth 20000 in
set_option maxHeartbeats 4000000 in
theorem kX12_costOf {l : Launch} {D : va_G} {ad : Nat → Nat} {cy : Nat → ClassId} {rv : Int32} {o : Ob} {p0 : Int32} {p1 : Int32} (hi : wl_inj (ΓM ad cy)) (h : M_costOf o p0 p1 = some rv) : Cn l D (ΓM ad cy) yX12_costOf cX12_costOf 2 (some .int) 0 [.int p0, .int p1] o (some (.int rv), o) :=
  Cn.of hi rfl (Nat.le_of_ble_eq_true rfl) (fun _ _ _ hL => M_costOf_ok hi hL h)
set_option maxRecDepth 20000 in
set_option maxHeartbeats 4000000 in
theorem pdX12_costOf : (parseMethodDescriptor yX12_costOf.desc).map (fun d => d.parameters.length) = some 2 := by decide +kernel
set_option maxRecDepth 20000 in
set_option maxHeartbeats 4000000 in
theorem kM_costOf {E : Ec} {ad : Nat → Nat} {cy : Nat → ClassId} {cc : ByteArray} {nL : Nat} {rt : Option FieldType} {r : Option Value × Ob} {pc n : Nat} {lv : List (Nat × Value)} {st : List Value} {o : Ob} {p0 : Int32} {p1 : Int32} {v : Int32} (hi : wl_inj (ΓM ad cy)) (hd : decode cc pc = .ok (.invokestatic 323, 3)) (hq : M_costOf o p0 p1 = some v) (hL : Lv E n) (hn : 0 + 1 ≤ n) (hW : (st.map fun v => v.category).sum ≤ 8) (k : Jw E (ΓM ad cy) RX12 cc nL rt r (pc + 3) lv (.int v :: st) o) : Jw E (ΓM ad cy) RX12 cc nL rt r pc lv (.int p1 :: .int p0 :: st) o :=
  J_callS (av := [.int p0, .int p1]) (q := (some (.int v), o)) (st := st) hd (kX12_costOf hi hq) tw_6_149 tw_6_150 tw_1_13 tw_6_151 ⟨by decide, by decide, pdX12_costOf⟩ rfl (by decide) hL hn hW k
set_option maxRecDepth 20000 in
set_option maxHeartbeats 4000000 in
theorem M_cost_ok {E : Ec} {ad : Nat → Nat} {cy : Nat → ClassId} {rv : (Int32 × Ob)} {o : Ob} {p1 : Int32} (hi : wl_inj (ΓM ad cy)) (hL : Lv E 2) (h : M_cost o p1 = some rv) : Jw E (ΓM ad cy) RX12 cX12_cost 2 (some .int) (some (.int rv.1), rv.2) 0 [(0, .ref (ad 0)), (1, .int p1)] [] o := by
  unfold M_cost at h
  refine J_aload_n (q := 0) dX12_cost_0 rfl rfl ?_
  refine J_iconst dX12_cost_1 ic_0 ?_
  refine pM_thrown dX12_cost_2 ?_
  refine J_tw (fun o1 eo1 => ?_)
  replace h := nm_some eo1 h
  refine J_aload_n (q := 0) dX12_cost_5 rfl rfl ?_
  refine J_iload_n (q := 1) dX12_cost_6 rfl rfl ?_
  obtain ⟨r2, hq8, h⟩ := bd_some h
  refine kM_wrongKept hi dX12_cost_7 hq8 hL (by decide) (Nat.le_of_ble_eq_true rfl) ?_
  refine J_if_ge (tgt := 21) dX12_cost_10 (by decide) (fun c3 => ?_) (fun c3 => ?_)
  · replace h := it_some h c3
    refine J_aload_n (q := 0) dX12_cost_21 rfl rfl ?_
    refine gM_keptKind dX12_cost_22 ?_
    refine J_iload_n (q := 1) dX12_cost_25 rfl rfl ?_
    obtain ⟨hg4, h⟩ := gd_some h
    refine aM_ld (h := 9) (n := 8) dX12_cost_26 (by decide) rfl hg4 ?_
    refine J_aload_n (q := 0) dX12_cost_27 rfl rfl ?_
    refine gM_keptFigure dX12_cost_28 ?_
    refine J_iload_n (q := 1) dX12_cost_31 rfl rfl ?_
    obtain ⟨hg5, h⟩ := gd_some h
    refine aM_ld (h := 10) (n := 8) dX12_cost_32 (by decide) rfl hg5 ?_
    obtain ⟨r6, hq9, h⟩ := bd_some h
    refine kM_costOf hi dX12_cost_33 hq9 hL (by decide) (Nat.le_of_ble_eq_true rfl) ?_
    exact J_iret dX12_cost_36 (rt_i h) rfl
  · replace h := if_some h c3
    refine J_aload_n (q := 0) dX12_cost_13 rfl rfl ?_
    refine J_iload_n (q := 1) dX12_cost_14 rfl rfl ?_
    obtain ⟨r7, hq10, h⟩ := bd_some h
    refine kM_wrongKept hi dX12_cost_15 hq10 hL (by decide) (Nat.le_of_ble_eq_true rfl) ?_
    refine J_goto (tgt := 36) dX12_cost_18 (by decide) ?_
    exact J_iret dX12_cost_36 (rt_i h) rfl
set_option maxRecDepth 20000 in
set_option maxHeartbeats 4000000 in
theorem kX12_cost {l : Launch} {D : va_G} {ad : Nat → Nat} {cy : Nat → ClassId} {rv : (Int32 × Ob)} {o : Ob} {p1 : Int32} (hi : wl_inj (ΓM ad cy)) (h : M_cost o p1 = some rv) : Cn l D (ΓM ad cy) yX12_cost cX12_cost 2 (some .int) 2 [.ref (ad 0), .int p1] o (some (.int rv.1), rv.2) :=
  Cn.of hi rfl (Nat.le_of_ble_eq_true rfl) (fun _ _ _ hL => M_cost_ok hi hL h)
set_option maxRecDepth 20000 in
set_option maxHeartbeats 4000000 in
theorem M_toss_ok {E : Ec} {ad : Nat → Nat} {cy : Nat → ClassId} {rv : (Int32 × Ob)} {o : Ob} {p1 : Int32} (hi : wl_inj (ΓM ad cy)) (hL : Lv E 2) (h : M_toss o p1 = some rv) : Jw E (ΓM ad cy) RX12 cX12_toss 4 (some .int) (some (.int rv.1), rv.2) 0 [(0, .ref (ad 0)), (1, .int p1)] [] o := by
  unfold M_toss at h
  refine J_aload_n (q := 0) dX12_toss_0 rfl rfl ?_
  refine J_iconst dX12_toss_1 ic_0 ?_
  refine pM_thrown dX12_toss_2 ?_
  refine J_tw (fun o1 eo1 => ?_)
  replace h := nm_some eo1 h
  refine J_aload_n (q := 0) dX12_toss_5 rfl rfl ?_
  refine J_iload_n (q := 1) dX12_toss_6 rfl rfl ?_
  obtain ⟨r2, hq16, h⟩ := bd_some h
  refine kM_wrongKept hi dX12_toss_7 hq16 hL (by decide) (Nat.le_of_ble_eq_true rfl) ?_
  refine J_if_ge (tgt := 19) dX12_toss_10 (by decide) (fun c3 => ?_) (fun c3 => ?_)
  · replace h := it_some h c3
    refine J_aload_n (q := 0) dX12_toss_19 rfl rfl ?_
    refine gM_keptKind dX12_toss_20 ?_
    refine J_iload_n (q := 1) dX12_toss_23 rfl rfl ?_
    obtain ⟨hg4, h⟩ := gd_some h
    refine aM_ld (h := 9) (n := 8) dX12_toss_24 (by decide) rfl hg4 ?_
    refine J_ti (fun v5 ev5 => ?_)
    replace h := nm_some ev5 h
    refine J_istore_n (lv' := [(2, .int v5), (0, .ref (ad 0)), (1, .int p1)]) dX12_toss_25 rfl (by decide) rfl ?_
    refine J_aload_n (q := 1) dX12_toss_26 rfl rfl ?_
    refine gM_keptFigure dX12_toss_27 ?_
    refine J_iload_n (q := 2) dX12_toss_30 rfl rfl ?_
    obtain ⟨hg6, h⟩ := gd_some h
    refine aM_ld (h := 10) (n := 8) dX12_toss_31 (by decide) rfl hg6 ?_
    refine J_ti (fun v7 ev7 => ?_)
    replace h := nm_some ev7 h
    refine J_istore_n (lv' := [(3, .int v7), (2, .int v5), (0, .ref (ad 0)), (1, .int p1)]) dX12_toss_32 rfl (by decide) rfl ?_
    refine J_iload_n (q := 1) dX12_toss_33 rfl rfl ?_
    refine J_iconst dX12_toss_34 ic_1 ?_
    refine J_icmp_eq (tgt := 53) dX12_toss_35 (by decide) (fun c8 => ?_) (fun c8 => ?_)
    · replace h := it_some h c8
      refine J_bipush dX12_toss_53 bp_m15 ?_
      exact J_iret dX12_toss_55 (rt_i h) rfl
    · replace h := if_some h c8
      refine J_iload_n (q := 1) dX12_toss_38 rfl rfl ?_
      refine J_iconst dX12_toss_39 ic_4 ?_
      refine J_icmp_eq (tgt := 53) dX12_toss_40 (by decide) (fun c9 => ?_) (fun c9 => ?_)
      · replace h := it_some h c9
        refine J_bipush dX12_toss_53 bp_m15 ?_
        exact J_iret dX12_toss_55 (rt_i h) rfl
      · replace h := if_some h c9
        refine J_iload_n (q := 1) dX12_toss_43 rfl rfl ?_
        refine J_bipush dX12_toss_44 bp_7 ?_
        refine J_icmp_eq (tgt := 53) dX12_toss_46 (by decide) (fun c10 => ?_) (fun c10 => ?_)
        · replace h := it_some h c10
          refine J_bipush dX12_toss_53 bp_m15 ?_
          exact J_iret dX12_toss_55 (rt_i h) rfl
        · replace h := if_some h c10
          refine J_iload_n (q := 0) dX12_toss_49 rfl rfl ?_
          refine J_if_ne (tgt := 56) dX12_toss_50 (by decide) (fun c11 => ?_) (fun c11 => ?_)
          · replace h := if_some h c11
            refine J_iload_n (q := 1) dX12_toss_56 rfl rfl ?_
            refine J_iconst dX12_toss_57 ic_2 ?_
            obtain ⟨kk66, ekk66, h⟩ := jn_some h
            have K66 : kk66 = some rv → Jw E (ΓM ad cy) RX12 cX12_toss 4 (some .int) (some (.int rv.1), rv.2) 66 [(3, .int v7)] [] o1 := by
              subst ekk66
              clear h
              intro h
              refine J_bipush dX12_toss_66 bp_100 ?_
              refine J_iload_n (q := 0) dX12_toss_68 rfl rfl ?_
              refine J_iadd dX12_toss_69 ?_
              refine J_goto (tgt := 90) dX12_toss_70 (by decide) ?_
              exact J_iret dX12_toss_90 (rt_i h) rfl
            clear ekk66
            refine J_icmp_eq (tgt := 66) dX12_toss_58 (by decide) (fun c12 => ?_) (fun c12 => ?_)
            · replace h := it_some h c12
              exact J_sub [0] rfl (K66 h)
            · replace h := if_some h c12
              refine J_iload_n (q := 1) dX12_toss_61 rfl rfl ?_
              refine J_iconst dX12_toss_62 ic_5 ?_
              refine J_icmp_ne (tgt := 73) dX12_toss_63 (by decide) (fun c13 => ?_) (fun c13 => ?_)
              · replace h := if_some h c13
                refine J_iload_n (q := 1) dX12_toss_73 rfl rfl ?_
                refine J_bipush dX12_toss_74 bp_6 ?_
                refine J_icmp_ne (tgt := 89) dX12_toss_76 (by decide) (fun c14 => ?_) (fun c14 => ?_)
                · replace h := if_some h c14
                  refine J_iload_n (q := 0) dX12_toss_89 rfl rfl ?_
                  exact J_iret dX12_toss_90 (rt_i h) rfl
                · replace h := it_some h c14
                  refine J_sipush dX12_toss_79 sp_200 ?_
                  refine J_iconst dX12_toss_82 ic_2 ?_
                  refine J_iload_n (q := 0) dX12_toss_83 rfl rfl ?_
                  refine J_imul dX12_toss_84 ?_
                  refine J_iadd dX12_toss_85 ?_
                  refine J_goto (tgt := 90) dX12_toss_86 (by decide) ?_
                  exact J_iret dX12_toss_90 (rt_i h) rfl
              · replace h := it_some h c13
                exact J_sub [0] rfl (K66 h)
          · replace h := it_some h c11
            refine J_bipush dX12_toss_53 bp_m15 ?_
            exact J_iret dX12_toss_55 (rt_i h) rfl
  · replace h := if_some h c3
    refine J_aload_n (q := 0) dX12_toss_13 rfl rfl ?_
    refine J_iload_n (q := 1) dX12_toss_14 rfl rfl ?_
    obtain ⟨r15, hq17, h⟩ := bd_some h
    refine kM_wrongKept hi dX12_toss_15 hq17 hL (by decide) (Nat.le_of_ble_eq_true rfl) ?_
    exact J_iret dX12_toss_18 (rt_i h) rfl
set_option maxRecDepth 20000 in
set_option maxHeartbeats 4000000 in
theorem kX12_toss {l : Launch} {D : va_G} {ad : Nat → Nat} {cy : Nat → ClassId} {rv : (Int32 × Ob)} {o : Ob} {p1 : Int32} (hi : wl_inj (ΓM ad cy)) (h : M_toss o p1 = some rv) : Cn l D (ΓM ad cy) yX12_toss cX12_toss 4 (some .int) 2 [.ref (ad 0), .int p1] o (some (.int rv.1), rv.2) :=
  Cn.of hi rfl (Nat.le_of_ble_eq_true rfl) (fun _ _ _ hL => M_toss_ok hi hL h)

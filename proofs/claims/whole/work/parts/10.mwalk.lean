set_option maxRecDepth 20000 in
set_option maxHeartbeats 4000000 in
theorem M_thrown_ok {E : Ec} {ad : Nat → Nat} {cy : Nat → ClassId} {rv : Int32} {o : Ob} (hi : wl_inj (ΓM ad cy)) (hL : Lv E 0) (h : M_thrown o = some rv) : Jw E (ΓM ad cy) RX12 cX12_thrown 1 (some .int) (some (.int rv), o) 0 [(0, .ref (ad 0))] [] o := by
  unfold M_thrown at h
  refine J_aload_n (q := 0) dX12_thrown_0 rfl rfl ?_
  refine gM_thrown dX12_thrown_1 ?_
  exact J_iret dX12_thrown_4 (by cases h; rfl) rfl
set_option maxRecDepth 20000 in
set_option maxHeartbeats 4000000 in
theorem kX12_thrown {l : Launch} {D : va_G} {ad : Nat → Nat} {cy : Nat → ClassId} {rv : Int32} {o : Ob} (hi : wl_inj (ΓM ad cy)) (h : M_thrown o = some rv) : Cn l D (ΓM ad cy) yX12_thrown cX12_thrown 1 (some .int) 0 [.ref (ad 0)] o (some (.int rv), o) :=
  Cn.of hi rfl (Nat.le_of_ble_eq_true rfl) (fun _ _ _ hL => M_thrown_ok hi hL h)
set_option maxRecDepth 20000 in
set_option maxHeartbeats 4000000 in
theorem M_in_ok {E : Ec} {ad : Nat → Nat} {cy : Nat → ClassId} {rv : Int32} {o : Ob} {p0 : Int64} {p2 : Int64} {p4 : Int64} (hi : wl_inj (ΓM ad cy)) (hL : Lv E 0) (h : M_in o p0 p2 p4 = some rv) : Jw E (ΓM ad cy) RX12 cX12_in 6 (some .boolean) (some (.int rv), o) 0 [(0, .long p0), (2, .long p2), (4, .long p4)] [] o := by
  unfold M_in at h
  refine J_lload_n (q := 0) dX12_in_0 rfl rfl ?_
  refine J_lload_n (q := 1) dX12_in_1 rfl rfl ?_
  refine J_lcmp dX12_in_2 ?_
  refine J_if_lt (tgt := 17) dX12_in_3 (by decide) (fun c1 => ?_) (fun c1 => ?_)
  · replace h := it_some h c1
    refine J_iconst dX12_in_17 ic_0 ?_
    exact J_zret dX12_in_18 (by cases h; rfl) rfl rfl
  · replace h := if_some h c1
    refine J_lload_n (q := 0) dX12_in_6 rfl rfl ?_
    refine J_lload (q := 2) dX12_in_7 rfl ?_
    refine J_lcmp dX12_in_9 ?_
    refine J_if_gt (tgt := 17) dX12_in_10 (by decide) (fun c2 => ?_) (fun c2 => ?_)
    · replace h := it_some h c2
      refine J_iconst dX12_in_17 ic_0 ?_
      exact J_zret dX12_in_18 (by cases h; rfl) rfl rfl
    · replace h := if_some h c2
      refine J_iconst dX12_in_13 ic_1 ?_
      refine J_goto (tgt := 18) dX12_in_14 (by decide) ?_
      exact J_zret dX12_in_18 (by cases h; rfl) rfl rfl
set_option maxRecDepth 20000 in
set_option maxHeartbeats 4000000 in
theorem kX12_in {l : Launch} {D : va_G} {ad : Nat → Nat} {cy : Nat → ClassId} {rv : Int32} {o : Ob} {p0 : Int64} {p2 : Int64} {p4 : Int64} (hi : wl_inj (ΓM ad cy)) (h : M_in o p0 p2 p4 = some rv) : Cn l D (ΓM ad cy) yX12_in cX12_in 6 (some .boolean) 0 [.long p0, .long p2, .long p4] o (some (.int rv), o) :=
  Cn.of hi rfl (Nat.le_of_ble_eq_true rfl) (fun _ _ _ hL => M_in_ok hi hL h)
set_option maxRecDepth 20000 in
set_option maxHeartbeats 4000000 in
theorem pdX12_in : (parseMethodDescriptor yX12_in.desc).map (fun d => d.parameters.length) = some 3 := by decide +kernel
set_option maxRecDepth 20000 in
set_option maxHeartbeats 4000000 in
theorem kM_in {E : Ec} {ad : Nat → Nat} {cy : Nat → ClassId} {cc : ByteArray} {nL : Nat} {rt : Option FieldType} {r : Option Value × Ob} {pc n : Nat} {lv : List (Nat × Value)} {st : List Value} {o : Ob} {p0 : Int64} {p2 : Int64} {p4 : Int64} {v : Int32} (hi : wl_inj (ΓM ad cy)) (hd : decode cc pc = .ok (.invokestatic 83, 3)) (hq : M_in o p0 p2 p4 = some v) (hL : Lv E n) (hn : 0 + 1 ≤ n) (hW : (st.map fun v => v.category).sum ≤ 8) (k : Jw E (ΓM ad cy) RX12 cc nL rt r (pc + 3) lv (.int v :: st) o) : Jw E (ΓM ad cy) RX12 cc nL rt r pc lv (.long p4 :: .long p2 :: .long p0 :: st) o :=
  J_callS (av := [.long p0, .long p2, .long p4]) (q := (some (.int v), o)) (st := st) hd (kX12_in hi hq) tw_5_31 tw_5_32 tw_1_13 tw_5_33 ⟨by decide, by decide, pdX12_in⟩ rfl (by decide) hL hn hW k
set_option maxRecDepth 20000 in
set_option maxHeartbeats 4000000 in
theorem M_hasBit_ok {E : Ec} {ad : Nat → Nat} {cy : Nat → ClassId} {rv : Int32} {o : Ob} {p0 : Int32} {p1 : Int32} (hi : wl_inj (ΓM ad cy)) (hL : Lv E 0) (h : M_hasBit o p0 p1 = some rv) : Jw E (ΓM ad cy) RX12 cX12_hasBit 2 (some .boolean) (some (.int rv), o) 0 [(0, .int p0), (1, .int p1)] [] o := by
  unfold M_hasBit at h
  refine J_iload_n (q := 0) dX12_hasBit_0 rfl rfl ?_
  refine J_iload_n (q := 1) dX12_hasBit_1 rfl rfl ?_
  refine J_ishr dX12_hasBit_2 ?_
  refine J_iconst dX12_hasBit_3 ic_1 ?_
  refine J_iand dX12_hasBit_4 ?_
  refine J_iconst dX12_hasBit_5 ic_1 ?_
  refine J_icmp_ne (tgt := 13) dX12_hasBit_6 (by decide) (fun c1 => ?_) (fun c1 => ?_)
  · replace h := if_some h c1
    refine J_iconst dX12_hasBit_13 ic_0 ?_
    exact J_zret dX12_hasBit_14 (by cases h; rfl) rfl rfl
  · replace h := it_some h c1
    refine J_iconst dX12_hasBit_9 ic_1 ?_
    refine J_goto (tgt := 14) dX12_hasBit_10 (by decide) ?_
    exact J_zret dX12_hasBit_14 (by cases h; rfl) rfl rfl
set_option maxRecDepth 20000 in
set_option maxHeartbeats 4000000 in
theorem kX12_hasBit {l : Launch} {D : va_G} {ad : Nat → Nat} {cy : Nat → ClassId} {rv : Int32} {o : Ob} {p0 : Int32} {p1 : Int32} (hi : wl_inj (ΓM ad cy)) (h : M_hasBit o p0 p1 = some rv) : Cn l D (ΓM ad cy) yX12_hasBit cX12_hasBit 2 (some .boolean) 0 [.int p0, .int p1] o (some (.int rv), o) :=
  Cn.of hi rfl (Nat.le_of_ble_eq_true rfl) (fun _ _ _ hL => M_hasBit_ok hi hL h)
set_option maxRecDepth 20000 in
set_option maxHeartbeats 4000000 in
theorem pdX12_hasBit : (parseMethodDescriptor yX12_hasBit.desc).map (fun d => d.parameters.length) = some 2 := by decide +kernel
set_option maxRecDepth 20000 in
set_option maxHeartbeats 4000000 in
theorem kM_hasBit {E : Ec} {ad : Nat → Nat} {cy : Nat → ClassId} {cc : ByteArray} {nL : Nat} {rt : Option FieldType} {r : Option Value × Ob} {pc n : Nat} {lv : List (Nat × Value)} {st : List Value} {o : Ob} {p0 : Int32} {p1 : Int32} {v : Int32} (hi : wl_inj (ΓM ad cy)) (hd : decode cc pc = .ok (.invokestatic 105, 3)) (hq : M_hasBit o p0 p1 = some v) (hL : Lv E n) (hn : 0 + 1 ≤ n) (hW : (st.map fun v => v.category).sum ≤ 8) (k : Jw E (ΓM ad cy) RX12 cc nL rt r (pc + 3) lv (.int v :: st) o) : Jw E (ΓM ad cy) RX12 cc nL rt r pc lv (.int p1 :: .int p0 :: st) o :=
  J_callS (av := [.int p0, .int p1]) (q := (some (.int v), o)) (st := st) hd (kX12_hasBit hi hq) tw_5_118 tw_5_119 tw_1_13 tw_5_120 ⟨by decide, by decide, pdX12_hasBit⟩ rfl (by decide) hL hn hW k
set_option maxRecDepth 20000 in
set_option maxHeartbeats 4000000 in
theorem M_onesOf_L4_ok {E : Ec} {ad : Nat → Nat} {cy : Nat → ClassId} {rv : Int32} {o : Ob} (hi : wl_inj (ΓM ad cy)) (hL : Lv E 0) : ∀ (n : Nat) (x1 : Int32) (x2 : Int32), M_onesOf_L4 o n x1 x2 = some rv → Jw E (ΓM ad cy) RX12 cX12_onesOf 3 (some .int) (some (.int rv), o) 4 [(1, .int x1), (2, .int x2)] [] o := by
  intro n
  induction n with
  | zero =>
    intro x1 x2 h
    rw [M_onesOf_L4] at h
    cases h
  | succ n ih =>
    intro x1 x2 h
    rw [M_onesOf_L4] at h
    refine J_iload_n (q := 1) dX12_onesOf_4 rfl rfl ?_
    refine J_if_eq (tgt := 20) dX12_onesOf_5 (by decide) (fun c1 => ?_) (fun c1 => ?_)
    · replace h := it_some h c1
      refine J_iload_n (q := 0) dX12_onesOf_20 rfl rfl ?_
      exact J_iret dX12_onesOf_21 (by cases h; rfl) rfl
    · replace h := if_some h c1
      refine J_iinc (q := 0) (v := (x1 + (1 : Int32))) (lv' := [(1, .int (x1 + (1 : Int32))), (2, .int x2)]) dX12_onesOf_8 rfl (congrArg (fun z => x1 + z) ic_1) (by decide) rfl ?_
      refine J_tv (fun v2 ev2 => ?_)
      replace h := nm_some ev2 h
      refine J_iload_n (q := 1) dX12_onesOf_11 rfl rfl ?_
      refine J_iload_n (q := 1) dX12_onesOf_12 rfl rfl ?_
      refine J_iconst dX12_onesOf_13 ic_1 ?_
      refine J_isub dX12_onesOf_14 ?_
      refine J_iand dX12_onesOf_15 ?_
      refine J_ti (fun v3 ev3 => ?_)
      replace h := nm_some ev3 h
      refine J_istore_n (lv' := [(2, .int v3), (1, .int v2)]) dX12_onesOf_16 rfl (by decide) rfl ?_
      refine J_goto (tgt := 4) dX12_onesOf_17 (by decide) ?_
      exact J_sub [1, 0] rfl (ih _ _ h)
set_option maxRecDepth 20000 in
set_option maxHeartbeats 4000000 in
theorem M_onesOf_ok {E : Ec} {ad : Nat → Nat} {cy : Nat → ClassId} {rv : Int32} {o : Ob} {p0 : Int32} (hi : wl_inj (ΓM ad cy)) (hL : Lv E 0) (h : M_onesOf o p0 = some rv) : Jw E (ΓM ad cy) RX12 cX12_onesOf 3 (some .int) (some (.int rv), o) 0 [(0, .int p0)] [] o := by
  unfold M_onesOf at h
  refine J_iconst dX12_onesOf_0 ic_0 ?_
  refine J_istore_n (lv' := [(1, .int (0 : Int32)), (0, .int p0)]) dX12_onesOf_1 rfl (by decide) rfl ?_
  refine J_iload_n (q := 1) dX12_onesOf_2 rfl rfl ?_
  refine J_istore_n (lv' := [(2, .int p0), (1, .int (0 : Int32)), (0, .int p0)]) dX12_onesOf_3 rfl (by decide) rfl ?_
  refine J_sub [1, 0] rfl (M_onesOf_L4_ok hi hL FU _ _ h)
set_option maxRecDepth 20000 in
set_option maxHeartbeats 4000000 in
theorem kX12_onesOf {l : Launch} {D : va_G} {ad : Nat → Nat} {cy : Nat → ClassId} {rv : Int32} {o : Ob} {p0 : Int32} (hi : wl_inj (ΓM ad cy)) (h : M_onesOf o p0 = some rv) : Cn l D (ΓM ad cy) yX12_onesOf cX12_onesOf 3 (some .int) 0 [.int p0] o (some (.int rv), o) :=
  Cn.of hi rfl (Nat.le_of_ble_eq_true rfl) (fun _ _ _ hL => M_onesOf_ok hi hL h)
set_option maxRecDepth 20000 in
set_option maxHeartbeats 4000000 in
theorem pdX12_onesOf : (parseMethodDescriptor yX12_onesOf.desc).map (fun d => d.parameters.length) = some 1 := by decide +kernel
set_option maxRecDepth 20000 in
set_option maxHeartbeats 4000000 in
theorem kM_onesOf {E : Ec} {ad : Nat → Nat} {cy : Nat → ClassId} {cc : ByteArray} {nL : Nat} {rt : Option FieldType} {r : Option Value × Ob} {pc n : Nat} {lv : List (Nat × Value)} {st : List Value} {o : Ob} {p0 : Int32} {v : Int32} (hi : wl_inj (ΓM ad cy)) (hd : decode cc pc = .ok (.invokestatic 94, 3)) (hq : M_onesOf o p0 = some v) (hL : Lv E n) (hn : 0 + 1 ≤ n) (hW : (st.map fun v => v.category).sum ≤ 8) (k : Jw E (ΓM ad cy) RX12 cc nL rt r (pc + 3) lv (.int v :: st) o) : Jw E (ΓM ad cy) RX12 cc nL rt r pc lv (.int p0 :: st) o :=
  J_callS (av := [.int p0]) (q := (some (.int v), o)) (st := st) hd (kX12_onesOf hi hq) tw_5_133 tw_5_134 tw_1_13 tw_5_135 ⟨by decide, by decide, pdX12_onesOf⟩ rfl (by decide) hL hn hW k
set_option maxRecDepth 20000 in
set_option maxHeartbeats 4000000 in
theorem M_isThing_ok {E : Ec} {ad : Nat → Nat} {cy : Nat → ClassId} {rv : Int32} {o : Ob} {p0 : Int32} (hi : wl_inj (ΓM ad cy)) (hL : Lv E 1) (h : M_isThing o p0 = some rv) : Jw E (ΓM ad cy) RX12 cX12_isThing 1 (some .boolean) (some (.int rv), o) 0 [(0, .int p0)] [] o := by
  unfold M_isThing at h
  refine J_iload_n (q := 0) dX12_isThing_0 rfl rfl ?_
  refine J_i2l dX12_isThing_1 ?_
  refine J_lconst dX12_isThing_2 lc_0 ?_
  refine J_ldc2 dX12_isThing_3 tw_5_74 ?_
  obtain ⟨r1, hq3, h⟩ := bd_some h
  refine kM_in hi dX12_isThing_6 hq3 hL (by decide) (Nat.le_of_ble_eq_true rfl) ?_
  obtain ⟨hg2, h⟩ := gd_some h
  exact J_zret dX12_isThing_9 (by cases h; rfl) rfl hg2
set_option maxRecDepth 20000 in
set_option maxHeartbeats 4000000 in
theorem kX12_isThing {l : Launch} {D : va_G} {ad : Nat → Nat} {cy : Nat → ClassId} {rv : Int32} {o : Ob} {p0 : Int32} (hi : wl_inj (ΓM ad cy)) (h : M_isThing o p0 = some rv) : Cn l D (ΓM ad cy) yX12_isThing cX12_isThing 1 (some .boolean) 1 [.int p0] o (some (.int rv), o) :=
  Cn.of hi rfl (Nat.le_of_ble_eq_true rfl) (fun _ _ _ hL => M_isThing_ok hi hL h)
set_option maxRecDepth 20000 in
set_option maxHeartbeats 4000000 in
theorem pdX12_isThing : (parseMethodDescriptor yX12_isThing.desc).map (fun d => d.parameters.length) = some 1 := by decide +kernel
set_option maxRecDepth 20000 in
set_option maxHeartbeats 4000000 in
theorem kM_isThing {E : Ec} {ad : Nat → Nat} {cy : Nat → ClassId} {cc : ByteArray} {nL : Nat} {rt : Option FieldType} {r : Option Value × Ob} {pc n : Nat} {lv : List (Nat × Value)} {st : List Value} {o : Ob} {p0 : Int32} {v : Int32} (hi : wl_inj (ΓM ad cy)) (hd : decode cc pc = .ok (.invokestatic 90, 3)) (hq : M_isThing o p0 = some v) (hL : Lv E n) (hn : 1 + 1 ≤ n) (hW : (st.map fun v => v.category).sum ≤ 8) (k : Jw E (ΓM ad cy) RX12 cc nL rt r (pc + 3) lv (.int v :: st) o) : Jw E (ΓM ad cy) RX12 cc nL rt r pc lv (.int p0 :: st) o :=
  J_callS (av := [.int p0]) (q := (some (.int v), o)) (st := st) hd (kX12_isThing hi hq) tw_5_71 tw_5_72 tw_1_13 tw_5_73 ⟨by decide, by decide, pdX12_isThing⟩ rfl (by decide) hL hn hW k
set_option maxRecDepth 20000 in
set_option maxHeartbeats 4000000 in
theorem M_isOne_ok {E : Ec} {ad : Nat → Nat} {cy : Nat → ClassId} {rv : Int32} {o : Ob} {p1 : Int32} (hi : wl_inj (ΓM ad cy)) (hL : Lv E 1) (h : M_isOne o p1 = some rv) : Jw E (ΓM ad cy) RX12 cX12_isOne 2 (some .boolean) (some (.int rv), o) 0 [(0, .ref (ad 0)), (1, .int p1)] [] o := by
  unfold M_isOne at h
  refine J_iload_n (q := 1) dX12_isOne_0 rfl rfl ?_
  refine J_i2l dX12_isOne_1 ?_
  refine J_lconst dX12_isOne_2 lc_0 ?_
  refine J_aload_n (q := 0) dX12_isOne_3 rfl rfl ?_
  refine gM_many dX12_isOne_4 ?_
  refine J_iconst dX12_isOne_7 ic_1 ?_
  refine J_isub dX12_isOne_8 ?_
  refine J_i2l dX12_isOne_9 ?_
  obtain ⟨r1, hq3, h⟩ := bd_some h
  refine kM_in hi dX12_isOne_10 hq3 hL (by decide) (Nat.le_of_ble_eq_true rfl) ?_
  obtain ⟨hg2, h⟩ := gd_some h
  exact J_zret dX12_isOne_13 (by cases h; rfl) rfl hg2
set_option maxRecDepth 20000 in
set_option maxHeartbeats 4000000 in
theorem kX12_isOne {l : Launch} {D : va_G} {ad : Nat → Nat} {cy : Nat → ClassId} {rv : Int32} {o : Ob} {p1 : Int32} (hi : wl_inj (ΓM ad cy)) (h : M_isOne o p1 = some rv) : Cn l D (ΓM ad cy) yX12_isOne cX12_isOne 2 (some .boolean) 1 [.ref (ad 0), .int p1] o (some (.int rv), o) :=
  Cn.of hi rfl (Nat.le_of_ble_eq_true rfl) (fun _ _ _ hL => M_isOne_ok hi hL h)
set_option maxRecDepth 20000 in
set_option maxHeartbeats 4000000 in
theorem pdX12_isOne : (parseMethodDescriptor yX12_isOne.desc).map (fun d => d.parameters.length) = some 1 := by decide +kernel
set_option maxRecDepth 20000 in
set_option maxHeartbeats 4000000 in
theorem kM_isOne {E : Ec} {ad : Nat → Nat} {cy : Nat → ClassId} {cc : ByteArray} {nL : Nat} {rt : Option FieldType} {r : Option Value × Ob} {pc n : Nat} {lv : List (Nat × Value)} {st : List Value} {o : Ob} {p1 : Int32} {v : Int32} (hi : wl_inj (ΓM ad cy)) (hd : decode cc pc = .ok (.invokevirtual 181, 3)) (hq : M_isOne o p1 = some v) (hL : Lv E n) (hn : 1 + 1 ≤ n) (hW : (st.map fun v => v.category).sum ≤ 8) (k : Jw E (ΓM ad cy) RX12 cc nL rt r (pc + 3) lv (.int v :: st) o) : Jw E (ΓM ad cy) RX12 cc nL rt r pc lv (.int p1 :: .ref (ad 0) :: st) o :=
  J_callV (h := 0) (ci := 11) (av := [.int p1]) (q := (some (.int v), o)) (st := st) hd (kX12_isOne hi hq) tw_5_82 tw_5_84 tw_1_13 tw_5_85 sl_3_0 ⟨by decide, by decide, pdX12_isOne⟩ (Nat.le_of_ble_eq_true rfl) rfl rfl rfl rfl (by decide) hL hn hW k
set_option maxRecDepth 20000 in
set_option maxHeartbeats 4000000 in
theorem M_isCare_ok {E : Ec} {ad : Nat → Nat} {cy : Nat → ClassId} {rv : Int32} {o : Ob} {p0 : Int32} (hi : wl_inj (ΓM ad cy)) (hL : Lv E 2) (h : M_isCare o p0 = some rv) : Jw E (ΓM ad cy) RX12 cX12_isCare 1 (some .boolean) (some (.int rv), o) 0 [(0, .int p0)] [] o := by
  unfold M_isCare at h
  refine J_iload_n (q := 0) dX12_isCare_0 rfl rfl ?_
  obtain ⟨r1, hq4, h⟩ := bd_some h
  refine kM_isThing hi dX12_isCare_1 hq4 hL (by decide) (Nat.le_of_ble_eq_true rfl) ?_
  obtain ⟨kk13, ekk13, h⟩ := jn_some h
  have K13 : kk13 = some rv → Jw E (ΓM ad cy) RX12 cX12_isCare 1 (some .boolean) (some (.int rv), o) 13 [] [] o := by
    subst ekk13
    clear h
    intro h
    refine J_iconst dX12_isCare_13 ic_1 ?_
    refine J_goto (tgt := 18) dX12_isCare_14 (by decide) ?_
    exact J_zret dX12_isCare_18 (by cases h; rfl) rfl rfl
  clear ekk13
  refine J_if_ne (tgt := 13) dX12_isCare_4 (by decide) (fun c2 => ?_) (fun c2 => ?_)
  · replace h := if_some h c2
    exact J_sub [] rfl (K13 h)
  · replace h := it_some h c2
    refine J_iload_n (q := 0) dX12_isCare_7 rfl rfl ?_
    refine J_bipush dX12_isCare_8 bp_9 ?_
    refine J_icmp_ne (tgt := 17) dX12_isCare_10 (by decide) (fun c3 => ?_) (fun c3 => ?_)
    · replace h := if_some h c3
      refine J_iconst dX12_isCare_17 ic_0 ?_
      exact J_zret dX12_isCare_18 (by cases h; rfl) rfl rfl
    · replace h := it_some h c3
      exact J_sub [] rfl (K13 h)
set_option maxRecDepth 20000 in
set_option maxHeartbeats 4000000 in
theorem kX12_isCare {l : Launch} {D : va_G} {ad : Nat → Nat} {cy : Nat → ClassId} {rv : Int32} {o : Ob} {p0 : Int32} (hi : wl_inj (ΓM ad cy)) (h : M_isCare o p0 = some rv) : Cn l D (ΓM ad cy) yX12_isCare cX12_isCare 1 (some .boolean) 2 [.int p0] o (some (.int rv), o) :=
  Cn.of hi rfl (Nat.le_of_ble_eq_true rfl) (fun _ _ _ hL => M_isCare_ok hi hL h)
set_option maxRecDepth 20000 in
set_option maxHeartbeats 4000000 in
theorem pdX12_isCare : (parseMethodDescriptor yX12_isCare.desc).map (fun d => d.parameters.length) = some 1 := by decide +kernel
set_option maxRecDepth 20000 in
set_option maxHeartbeats 4000000 in
theorem kM_isCare {E : Ec} {ad : Nat → Nat} {cy : Nat → ClassId} {cc : ByteArray} {nL : Nat} {rt : Option FieldType} {r : Option Value × Ob} {pc n : Nat} {lv : List (Nat × Value)} {st : List Value} {o : Ob} {p0 : Int32} {v : Int32} (hi : wl_inj (ΓM ad cy)) (hd : decode cc pc = .ok (.invokestatic 169, 3)) (hq : M_isCare o p0 = some v) (hL : Lv E n) (hn : 2 + 1 ≤ n) (hW : (st.map fun v => v.category).sum ≤ 8) (k : Jw E (ΓM ad cy) RX12 cc nL rt r (pc + 3) lv (.int v :: st) o) : Jw E (ΓM ad cy) RX12 cc nL rt r pc lv (.int p0 :: st) o :=
  J_callS (av := [.int p0]) (q := (some (.int v), o)) (st := st) hd (kX12_isCare hi hq) tw_5_79 tw_5_80 tw_1_13 tw_5_81 ⟨by decide, by decide, pdX12_isCare⟩ rfl (by decide) hL hn hW k
set_option maxRecDepth 20000 in
set_option maxHeartbeats 4000000 in
theorem M_storyBy_ok {E : Ec} {ad : Nat → Nat} {cy : Nat → ClassId} {rv : Int32} {o : Ob} {p1 : Int32} {p2 : Int32} {p3 : Int32} (hi : wl_inj (ΓM ad cy)) (hL : Lv E 1) (h : M_storyBy o p1 p2 p3 = some rv) : Jw E (ΓM ad cy) RX12 cX12_storyBy 7 (some .int) (some (.int rv), o) 0 [(0, .ref (ad 0)), (1, .int p1), (2, .int p2), (3, .int p3)] [] o := by
  unfold M_storyBy at h
  refine J_iload_n (q := 2) dX12_storyBy_0 rfl rfl ?_
  refine J_iload_n (q := 3) dX12_storyBy_1 rfl rfl ?_
  refine J_iand dX12_storyBy_2 ?_
  obtain ⟨r1, hq19, h⟩ := bd_some h
  refine kM_onesOf hi dX12_storyBy_3 hq19 hL (by decide) (Nat.le_of_ble_eq_true rfl) ?_
  refine J_istore (lv' := [(4, .int r1), (0, .ref (ad 0)), (1, .int p1), (2, .int p2), (3, .int p3)]) dX12_storyBy_6 (by decide) rfl ?_
  refine J_iload (q := 0) dX12_storyBy_8 rfl ?_
  obtain ⟨s4, ha28, h⟩ := bd_some h
  have K28 : Jw E (ΓM ad cy) RX12 cX12_storyBy 7 (some .int) (some (.int rv), o) 28 [(0, .ref (ad 0)), (1, .int p1), (2, .int p2), (3, .int p3), (4, .int r1)] [.int s4] o := by
    clear ha28
    refine J_istore (lv' := [(5, .int s4), (0, .ref (ad 0)), (1, .int p1), (2, .int p2), (3, .int p3), (4, .int r1)]) dX12_storyBy_28 (by decide) rfl ?_
    refine J_iload (q := 5) dX12_storyBy_30 rfl ?_
    refine J_iload_n (q := 3) dX12_storyBy_32 rfl rfl ?_
    refine J_iload_n (q := 4) dX12_storyBy_33 rfl rfl ?_
    refine J_iand dX12_storyBy_34 ?_
    refine J_sipush dX12_storyBy_35 sp_4032 ?_
    refine J_iand dX12_storyBy_38 ?_
    obtain ⟨r5, hq20, h⟩ := bd_some h
    refine kM_onesOf hi dX12_storyBy_39 hq20 hL (by decide) (Nat.le_of_ble_eq_true rfl) ?_
    refine J_iadd dX12_storyBy_42 ?_
    refine J_ti (fun v6 ev6 => ?_)
    replace h := nm_some ev6 h
    refine J_istore (lv' := [(6, .int v6), (5, .int s4), (0, .ref (ad 0)), (1, .int p1), (2, .int p2), (3, .int p3), (4, .int r1)]) dX12_storyBy_43 (by decide) rfl ?_
    refine J_aload_n (q := 2) dX12_storyBy_45 rfl rfl ?_
    refine gM_kinds dX12_storyBy_46 ?_
    refine J_iload_n (q := 3) dX12_storyBy_49 rfl rfl ?_
    obtain ⟨hg7, h⟩ := gd_some h
    refine aM_ld (h := 4) (n := 7) dX12_storyBy_50 (by decide) rfl hg7 ?_
    obtain ⟨kk135, ekk135, h⟩ := jn_some h
    have K135 : kk135 = some rv → Jw E (ΓM ad cy) RX12 cX12_storyBy 7 (some .int) (some (.int rv), o) 135 [(2, .int p2), (3, .int p3), (4, .int r1)] [] o := by
      subst ekk135
      clear h
      intro h
      refine J_iload (q := 2) dX12_storyBy_135 rfl ?_
      refine J_iload_n (q := 0) dX12_storyBy_137 rfl rfl ?_
      refine J_iload_n (q := 1) dX12_storyBy_138 rfl rfl ?_
      refine J_iconst dX12_storyBy_139 ic_m1 ?_
      refine J_ixor dX12_storyBy_140 ?_
      refine J_iand dX12_storyBy_141 ?_
      obtain ⟨r18, hq21, h⟩ := bd_some h
      refine kM_onesOf hi dX12_storyBy_142 hq21 hL (by decide) (Nat.le_of_ble_eq_true rfl) ?_
      refine J_iconst dX12_storyBy_145 ic_2 ?_
      refine J_idiv dX12_storyBy_146 (by decide) ?_
      refine J_iadd dX12_storyBy_147 ?_
      exact J_iret dX12_storyBy_148 (by cases h; rfl) rfl
    clear ekk135
    by_cases c8 : (ix (oA o 4) p1) = (0 : Int32)
    · replace h := it_some h c8
      refine J_tin (tgt := 96) dX12_storyBy_51 (by rw [c8]; decide) (by rw [c8]; decide) (by rw [c8]; rfl) (by decide) ?_
      refine J_iload (q := 6) dX12_storyBy_96 rfl ?_
      exact J_iret dX12_storyBy_98 (by cases h; rfl) rfl
    · replace h := if_some h c8
      by_cases c9 : (ix (oA o 4) p1) = (1 : Int32)
      · replace h := it_some h c9
        refine J_tin (tgt := 99) dX12_storyBy_51 (by rw [c9]; decide) (by rw [c9]; decide) (by rw [c9]; rfl) (by decide) ?_
        refine J_iload (q := 1) dX12_storyBy_99 rfl ?_
        exact J_iret dX12_storyBy_101 (by cases h; rfl) rfl
      · replace h := if_some h c9
        by_cases c10 : (ix (oA o 4) p1) = (2 : Int32)
        · replace h := it_some h c10
          refine J_tin (tgt := 135) dX12_storyBy_51 (by rw [c10]; decide) (by rw [c10]; decide) (by rw [c10]; rfl) (by decide) ?_
          exact J_sub [4, 5, 6] rfl (K135 h)
        · replace h := if_some h c10
          by_cases c11 : (ix (oA o 4) p1) = (3 : Int32)
          · replace h := it_some h c11
            refine J_tin (tgt := 102) dX12_storyBy_51 (by rw [c11]; decide) (by rw [c11]; decide) (by rw [c11]; rfl) (by decide) ?_
            refine J_iload (q := 0) dX12_storyBy_102 rfl ?_
            exact J_iret dX12_storyBy_104 (by cases h; rfl) rfl
          · replace h := if_some h c11
            by_cases c12 : (ix (oA o 4) p1) = (4 : Int32)
            · replace h := it_some h c12
              refine J_tin (tgt := 105) dX12_storyBy_51 (by rw [c12]; decide) (by rw [c12]; decide) (by rw [c12]; rfl) (by decide) ?_
              refine J_iload (q := 6) dX12_storyBy_105 rfl ?_
              refine J_if_ne (tgt := 114) dX12_storyBy_107 (by decide) (fun c13 => ?_) (fun c13 => ?_)
              · replace h := if_some h c13
                refine J_iload (q := 1) dX12_storyBy_114 rfl ?_
                refine J_iconst dX12_storyBy_116 ic_2 ?_
                refine J_iadd dX12_storyBy_117 ?_
                exact J_iret dX12_storyBy_118 (by cases h; rfl) rfl
              · replace h := it_some h c13
                refine J_iconst dX12_storyBy_110 ic_0 ?_
                refine J_goto (tgt := 118) dX12_storyBy_111 (by decide) ?_
                exact J_iret dX12_storyBy_118 (by cases h; rfl) rfl
            · replace h := if_some h c12
              by_cases c14 : (ix (oA o 4) p1) = (5 : Int32)
              · replace h := it_some h c14
                refine J_tin (tgt := 135) dX12_storyBy_51 (by rw [c14]; decide) (by rw [c14]; decide) (by rw [c14]; rfl) (by decide) ?_
                exact J_sub [4, 5, 6] rfl (K135 h)
              · replace h := if_some h c14
                by_cases c15 : (ix (oA o 4) p1) = (6 : Int32)
                · replace h := it_some h c15
                  refine J_tin (tgt := 119) dX12_storyBy_51 (by rw [c15]; decide) (by rw [c15]; decide) (by rw [c15]; rfl) (by decide) ?_
                  refine J_iload (q := 0) dX12_storyBy_119 rfl ?_
                  refine J_if_ne (tgt := 128) dX12_storyBy_121 (by decide) (fun c16 => ?_) (fun c16 => ?_)
                  · replace h := if_some h c16
                    refine J_iload (q := 0) dX12_storyBy_128 rfl ?_
                    refine J_iconst dX12_storyBy_130 ic_1 ?_
                    refine J_isub dX12_storyBy_131 ?_
                    exact J_iret dX12_storyBy_132 (by cases h; rfl) rfl
                  · replace h := it_some h c16
                    refine J_iconst dX12_storyBy_124 ic_0 ?_
                    refine J_goto (tgt := 132) dX12_storyBy_125 (by decide) ?_
                    exact J_iret dX12_storyBy_132 (by cases h; rfl) rfl
                · replace h := if_some h c15
                  by_cases c17 : (ix (oA o 4) p1) = (7 : Int32)
                  · replace h := it_some h c17
                    refine J_tin (tgt := 133) dX12_storyBy_51 (by rw [c17]; decide) (by rw [c17]; decide) (by rw [c17]; rfl) (by decide) ?_
                    refine J_iconst dX12_storyBy_133 ic_0 ?_
                    exact J_iret dX12_storyBy_134 (by cases h; rfl) rfl
                  · replace h := if_some h c17
                    refine J_tout (tgt := 135) dX12_storyBy_51 (sw_out8 c8 c9 c10 c11 c12 c14 c15 c17) (by decide) ?_
                    exact J_sub [4, 5, 6] rfl (K135 h)
  clear h
  refine J_if_ne (tgt := 17) dX12_storyBy_10 (by decide) (fun c2 => ?_) (fun c2 => ?_)
  · replace ha28 := if_some ha28 c2
    refine J_iload (q := 0) dX12_storyBy_17 rfl ?_
    refine J_aload_n (q := 1) dX12_storyBy_19 rfl rfl ?_
    refine gM_figures dX12_storyBy_20 ?_
    refine J_iload_n (q := 2) dX12_storyBy_23 rfl rfl ?_
    obtain ⟨hg3, ha28⟩ := gd_some ha28
    refine aM_ld (h := 5) (n := 7) dX12_storyBy_24 (by decide) rfl hg3 ?_
    refine J_iconst dX12_storyBy_25 ic_3 ?_
    refine J_idiv dX12_storyBy_26 (by decide) ?_
    refine J_iadd dX12_storyBy_27 ?_
    cases ha28
    exact J_sub [1, 2, 3, 4, 0] rfl (K28)
  · replace ha28 := it_some ha28 c2
    refine J_iconst dX12_storyBy_13 ic_0 ?_
    refine J_goto (tgt := 28) dX12_storyBy_14 (by decide) ?_
    cases ha28
    exact J_sub [1, 2, 3, 4, 0] rfl (K28)
set_option maxRecDepth 20000 in
set_option maxHeartbeats 4000000 in
theorem kX12_storyBy {l : Launch} {D : va_G} {ad : Nat → Nat} {cy : Nat → ClassId} {rv : Int32} {o : Ob} {p1 : Int32} {p2 : Int32} {p3 : Int32} (hi : wl_inj (ΓM ad cy)) (h : M_storyBy o p1 p2 p3 = some rv) : Cn l D (ΓM ad cy) yX12_storyBy cX12_storyBy 7 (some .int) 1 [.ref (ad 0), .int p1, .int p2, .int p3] o (some (.int rv), o) :=
  Cn.of hi rfl (Nat.le_of_ble_eq_true rfl) (fun _ _ _ hL => M_storyBy_ok hi hL h)
set_option maxRecDepth 20000 in
set_option maxHeartbeats 4000000 in
theorem pdX12_storyBy : (parseMethodDescriptor yX12_storyBy.desc).map (fun d => d.parameters.length) = some 3 := by decide +kernel
set_option maxRecDepth 20000 in
set_option maxHeartbeats 4000000 in
theorem kM_storyBy {E : Ec} {ad : Nat → Nat} {cy : Nat → ClassId} {cc : ByteArray} {nL : Nat} {rt : Option FieldType} {r : Option Value × Ob} {pc n : Nat} {lv : List (Nat × Value)} {st : List Value} {o : Ob} {p1 : Int32} {p2 : Int32} {p3 : Int32} {v : Int32} (hi : wl_inj (ΓM ad cy)) (hd : decode cc pc = .ok (.invokevirtual 98, 3)) (hq : M_storyBy o p1 p2 p3 = some v) (hL : Lv E n) (hn : 1 + 1 ≤ n) (hW : (st.map fun v => v.category).sum ≤ 8) (k : Jw E (ΓM ad cy) RX12 cc nL rt r (pc + 3) lv (.int v :: st) o) : Jw E (ΓM ad cy) RX12 cc nL rt r pc lv (.int p3 :: .int p2 :: .int p1 :: .ref (ad 0) :: st) o :=
  J_callV (h := 0) (ci := 11) (av := [.int p1, .int p2, .int p3]) (q := (some (.int v), o)) (st := st) hd (kX12_storyBy hi hq) tw_5_129 tw_5_131 tw_1_13 tw_5_132 sl_3_10 ⟨by decide, by decide, pdX12_storyBy⟩ (Nat.le_of_ble_eq_true rfl) rfl rfl rfl rfl (by decide) hL hn hW k
set_option maxRecDepth 20000 in
set_option maxHeartbeats 4000000 in
theorem M_storyOf_ok {E : Ec} {ad : Nat → Nat} {cy : Nat → ClassId} {rv : Int32} {o : Ob} {p1 : Int32} {p2 : Int32} (hi : wl_inj (ΓM ad cy)) (hL : Lv E 2) (h : M_storyOf o p1 p2 = some rv) : Jw E (ΓM ad cy) RX12 cX12_storyOf 3 (some .int) (some (.int rv), o) 0 [(0, .ref (ad 0)), (1, .int p1), (2, .int p2)] [] o := by
  unfold M_storyOf at h
  refine J_aload_n (q := 0) dX12_storyOf_0 rfl rfl ?_
  refine J_iload_n (q := 1) dX12_storyOf_1 rfl rfl ?_
  refine J_aload_n (q := 0) dX12_storyOf_2 rfl rfl ?_
  refine gM_knows dX12_storyOf_3 ?_
  refine J_iconst dX12_storyOf_6 ic_5 ?_
  refine J_iload_n (q := 1) dX12_storyOf_7 rfl rfl ?_
  refine J_imul dX12_storyOf_8 ?_
  refine J_iload_n (q := 2) dX12_storyOf_9 rfl rfl ?_
  refine J_iadd dX12_storyOf_10 ?_
  obtain ⟨hg1, h⟩ := gd_some h
  refine aM_ld (h := 7) (n := 35) dX12_storyOf_11 (by decide) rfl hg1 ?_
  refine J_aload_n (q := 0) dX12_storyOf_12 rfl rfl ?_
  refine gM_pasts dX12_storyOf_13 ?_
  refine J_iload_n (q := 2) dX12_storyOf_16 rfl rfl ?_
  obtain ⟨hg2, h⟩ := gd_some h
  refine aM_ld (h := 1) (n := 5) dX12_storyOf_17 (by decide) rfl hg2 ?_
  obtain ⟨r3, hq4, h⟩ := bd_some h
  refine kM_storyBy hi dX12_storyOf_18 hq4 hL (by decide) (Nat.le_of_ble_eq_true rfl) ?_
  exact J_iret dX12_storyOf_21 (by cases h; rfl) rfl
set_option maxRecDepth 20000 in
set_option maxHeartbeats 4000000 in
theorem kX12_storyOf {l : Launch} {D : va_G} {ad : Nat → Nat} {cy : Nat → ClassId} {rv : Int32} {o : Ob} {p1 : Int32} {p2 : Int32} (hi : wl_inj (ΓM ad cy)) (h : M_storyOf o p1 p2 = some rv) : Cn l D (ΓM ad cy) yX12_storyOf cX12_storyOf 3 (some .int) 2 [.ref (ad 0), .int p1, .int p2] o (some (.int rv), o) :=
  Cn.of hi rfl (Nat.le_of_ble_eq_true rfl) (fun _ _ _ hL => M_storyOf_ok hi hL h)
set_option maxRecDepth 20000 in
set_option maxHeartbeats 4000000 in
theorem pdX12_storyOf : (parseMethodDescriptor yX12_storyOf.desc).map (fun d => d.parameters.length) = some 2 := by decide +kernel
set_option maxRecDepth 20000 in
set_option maxHeartbeats 4000000 in
theorem kM_storyOf {E : Ec} {ad : Nat → Nat} {cy : Nat → ClassId} {cc : ByteArray} {nL : Nat} {rt : Option FieldType} {r : Option Value × Ob} {pc n : Nat} {lv : List (Nat × Value)} {st : List Value} {o : Ob} {p1 : Int32} {p2 : Int32} {v : Int32} (hi : wl_inj (ΓM ad cy)) (hd : decode cc pc = .ok (.invokevirtual 109, 3)) (hq : M_storyOf o p1 p2 = some v) (hL : Lv E n) (hn : 2 + 1 ≤ n) (hW : (st.map fun v => v.category).sum ≤ 8) (k : Jw E (ΓM ad cy) RX12 cc nL rt r (pc + 3) lv (.int v :: st) o) : Jw E (ΓM ad cy) RX12 cc nL rt r pc lv (.int p2 :: .int p1 :: .ref (ad 0) :: st) o :=
  J_callV (h := 0) (ci := 11) (av := [.int p1, .int p2]) (q := (some (.int v), o)) (st := st) hd (kX12_storyOf hi hq) tw_5_125 tw_5_127 tw_1_13 tw_5_128 sl_3_9 ⟨by decide, by decide, pdX12_storyOf⟩ (Nat.le_of_ble_eq_true rfl) rfl rfl rfl rfl (by decide) hL hn hW k

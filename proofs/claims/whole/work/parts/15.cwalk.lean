theorem pdJ6_bitCount_0f7a4 : (parseMethodDescriptor yJ6_bitCount_0f7a4.desc).map (fun d => d.parameters.length) = some 1 := by decide +kernel
set_option maxRecDepth 20000 in
set_option maxHeartbeats 4000000 in
theorem B_bitCount_ok {E : Ec} {ad : Nat → Nat} {cy : Nat → ClassId} {rv : Int32} {w : CS} {p0 : Int32} (hi : wl_inj (ΓC ad cy)) (hL : Lv E 0) (h : B_bitCount p0 = some rv) : Jw E (ΓC ad cy) RJ6 cJ6_bitCount_0f7a4 1 (some .int) (some (.int rv), w) 0 [(0, .int p0)] [] w := by
  unfold B_bitCount at h
  refine J_iload_n (q := 0) dJ6_bitCount_0f7a4_0 rfl rfl ?_
  refine J_iload_n (q := 0) dJ6_bitCount_0f7a4_1 rfl rfl ?_
  refine J_iconst dJ6_bitCount_0f7a4_2 ic_1 ?_
  refine J_iushr dJ6_bitCount_0f7a4_3 ?_
  refine J_ldcw dJ6_bitCount_0f7a4_4 tw_2_131 ?_
  refine J_iand dJ6_bitCount_0f7a4_7 ?_
  refine J_isub dJ6_bitCount_0f7a4_8 ?_
  refine J_ti (fun v1 ev1 => ?_)
  replace h := nm_some ev1 h
  refine J_istore_n (lv' := [(0, .int v1)]) dJ6_bitCount_0f7a4_9 rfl (by decide) rfl ?_
  refine J_iload_n (q := 0) dJ6_bitCount_0f7a4_10 rfl rfl ?_
  refine J_ldcw dJ6_bitCount_0f7a4_11 tw_2_132 ?_
  refine J_iand dJ6_bitCount_0f7a4_14 ?_
  refine J_iload_n (q := 0) dJ6_bitCount_0f7a4_15 rfl rfl ?_
  refine J_iconst dJ6_bitCount_0f7a4_16 ic_2 ?_
  refine J_iushr dJ6_bitCount_0f7a4_17 ?_
  refine J_ldcw dJ6_bitCount_0f7a4_18 tw_2_132 ?_
  refine J_iand dJ6_bitCount_0f7a4_21 ?_
  refine J_iadd dJ6_bitCount_0f7a4_22 ?_
  refine J_ti (fun v2 ev2 => ?_)
  replace h := nm_some ev2 h
  refine J_istore_n (lv' := [(0, .int v2)]) dJ6_bitCount_0f7a4_23 rfl (by decide) rfl ?_
  refine J_iload_n (q := 0) dJ6_bitCount_0f7a4_24 rfl rfl ?_
  refine J_iload_n (q := 0) dJ6_bitCount_0f7a4_25 rfl rfl ?_
  refine J_iconst dJ6_bitCount_0f7a4_26 ic_4 ?_
  refine J_iushr dJ6_bitCount_0f7a4_27 ?_
  refine J_iadd dJ6_bitCount_0f7a4_28 ?_
  refine J_ldcw dJ6_bitCount_0f7a4_29 tw_2_133 ?_
  refine J_iand dJ6_bitCount_0f7a4_32 ?_
  refine J_ti (fun v3 ev3 => ?_)
  replace h := nm_some ev3 h
  refine J_istore_n (lv' := [(0, .int v3)]) dJ6_bitCount_0f7a4_33 rfl (by decide) rfl ?_
  refine J_iload_n (q := 0) dJ6_bitCount_0f7a4_34 rfl rfl ?_
  refine J_iload_n (q := 0) dJ6_bitCount_0f7a4_35 rfl rfl ?_
  refine J_bipush dJ6_bitCount_0f7a4_36 bp_8 ?_
  refine J_iushr dJ6_bitCount_0f7a4_38 ?_
  refine J_iadd dJ6_bitCount_0f7a4_39 ?_
  refine J_ti (fun v4 ev4 => ?_)
  replace h := nm_some ev4 h
  refine J_istore_n (lv' := [(0, .int v4)]) dJ6_bitCount_0f7a4_40 rfl (by decide) rfl ?_
  refine J_iload_n (q := 0) dJ6_bitCount_0f7a4_41 rfl rfl ?_
  refine J_iload_n (q := 0) dJ6_bitCount_0f7a4_42 rfl rfl ?_
  refine J_bipush dJ6_bitCount_0f7a4_43 bp_16 ?_
  refine J_iushr dJ6_bitCount_0f7a4_45 ?_
  refine J_iadd dJ6_bitCount_0f7a4_46 ?_
  refine J_ti (fun v5 ev5 => ?_)
  replace h := nm_some ev5 h
  refine J_istore_n (lv' := [(0, .int v5)]) dJ6_bitCount_0f7a4_47 rfl (by decide) rfl ?_
  refine J_iload_n (q := 0) dJ6_bitCount_0f7a4_48 rfl rfl ?_
  refine J_bipush dJ6_bitCount_0f7a4_49 bp_63 ?_
  refine J_iand dJ6_bitCount_0f7a4_51 ?_
  exact J_iret dJ6_bitCount_0f7a4_52 (rt_pi h) rfl
set_option maxRecDepth 20000 in
set_option maxHeartbeats 4000000 in
theorem kJ6_bitCount_0f7a4 {l : Launch} {D : va_G} {ad : Nat → Nat} {cy : Nat → ClassId} {rv : Int32} {w : CS} {p0 : Int32} (hi : wl_inj (ΓC ad cy)) (h : B_bitCount p0 = some rv) : Cn l D (ΓC ad cy) yJ6_bitCount_0f7a4 cJ6_bitCount_0f7a4 1 (some .int) 0 [.int p0] w (some (.int rv), w) :=
  Cn.of hi rfl (Nat.le_of_ble_eq_true rfl) (fun _ _ _ hL => B_bitCount_ok hi hL h)
theorem pdX6_tells : (parseMethodDescriptor yX6_tells.desc).map (fun d => d.parameters.length) = some 3 := by decide +kernel
theorem kx_X6_9 {E : Ec} {ad : Nat → Nat} {cy : Nat → ClassId} {cc : ByteArray} {nL : Nat} {rt : Option FieldType} {r : Option Value × CS} {pc : Nat} {lv : List (Nat × Value)} {st : List Value} {w : CS} {n : Nat} {p0 : Int32} {v : Int32} (hi : wl_inj (ΓC ad cy)) (hd : decode cc pc = .ok (.invokestatic 9, 3)) (hq : B_bitCount p0 = some v) (hL : Lv E n) (hn : 0 + 1 ≤ n) (hW : (st.map fun v => v.category).sum ≤ 8) (k : Jw E (ΓC ad cy) RX6 cc nL rt r (pc + 3) lv (.int v :: st) w) : Jw E (ΓC ad cy) RX6 cc nL rt r pc lv (.int p0 :: st) w :=
  J_callS (Γ := ΓC ad cy) (av := [.int p0]) (q := (some (.int v), w)) (st := st) hd (kJ6_bitCount_0f7a4 hi hq) tw_2_128 tw_2_129 tw_1_17 tw_2_130 ⟨by decide, by decide, pdJ6_bitCount_0f7a4⟩ rfl (by decide) hL hn hW k
set_option maxRecDepth 20000 in
set_option maxHeartbeats 4000000 in
theorem K6_tells_ok {E : Ec} {ad : Nat → Nat} {cy : Nat → ClassId} {rv : Int32} {w : CS} {kx : Nat} {p1 : Int32} {p2 : Int32} {p3 : Int32} (hi : wl_inj (ΓC ad cy)) (hk : kx < 8) (hL : Lv E 1) (h : K6_tells p1 p2 p3 = some rv) : Jw E (ΓC ad cy) RX6 cX6_tells 4 (some .int) (some (.int rv), w) 0 [(0, .ref (ad (2 + kx))), (1, .int p1), (2, .int p2), (3, .int p3)] [] w := by
  unfold K6_tells at h
  refine J_iload_n (q := 2) dX6_tells_0 rfl rfl ?_
  obtain ⟨r1, hq3, h⟩ := bd_some h
  refine kx_X6_9 hi dX6_tells_1 hq3 hL (by decide) (Nat.le_of_ble_eq_true rfl) ?_
  refine J_iload_n (q := 2) dX6_tells_4 rfl rfl ?_
  refine J_sipush dX6_tells_5 sp_4032 ?_
  refine J_iand dX6_tells_8 ?_
  obtain ⟨r2, hq4, h⟩ := bd_some h
  refine kx_X6_9 hi dX6_tells_9 hq4 hL (by decide) (Nat.le_of_ble_eq_true rfl) ?_
  refine J_iadd dX6_tells_12 ?_
  exact J_iret dX6_tells_13 (rt_pi h) rfl
set_option maxRecDepth 20000 in
set_option maxHeartbeats 4000000 in
theorem kX6_tells {l : Launch} {D : va_G} {ad : Nat → Nat} {cy : Nat → ClassId} {rv : Int32} {w : CS} {kx : Nat} {p1 : Int32} {p2 : Int32} {p3 : Int32} (hi : wl_inj (ΓC ad cy)) (hk : kx < 8) (h : K6_tells p1 p2 p3 = some rv) : Cn l D (ΓC ad cy) yX6_tells cX6_tells 4 (some .int) 1 [.ref (ad (2 + kx)), .int p1, .int p2, .int p3] w (some (.int rv), w) :=
  Cn.of hi rfl (Nat.le_of_ble_eq_true rfl) (fun _ _ _ hL => K6_tells_ok hi hk hL h)
theorem pdX0_tells : (parseMethodDescriptor yX0_tells.desc).map (fun d => d.parameters.length) = some 3 := by decide +kernel
theorem kx_X0_7 {E : Ec} {ad : Nat → Nat} {cy : Nat → ClassId} {cc : ByteArray} {nL : Nat} {rt : Option FieldType} {r : Option Value × CS} {pc : Nat} {lv : List (Nat × Value)} {st : List Value} {w : CS} {n kx : Nat} {p1 : Int32} {p2 : Int32} {p3 : Int32} {v : Int32} (hi : wl_inj (ΓC ad cy)) (hk : kx < 8) (hd : decode cc pc = .ok (.invokespecial 7, 3)) (hq : K6_tells p1 p2 p3 = some v) (hL : Lv E n) (hn : 1 + 1 ≤ n) (hW : (st.map fun v => v.category).sum ≤ 8) (k : Jw E (ΓC ad cy) RX0 cc nL rt r (pc + 3) lv (.int v :: st) w) : Jw E (ΓC ad cy) RX0 cc nL rt r pc lv (.int p3 :: .int p2 :: .int p1 :: .ref (ad (2 + kx)) :: st) w := by
  obtain ⟨qc, hc⟩ := kc_ok hk
  exact J_callSU (Γ := ΓC ad cy) (h := 2 + kx) (ci := kci kx) (av := [.int p1, .int p2, .int p3]) (q := (some (.int v), w)) (st := st) hd (kX6_tells hi hk hq) tw_2_125 tw_6_156 tw_1_81 tw_2_126 tw_1_5 tw_2_127 ⟨by decide, pdX6_tells⟩ (by show 2 + kx < 111; omega) (cC_k hk) hc rfl (by decide) hL hn hW k
theorem kx_X0_11 {E : Ec} {ad : Nat → Nat} {cy : Nat → ClassId} {cc : ByteArray} {nL : Nat} {rt : Option FieldType} {r : Option Value × CS} {pc : Nat} {lv : List (Nat × Value)} {st : List Value} {w : CS} {n : Nat} {x y : Int32} (hd : decode cc pc = .ok (.invokestatic 11, 3)) (hL : Lv E n) (hn : 0 + 1 ≤ n) (hW : (st.map fun v => v.category).sum ≤ 8) (k : Jw E (ΓC ad cy) RX0 cc nL rt r (pc + 3) lv (.int (max32 x y) :: st) w) : Jw E (ΓC ad cy) RX0 cc nL rt r pc lv (.int y :: .int x :: st) w :=
  J_max hd tw_2_134 tw_1_231 tw_1_15 tw_1_232 hL hn hW k
set_option maxRecDepth 20000 in
set_option maxHeartbeats 4000000 in
theorem K0_tells_ok {E : Ec} {ad : Nat → Nat} {cy : Nat → ClassId} {rv : Int32} {w : CS} {kx : Nat} {p1 : Int32} {p2 : Int32} {p3 : Int32} (hi : wl_inj (ΓC ad cy)) (hk : kx < 8) (hL : Lv E 2) (h : K0_tells p1 p2 p3 = some rv) : Jw E (ΓC ad cy) RX0 cX0_tells 4 (some .int) (some (.int rv), w) 0 [(0, .ref (ad (2 + kx))), (1, .int p1), (2, .int p2), (3, .int p3)] [] w := by
  unfold K0_tells at h
  refine J_iconst dX0_tells_0 ic_0 ?_
  refine J_aload_n (q := 0) dX0_tells_1 rfl rfl ?_
  refine J_iload_n (q := 1) dX0_tells_2 rfl rfl ?_
  refine J_iload_n (q := 2) dX0_tells_3 rfl rfl ?_
  refine J_iload_n (q := 3) dX0_tells_4 rfl rfl ?_
  obtain ⟨r1, hq2, h⟩ := bd_some h
  refine kx_X0_7 hi hk dX0_tells_5 hq2 hL (by decide) (Nat.le_of_ble_eq_true rfl) ?_
  refine J_iconst dX0_tells_8 ic_1 ?_
  refine J_isub dX0_tells_9 ?_
  refine kx_X0_11 dX0_tells_10 hL (by decide) (Nat.le_of_ble_eq_true rfl) ?_
  exact J_iret dX0_tells_13 (rt_pi h) rfl
set_option maxRecDepth 20000 in
set_option maxHeartbeats 4000000 in
theorem kX0_tells {l : Launch} {D : va_G} {ad : Nat → Nat} {cy : Nat → ClassId} {rv : Int32} {w : CS} {kx : Nat} {p1 : Int32} {p2 : Int32} {p3 : Int32} (hi : wl_inj (ΓC ad cy)) (hk : kx < 8) (h : K0_tells p1 p2 p3 = some rv) : Cn l D (ΓC ad cy) yX0_tells cX0_tells 4 (some .int) 2 [.ref (ad (2 + kx)), .int p1, .int p2, .int p3] w (some (.int rv), w) :=
  Cn.of hi rfl (Nat.le_of_ble_eq_true rfl) (fun _ _ _ hL => K0_tells_ok hi hk hL h)
theorem pdX0_lessons : (parseMethodDescriptor yX0_lessons.desc).map (fun d => d.parameters.length) = some 3 := by decide +kernel
set_option maxRecDepth 20000 in
set_option maxHeartbeats 4000000 in
theorem K0_lessons_ok {E : Ec} {ad : Nat → Nat} {cy : Nat → ClassId} {rv : Int32} {w : CS} {kx : Nat} {p1 : Int32} {p2 : Int32} {p3 : Int32} (hi : wl_inj (ΓC ad cy)) (hk : kx < 8) (hL : Lv E 0) (h : K0_lessons p1 p2 p3 = some rv) : Jw E (ΓC ad cy) RX0 cX0_lessons 4 (some .int) (some (.int rv), w) 0 [(0, .ref (ad (2 + kx))), (1, .int p1), (2, .int p2), (3, .int p3)] [] w := by
  unfold K0_lessons at h
  refine J_iconst dX0_lessons_0 ic_3 ?_
  exact J_iret dX0_lessons_1 (rt_pi h) rfl
set_option maxRecDepth 20000 in
set_option maxHeartbeats 4000000 in
theorem kX0_lessons {l : Launch} {D : va_G} {ad : Nat → Nat} {cy : Nat → ClassId} {rv : Int32} {w : CS} {kx : Nat} {p1 : Int32} {p2 : Int32} {p3 : Int32} (hi : wl_inj (ΓC ad cy)) (hk : kx < 8) (h : K0_lessons p1 p2 p3 = some rv) : Cn l D (ΓC ad cy) yX0_lessons cX0_lessons 4 (some .int) 0 [.ref (ad (2 + kx)), .int p1, .int p2, .int p3] w (some (.int rv), w) :=
  Cn.of hi rfl (Nat.le_of_ble_eq_true rfl) (fun _ _ _ hL => K0_lessons_ok hi hk hL h)
theorem pdX0_price : (parseMethodDescriptor yX0_price.desc).map (fun d => d.parameters.length) = some 1 := by decide +kernel
set_option maxRecDepth 20000 in
set_option maxHeartbeats 4000000 in
theorem K0_price_ok {E : Ec} {ad : Nat → Nat} {cy : Nat → ClassId} {rv : Int32} {w : CS} {kx : Nat} {p1 : Int32} (hi : wl_inj (ΓC ad cy)) (hk : kx < 8) (hL : Lv E 0) (h : K0_price p1 = some rv) : Jw E (ΓC ad cy) RX0 cX0_price 2 (some .int) (some (.int rv), w) 0 [(0, .ref (ad (2 + kx))), (1, .int p1)] [] w := by
  unfold K0_price at h
  refine J_iconst dX0_price_0 ic_0 ?_
  exact J_iret dX0_price_1 (rt_pi h) rfl
set_option maxRecDepth 20000 in
set_option maxHeartbeats 4000000 in
theorem kX0_price {l : Launch} {D : va_G} {ad : Nat → Nat} {cy : Nat → ClassId} {rv : Int32} {w : CS} {kx : Nat} {p1 : Int32} (hi : wl_inj (ΓC ad cy)) (hk : kx < 8) (h : K0_price p1 = some rv) : Cn l D (ΓC ad cy) yX0_price cX0_price 2 (some .int) 0 [.ref (ad (2 + kx)), .int p1] w (some (.int rv), w) :=
  Cn.of hi rfl (Nat.le_of_ble_eq_true rfl) (fun _ _ _ hL => K0_price_ok hi hk hL h)
theorem pdX4_tells : (parseMethodDescriptor yX4_tells.desc).map (fun d => d.parameters.length) = some 3 := by decide +kernel
theorem kx_X4_7 {E : Ec} {ad : Nat → Nat} {cy : Nat → ClassId} {cc : ByteArray} {nL : Nat} {rt : Option FieldType} {r : Option Value × CS} {pc : Nat} {lv : List (Nat × Value)} {st : List Value} {w : CS} {n : Nat} {p0 : Int32} {v : Int32} (hi : wl_inj (ΓC ad cy)) (hd : decode cc pc = .ok (.invokestatic 7, 3)) (hq : B_bitCount p0 = some v) (hL : Lv E n) (hn : 0 + 1 ≤ n) (hW : (st.map fun v => v.category).sum ≤ 8) (k : Jw E (ΓC ad cy) RX4 cc nL rt r (pc + 3) lv (.int v :: st) w) : Jw E (ΓC ad cy) RX4 cc nL rt r pc lv (.int p0 :: st) w :=
  J_callS (Γ := ΓC ad cy) (av := [.int p0]) (q := (some (.int v), w)) (st := st) hd (kJ6_bitCount_0f7a4 hi hq) tw_2_141 tw_2_129 tw_1_17 tw_2_130 ⟨by decide, by decide, pdJ6_bitCount_0f7a4⟩ rfl (by decide) hL hn hW k
set_option maxRecDepth 20000 in
set_option maxHeartbeats 4000000 in
theorem K4_tells_ok {E : Ec} {ad : Nat → Nat} {cy : Nat → ClassId} {rv : Int32} {w : CS} {kx : Nat} {p1 : Int32} {p2 : Int32} {p3 : Int32} (hi : wl_inj (ΓC ad cy)) (hk : kx < 8) (hL : Lv E 1) (h : K4_tells p1 p2 p3 = some rv) : Jw E (ΓC ad cy) RX4 cX4_tells 4 (some .int) (some (.int rv), w) 0 [(0, .ref (ad (2 + kx))), (1, .int p1), (2, .int p2), (3, .int p3)] [] w := by
  unfold K4_tells at h
  refine J_iload_n (q := 2) dX4_tells_0 rfl rfl ?_
  refine J_if_ne (tgt := 8) dX4_tells_1 (by decide) (fun c1 => ?_) (fun c1 => ?_)
  · replace h := if_some h c1
    refine J_iload_n (q := 2) dX4_tells_8 rfl rfl ?_
    obtain ⟨r2, hq3, h⟩ := bd_some h
    refine kx_X4_7 hi dX4_tells_9 hq3 hL (by decide) (Nat.le_of_ble_eq_true rfl) ?_
    refine J_iload_n (q := 1) dX4_tells_12 rfl rfl ?_
    refine J_iconst dX4_tells_13 ic_3 ?_
    refine J_idiv dX4_tells_14 (by decide) ?_
    refine J_iadd dX4_tells_15 ?_
    exact J_iret dX4_tells_16 (rt_pi h) rfl
  · replace h := it_some h c1
    refine J_iconst dX4_tells_4 ic_0 ?_
    refine J_goto (tgt := 16) dX4_tells_5 (by decide) ?_
    exact J_iret dX4_tells_16 (rt_pi h) rfl
set_option maxRecDepth 20000 in
set_option maxHeartbeats 4000000 in
theorem kX4_tells {l : Launch} {D : va_G} {ad : Nat → Nat} {cy : Nat → ClassId} {rv : Int32} {w : CS} {kx : Nat} {p1 : Int32} {p2 : Int32} {p3 : Int32} (hi : wl_inj (ΓC ad cy)) (hk : kx < 8) (h : K4_tells p1 p2 p3 = some rv) : Cn l D (ΓC ad cy) yX4_tells cX4_tells 4 (some .int) 1 [.ref (ad (2 + kx)), .int p1, .int p2, .int p3] w (some (.int rv), w) :=
  Cn.of hi rfl (Nat.le_of_ble_eq_true rfl) (fun _ _ _ hL => K4_tells_ok hi hk hL h)
theorem pdX1_tells : (parseMethodDescriptor yX1_tells.desc).map (fun d => d.parameters.length) = some 3 := by decide +kernel
theorem kx_X1_7 {E : Ec} {ad : Nat → Nat} {cy : Nat → ClassId} {cc : ByteArray} {nL : Nat} {rt : Option FieldType} {r : Option Value × CS} {pc : Nat} {lv : List (Nat × Value)} {st : List Value} {w : CS} {n kx : Nat} {p1 : Int32} {p2 : Int32} {p3 : Int32} {v : Int32} (hi : wl_inj (ΓC ad cy)) (hk : kx < 8) (hd : decode cc pc = .ok (.invokespecial 7, 3)) (hq : K4_tells p1 p2 p3 = some v) (hL : Lv E n) (hn : 1 + 1 ≤ n) (hW : (st.map fun v => v.category).sum ≤ 8) (k : Jw E (ΓC ad cy) RX1 cc nL rt r (pc + 3) lv (.int v :: st) w) : Jw E (ΓC ad cy) RX1 cc nL rt r pc lv (.int p3 :: .int p2 :: .int p1 :: .ref (ad (2 + kx)) :: st) w := by
  obtain ⟨qc, hc⟩ := kc_ok hk
  exact J_callSU (Γ := ΓC ad cy) (h := 2 + kx) (ci := kci kx) (av := [.int p1, .int p2, .int p3]) (q := (some (.int v), w)) (st := st) hd (kX4_tells hi hk hq) tw_2_138 tw_6_157 tw_1_67 tw_2_139 tw_1_3 tw_2_140 ⟨by decide, pdX4_tells⟩ (by show 2 + kx < 111; omega) (cC_k hk) hc rfl (by decide) hL hn hW k
set_option maxRecDepth 20000 in
set_option maxHeartbeats 4000000 in
theorem K1_tells_ok {E : Ec} {ad : Nat → Nat} {cy : Nat → ClassId} {rv : Int32} {w : CS} {kx : Nat} {p1 : Int32} {p2 : Int32} {p3 : Int32} (hi : wl_inj (ΓC ad cy)) (hk : kx < 8) (hL : Lv E 2) (h : K1_tells p1 p2 p3 = some rv) : Jw E (ΓC ad cy) RX1 cX1_tells 4 (some .int) (some (.int rv), w) 0 [(0, .ref (ad (2 + kx))), (1, .int p1), (2, .int p2), (3, .int p3)] [] w := by
  unfold K1_tells at h
  refine J_iload_n (q := 2) dX1_tells_0 rfl rfl ?_
  refine J_if_ne (tgt := 8) dX1_tells_1 (by decide) (fun c1 => ?_) (fun c1 => ?_)
  · replace h := if_some h c1
    refine J_aload_n (q := 0) dX1_tells_8 rfl rfl ?_
    refine J_iload_n (q := 1) dX1_tells_9 rfl rfl ?_
    refine J_iload_n (q := 2) dX1_tells_10 rfl rfl ?_
    refine J_iload_n (q := 3) dX1_tells_11 rfl rfl ?_
    obtain ⟨r2, hq3, h⟩ := bd_some h
    refine kx_X1_7 hi hk dX1_tells_12 hq3 hL (by decide) (Nat.le_of_ble_eq_true rfl) ?_
    refine J_iconst dX1_tells_15 ic_2 ?_
    refine J_iadd dX1_tells_16 ?_
    exact J_iret dX1_tells_17 (rt_pi h) rfl
  · replace h := it_some h c1
    refine J_iconst dX1_tells_4 ic_0 ?_
    refine J_goto (tgt := 17) dX1_tells_5 (by decide) ?_
    exact J_iret dX1_tells_17 (rt_pi h) rfl
set_option maxRecDepth 20000 in
set_option maxHeartbeats 4000000 in
theorem kX1_tells {l : Launch} {D : va_G} {ad : Nat → Nat} {cy : Nat → ClassId} {rv : Int32} {w : CS} {kx : Nat} {p1 : Int32} {p2 : Int32} {p3 : Int32} (hi : wl_inj (ΓC ad cy)) (hk : kx < 8) (h : K1_tells p1 p2 p3 = some rv) : Cn l D (ΓC ad cy) yX1_tells cX1_tells 4 (some .int) 2 [.ref (ad (2 + kx)), .int p1, .int p2, .int p3] w (some (.int rv), w) :=
  Cn.of hi rfl (Nat.le_of_ble_eq_true rfl) (fun _ _ _ hL => K1_tells_ok hi hk hL h)
theorem pdX4_price : (parseMethodDescriptor yX4_price.desc).map (fun d => d.parameters.length) = some 1 := by decide +kernel
set_option maxRecDepth 20000 in
set_option maxHeartbeats 4000000 in
theorem K4_price_ok {E : Ec} {ad : Nat → Nat} {cy : Nat → ClassId} {rv : Int32} {w : CS} {kx : Nat} {p1 : Int32} (hi : wl_inj (ΓC ad cy)) (hk : kx < 8) (hL : Lv E 0) (h : K4_price p1 = some rv) : Jw E (ΓC ad cy) RX4 cX4_price 2 (some .int) (some (.int rv), w) 0 [(0, .ref (ad (2 + kx))), (1, .int p1)] [] w := by
  unfold K4_price at h
  refine J_iconst dX4_price_0 ic_1 ?_
  exact J_iret dX4_price_1 (rt_pi h) rfl
set_option maxRecDepth 20000 in
set_option maxHeartbeats 4000000 in
theorem kX4_price {l : Launch} {D : va_G} {ad : Nat → Nat} {cy : Nat → ClassId} {rv : Int32} {w : CS} {kx : Nat} {p1 : Int32} (hi : wl_inj (ΓC ad cy)) (hk : kx < 8) (h : K4_price p1 = some rv) : Cn l D (ΓC ad cy) yX4_price cX4_price 2 (some .int) 0 [.ref (ad (2 + kx)), .int p1] w (some (.int rv), w) :=
  Cn.of hi rfl (Nat.le_of_ble_eq_true rfl) (fun _ _ _ hL => K4_price_ok hi hk hL h)
theorem pdX1_price : (parseMethodDescriptor yX1_price.desc).map (fun d => d.parameters.length) = some 1 := by decide +kernel
theorem kx_X1_11 {E : Ec} {ad : Nat → Nat} {cy : Nat → ClassId} {cc : ByteArray} {nL : Nat} {rt : Option FieldType} {r : Option Value × CS} {pc : Nat} {lv : List (Nat × Value)} {st : List Value} {w : CS} {n kx : Nat} {p1 : Int32} {v : Int32} (hi : wl_inj (ΓC ad cy)) (hk : kx < 8) (hd : decode cc pc = .ok (.invokespecial 11, 3)) (hq : K4_price p1 = some v) (hL : Lv E n) (hn : 0 + 1 ≤ n) (hW : (st.map fun v => v.category).sum ≤ 8) (k : Jw E (ΓC ad cy) RX1 cc nL rt r (pc + 3) lv (.int v :: st) w) : Jw E (ΓC ad cy) RX1 cc nL rt r pc lv (.int p1 :: .ref (ad (2 + kx)) :: st) w := by
  obtain ⟨qc, hc⟩ := kc_ok hk
  exact J_callSU (Γ := ΓC ad cy) (h := 2 + kx) (ci := kci kx) (av := [.int p1]) (q := (some (.int v), w)) (st := st) hd (kX4_price hi hk hq) tw_3_222 tw_6_158 tw_1_67 tw_3_223 tw_1_3 tw_3_224 ⟨by decide, pdX4_price⟩ (by show 2 + kx < 111; omega) (cC_k hk) hc rfl (by decide) hL hn hW k
set_option maxRecDepth 20000 in
set_option maxHeartbeats 4000000 in
theorem K1_price_ok {E : Ec} {ad : Nat → Nat} {cy : Nat → ClassId} {rv : Int32} {w : CS} {kx : Nat} {p1 : Int32} (hi : wl_inj (ΓC ad cy)) (hk : kx < 8) (hL : Lv E 1) (h : K1_price p1 = some rv) : Jw E (ΓC ad cy) RX1 cX1_price 2 (some .int) (some (.int rv), w) 0 [(0, .ref (ad (2 + kx))), (1, .int p1)] [] w := by
  unfold K1_price at h
  refine J_aload_n (q := 0) dX1_price_0 rfl rfl ?_
  refine J_iload_n (q := 1) dX1_price_1 rfl rfl ?_
  obtain ⟨r1, hq2, h⟩ := bd_some h
  refine kx_X1_11 hi hk dX1_price_2 hq2 hL (by decide) (Nat.le_of_ble_eq_true rfl) ?_
  refine J_bipush dX1_price_5 bp_6 ?_
  refine J_iadd dX1_price_7 ?_
  exact J_iret dX1_price_8 (rt_pi h) rfl
set_option maxRecDepth 20000 in
set_option maxHeartbeats 4000000 in
theorem kX1_price {l : Launch} {D : va_G} {ad : Nat → Nat} {cy : Nat → ClassId} {rv : Int32} {w : CS} {kx : Nat} {p1 : Int32} (hi : wl_inj (ΓC ad cy)) (hk : kx < 8) (h : K1_price p1 = some rv) : Cn l D (ΓC ad cy) yX1_price cX1_price 2 (some .int) 1 [.ref (ad (2 + kx)), .int p1] w (some (.int rv), w) :=
  Cn.of hi rfl (Nat.le_of_ble_eq_true rfl) (fun _ _ _ hL => K1_price_ok hi hk hL h)
theorem pdX2_tells : (parseMethodDescriptor yX2_tells.desc).map (fun d => d.parameters.length) = some 3 := by decide +kernel
theorem kx_X2_9 {E : Ec} {ad : Nat → Nat} {cy : Nat → ClassId} {cc : ByteArray} {nL : Nat} {rt : Option FieldType} {r : Option Value × CS} {pc : Nat} {lv : List (Nat × Value)} {st : List Value} {w : CS} {n : Nat} {p0 : Int32} {v : Int32} (hi : wl_inj (ΓC ad cy)) (hd : decode cc pc = .ok (.invokestatic 9, 3)) (hq : B_bitCount p0 = some v) (hL : Lv E n) (hn : 0 + 1 ≤ n) (hW : (st.map fun v => v.category).sum ≤ 8) (k : Jw E (ΓC ad cy) RX2 cc nL rt r (pc + 3) lv (.int v :: st) w) : Jw E (ΓC ad cy) RX2 cc nL rt r pc lv (.int p0 :: st) w :=
  J_callS (Γ := ΓC ad cy) (av := [.int p0]) (q := (some (.int v), w)) (st := st) hd (kJ6_bitCount_0f7a4 hi hq) tw_2_145 tw_2_129 tw_1_17 tw_2_130 ⟨by decide, by decide, pdJ6_bitCount_0f7a4⟩ rfl (by decide) hL hn hW k
set_option maxRecDepth 20000 in
set_option maxHeartbeats 4000000 in
theorem K2_tells_ok {E : Ec} {ad : Nat → Nat} {cy : Nat → ClassId} {rv : Int32} {w : CS} {kx : Nat} {p1 : Int32} {p2 : Int32} {p3 : Int32} (hi : wl_inj (ΓC ad cy)) (hk : kx < 8) (hL : Lv E 1) (h : K2_tells p1 p2 p3 = some rv) : Jw E (ΓC ad cy) RX2 cX2_tells 4 (some .int) (some (.int rv), w) 0 [(0, .ref (ad (2 + kx))), (1, .int p1), (2, .int p2), (3, .int p3)] [] w := by
  unfold K2_tells at h
  refine J_iload_n (q := 2) dX2_tells_0 rfl rfl ?_
  obtain ⟨r1, hq3, h⟩ := bd_some h
  refine kx_X2_9 hi dX2_tells_1 hq3 hL (by decide) (Nat.le_of_ble_eq_true rfl) ?_
  refine J_iload_n (q := 3) dX2_tells_4 rfl rfl ?_
  obtain ⟨r2, hq4, h⟩ := bd_some h
  refine kx_X2_9 hi dX2_tells_5 hq4 hL (by decide) (Nat.le_of_ble_eq_true rfl) ?_
  refine J_iconst dX2_tells_8 ic_2 ?_
  refine J_idiv dX2_tells_9 (by decide) ?_
  refine J_iadd dX2_tells_10 ?_
  exact J_iret dX2_tells_11 (rt_pi h) rfl
set_option maxRecDepth 20000 in
set_option maxHeartbeats 4000000 in
theorem kX2_tells {l : Launch} {D : va_G} {ad : Nat → Nat} {cy : Nat → ClassId} {rv : Int32} {w : CS} {kx : Nat} {p1 : Int32} {p2 : Int32} {p3 : Int32} (hi : wl_inj (ΓC ad cy)) (hk : kx < 8) (h : K2_tells p1 p2 p3 = some rv) : Cn l D (ΓC ad cy) yX2_tells cX2_tells 4 (some .int) 1 [.ref (ad (2 + kx)), .int p1, .int p2, .int p3] w (some (.int rv), w) :=
  Cn.of hi rfl (Nat.le_of_ble_eq_true rfl) (fun _ _ _ hL => K2_tells_ok hi hk hL h)
theorem pdX3_lessons : (parseMethodDescriptor yX3_lessons.desc).map (fun d => d.parameters.length) = some 3 := by decide +kernel
set_option maxRecDepth 20000 in
set_option maxHeartbeats 4000000 in
theorem K3_lessons_ok {E : Ec} {ad : Nat → Nat} {cy : Nat → ClassId} {rv : Int32} {w : CS} {kx : Nat} {p1 : Int32} {p2 : Int32} {p3 : Int32} (hi : wl_inj (ΓC ad cy)) (hk : kx < 8) (hL : Lv E 0) (h : K3_lessons p1 p2 p3 = some rv) : Jw E (ΓC ad cy) RX3 cX3_lessons 4 (some .int) (some (.int rv), w) 0 [(0, .ref (ad (2 + kx))), (1, .int p1), (2, .int p2), (3, .int p3)] [] w := by
  unfold K3_lessons at h
  refine J_iconst dX3_lessons_0 ic_1 ?_
  exact J_iret dX3_lessons_1 (rt_pi h) rfl
set_option maxRecDepth 20000 in
set_option maxHeartbeats 4000000 in
theorem kX3_lessons {l : Launch} {D : va_G} {ad : Nat → Nat} {cy : Nat → ClassId} {rv : Int32} {w : CS} {kx : Nat} {p1 : Int32} {p2 : Int32} {p3 : Int32} (hi : wl_inj (ΓC ad cy)) (hk : kx < 8) (h : K3_lessons p1 p2 p3 = some rv) : Cn l D (ΓC ad cy) yX3_lessons cX3_lessons 4 (some .int) 0 [.ref (ad (2 + kx)), .int p1, .int p2, .int p3] w (some (.int rv), w) :=
  Cn.of hi rfl (Nat.le_of_ble_eq_true rfl) (fun _ _ _ hL => K3_lessons_ok hi hk hL h)
theorem pdX2_lessons : (parseMethodDescriptor yX2_lessons.desc).map (fun d => d.parameters.length) = some 3 := by decide +kernel
theorem kx_X2_15 {E : Ec} {ad : Nat → Nat} {cy : Nat → ClassId} {cc : ByteArray} {nL : Nat} {rt : Option FieldType} {r : Option Value × CS} {pc : Nat} {lv : List (Nat × Value)} {st : List Value} {w : CS} {n kx : Nat} {p1 : Int32} {p2 : Int32} {p3 : Int32} {v : Int32} (hi : wl_inj (ΓC ad cy)) (hk : kx < 8) (hd : decode cc pc = .ok (.invokespecial 15, 3)) (hq : K3_lessons p1 p2 p3 = some v) (hL : Lv E n) (hn : 0 + 1 ≤ n) (hW : (st.map fun v => v.category).sum ≤ 8) (k : Jw E (ΓC ad cy) RX2 cc nL rt r (pc + 3) lv (.int v :: st) w) : Jw E (ΓC ad cy) RX2 cc nL rt r pc lv (.int p3 :: .int p2 :: .int p1 :: .ref (ad (2 + kx)) :: st) w := by
  obtain ⟨qc, hc⟩ := kc_ok hk
  exact J_callSU (Γ := ΓC ad cy) (h := 2 + kx) (ci := kci kx) (av := [.int p1, .int p2, .int p3]) (q := (some (.int v), w)) (st := st) hd (kX3_lessons hi hk hq) tw_2_69 tw_2_59 tw_1_53 tw_2_57 tw_1_2 tw_2_80 ⟨by decide, pdX3_lessons⟩ (by show 2 + kx < 111; omega) (cC_k hk) hc rfl (by decide) hL hn hW k
set_option maxRecDepth 20000 in
set_option maxHeartbeats 4000000 in
theorem K2_lessons_ok {E : Ec} {ad : Nat → Nat} {cy : Nat → ClassId} {rv : Int32} {w : CS} {kx : Nat} {p1 : Int32} {p2 : Int32} {p3 : Int32} (hi : wl_inj (ΓC ad cy)) (hk : kx < 8) (hL : Lv E 1) (h : K2_lessons p1 p2 p3 = some rv) : Jw E (ΓC ad cy) RX2 cX2_lessons 4 (some .int) (some (.int rv), w) 0 [(0, .ref (ad (2 + kx))), (1, .int p1), (2, .int p2), (3, .int p3)] [] w := by
  unfold K2_lessons at h
  refine J_aload_n (q := 0) dX2_lessons_0 rfl rfl ?_
  refine J_iload_n (q := 1) dX2_lessons_1 rfl rfl ?_
  refine J_iload_n (q := 2) dX2_lessons_2 rfl rfl ?_
  refine J_iload_n (q := 3) dX2_lessons_3 rfl rfl ?_
  obtain ⟨r1, hq2, h⟩ := bd_some h
  refine kx_X2_15 hi hk dX2_lessons_4 hq2 hL (by decide) (Nat.le_of_ble_eq_true rfl) ?_
  refine J_iconst dX2_lessons_7 ic_1 ?_
  refine J_iadd dX2_lessons_8 ?_
  exact J_iret dX2_lessons_9 (rt_pi h) rfl
set_option maxRecDepth 20000 in
set_option maxHeartbeats 4000000 in
theorem kX2_lessons {l : Launch} {D : va_G} {ad : Nat → Nat} {cy : Nat → ClassId} {rv : Int32} {w : CS} {kx : Nat} {p1 : Int32} {p2 : Int32} {p3 : Int32} (hi : wl_inj (ΓC ad cy)) (hk : kx < 8) (h : K2_lessons p1 p2 p3 = some rv) : Cn l D (ΓC ad cy) yX2_lessons cX2_lessons 4 (some .int) 1 [.ref (ad (2 + kx)), .int p1, .int p2, .int p3] w (some (.int rv), w) :=
  Cn.of hi rfl (Nat.le_of_ble_eq_true rfl) (fun _ _ _ hL => K2_lessons_ok hi hk hL h)
theorem pdX3_nextFact : (parseMethodDescriptor yX3_nextFact.desc).map (fun d => d.parameters.length) = some 2 := by decide +kernel
set_option maxRecDepth 20000 in
set_option maxHeartbeats 4000000 in
theorem K3_nextFact_ok {E : Ec} {ad : Nat → Nat} {cy : Nat → ClassId} {rv : Int32} {w : CS} {kx : Nat} {p1 : Int32} {p2 : Int32} (hi : wl_inj (ΓC ad cy)) (hk : kx < 8) (hL : Lv E 0) (h : K3_nextFact p1 p2 = some rv) : Jw E (ΓC ad cy) RX3 cX3_nextFact 4 (some .int) (some (.int rv), w) 0 [(0, .ref (ad (2 + kx))), (1, .int p1), (2, .int p2)] [] w := by
  unfold K3_nextFact at h
  refine J_iload_n (q := 1) dX3_nextFact_0 rfl rfl ?_
  refine J_iload_n (q := 2) dX3_nextFact_1 rfl rfl ?_
  refine J_iconst dX3_nextFact_2 ic_m1 ?_
  refine J_ixor dX3_nextFact_3 ?_
  refine J_iand dX3_nextFact_4 ?_
  refine J_ti (fun v1 ev1 => ?_)
  replace h := nm_some ev1 h
  refine J_istore_n (lv' := [(3, .int v1), (0, .ref (ad (2 + kx))), (1, .int p1), (2, .int p2)]) dX3_nextFact_5 rfl (by decide) rfl ?_
  refine J_iload_n (q := 0) dX3_nextFact_6 rfl rfl ?_
  refine J_iload_n (q := 0) dX3_nextFact_7 rfl rfl ?_
  refine J_ineg dX3_nextFact_8 ?_
  refine J_iand dX3_nextFact_9 ?_
  exact J_iret dX3_nextFact_10 (rt_pi h) rfl
set_option maxRecDepth 20000 in
set_option maxHeartbeats 4000000 in
theorem kX3_nextFact {l : Launch} {D : va_G} {ad : Nat → Nat} {cy : Nat → ClassId} {rv : Int32} {w : CS} {kx : Nat} {p1 : Int32} {p2 : Int32} (hi : wl_inj (ΓC ad cy)) (hk : kx < 8) (h : K3_nextFact p1 p2 = some rv) : Cn l D (ΓC ad cy) yX3_nextFact cX3_nextFact 4 (some .int) 0 [.ref (ad (2 + kx)), .int p1, .int p2] w (some (.int rv), w) :=
  Cn.of hi rfl (Nat.le_of_ble_eq_true rfl) (fun _ _ _ hL => K3_nextFact_ok hi hk hL h)
theorem pdX2_nextFact : (parseMethodDescriptor yX2_nextFact.desc).map (fun d => d.parameters.length) = some 2 := by decide +kernel
theorem kx_X2_19 {E : Ec} {ad : Nat → Nat} {cy : Nat → ClassId} {cc : ByteArray} {nL : Nat} {rt : Option FieldType} {r : Option Value × CS} {pc : Nat} {lv : List (Nat × Value)} {st : List Value} {w : CS} {n kx : Nat} {p1 : Int32} {p2 : Int32} {v : Int32} (hi : wl_inj (ΓC ad cy)) (hk : kx < 8) (hd : decode cc pc = .ok (.invokespecial 19, 3)) (hq : K3_nextFact p1 p2 = some v) (hL : Lv E n) (hn : 0 + 1 ≤ n) (hW : (st.map fun v => v.category).sum ≤ 8) (k : Jw E (ΓC ad cy) RX2 cc nL rt r (pc + 3) lv (.int v :: st) w) : Jw E (ΓC ad cy) RX2 cc nL rt r pc lv (.int p2 :: .int p1 :: .ref (ad (2 + kx)) :: st) w := by
  obtain ⟨qc, hc⟩ := kc_ok hk
  exact J_callSU (Γ := ΓC ad cy) (h := 2 + kx) (ci := kci kx) (av := [.int p1, .int p2]) (q := (some (.int v), w)) (st := st) hd (kX3_nextFact hi hk hq) tw_2_90 tw_2_84 tw_1_53 tw_2_82 tw_1_2 tw_2_95 ⟨by decide, pdX3_nextFact⟩ (by show 2 + kx < 111; omega) (cC_k hk) hc rfl (by decide) hL hn hW k
set_option maxRecDepth 20000 in
set_option maxHeartbeats 4000000 in
theorem K2_nextFact_ok {E : Ec} {ad : Nat → Nat} {cy : Nat → ClassId} {rv : Int32} {w : CS} {kx : Nat} {p1 : Int32} {p2 : Int32} (hi : wl_inj (ΓC ad cy)) (hk : kx < 8) (hL : Lv E 1) (h : K2_nextFact p1 p2 = some rv) : Jw E (ΓC ad cy) RX2 cX2_nextFact 3 (some .int) (some (.int rv), w) 0 [(0, .ref (ad (2 + kx))), (1, .int p1), (2, .int p2)] [] w := by
  unfold K2_nextFact at h
  refine J_aload_n (q := 0) dX2_nextFact_0 rfl rfl ?_
  refine J_sipush dX2_nextFact_1 sp_4095 ?_
  refine J_iload_n (q := 2) dX2_nextFact_4 rfl rfl ?_
  obtain ⟨r1, hq2, h⟩ := bd_some h
  refine kx_X2_19 hi hk dX2_nextFact_5 hq2 hL (by decide) (Nat.le_of_ble_eq_true rfl) ?_
  exact J_iret dX2_nextFact_8 (rt_pi h) rfl
set_option maxRecDepth 20000 in
set_option maxHeartbeats 4000000 in
theorem kX2_nextFact {l : Launch} {D : va_G} {ad : Nat → Nat} {cy : Nat → ClassId} {rv : Int32} {w : CS} {kx : Nat} {p1 : Int32} {p2 : Int32} (hi : wl_inj (ΓC ad cy)) (hk : kx < 8) (h : K2_nextFact p1 p2 = some rv) : Cn l D (ΓC ad cy) yX2_nextFact cX2_nextFact 3 (some .int) 1 [.ref (ad (2 + kx)), .int p1, .int p2] w (some (.int rv), w) :=
  Cn.of hi rfl (Nat.le_of_ble_eq_true rfl) (fun _ _ _ hL => K2_nextFact_ok hi hk hL h)
theorem pdX3_price : (parseMethodDescriptor yX3_price.desc).map (fun d => d.parameters.length) = some 1 := by decide +kernel
set_option maxRecDepth 20000 in
set_option maxHeartbeats 4000000 in
theorem K3_price_ok {E : Ec} {ad : Nat → Nat} {cy : Nat → ClassId} {rv : Int32} {w : CS} {kx : Nat} {p1 : Int32} (hi : wl_inj (ΓC ad cy)) (hk : kx < 8) (hL : Lv E 0) (h : K3_price p1 = some rv) : Jw E (ΓC ad cy) RX3 cX3_price 2 (some .int) (some (.int rv), w) 0 [(0, .ref (ad (2 + kx))), (1, .int p1)] [] w := by
  unfold K3_price at h
  refine J_iconst dX3_price_0 ic_2 ?_
  exact J_iret dX3_price_1 (rt_pi h) rfl
set_option maxRecDepth 20000 in
set_option maxHeartbeats 4000000 in
theorem kX3_price {l : Launch} {D : va_G} {ad : Nat → Nat} {cy : Nat → ClassId} {rv : Int32} {w : CS} {kx : Nat} {p1 : Int32} (hi : wl_inj (ΓC ad cy)) (hk : kx < 8) (h : K3_price p1 = some rv) : Cn l D (ΓC ad cy) yX3_price cX3_price 2 (some .int) 0 [.ref (ad (2 + kx)), .int p1] w (some (.int rv), w) :=
  Cn.of hi rfl (Nat.le_of_ble_eq_true rfl) (fun _ _ _ hL => K3_price_ok hi hk hL h)
theorem pdX2_price : (parseMethodDescriptor yX2_price.desc).map (fun d => d.parameters.length) = some 1 := by decide +kernel
theorem kx_X2_23 {E : Ec} {ad : Nat → Nat} {cy : Nat → ClassId} {cc : ByteArray} {nL : Nat} {rt : Option FieldType} {r : Option Value × CS} {pc : Nat} {lv : List (Nat × Value)} {st : List Value} {w : CS} {n kx : Nat} {p1 : Int32} {v : Int32} (hi : wl_inj (ΓC ad cy)) (hk : kx < 8) (hd : decode cc pc = .ok (.invokespecial 23, 3)) (hq : K3_price p1 = some v) (hL : Lv E n) (hn : 0 + 1 ≤ n) (hW : (st.map fun v => v.category).sum ≤ 8) (k : Jw E (ΓC ad cy) RX2 cc nL rt r (pc + 3) lv (.int v :: st) w) : Jw E (ΓC ad cy) RX2 cc nL rt r pc lv (.int p1 :: .ref (ad (2 + kx)) :: st) w := by
  obtain ⟨qc, hc⟩ := kc_ok hk
  exact J_callSU (Γ := ΓC ad cy) (h := 2 + kx) (ci := kci kx) (av := [.int p1]) (q := (some (.int v), w)) (st := st) hd (kX3_price hi hk hq) tw_3_228 tw_3_215 tw_1_53 tw_3_213 tw_1_2 tw_3_238 ⟨by decide, pdX3_price⟩ (by show 2 + kx < 111; omega) (cC_k hk) hc rfl (by decide) hL hn hW k
set_option maxRecDepth 20000 in
set_option maxHeartbeats 4000000 in
theorem K2_price_ok {E : Ec} {ad : Nat → Nat} {cy : Nat → ClassId} {rv : Int32} {w : CS} {kx : Nat} {p1 : Int32} (hi : wl_inj (ΓC ad cy)) (hk : kx < 8) (hL : Lv E 1) (h : K2_price p1 = some rv) : Jw E (ΓC ad cy) RX2 cX2_price 2 (some .int) (some (.int rv), w) 0 [(0, .ref (ad (2 + kx))), (1, .int p1)] [] w := by
  unfold K2_price at h
  refine J_aload_n (q := 0) dX2_price_0 rfl rfl ?_
  refine J_iload_n (q := 1) dX2_price_1 rfl rfl ?_
  obtain ⟨r1, hq2, h⟩ := bd_some h
  refine kx_X2_23 hi hk dX2_price_2 hq2 hL (by decide) (Nat.le_of_ble_eq_true rfl) ?_
  refine J_iload_n (q := 1) dX2_price_5 rfl rfl ?_
  refine J_iadd dX2_price_6 ?_
  exact J_iret dX2_price_7 (rt_pi h) rfl
set_option maxRecDepth 20000 in
set_option maxHeartbeats 4000000 in
theorem kX2_price {l : Launch} {D : va_G} {ad : Nat → Nat} {cy : Nat → ClassId} {rv : Int32} {w : CS} {kx : Nat} {p1 : Int32} (hi : wl_inj (ΓC ad cy)) (hk : kx < 8) (h : K2_price p1 = some rv) : Cn l D (ΓC ad cy) yX2_price cX2_price 2 (some .int) 1 [.ref (ad (2 + kx)), .int p1] w (some (.int rv), w) :=
  Cn.of hi rfl (Nat.le_of_ble_eq_true rfl) (fun _ _ _ hL => K2_price_ok hi hk hL h)
theorem pdX3_tells : (parseMethodDescriptor yX3_tells.desc).map (fun d => d.parameters.length) = some 3 := by decide +kernel
theorem kx_X3_7 {E : Ec} {ad : Nat → Nat} {cy : Nat → ClassId} {cc : ByteArray} {nL : Nat} {rt : Option FieldType} {r : Option Value × CS} {pc : Nat} {lv : List (Nat × Value)} {st : List Value} {w : CS} {n : Nat} {p0 : Int32} {v : Int32} (hi : wl_inj (ΓC ad cy)) (hd : decode cc pc = .ok (.invokestatic 7, 3)) (hq : B_bitCount p0 = some v) (hL : Lv E n) (hn : 0 + 1 ≤ n) (hW : (st.map fun v => v.category).sum ≤ 8) (k : Jw E (ΓC ad cy) RX3 cc nL rt r (pc + 3) lv (.int v :: st) w) : Jw E (ΓC ad cy) RX3 cc nL rt r pc lv (.int p0 :: st) w :=
  J_callS (Γ := ΓC ad cy) (av := [.int p0]) (q := (some (.int v), w)) (st := st) hd (kJ6_bitCount_0f7a4 hi hq) tw_2_153 tw_2_129 tw_1_17 tw_2_130 ⟨by decide, by decide, pdJ6_bitCount_0f7a4⟩ rfl (by decide) hL hn hW k
set_option maxRecDepth 20000 in
set_option maxHeartbeats 4000000 in
theorem K3_tells_ok {E : Ec} {ad : Nat → Nat} {cy : Nat → ClassId} {rv : Int32} {w : CS} {kx : Nat} {p1 : Int32} {p2 : Int32} {p3 : Int32} (hi : wl_inj (ΓC ad cy)) (hk : kx < 8) (hL : Lv E 1) (h : K3_tells p1 p2 p3 = some rv) : Jw E (ΓC ad cy) RX3 cX3_tells 4 (some .int) (some (.int rv), w) 0 [(0, .ref (ad (2 + kx))), (1, .int p1), (2, .int p2), (3, .int p3)] [] w := by
  unfold K3_tells at h
  refine J_iload_n (q := 2) dX3_tells_0 rfl rfl ?_
  obtain ⟨r1, hq2, h⟩ := bd_some h
  refine kx_X3_7 hi dX3_tells_1 hq2 hL (by decide) (Nat.le_of_ble_eq_true rfl) ?_
  exact J_iret dX3_tells_4 (rt_pi h) rfl
set_option maxRecDepth 20000 in
set_option maxHeartbeats 4000000 in
theorem kX3_tells {l : Launch} {D : va_G} {ad : Nat → Nat} {cy : Nat → ClassId} {rv : Int32} {w : CS} {kx : Nat} {p1 : Int32} {p2 : Int32} {p3 : Int32} (hi : wl_inj (ΓC ad cy)) (hk : kx < 8) (h : K3_tells p1 p2 p3 = some rv) : Cn l D (ΓC ad cy) yX3_tells cX3_tells 4 (some .int) 1 [.ref (ad (2 + kx)), .int p1, .int p2, .int p3] w (some (.int rv), w) :=
  Cn.of hi rfl (Nat.le_of_ble_eq_true rfl) (fun _ _ _ hL => K3_tells_ok hi hk hL h)
theorem pdX3_forgets : (parseMethodDescriptor yX3_forgets.desc).map (fun d => d.parameters.length) = some 1 := by decide +kernel
set_option maxRecDepth 20000 in
set_option maxHeartbeats 4000000 in
theorem K3_forgets_ok {E : Ec} {ad : Nat → Nat} {cy : Nat → ClassId} {rv : Int32} {w : CS} {kx : Nat} {p1 : Int32} (hi : wl_inj (ΓC ad cy)) (hk : kx < 8) (hL : Lv E 0) (h : K3_forgets p1 = some rv) : Jw E (ΓC ad cy) RX3 cX3_forgets 2 (some .boolean) (some (.int rv), w) 0 [(0, .ref (ad (2 + kx))), (1, .int p1)] [] w := by
  unfold K3_forgets at h
  refine J_iconst dX3_forgets_0 ic_0 ?_
  exact J_zret dX3_forgets_1 (rt_pi h) rfl rfl
set_option maxRecDepth 20000 in
set_option maxHeartbeats 4000000 in
theorem kX3_forgets {l : Launch} {D : va_G} {ad : Nat → Nat} {cy : Nat → ClassId} {rv : Int32} {w : CS} {kx : Nat} {p1 : Int32} (hi : wl_inj (ΓC ad cy)) (hk : kx < 8) (h : K3_forgets p1 = some rv) : Cn l D (ΓC ad cy) yX3_forgets cX3_forgets 2 (some .boolean) 0 [.ref (ad (2 + kx)), .int p1] w (some (.int rv), w) :=
  Cn.of hi rfl (Nat.le_of_ble_eq_true rfl) (fun _ _ _ hL => K3_forgets_ok hi hk hL h)
theorem pdX4_lessons : (parseMethodDescriptor yX4_lessons.desc).map (fun d => d.parameters.length) = some 3 := by decide +kernel
set_option maxRecDepth 20000 in
set_option maxHeartbeats 4000000 in
theorem K4_lessons_ok {E : Ec} {ad : Nat → Nat} {cy : Nat → ClassId} {rv : Int32} {w : CS} {kx : Nat} {p1 : Int32} {p2 : Int32} {p3 : Int32} (hi : wl_inj (ΓC ad cy)) (hk : kx < 8) (hL : Lv E 0) (h : K4_lessons p1 p2 p3 = some rv) : Jw E (ΓC ad cy) RX4 cX4_lessons 4 (some .int) (some (.int rv), w) 0 [(0, .ref (ad (2 + kx))), (1, .int p1), (2, .int p2), (3, .int p3)] [] w := by
  unfold K4_lessons at h
  refine J_iload_n (q := 2) dX4_lessons_0 rfl rfl ?_
  refine J_iconst dX4_lessons_1 ic_2 ?_
  refine J_irem dX4_lessons_2 (by decide) ?_
  refine J_if_ne (tgt := 10) dX4_lessons_3 (by decide) (fun c1 => ?_) (fun c1 => ?_)
  · replace h := if_some h c1
    refine J_iconst dX4_lessons_10 ic_0 ?_
    exact J_iret dX4_lessons_11 (rt_pi h) rfl
  · replace h := it_some h c1
    refine J_iconst dX4_lessons_6 ic_1 ?_
    refine J_goto (tgt := 11) dX4_lessons_7 (by decide) ?_
    exact J_iret dX4_lessons_11 (rt_pi h) rfl
set_option maxRecDepth 20000 in
set_option maxHeartbeats 4000000 in
theorem kX4_lessons {l : Launch} {D : va_G} {ad : Nat → Nat} {cy : Nat → ClassId} {rv : Int32} {w : CS} {kx : Nat} {p1 : Int32} {p2 : Int32} {p3 : Int32} (hi : wl_inj (ΓC ad cy)) (hk : kx < 8) (h : K4_lessons p1 p2 p3 = some rv) : Cn l D (ΓC ad cy) yX4_lessons cX4_lessons 4 (some .int) 0 [.ref (ad (2 + kx)), .int p1, .int p2, .int p3] w (some (.int rv), w) :=
  Cn.of hi rfl (Nat.le_of_ble_eq_true rfl) (fun _ _ _ hL => K4_lessons_ok hi hk hL h)
theorem pdX4_forgets : (parseMethodDescriptor yX4_forgets.desc).map (fun d => d.parameters.length) = some 1 := by decide +kernel
set_option maxRecDepth 20000 in
set_option maxHeartbeats 4000000 in
theorem K4_forgets_ok {E : Ec} {ad : Nat → Nat} {cy : Nat → ClassId} {rv : Int32} {w : CS} {kx : Nat} {p1 : Int32} (hi : wl_inj (ΓC ad cy)) (hk : kx < 8) (hL : Lv E 0) (h : K4_forgets p1 = some rv) : Jw E (ΓC ad cy) RX4 cX4_forgets 2 (some .boolean) (some (.int rv), w) 0 [(0, .ref (ad (2 + kx))), (1, .int p1)] [] w := by
  unfold K4_forgets at h
  refine J_iload_n (q := 1) dX4_forgets_0 rfl rfl ?_
  refine J_bipush dX4_forgets_1 bp_7 ?_
  refine J_irem dX4_forgets_3 (by decide) ?_
  refine J_if_ne (tgt := 11) dX4_forgets_4 (by decide) (fun c1 => ?_) (fun c1 => ?_)
  · replace h := if_some h c1
    refine J_iconst dX4_forgets_11 ic_0 ?_
    exact J_zret dX4_forgets_12 (rt_pi h) rfl rfl
  · replace h := it_some h c1
    refine J_iconst dX4_forgets_7 ic_1 ?_
    refine J_goto (tgt := 12) dX4_forgets_8 (by decide) ?_
    exact J_zret dX4_forgets_12 (rt_pi h) rfl rfl
set_option maxRecDepth 20000 in
set_option maxHeartbeats 4000000 in
theorem kX4_forgets {l : Launch} {D : va_G} {ad : Nat → Nat} {cy : Nat → ClassId} {rv : Int32} {w : CS} {kx : Nat} {p1 : Int32} (hi : wl_inj (ΓC ad cy)) (hk : kx < 8) (h : K4_forgets p1 = some rv) : Cn l D (ΓC ad cy) yX4_forgets cX4_forgets 2 (some .boolean) 0 [.ref (ad (2 + kx)), .int p1] w (some (.int rv), w) :=
  Cn.of hi rfl (Nat.le_of_ble_eq_true rfl) (fun _ _ _ hL => K4_forgets_ok hi hk hL h)
theorem pdX5_lessons : (parseMethodDescriptor yX5_lessons.desc).map (fun d => d.parameters.length) = some 3 := by decide +kernel
set_option maxRecDepth 20000 in
set_option maxHeartbeats 4000000 in
theorem K5_lessons_ok {E : Ec} {ad : Nat → Nat} {cy : Nat → ClassId} {rv : Int32} {w : CS} {kx : Nat} {p1 : Int32} {p2 : Int32} {p3 : Int32} (hi : wl_inj (ΓC ad cy)) (hk : kx < 8) (hL : Lv E 0) (h : K5_lessons p1 p2 p3 = some rv) : Jw E (ΓC ad cy) RX5 cX5_lessons 4 (some .int) (some (.int rv), w) 0 [(0, .ref (ad (2 + kx))), (1, .int p1), (2, .int p2), (3, .int p3)] [] w := by
  unfold K5_lessons at h
  refine J_iload_n (q := 1) dX5_lessons_0 rfl rfl ?_
  refine J_iconst dX5_lessons_1 ic_2 ?_
  refine J_idiv dX5_lessons_2 (by decide) ?_
  exact J_iret dX5_lessons_3 (rt_pi h) rfl
set_option maxRecDepth 20000 in
set_option maxHeartbeats 4000000 in
theorem kX5_lessons {l : Launch} {D : va_G} {ad : Nat → Nat} {cy : Nat → ClassId} {rv : Int32} {w : CS} {kx : Nat} {p1 : Int32} {p2 : Int32} {p3 : Int32} (hi : wl_inj (ΓC ad cy)) (hk : kx < 8) (h : K5_lessons p1 p2 p3 = some rv) : Cn l D (ΓC ad cy) yX5_lessons cX5_lessons 4 (some .int) 0 [.ref (ad (2 + kx)), .int p1, .int p2, .int p3] w (some (.int rv), w) :=
  Cn.of hi rfl (Nat.le_of_ble_eq_true rfl) (fun _ _ _ hL => K5_lessons_ok hi hk hL h)
theorem pdX5_price : (parseMethodDescriptor yX5_price.desc).map (fun d => d.parameters.length) = some 1 := by decide +kernel
theorem kx_X5_7 {E : Ec} {ad : Nat → Nat} {cy : Nat → ClassId} {cc : ByteArray} {nL : Nat} {rt : Option FieldType} {r : Option Value × CS} {pc : Nat} {lv : List (Nat × Value)} {st : List Value} {w : CS} {n kx : Nat} {p1 : Int32} {v : Int32} (hi : wl_inj (ΓC ad cy)) (hk : kx < 8) (hd : decode cc pc = .ok (.invokespecial 7, 3)) (hq : K2_price p1 = some v) (hL : Lv E n) (hn : 1 + 1 ≤ n) (hW : (st.map fun v => v.category).sum ≤ 8) (k : Jw E (ΓC ad cy) RX5 cc nL rt r (pc + 3) lv (.int v :: st) w) : Jw E (ΓC ad cy) RX5 cc nL rt r pc lv (.int p1 :: .ref (ad (2 + kx)) :: st) w := by
  obtain ⟨qc, hc⟩ := kc_ok hk
  exact J_callSU (Γ := ΓC ad cy) (h := 2 + kx) (ci := kci kx) (av := [.int p1]) (q := (some (.int v), w)) (st := st) hd (kX2_price hi hk hq) tw_3_233 tw_6_159 tw_1_74 tw_3_226 tw_1_4 tw_3_227 ⟨by decide, pdX2_price⟩ (by show 2 + kx < 111; omega) (cC_k hk) hc rfl (by decide) hL hn hW k
set_option maxRecDepth 20000 in
set_option maxHeartbeats 4000000 in
theorem K5_price_ok {E : Ec} {ad : Nat → Nat} {cy : Nat → ClassId} {rv : Int32} {w : CS} {kx : Nat} {p1 : Int32} (hi : wl_inj (ΓC ad cy)) (hk : kx < 8) (hL : Lv E 2) (h : K5_price p1 = some rv) : Jw E (ΓC ad cy) RX5 cX5_price 2 (some .int) (some (.int rv), w) 0 [(0, .ref (ad (2 + kx))), (1, .int p1)] [] w := by
  unfold K5_price at h
  refine J_iconst dX5_price_0 ic_2 ?_
  refine J_aload_n (q := 0) dX5_price_1 rfl rfl ?_
  refine J_iload_n (q := 1) dX5_price_2 rfl rfl ?_
  obtain ⟨r1, hq2, h⟩ := bd_some h
  refine kx_X5_7 hi hk dX5_price_3 hq2 hL (by decide) (Nat.le_of_ble_eq_true rfl) ?_
  refine J_imul dX5_price_6 ?_
  exact J_iret dX5_price_7 (rt_pi h) rfl
set_option maxRecDepth 20000 in
set_option maxHeartbeats 4000000 in
theorem kX5_price {l : Launch} {D : va_G} {ad : Nat → Nat} {cy : Nat → ClassId} {rv : Int32} {w : CS} {kx : Nat} {p1 : Int32} (hi : wl_inj (ΓC ad cy)) (hk : kx < 8) (h : K5_price p1 = some rv) : Cn l D (ΓC ad cy) yX5_price cX5_price 2 (some .int) 2 [.ref (ad (2 + kx)), .int p1] w (some (.int rv), w) :=
  Cn.of hi rfl (Nat.le_of_ble_eq_true rfl) (fun _ _ _ hL => K5_price_ok hi hk hL h)
theorem pdX6_lessons : (parseMethodDescriptor yX6_lessons.desc).map (fun d => d.parameters.length) = some 3 := by decide +kernel
set_option maxRecDepth 20000 in
set_option maxHeartbeats 4000000 in
theorem K6_lessons_ok {E : Ec} {ad : Nat → Nat} {cy : Nat → ClassId} {rv : Int32} {w : CS} {kx : Nat} {p1 : Int32} {p2 : Int32} {p3 : Int32} (hi : wl_inj (ΓC ad cy)) (hk : kx < 8) (hL : Lv E 0) (h : K6_lessons p1 p2 p3 = some rv) : Jw E (ΓC ad cy) RX6 cX6_lessons 4 (some .int) (some (.int rv), w) 0 [(0, .ref (ad (2 + kx))), (1, .int p1), (2, .int p2), (3, .int p3)] [] w := by
  unfold K6_lessons at h
  refine J_iload_n (q := 3) dX6_lessons_0 rfl rfl ?_
  refine J_if_eq (tgt := 8) dX6_lessons_1 (by decide) (fun c1 => ?_) (fun c1 => ?_)
  · replace h := it_some h c1
    refine J_iconst dX6_lessons_8 ic_2 ?_
    exact J_iret dX6_lessons_9 (rt_pi h) rfl
  · replace h := if_some h c1
    refine J_iconst dX6_lessons_4 ic_1 ?_
    refine J_goto (tgt := 9) dX6_lessons_5 (by decide) ?_
    exact J_iret dX6_lessons_9 (rt_pi h) rfl
set_option maxRecDepth 20000 in
set_option maxHeartbeats 4000000 in
theorem kX6_lessons {l : Launch} {D : va_G} {ad : Nat → Nat} {cy : Nat → ClassId} {rv : Int32} {w : CS} {kx : Nat} {p1 : Int32} {p2 : Int32} {p3 : Int32} (hi : wl_inj (ΓC ad cy)) (hk : kx < 8) (h : K6_lessons p1 p2 p3 = some rv) : Cn l D (ΓC ad cy) yX6_lessons cX6_lessons 4 (some .int) 0 [.ref (ad (2 + kx)), .int p1, .int p2, .int p3] w (some (.int rv), w) :=
  Cn.of hi rfl (Nat.le_of_ble_eq_true rfl) (fun _ _ _ hL => K6_lessons_ok hi hk hL h)
theorem pdX6_price : (parseMethodDescriptor yX6_price.desc).map (fun d => d.parameters.length) = some 1 := by decide +kernel
set_option maxRecDepth 20000 in
set_option maxHeartbeats 4000000 in
theorem K6_price_ok {E : Ec} {ad : Nat → Nat} {cy : Nat → ClassId} {rv : Int32} {w : CS} {kx : Nat} {p1 : Int32} (hi : wl_inj (ΓC ad cy)) (hk : kx < 8) (hL : Lv E 0) (h : K6_price p1 = some rv) : Jw E (ΓC ad cy) RX6 cX6_price 2 (some .int) (some (.int rv), w) 0 [(0, .ref (ad (2 + kx))), (1, .int p1)] [] w := by
  unfold K6_price at h
  refine J_iconst dX6_price_0 ic_3 ?_
  exact J_iret dX6_price_1 (rt_pi h) rfl
set_option maxRecDepth 20000 in
set_option maxHeartbeats 4000000 in
theorem kX6_price {l : Launch} {D : va_G} {ad : Nat → Nat} {cy : Nat → ClassId} {rv : Int32} {w : CS} {kx : Nat} {p1 : Int32} (hi : wl_inj (ΓC ad cy)) (hk : kx < 8) (h : K6_price p1 = some rv) : Cn l D (ΓC ad cy) yX6_price cX6_price 2 (some .int) 0 [.ref (ad (2 + kx)), .int p1] w (some (.int rv), w) :=
  Cn.of hi rfl (Nat.le_of_ble_eq_true rfl) (fun _ _ _ hL => K6_price_ok hi hk hL h)
theorem pdX7_holdOne : (parseMethodDescriptor yX7_holdOne.desc).map (fun d => d.parameters.length) = some 2 := by decide +kernel
set_option maxRecDepth 20000 in
set_option maxHeartbeats 4000000 in
theorem S_holdOne_ok {E : Ec} {ad : Nat → Nat} {cy : Nat → ClassId} {rv : Ob} {σ : CS} {b : Nat} {s : Ob} {p1 : Int32} {p2 : Int32} (hi : wl_inj (ΓC ad cy)) (hb : okS b) (hL : Lv E 0) (h : S_holdOne s p1 p2 = some rv) : Jw E (ΓC ad cy) RX7 cX7_holdOne 3 none (none, va_up σ b rv) 0 [(0, .ref (ad (2 * b + 70))), (1, .int p1), (2, .int p2)] [] (va_up σ b s) := by
  unfold S_holdOne at h
  refine J_aload_n (q := 0) dX7_holdOne_0 rfl rfl ?_
  refine J_iconst dX7_holdOne_1 ic_1 ?_
  refine pS_X7_holds dX7_holdOne_2 hb vu_at vu_at vu_oth ?_
  refine J_twu (fun s1 es1 => ?_)
  replace h := nm_some es1 h
  refine J_aload_n (q := 0) dX7_holdOne_5 rfl rfl ?_
  refine J_iload_n (q := 1) dX7_holdOne_6 rfl rfl ?_
  refine pS_X7_kind dX7_holdOne_7 hb vu_at vu_at vu_oth ?_
  refine J_twu (fun s2 es2 => ?_)
  replace h := nm_some es2 h
  refine J_aload_n (q := 0) dX7_holdOne_10 rfl rfl ?_
  refine J_iload_n (q := 2) dX7_holdOne_11 rfl rfl ?_
  refine pS_X7_figure dX7_holdOne_12 hb vu_at vu_at vu_oth ?_
  refine J_twu (fun s3 es3 => ?_)
  replace h := nm_some es3 h
  exact J_vret dX7_holdOne_15 (rt_fv h) rfl
set_option maxRecDepth 20000 in
set_option maxHeartbeats 4000000 in
theorem kX7_holdOne {l : Launch} {D : va_G} {ad : Nat → Nat} {cy : Nat → ClassId} {rv : Ob} {σ : CS} {b : Nat} {s : Ob} {p1 : Int32} {p2 : Int32} (hi : wl_inj (ΓC ad cy)) (hb : okS b) (h : S_holdOne s p1 p2 = some rv) : Cn l D (ΓC ad cy) yX7_holdOne cX7_holdOne 3 none 0 [.ref (ad (2 * b + 70)), .int p1, .int p2] (va_up σ b s) (none, va_up σ b rv) :=
  Cn.of hi rfl (Nat.le_of_ble_eq_true rfl) (fun _ _ _ hL => S_holdOne_ok hi hb hL h)
theorem pdJ7_fill_53178 : (parseMethodDescriptor yJ7_fill_53178.desc).map (fun d => d.parameters.length) = some 2 := by decide +kernel
set_option maxRecDepth 20000 in
set_option maxHeartbeats 4000000 in
theorem B_fill_L5_ok {E : Ec} {ad : Nat → Nat} {cy : Nat → ClassId} {rv : Ob} {σ : CS} {b : Nat} {a1 : Int32} {a3 : Int32} (hi : wl_inj (ΓC ad cy)) (hb : okS b) (hL : Lv E 0) : ∀ (n : Nat) (s : Ob) (x2 : Int32), B_fill_L5 a1 a3 n s x2 = some rv → Jw E (ΓC ad cy) RJ7 cJ7_fill_53178 4 none (none, va_up σ b rv) 5 [(0, .ref (ad (2 * b + 71))), (1, .int a1), (2, .int x2), (3, .int a3)] [] (va_up σ b s) := by
  intro n
  induction n with
  | zero =>
    intro s x2 h
    rw [B_fill_L5] at h
    cases h
  | succ n ih =>
    intro s x2 h
    rw [B_fill_L5] at h
    refine J_iload_n (q := 2) dJ7_fill_53178_5 rfl rfl ?_
    refine J_iload_n (q := 3) dJ7_fill_53178_6 rfl rfl ?_
    refine J_icmp_ge (tgt := 20) dJ7_fill_53178_7 (by decide) (fun c1 => ?_) (fun c1 => ?_)
    · replace h := it_some h c1
      exact J_vret dJ7_fill_53178_20 (rt_fv h) rfl
    · replace h := if_some h c1
      refine J_aload_n (q := 0) dJ7_fill_53178_10 rfl rfl ?_
      refine J_iload_n (q := 2) dJ7_fill_53178_11 rfl rfl ?_
      refine J_iload_n (q := 1) dJ7_fill_53178_12 rfl rfl ?_
      obtain ⟨hg2, h⟩ := gd_some h
      refine aS_st (w' := va_up σ b (pA s 1 x2 a1)) dJ7_fill_53178_13 hb vu_at vu_at vu_oth hg2 ?_
      refine J_twu (fun s3 es3 => ?_)
      replace h := nm_some es3 h
      refine J_iinc (q := 2) (v := (x2 + (1 : Int32))) (lv' := [(2, .int (x2 + (1 : Int32))), (0, .ref (ad (2 * b + 71))), (1, .int a1), (3, .int a3)]) dJ7_fill_53178_14 rfl (congrArg (fun z => x2 + z) ic_1) (by decide) rfl ?_
      refine J_tv (fun v4 ev4 => ?_)
      replace h := nm_some ev4 h
      refine J_goto (tgt := 5) dJ7_fill_53178_17 (by decide) ?_
      exact J_sub [1, 2, 0, 3] rfl (ih _ _ h)
set_option maxRecDepth 20000 in
set_option maxHeartbeats 4000000 in
theorem B_fill_ok {E : Ec} {ad : Nat → Nat} {cy : Nat → ClassId} {rv : Ob} {σ : CS} {b : Nat} {s : Ob} {p1 : Int32} (hi : wl_inj (ΓC ad cy)) (hb : okS b) (hL : Lv E 0) (h : B_fill s p1 = some rv) : Jw E (ΓC ad cy) RJ7 cJ7_fill_53178 4 none (none, va_up σ b rv) 0 [(0, .ref (ad (2 * b + 71))), (1, .int p1)] [] (va_up σ b s) := by
  unfold B_fill at h
  refine J_iconst dJ7_fill_53178_0 ic_0 ?_
  refine J_istore_n (lv' := [(2, .int (0 : Int32)), (0, .ref (ad (2 * b + 71))), (1, .int p1)]) dJ7_fill_53178_1 rfl (by decide) rfl ?_
  refine J_aload_n (q := 1) dJ7_fill_53178_2 rfl rfl ?_
  refine aS_len dJ7_fill_53178_3 hb vu_at ?_
  refine J_istore_n (lv' := [(3, .int (100 : Int32)), (2, .int (0 : Int32)), (0, .ref (ad (2 * b + 71))), (1, .int p1)]) dJ7_fill_53178_4 rfl (by decide) rfl ?_
  refine J_sub [2, 3, 1, 0] rfl (B_fill_L5_ok hi hb hL FU _ _ h)
set_option maxRecDepth 20000 in
set_option maxHeartbeats 4000000 in
theorem kJ7_fill_53178 {l : Launch} {D : va_G} {ad : Nat → Nat} {cy : Nat → ClassId} {rv : Ob} {σ : CS} {b : Nat} {s : Ob} {p1 : Int32} (hi : wl_inj (ΓC ad cy)) (hb : okS b) (h : B_fill s p1 = some rv) : Cn l D (ΓC ad cy) yJ7_fill_53178 cJ7_fill_53178 4 none 0 [.ref (ad (2 * b + 71)), .int p1] (va_up σ b s) (none, va_up σ b rv) :=
  Cn.of hi rfl (Nat.le_of_ble_eq_true rfl) (fun _ _ _ hL => B_fill_ok hi hb hL h)
theorem pdX7_holdRow : (parseMethodDescriptor yX7_holdRow.desc).map (fun d => d.parameters.length) = some 2 := by decide +kernel
theorem kx_X7_31 {E : Ec} {ad : Nat → Nat} {cy : Nat → ClassId} {cc : ByteArray} {nL : Nat} {rt : Option FieldType} {r : Option Value × CS} {pc : Nat} {lv : List (Nat × Value)} {st : List Value} {σ : CS} {n b : Nat} {s : Ob} {p1 : Int32} {s' : Ob} (hi : wl_inj (ΓC ad cy)) (hb : okS b) (hd : decode cc pc = .ok (.invokestatic 31, 3)) (hq : B_fill s p1 = some s') (hL : Lv E n) (hn : 0 + 1 ≤ n) (hW : (st.map fun v => v.category).sum ≤ 8) (k : Jw E (ΓC ad cy) RX7 cc nL rt r (pc + 3) lv (st) (va_up σ b s')) : Jw E (ΓC ad cy) RX7 cc nL rt r pc lv (.int p1 :: .ref (ad (2 * b + 71)) :: st) (va_up σ b s) := by
  have hM := fun (l : Launch) (D : va_G) => kJ7_fill_53178 (l := l) (D := D) (ad := ad) (cy := cy) (σ := σ) hi hb hq
  exact J_callS (Γ := ΓC ad cy) (av := [.ref (ad (2 * b + 71)), .int p1]) (q := (none, va_up σ b s')) (st := st) hd (hM _ _) tw_3_190 tw_1_96 tw_1_11 tw_1_97 ⟨by decide, by decide, pdJ7_fill_53178⟩ rfl (by decide) hL hn hW k
set_option maxRecDepth 20000 in
set_option maxHeartbeats 4000000 in
theorem S_holdRow_ok {E : Ec} {ad : Nat → Nat} {cy : Nat → ClassId} {rv : Ob} {σ : CS} {b : Nat} {s : Ob} {p1 : Int32} {p2 : Int32} (hi : wl_inj (ΓC ad cy)) (hb : okS b) (hL : Lv E 1) (h : S_holdRow s p1 p2 = some rv) : Jw E (ΓC ad cy) RX7 cX7_holdRow 3 none (none, va_up σ b rv) 0 [(0, .ref (ad (2 * b + 70))), (1, .int p1), (2, .int p2)] [] (va_up σ b s) := by
  unfold S_holdRow at h
  refine J_aload_n (q := 0) dX7_holdRow_0 rfl rfl ?_
  refine J_iconst dX7_holdRow_1 ic_2 ?_
  refine pS_X7_holds dX7_holdRow_2 hb vu_at vu_at vu_oth ?_
  refine J_twu (fun s1 es1 => ?_)
  replace h := nm_some es1 h
  refine J_aload_n (q := 0) dX7_holdRow_5 rfl rfl ?_
  refine J_iload_n (q := 1) dX7_holdRow_6 rfl rfl ?_
  refine pS_X7_sort dX7_holdRow_7 hb vu_at vu_at vu_oth ?_
  refine J_twu (fun s2 es2 => ?_)
  replace h := nm_some es2 h
  refine J_aload_n (q := 0) dX7_holdRow_10 rfl rfl ?_
  refine J_iload_n (q := 2) dX7_holdRow_11 rfl rfl ?_
  refine pS_X7_size dX7_holdRow_12 hb vu_at vu_at vu_oth ?_
  refine J_twu (fun s3 es3 => ?_)
  replace h := nm_some es3 h
  refine J_aload_n (q := 0) dX7_holdRow_15 rfl rfl ?_
  refine gS_X7_cells dX7_holdRow_16 hb vu_at ?_
  refine J_iconst dX7_holdRow_19 ic_0 ?_
  obtain ⟨s4, hq5, h⟩ := bd_some h
  refine kx_X7_31 hi hb dX7_holdRow_20 hq5 hL (by decide) (Nat.le_of_ble_eq_true rfl) ?_
  exact J_vret dX7_holdRow_23 (rt_fv h) rfl
set_option maxRecDepth 20000 in
set_option maxHeartbeats 4000000 in
theorem kX7_holdRow {l : Launch} {D : va_G} {ad : Nat → Nat} {cy : Nat → ClassId} {rv : Ob} {σ : CS} {b : Nat} {s : Ob} {p1 : Int32} {p2 : Int32} (hi : wl_inj (ΓC ad cy)) (hb : okS b) (h : S_holdRow s p1 p2 = some rv) : Cn l D (ΓC ad cy) yX7_holdRow cX7_holdRow 3 none 1 [.ref (ad (2 * b + 70)), .int p1, .int p2] (va_up σ b s) (none, va_up σ b rv) :=
  Cn.of hi rfl (Nat.le_of_ble_eq_true rfl) (fun _ _ _ hL => S_holdRow_ok hi hb hL h)
theorem pdX7_hasPlaces : (parseMethodDescriptor yX7_hasPlaces.desc).map (fun d => d.parameters.length) = some 2 := by decide +kernel
set_option maxRecDepth 20000 in
set_option maxHeartbeats 4000000 in
theorem S_hasPlaces_ok {E : Ec} {ad : Nat → Nat} {cy : Nat → ClassId} {rv : Int32} {σ : CS} {b : Nat} {s : Ob} {p1 : Int32} {p2 : Int32} (hi : wl_inj (ΓC ad cy)) (hb : okS b) (hL : Lv E 0) (h : S_hasPlaces s p1 p2 = some rv) : Jw E (ΓC ad cy) RX7 cX7_hasPlaces 3 (some .boolean) (some (.int rv), va_up σ b s) 0 [(0, .ref (ad (2 * b + 70))), (1, .int p1), (2, .int p2)] [] (va_up σ b s) := by
  unfold S_hasPlaces at h
  refine J_iload_n (q := 1) dX7_hasPlaces_0 rfl rfl ?_
  refine J_if_lt (tgt := 30) dX7_hasPlaces_1 (by decide) (fun c1 => ?_) (fun c1 => ?_)
  · replace h := it_some h c1
    refine J_iconst dX7_hasPlaces_30 ic_0 ?_
    exact J_zret dX7_hasPlaces_31 (rt_pi h) rfl rfl
  · replace h := if_some h c1
    refine J_iload_n (q := 2) dX7_hasPlaces_4 rfl rfl ?_
    refine J_if_lt (tgt := 30) dX7_hasPlaces_5 (by decide) (fun c2 => ?_) (fun c2 => ?_)
    · replace h := it_some h c2
      refine J_iconst dX7_hasPlaces_30 ic_0 ?_
      exact J_zret dX7_hasPlaces_31 (rt_pi h) rfl rfl
    · replace h := if_some h c2
      refine J_iload_n (q := 2) dX7_hasPlaces_8 rfl rfl ?_
      refine J_aload_n (q := 0) dX7_hasPlaces_9 rfl rfl ?_
      refine gS_X7_size dX7_hasPlaces_10 hb vu_at ?_
      refine J_icmp_gt (tgt := 30) dX7_hasPlaces_13 (by decide) (fun c3 => ?_) (fun c3 => ?_)
      · replace h := it_some h c3
        refine J_iconst dX7_hasPlaces_30 ic_0 ?_
        exact J_zret dX7_hasPlaces_31 (rt_pi h) rfl rfl
      · replace h := if_some h c3
        refine J_iload_n (q := 1) dX7_hasPlaces_16 rfl rfl ?_
        refine J_aload_n (q := 0) dX7_hasPlaces_17 rfl rfl ?_
        refine gS_X7_size dX7_hasPlaces_18 hb vu_at ?_
        refine J_iload_n (q := 2) dX7_hasPlaces_21 rfl rfl ?_
        refine J_isub dX7_hasPlaces_22 ?_
        refine J_icmp_gt (tgt := 30) dX7_hasPlaces_23 (by decide) (fun c4 => ?_) (fun c4 => ?_)
        · replace h := it_some h c4
          refine J_iconst dX7_hasPlaces_30 ic_0 ?_
          exact J_zret dX7_hasPlaces_31 (rt_pi h) rfl rfl
        · replace h := if_some h c4
          refine J_iconst dX7_hasPlaces_26 ic_1 ?_
          refine J_goto (tgt := 31) dX7_hasPlaces_27 (by decide) ?_
          exact J_zret dX7_hasPlaces_31 (rt_pi h) rfl rfl
set_option maxRecDepth 20000 in
set_option maxHeartbeats 4000000 in
theorem kX7_hasPlaces {l : Launch} {D : va_G} {ad : Nat → Nat} {cy : Nat → ClassId} {rv : Int32} {σ : CS} {b : Nat} {s : Ob} {p1 : Int32} {p2 : Int32} (hi : wl_inj (ΓC ad cy)) (hb : okS b) (h : S_hasPlaces s p1 p2 = some rv) : Cn l D (ΓC ad cy) yX7_hasPlaces cX7_hasPlaces 3 (some .boolean) 0 [.ref (ad (2 * b + 70)), .int p1, .int p2] (va_up σ b s) (some (.int rv), va_up σ b s) :=
  Cn.of hi rfl (Nat.le_of_ble_eq_true rfl) (fun _ _ _ hL => S_hasPlaces_ok hi hb hL h)
theorem pdX7_cut : (parseMethodDescriptor yX7_cut.desc).map (fun d => d.parameters.length) = some 1 := by decide +kernel
set_option maxRecDepth 20000 in
set_option maxHeartbeats 4000000 in
theorem S_cut_ok {E : Ec} {ad : Nat → Nat} {cy : Nat → ClassId} {rv : Int32} {σ : CS} {b : Nat} {s : Ob} {p1 : Int32} (hi : wl_inj (ΓC ad cy)) (hb : okS b) (hL : Lv E 0) (h : S_cut s p1 = some rv) : Jw E (ΓC ad cy) RX7 cX7_cut 2 (some .int) (some (.int rv), va_up σ b s) 0 [(0, .ref (ad (2 * b + 70))), (1, .int p1)] [] (va_up σ b s) := by
  unfold S_cut at h
  refine J_aload_n (q := 0) dX7_cut_0 rfl rfl ?_
  refine gS_X7_sort dX7_cut_1 hb vu_at ?_
  refine J_if_ne (tgt := 10) dX7_cut_4 (by decide) (fun c1 => ?_) (fun c1 => ?_)
  · replace h := if_some h c1
    refine J_aload_n (q := 0) dX7_cut_10 rfl rfl ?_
    refine gS_X7_sort dX7_cut_11 hb vu_at ?_
    refine J_iconst dX7_cut_14 ic_1 ?_
    refine J_icmp_ne (tgt := 23) dX7_cut_15 (by decide) (fun c2 => ?_) (fun c2 => ?_)
    · replace h := if_some h c2
      refine J_iload_n (q := 1) dX7_cut_23 rfl rfl ?_
      exact J_iret dX7_cut_24 (rt_pi h) rfl
    · replace h := it_some h c2
      refine J_iload_n (q := 1) dX7_cut_18 rfl rfl ?_
      refine J_i2s dX7_cut_19 ?_
      refine J_goto (tgt := 24) dX7_cut_20 (by decide) ?_
      exact J_iret dX7_cut_24 (rt_pi h) rfl
  · replace h := it_some h c1
    refine J_iload_n (q := 1) dX7_cut_7 rfl rfl ?_
    refine J_i2b dX7_cut_8 ?_
    exact J_iret dX7_cut_9 (rt_pi h) rfl
set_option maxRecDepth 20000 in
set_option maxHeartbeats 4000000 in
theorem kX7_cut {l : Launch} {D : va_G} {ad : Nat → Nat} {cy : Nat → ClassId} {rv : Int32} {σ : CS} {b : Nat} {s : Ob} {p1 : Int32} (hi : wl_inj (ΓC ad cy)) (hb : okS b) (h : S_cut s p1 = some rv) : Cn l D (ΓC ad cy) yX7_cut cX7_cut 2 (some .int) 0 [.ref (ad (2 * b + 70)), .int p1] (va_up σ b s) (some (.int rv), va_up σ b s) :=
  Cn.of hi rfl (Nat.le_of_ble_eq_true rfl) (fun _ _ _ hL => S_cut_ok hi hb hL h)
theorem pdX7_leastNumber : (parseMethodDescriptor yX7_leastNumber.desc).map (fun d => d.parameters.length) = some 0 := by decide +kernel
set_option maxRecDepth 20000 in
set_option maxHeartbeats 4000000 in
theorem S_leastNumber_ok {E : Ec} {ad : Nat → Nat} {cy : Nat → ClassId} {rv : Int32} {σ : CS} {b : Nat} {s : Ob} (hi : wl_inj (ΓC ad cy)) (hb : okS b) (hL : Lv E 0) (h : S_leastNumber s = some rv) : Jw E (ΓC ad cy) RX7 cX7_leastNumber 1 (some .int) (some (.int rv), va_up σ b s) 0 [(0, .ref (ad (2 * b + 70)))] [] (va_up σ b s) := by
  unfold S_leastNumber at h
  refine J_aload_n (q := 0) dX7_leastNumber_0 rfl rfl ?_
  refine gS_X7_sort dX7_leastNumber_1 hb vu_at ?_
  refine J_if_ne (tgt := 10) dX7_leastNumber_4 (by decide) (fun c1 => ?_) (fun c1 => ?_)
  · replace h := if_some h c1
    refine J_aload_n (q := 0) dX7_leastNumber_10 rfl rfl ?_
    refine gS_X7_sort dX7_leastNumber_11 hb vu_at ?_
    refine J_iconst dX7_leastNumber_14 ic_1 ?_
    refine J_icmp_ne (tgt := 24) dX7_leastNumber_15 (by decide) (fun c2 => ?_) (fun c2 => ?_)
    · replace h := if_some h c2
      refine J_ldc dX7_leastNumber_24 tw_3_92 ?_
      exact J_iret dX7_leastNumber_26 (rt_pi h) rfl
    · replace h := it_some h c2
      refine J_sipush dX7_leastNumber_18 sp_m32768 ?_
      refine J_goto (tgt := 26) dX7_leastNumber_21 (by decide) ?_
      exact J_iret dX7_leastNumber_26 (rt_pi h) rfl
  · replace h := it_some h c1
    refine J_bipush dX7_leastNumber_7 bp_m128 ?_
    exact J_iret dX7_leastNumber_9 (rt_pi h) rfl
set_option maxRecDepth 20000 in
set_option maxHeartbeats 4000000 in
theorem kX7_leastNumber {l : Launch} {D : va_G} {ad : Nat → Nat} {cy : Nat → ClassId} {rv : Int32} {σ : CS} {b : Nat} {s : Ob} (hi : wl_inj (ΓC ad cy)) (hb : okS b) (h : S_leastNumber s = some rv) : Cn l D (ΓC ad cy) yX7_leastNumber cX7_leastNumber 1 (some .int) 0 [.ref (ad (2 * b + 70))] (va_up σ b s) (some (.int rv), va_up σ b s) :=
  Cn.of hi rfl (Nat.le_of_ble_eq_true rfl) (fun _ _ _ hL => S_leastNumber_ok hi hb hL h)
theorem pdX7_agrees : (parseMethodDescriptor yX7_agrees.desc).map (fun d => d.parameters.length) = some 2 := by decide +kernel
theorem kx_X7_37 {E : Ec} {ad : Nat → Nat} {cy : Nat → ClassId} {cc : ByteArray} {nL : Nat} {rt : Option FieldType} {r : Option Value × CS} {pc : Nat} {lv : List (Nat × Value)} {st : List Value} {σ : CS} {n b : Nat} {s : Ob} {v : Int32} (hi : wl_inj (ΓC ad cy)) (hb : okS b) (hd : decode cc pc = .ok (.invokevirtual 37, 3)) (hq : S_leastNumber s = some v) (hL : Lv E n) (hn : 0 + 1 ≤ n) (hW : (st.map fun v => v.category).sum ≤ 8) (k : Jw E (ΓC ad cy) RX7 cc nL rt r (pc + 3) lv (.int v :: st) (va_up σ b s)) : Jw E (ΓC ad cy) RX7 cc nL rt r pc lv (.ref (ad (2 * b + 70)) :: st) (va_up σ b s) := by
  have hM := fun (l : Launch) (D : va_G) => kX7_leastNumber (l := l) (D := D) (ad := ad) (cy := cy) (σ := σ) hi hb hq
  exact J_callV (Γ := ΓC ad cy) (h := 2 * b + 70) (ci := 7) (av := []) (q := (some (.int v), va_up σ b s)) (st := st) hd (hM _ _) tw_3_88 tw_3_90 tw_1_12 tw_3_91 sl_2_0 ⟨by decide, by decide, pdX7_leastNumber⟩ (hS (j := 0) hb (by decide)) (cC_s0 hb vu_at) rfl rfl rfl (by decide) hL hn hW k
set_option maxRecDepth 20000 in
set_option maxHeartbeats 4000000 in
theorem S_agrees_ok {E : Ec} {ad : Nat → Nat} {cy : Nat → ClassId} {rv : Int32} {σ : CS} {b : Nat} {s : Ob} {p1 : Int32} {p2 : Int32} (hi : wl_inj (ΓC ad cy)) (hb : okS b) (hL : Lv E 1) (h : S_agrees s p1 p2 = some rv) : Jw E (ΓC ad cy) RX7 cX7_agrees 3 (some .boolean) (some (.int rv), va_up σ b s) 0 [(0, .ref (ad (2 * b + 70))), (1, .int p1), (2, .int p2)] [] (va_up σ b s) := by
  unfold S_agrees at h
  refine J_aload_n (q := 0) dX7_agrees_0 rfl rfl ?_
  refine gS_X7_cells dX7_agrees_1 hb vu_at ?_
  refine J_iload_n (q := 1) dX7_agrees_4 rfl rfl ?_
  obtain ⟨hg1, h⟩ := gd_some h
  refine aS_ld dX7_agrees_5 hb vu_at hg1 ?_
  refine J_iload_n (q := 2) dX7_agrees_6 rfl rfl ?_
  obtain ⟨kk23, ekk23, h⟩ := jn_some h
  have K23 : kk23 = some rv → Jw E (ΓC ad cy) RX7 cX7_agrees 3 (some .boolean) (some (.int rv), va_up σ b s) 23 [] [] (va_up σ b s) := by
    subst ekk23
    clear h
    intro h
    refine J_iconst dX7_agrees_23 ic_1 ?_
    refine J_goto (tgt := 28) dX7_agrees_24 (by decide) ?_
    exact J_zret dX7_agrees_28 (rt_pi h) rfl rfl
  clear ekk23
  refine J_icmp_eq (tgt := 23) dX7_agrees_7 (by decide) (fun c2 => ?_) (fun c2 => ?_)
  · replace h := it_some h c2
    exact J_sub [] rfl (K23 h)
  · replace h := if_some h c2
    refine J_aload_n (q := 0) dX7_agrees_10 rfl rfl ?_
    refine gS_X7_cells dX7_agrees_11 hb vu_at ?_
    refine J_iload_n (q := 1) dX7_agrees_14 rfl rfl ?_
    obtain ⟨hg3, h⟩ := gd_some h
    refine aS_ld dX7_agrees_15 hb vu_at hg3 ?_
    refine J_aload_n (q := 0) dX7_agrees_16 rfl rfl ?_
    obtain ⟨r4, hq6, h⟩ := bd_some h
    refine kx_X7_37 hi hb dX7_agrees_17 hq6 hL (by decide) (Nat.le_of_ble_eq_true rfl) ?_
    refine J_icmp_ne (tgt := 27) dX7_agrees_20 (by decide) (fun c5 => ?_) (fun c5 => ?_)
    · replace h := if_some h c5
      refine J_iconst dX7_agrees_27 ic_0 ?_
      exact J_zret dX7_agrees_28 (rt_pi h) rfl rfl
    · replace h := it_some h c5
      exact J_sub [] rfl (K23 h)
set_option maxRecDepth 20000 in
set_option maxHeartbeats 4000000 in
theorem kX7_agrees {l : Launch} {D : va_G} {ad : Nat → Nat} {cy : Nat → ClassId} {rv : Int32} {σ : CS} {b : Nat} {s : Ob} {p1 : Int32} {p2 : Int32} (hi : wl_inj (ΓC ad cy)) (hb : okS b) (h : S_agrees s p1 p2 = some rv) : Cn l D (ΓC ad cy) yX7_agrees cX7_agrees 3 (some .boolean) 1 [.ref (ad (2 * b + 70)), .int p1, .int p2] (va_up σ b s) (some (.int rv), va_up σ b s) :=
  Cn.of hi rfl (Nat.le_of_ble_eq_true rfl) (fun _ _ _ hL => S_agrees_ok hi hb hL h)
theorem pdX8_tells : (parseMethodDescriptor yX8_tells.desc).map (fun d => d.parameters.length) = some 3 := by decide +kernel
set_option maxRecDepth 20000 in
set_option maxHeartbeats 4000000 in
theorem K8_tells_ok {E : Ec} {ad : Nat → Nat} {cy : Nat → ClassId} {rv : Int32} {w : CS} {kx : Nat} {p1 : Int32} {p2 : Int32} {p3 : Int32} (hi : wl_inj (ΓC ad cy)) (hk : kx < 8) (hL : Lv E 0) (h : K8_tells p1 p2 p3 = some rv) : Jw E (ΓC ad cy) RX8 cX8_tells 4 (some .int) (some (.int rv), w) 0 [(0, .ref (ad (2 + kx))), (1, .int p1), (2, .int p2), (3, .int p3)] [] w := by
  unfold K8_tells at h
  refine J_iconst dX8_tells_0 ic_0 ?_
  exact J_iret dX8_tells_1 (rt_pi h) rfl
set_option maxRecDepth 20000 in
set_option maxHeartbeats 4000000 in
theorem kX8_tells {l : Launch} {D : va_G} {ad : Nat → Nat} {cy : Nat → ClassId} {rv : Int32} {w : CS} {kx : Nat} {p1 : Int32} {p2 : Int32} {p3 : Int32} (hi : wl_inj (ΓC ad cy)) (hk : kx < 8) (h : K8_tells p1 p2 p3 = some rv) : Cn l D (ΓC ad cy) yX8_tells cX8_tells 4 (some .int) 0 [.ref (ad (2 + kx)), .int p1, .int p2, .int p3] w (some (.int rv), w) :=
  Cn.of hi rfl (Nat.le_of_ble_eq_true rfl) (fun _ _ _ hL => K8_tells_ok hi hk hL h)
theorem pdX8_lessons : (parseMethodDescriptor yX8_lessons.desc).map (fun d => d.parameters.length) = some 3 := by decide +kernel
set_option maxRecDepth 20000 in
set_option maxHeartbeats 4000000 in
theorem K8_lessons_ok {E : Ec} {ad : Nat → Nat} {cy : Nat → ClassId} {rv : Int32} {w : CS} {kx : Nat} {p1 : Int32} {p2 : Int32} {p3 : Int32} (hi : wl_inj (ΓC ad cy)) (hk : kx < 8) (hL : Lv E 0) (h : K8_lessons p1 p2 p3 = some rv) : Jw E (ΓC ad cy) RX8 cX8_lessons 4 (some .int) (some (.int rv), w) 0 [(0, .ref (ad (2 + kx))), (1, .int p1), (2, .int p2), (3, .int p3)] [] w := by
  unfold K8_lessons at h
  refine J_iconst dX8_lessons_0 ic_0 ?_
  exact J_iret dX8_lessons_1 (rt_pi h) rfl
set_option maxRecDepth 20000 in
set_option maxHeartbeats 4000000 in
theorem kX8_lessons {l : Launch} {D : va_G} {ad : Nat → Nat} {cy : Nat → ClassId} {rv : Int32} {w : CS} {kx : Nat} {p1 : Int32} {p2 : Int32} {p3 : Int32} (hi : wl_inj (ΓC ad cy)) (hk : kx < 8) (h : K8_lessons p1 p2 p3 = some rv) : Cn l D (ΓC ad cy) yX8_lessons cX8_lessons 4 (some .int) 0 [.ref (ad (2 + kx)), .int p1, .int p2, .int p3] w (some (.int rv), w) :=
  Cn.of hi rfl (Nat.le_of_ble_eq_true rfl) (fun _ _ _ hL => K8_lessons_ok hi hk hL h)
theorem pdX9_digitsOf : (parseMethodDescriptor yX9_digitsOf.desc).map (fun d => d.parameters.length) = some 1 := by decide +kernel
set_option maxRecDepth 20000 in
set_option maxHeartbeats 4000000 in
theorem X_digitsOf_ok {E : Ec} {ad : Nat → Nat} {cy : Nat → ClassId} {rv : Int32} {w : CS} {p0 : Int32} (hi : wl_inj (ΓC ad cy)) (hL : Lv E 0) (h : X_digitsOf p0 = some rv) : Jw E (ΓC ad cy) RX9 cX9_digitsOf 1 (some .int) (some (.int rv), w) 0 [(0, .int p0)] [] w := by
  unfold X_digitsOf at h
  refine J_iload_n (q := 0) dX9_digitsOf_0 rfl rfl ?_
  by_cases c1 : p0 = (99 : Int32)
  · replace h := it_some h c1
    refine J_tin (tgt := 95) dX9_digitsOf_1 (by rw [c1]; decide) (by rw [c1]; decide) (by rw [c1]; rfl) (by decide) ?_
    refine J_iconst dX9_digitsOf_95 ic_2 ?_
    exact J_iret dX9_digitsOf_96 (rt_pi h) rfl
  · replace h := if_some h c1
    by_cases c2 : p0 = (100 : Int32)
    · replace h := it_some h c2
      refine J_tin (tgt := 95) dX9_digitsOf_1 (by rw [c2]; decide) (by rw [c2]; decide) (by rw [c2]; rfl) (by decide) ?_
      refine J_iconst dX9_digitsOf_95 ic_2 ?_
      exact J_iret dX9_digitsOf_96 (rt_pi h) rfl
    · replace h := if_some h c2
      by_cases c3 : p0 = (101 : Int32)
      · replace h := it_some h c3
        refine J_tin (tgt := 97) dX9_digitsOf_1 (by rw [c3]; decide) (by rw [c3]; decide) (by rw [c3]; rfl) (by decide) ?_
        refine J_iconst dX9_digitsOf_97 ic_m1 ?_
        exact J_iret dX9_digitsOf_98 (rt_pi h) rfl
      · replace h := if_some h c3
        by_cases c4 : p0 = (102 : Int32)
        · replace h := it_some h c4
          refine J_tin (tgt := 97) dX9_digitsOf_1 (by rw [c4]; decide) (by rw [c4]; decide) (by rw [c4]; rfl) (by decide) ?_
          refine J_iconst dX9_digitsOf_97 ic_m1 ?_
          exact J_iret dX9_digitsOf_98 (rt_pi h) rfl
        · replace h := if_some h c4
          by_cases c5 : p0 = (103 : Int32)
          · replace h := it_some h c5
            refine J_tin (tgt := 97) dX9_digitsOf_1 (by rw [c5]; decide) (by rw [c5]; decide) (by rw [c5]; rfl) (by decide) ?_
            refine J_iconst dX9_digitsOf_97 ic_m1 ?_
            exact J_iret dX9_digitsOf_98 (rt_pi h) rfl
          · replace h := if_some h c5
            by_cases c6 : p0 = (104 : Int32)
            · replace h := it_some h c6
              refine J_tin (tgt := 97) dX9_digitsOf_1 (by rw [c6]; decide) (by rw [c6]; decide) (by rw [c6]; rfl) (by decide) ?_
              refine J_iconst dX9_digitsOf_97 ic_m1 ?_
              exact J_iret dX9_digitsOf_98 (rt_pi h) rfl
            · replace h := if_some h c6
              by_cases c7 : p0 = (105 : Int32)
              · replace h := it_some h c7
                refine J_tin (tgt := 97) dX9_digitsOf_1 (by rw [c7]; decide) (by rw [c7]; decide) (by rw [c7]; rfl) (by decide) ?_
                refine J_iconst dX9_digitsOf_97 ic_m1 ?_
                exact J_iret dX9_digitsOf_98 (rt_pi h) rfl
              · replace h := if_some h c7
                by_cases c8 : p0 = (106 : Int32)
                · replace h := it_some h c8
                  refine J_tin (tgt := 97) dX9_digitsOf_1 (by rw [c8]; decide) (by rw [c8]; decide) (by rw [c8]; rfl) (by decide) ?_
                  refine J_iconst dX9_digitsOf_97 ic_m1 ?_
                  exact J_iret dX9_digitsOf_98 (rt_pi h) rfl
                · replace h := if_some h c8
                  by_cases c9 : p0 = (107 : Int32)
                  · replace h := it_some h c9
                    refine J_tin (tgt := 97) dX9_digitsOf_1 (by rw [c9]; decide) (by rw [c9]; decide) (by rw [c9]; rfl) (by decide) ?_
                    refine J_iconst dX9_digitsOf_97 ic_m1 ?_
                    exact J_iret dX9_digitsOf_98 (rt_pi h) rfl
                  · replace h := if_some h c9
                    by_cases c10 : p0 = (108 : Int32)
                    · replace h := it_some h c10
                      refine J_tin (tgt := 91) dX9_digitsOf_1 (by rw [c10]; decide) (by rw [c10]; decide) (by rw [c10]; rfl) (by decide) ?_
                      refine J_iconst dX9_digitsOf_91 ic_4 ?_
                      exact J_iret dX9_digitsOf_92 (rt_pi h) rfl
                    · replace h := if_some h c10
                      by_cases c11 : p0 = (109 : Int32)
                      · replace h := it_some h c11
                        refine J_tin (tgt := 97) dX9_digitsOf_1 (by rw [c11]; decide) (by rw [c11]; decide) (by rw [c11]; rfl) (by decide) ?_
                        refine J_iconst dX9_digitsOf_97 ic_m1 ?_
                        exact J_iret dX9_digitsOf_98 (rt_pi h) rfl
                      · replace h := if_some h c11
                        by_cases c12 : p0 = (110 : Int32)
                        · replace h := it_some h c12
                          refine J_tin (tgt := 97) dX9_digitsOf_1 (by rw [c12]; decide) (by rw [c12]; decide) (by rw [c12]; rfl) (by decide) ?_
                          refine J_iconst dX9_digitsOf_97 ic_m1 ?_
                          exact J_iret dX9_digitsOf_98 (rt_pi h) rfl
                        · replace h := if_some h c12
                          by_cases c13 : p0 = (111 : Int32)
                          · replace h := it_some h c13
                            refine J_tin (tgt := 95) dX9_digitsOf_1 (by rw [c13]; decide) (by rw [c13]; decide) (by rw [c13]; rfl) (by decide) ?_
                            refine J_iconst dX9_digitsOf_95 ic_2 ?_
                            exact J_iret dX9_digitsOf_96 (rt_pi h) rfl
                          · replace h := if_some h c13
                            by_cases c14 : p0 = (112 : Int32)
                            · replace h := it_some h c14
                              refine J_tin (tgt := 93) dX9_digitsOf_1 (by rw [c14]; decide) (by rw [c14]; decide) (by rw [c14]; rfl) (by decide) ?_
                              refine J_iconst dX9_digitsOf_93 ic_3 ?_
                              exact J_iret dX9_digitsOf_94 (rt_pi h) rfl
                            · replace h := if_some h c14
                              by_cases c15 : p0 = (113 : Int32)
                              · replace h := it_some h c15
                                refine J_tin (tgt := 97) dX9_digitsOf_1 (by rw [c15]; decide) (by rw [c15]; decide) (by rw [c15]; rfl) (by decide) ?_
                                refine J_iconst dX9_digitsOf_97 ic_m1 ?_
                                exact J_iret dX9_digitsOf_98 (rt_pi h) rfl
                              · replace h := if_some h c15
                                by_cases c16 : p0 = (114 : Int32)
                                · replace h := it_some h c16
                                  refine J_tin (tgt := 97) dX9_digitsOf_1 (by rw [c16]; decide) (by rw [c16]; decide) (by rw [c16]; rfl) (by decide) ?_
                                  refine J_iconst dX9_digitsOf_97 ic_m1 ?_
                                  exact J_iret dX9_digitsOf_98 (rt_pi h) rfl
                                · replace h := if_some h c16
                                  by_cases c17 : p0 = (115 : Int32)
                                  · replace h := it_some h c17
                                    refine J_tin (tgt := 97) dX9_digitsOf_1 (by rw [c17]; decide) (by rw [c17]; decide) (by rw [c17]; rfl) (by decide) ?_
                                    refine J_iconst dX9_digitsOf_97 ic_m1 ?_
                                    exact J_iret dX9_digitsOf_98 (rt_pi h) rfl
                                  · replace h := if_some h c17
                                    by_cases c18 : p0 = (116 : Int32)
                                    · replace h := it_some h c18
                                      refine J_tin (tgt := 88) dX9_digitsOf_1 (by rw [c18]; decide) (by rw [c18]; decide) (by rw [c18]; rfl) (by decide) ?_
                                      refine J_bipush dX9_digitsOf_88 bp_6 ?_
                                      exact J_iret dX9_digitsOf_90 (rt_pi h) rfl
                                    · replace h := if_some h c18
                                      refine J_tout (tgt := 97) dX9_digitsOf_1 (sw_out99_116 c1 c2 c3 c4 c5 c6 c7 c8 c9 c10 c11 c12 c13 c14 c15 c16 c17 c18) (by decide) ?_
                                      refine J_iconst dX9_digitsOf_97 ic_m1 ?_
                                      exact J_iret dX9_digitsOf_98 (rt_pi h) rfl
set_option maxRecDepth 20000 in
set_option maxHeartbeats 4000000 in
theorem kX9_digitsOf {l : Launch} {D : va_G} {ad : Nat → Nat} {cy : Nat → ClassId} {rv : Int32} {w : CS} {p0 : Int32} (hi : wl_inj (ΓC ad cy)) (h : X_digitsOf p0 = some rv) : Cn l D (ΓC ad cy) yX9_digitsOf cX9_digitsOf 1 (some .int) 0 [.int p0] w (some (.int rv), w) :=
  Cn.of hi rfl (Nat.le_of_ble_eq_true rfl) (fun _ _ _ hL => X_digitsOf_ok hi hL h)
theorem pdX9_statementFault : (parseMethodDescriptor yX9_statementFault.desc).map (fun d => d.parameters.length) = some 2 := by decide +kernel
theorem kx_X9_28 {E : Ec} {ad : Nat → Nat} {cy : Nat → ClassId} {cc : ByteArray} {nL : Nat} {rt : Option FieldType} {r : Option Value × CS} {pc : Nat} {lv : List (Nat × Value)} {st : List Value} {w : CS} {n : Nat} {p0 : Int32} {v : Int32} (hi : wl_inj (ΓC ad cy)) (hd : decode cc pc = .ok (.invokestatic 28, 3)) (hq : X_digitsOf p0 = some v) (hL : Lv E n) (hn : 0 + 1 ≤ n) (hW : (st.map fun v => v.category).sum ≤ 8) (k : Jw E (ΓC ad cy) RX9 cc nL rt r (pc + 3) lv (.int v :: st) w) : Jw E (ΓC ad cy) RX9 cc nL rt r pc lv (.int p0 :: st) w :=
  J_callS (Γ := ΓC ad cy) (av := [.int p0]) (q := (some (.int v), w)) (st := st) hd (kX9_digitsOf hi hq) tw_1_224 tw_1_225 tw_1_14 tw_1_226 ⟨by decide, by decide, pdX9_digitsOf⟩ rfl (by decide) hL hn hW k
set_option maxRecDepth 20000 in
set_option maxHeartbeats 4000000 in
theorem X_statementFault_L40_ok {E : Ec} {ad : Nat → Nat} {cy : Nat → ClassId} {rv : Int32} {k83 : Option Int32} {σ : CS} {b0 : Nat} {a2 : Int32} (hi : wl_inj (ΓC ad cy)) (hL : Lv E 1) (hb0 : okS b0) (hk83 : k83 = some rv → Jw E (ΓC ad cy) RX9 cX9_statementFault 4 (some .int) (some (.int rv), σ) 83 [(0, .ref (ad (2 * b0 + 70))), (2, .int a2)] [] σ) : ∀ (n : Nat) (x3 : Int32), X_statementFault_L40 k83 σ b0 a2 n x3 = some rv → Jw E (ΓC ad cy) RX9 cX9_statementFault 4 (some .int) (some (.int rv), σ) 40 [(0, .ref (ad (2 * b0 + 70))), (2, .int a2), (3, .int x3)] [] σ := by
  intro n
  induction n with
  | zero =>
    intro x3 h
    rw [X_statementFault_L40] at h
    cases h
  | succ n ih =>
    intro x3 h
    rw [X_statementFault_L40] at h
    refine J_iload_n (q := 2) dX9_statementFault_40 rfl rfl ?_
    refine J_iload_n (q := 1) dX9_statementFault_41 rfl rfl ?_
    refine J_icmp_ge (tgt := 83) dX9_statementFault_42 (by decide) (fun c9 => ?_) (fun c9 => ?_)
    · replace h := it_some h c9
      exact J_sub [0, 1] rfl (hk83 h)
    · replace h := if_some h c9
      refine J_iload_n (q := 2) dX9_statementFault_45 rfl rfl ?_
      refine J_aload_n (q := 0) dX9_statementFault_46 rfl rfl ?_
      refine gS_X9_size dX9_statementFault_47 hb0 rfl ?_
      refine J_icmp_ge (tgt := 75) dX9_statementFault_50 (by decide) (fun c10 => ?_) (fun c10 => ?_)
      · replace h := it_some h c10
        refine J_iload_n (q := 2) dX9_statementFault_75 rfl rfl ?_
        exact J_iret dX9_statementFault_76 (rt_pi h) rfl
      · replace h := if_some h c10
        refine J_aload_n (q := 0) dX9_statementFault_53 rfl rfl ?_
        refine gS_X9_cells dX9_statementFault_54 hb0 rfl ?_
        refine J_iload_n (q := 2) dX9_statementFault_57 rfl rfl ?_
        obtain ⟨hg11, h⟩ := gd_some h
        refine aS_ld dX9_statementFault_58 hb0 rfl hg11 ?_
        refine J_bipush dX9_statementFault_59 bp_48 ?_
        refine J_icmp_lt (tgt := 75) dX9_statementFault_61 (by decide) (fun c12 => ?_) (fun c12 => ?_)
        · replace h := it_some h c12
          refine J_iload_n (q := 2) dX9_statementFault_75 rfl rfl ?_
          exact J_iret dX9_statementFault_76 (rt_pi h) rfl
        · replace h := if_some h c12
          refine J_aload_n (q := 0) dX9_statementFault_64 rfl rfl ?_
          refine gS_X9_cells dX9_statementFault_65 hb0 rfl ?_
          refine J_iload_n (q := 2) dX9_statementFault_68 rfl rfl ?_
          obtain ⟨hg13, h⟩ := gd_some h
          refine aS_ld dX9_statementFault_69 hb0 rfl hg13 ?_
          refine J_bipush dX9_statementFault_70 bp_57 ?_
          refine J_icmp_le (tgt := 77) dX9_statementFault_72 (by decide) (fun c14 => ?_) (fun c14 => ?_)
          · replace h := it_some h c14
            refine J_iinc (q := 2) (v := (x3 + (1 : Int32))) (lv' := [(3, .int (x3 + (1 : Int32))), (0, .ref (ad (2 * b0 + 70))), (2, .int a2)]) dX9_statementFault_77 rfl (congrArg (fun z => x3 + z) ic_1) (by decide) rfl ?_
            refine J_tv (fun v15 ev15 => ?_)
            replace h := nm_some ev15 h
            refine J_goto (tgt := 40) dX9_statementFault_80 (by decide) ?_
            exact J_sub [1, 2, 0] rfl (ih _ h)
          · replace h := if_some h c14
            refine J_iload_n (q := 2) dX9_statementFault_75 rfl rfl ?_
            exact J_iret dX9_statementFault_76 (rt_pi h) rfl
set_option maxRecDepth 20000 in
set_option maxHeartbeats 4000000 in
theorem X_statementFault_ok {E : Ec} {ad : Nat → Nat} {cy : Nat → ClassId} {rv : Int32} {σ : CS} {p0 : Nat} {p1 : Int32} (hi : wl_inj (ΓC ad cy)) (hL : Lv E 1) (hp0 : okS p0) (h : X_statementFault σ p0 p1 = some rv) : Jw E (ΓC ad cy) RX9 cX9_statementFault 4 (some .int) (some (.int rv), σ) 0 [(0, .ref (ad (2 * p0 + 70))), (1, .int p1)] [] σ := by
  unfold X_statementFault at h
  refine J_iload_n (q := 1) dX9_statementFault_0 rfl rfl ?_
  refine J_aload_n (q := 0) dX9_statementFault_1 rfl rfl ?_
  refine gS_X9_size dX9_statementFault_2 hp0 rfl ?_
  refine J_icmp_ge (tgt := 20) dX9_statementFault_5 (by decide) (fun c1 => ?_) (fun c1 => ?_)
  · replace h := it_some h c1
    refine J_iload_n (q := 1) dX9_statementFault_20 rfl rfl ?_
    exact J_iret dX9_statementFault_21 (rt_pi h) rfl
  · replace h := if_some h c1
    refine J_aload_n (q := 0) dX9_statementFault_8 rfl rfl ?_
    refine gS_X9_cells dX9_statementFault_9 hp0 rfl ?_
    refine J_iload_n (q := 1) dX9_statementFault_12 rfl rfl ?_
    obtain ⟨hg2, h⟩ := gd_some h
    refine aS_ld dX9_statementFault_13 hp0 rfl hg2 ?_
    obtain ⟨r3, hq19, h⟩ := bd_some h
    refine kx_X9_28 hi dX9_statementFault_14 hq19 hL (by decide) (Nat.le_of_ble_eq_true rfl) ?_
    refine J_if_ge (tgt := 22) dX9_statementFault_17 (by decide) (fun c4 => ?_) (fun c4 => ?_)
    · replace h := it_some h c4
      refine J_iload_n (q := 1) dX9_statementFault_22 rfl rfl ?_
      refine J_iconst dX9_statementFault_23 ic_1 ?_
      refine J_iadd dX9_statementFault_24 ?_
      refine J_aload_n (q := 0) dX9_statementFault_25 rfl rfl ?_
      refine gS_X9_cells dX9_statementFault_26 hp0 rfl ?_
      refine J_iload_n (q := 1) dX9_statementFault_29 rfl rfl ?_
      obtain ⟨hg5, h⟩ := gd_some h
      refine aS_ld dX9_statementFault_30 hp0 rfl hg5 ?_
      obtain ⟨r6, hq20, h⟩ := bd_some h
      refine kx_X9_28 hi dX9_statementFault_31 hq20 hL (by decide) (Nat.le_of_ble_eq_true rfl) ?_
      refine J_iadd dX9_statementFault_34 ?_
      refine J_ti (fun v7 ev7 => ?_)
      replace h := nm_some ev7 h
      refine J_istore_n (lv' := [(2, .int v7), (0, .ref (ad (2 * p0 + 70))), (1, .int p1)]) dX9_statementFault_35 rfl (by decide) rfl ?_
      refine J_iload_n (q := 2) dX9_statementFault_36 rfl rfl ?_
      refine J_iconst dX9_statementFault_37 ic_1 ?_
      refine J_iadd dX9_statementFault_38 ?_
      refine J_ti (fun v8 ev8 => ?_)
      replace h := nm_some ev8 h
      refine J_istore_n (lv' := [(3, .int v8), (2, .int v7), (0, .ref (ad (2 * p0 + 70))), (1, .int p1)]) dX9_statementFault_39 rfl (by decide) rfl ?_
      refine J_sub [2, 1, 0] rfl (X_statementFault_L40_ok hi hL hp0 (fun h => ?_) FU _ h)
      refine J_iload_n (q := 1) dX9_statementFault_83 rfl rfl ?_
      refine J_aload_n (q := 0) dX9_statementFault_84 rfl rfl ?_
      refine gS_X9_size dX9_statementFault_85 hp0 rfl ?_
      obtain ⟨kk102, ekk102, h⟩ := jn_some h
      have K102 : kk102 = some rv → Jw E (ΓC ad cy) RX9 cX9_statementFault 4 (some .int) (some (.int rv), σ) 102 [(2, .int v7)] [] σ := by
        subst ekk102
        clear h
        intro h
        refine J_iload_n (q := 0) dX9_statementFault_102 rfl rfl ?_
        refine J_goto (tgt := 107) dX9_statementFault_103 (by decide) ?_
        exact J_iret dX9_statementFault_107 (rt_pi h) rfl
      clear ekk102
      refine J_icmp_ge (tgt := 102) dX9_statementFault_88 (by decide) (fun c16 => ?_) (fun c16 => ?_)
      · replace h := it_some h c16
        exact J_sub [1] rfl (K102 h)
      · replace h := if_some h c16
        refine J_aload_n (q := 0) dX9_statementFault_91 rfl rfl ?_
        refine gS_X9_cells dX9_statementFault_92 hp0 rfl ?_
        refine J_iload_n (q := 1) dX9_statementFault_95 rfl rfl ?_
        obtain ⟨hg17, h⟩ := gd_some h
        refine aS_ld dX9_statementFault_96 hp0 rfl hg17 ?_
        refine J_bipush dX9_statementFault_97 bp_59 ?_
        refine J_icmp_eq (tgt := 106) dX9_statementFault_99 (by decide) (fun c18 => ?_) (fun c18 => ?_)
        · replace h := it_some h c18
          refine J_iconst dX9_statementFault_106 ic_m1 ?_
          exact J_iret dX9_statementFault_107 (rt_pi h) rfl
        · replace h := if_some h c18
          exact J_sub [1] rfl (K102 h)
    · replace h := if_some h c4
      refine J_iload_n (q := 1) dX9_statementFault_20 rfl rfl ?_
      exact J_iret dX9_statementFault_21 (rt_pi h) rfl
set_option maxRecDepth 20000 in
set_option maxHeartbeats 4000000 in
theorem kX9_statementFault {l : Launch} {D : va_G} {ad : Nat → Nat} {cy : Nat → ClassId} {rv : Int32} {σ : CS} {p0 : Nat} {p1 : Int32} (hi : wl_inj (ΓC ad cy)) (hp0 : okS p0) (h : X_statementFault σ p0 p1 = some rv) : Cn l D (ΓC ad cy) yX9_statementFault cX9_statementFault 4 (some .int) 1 [.ref (ad (2 * p0 + 70)), .int p1] σ (some (.int rv), σ) :=
  Cn.of hi rfl (Nat.le_of_ble_eq_true rfl) (fun _ _ _ hL => X_statementFault_ok hi hL hp0 h)
theorem pdX9_behind : (parseMethodDescriptor yX9_behind.desc).map (fun d => d.parameters.length) = some 2 := by decide +kernel
theorem kx_X9_32 {E : Ec} {ad : Nat → Nat} {cy : Nat → ClassId} {cc : ByteArray} {nL : Nat} {rt : Option FieldType} {r : Option Value × CS} {pc : Nat} {lv : List (Nat × Value)} {st : List Value} {w : CS} {n : Nat} {x y : Int32} (hd : decode cc pc = .ok (.invokestatic 32, 3)) (hL : Lv E n) (hn : 0 + 1 ≤ n) (hW : (st.map fun v => v.category).sum ≤ 8) (k : Jw E (ΓC ad cy) RX9 cc nL rt r (pc + 3) lv (.int (max32 x y) :: st) w) : Jw E (ΓC ad cy) RX9 cc nL rt r pc lv (.int y :: .int x :: st) w :=
  J_max hd tw_1_230 tw_1_231 tw_1_15 tw_1_232 hL hn hW k
set_option maxRecDepth 20000 in
set_option maxHeartbeats 4000000 in
theorem X_behind_ok {E : Ec} {ad : Nat → Nat} {cy : Nat → ClassId} {rv : Int32} {σ : CS} {p0 : Nat} {p1 : Int32} (hi : wl_inj (ΓC ad cy)) (hL : Lv E 1) (hp0 : okS p0) (h : X_behind σ p0 p1 = some rv) : Jw E (ΓC ad cy) RX9 cX9_behind 2 (some .int) (some (.int rv), σ) 0 [(0, .ref (ad (2 * p0 + 70))), (1, .int p1)] [] σ := by
  unfold X_behind at h
  refine J_iload_n (q := 1) dX9_behind_0 rfl rfl ?_
  refine J_iconst dX9_behind_1 ic_2 ?_
  refine J_iadd dX9_behind_2 ?_
  refine J_iconst dX9_behind_3 ic_0 ?_
  refine J_aload_n (q := 0) dX9_behind_4 rfl rfl ?_
  refine gS_X9_cells dX9_behind_5 hp0 rfl ?_
  refine J_iload_n (q := 1) dX9_behind_8 rfl rfl ?_
  obtain ⟨hg1, h⟩ := gd_some h
  refine aS_ld dX9_behind_9 hp0 rfl hg1 ?_
  obtain ⟨r2, hq3, h⟩ := bd_some h
  refine kx_X9_28 hi dX9_behind_10 hq3 hL (by decide) (Nat.le_of_ble_eq_true rfl) ?_
  refine kx_X9_32 dX9_behind_13 hL (by decide) (Nat.le_of_ble_eq_true rfl) ?_
  refine J_iadd dX9_behind_16 ?_
  exact J_iret dX9_behind_17 (rt_pi h) rfl
set_option maxRecDepth 20000 in
set_option maxHeartbeats 4000000 in
theorem kX9_behind {l : Launch} {D : va_G} {ad : Nat → Nat} {cy : Nat → ClassId} {rv : Int32} {σ : CS} {p0 : Nat} {p1 : Int32} (hi : wl_inj (ΓC ad cy)) (hp0 : okS p0) (h : X_behind σ p0 p1 = some rv) : Cn l D (ΓC ad cy) yX9_behind cX9_behind 2 (some .int) 1 [.ref (ad (2 * p0 + 70)), .int p1] σ (some (.int rv), σ) :=
  Cn.of hi rfl (Nat.le_of_ble_eq_true rfl) (fun _ _ _ hL => X_behind_ok hi hL hp0 h)
theorem pdX9_grammarFault : (parseMethodDescriptor yX9_grammarFault.desc).map (fun d => d.parameters.length) = some 1 := by decide +kernel
theorem kx_X9_9 {E : Ec} {ad : Nat → Nat} {cy : Nat → ClassId} {cc : ByteArray} {nL : Nat} {rt : Option FieldType} {r : Option Value × CS} {pc : Nat} {lv : List (Nat × Value)} {st : List Value} {σ : CS} {n : Nat} {p0 : Nat} {p1 : Int32} {v : Int32} (hi : wl_inj (ΓC ad cy)) (hp0 : okS p0) (hd : decode cc pc = .ok (.invokestatic 9, 3)) (hq : X_statementFault σ p0 p1 = some v) (hL : Lv E n) (hn : 1 + 1 ≤ n) (hW : (st.map fun v => v.category).sum ≤ 8) (k : Jw E (ΓC ad cy) RX9 cc nL rt r (pc + 3) lv (.int v :: st) σ) : Jw E (ΓC ad cy) RX9 cc nL rt r pc lv (.int p1 :: .ref (ad (2 * p0 + 70)) :: st) σ :=
  J_callS (Γ := ΓC ad cy) (av := [.ref (ad (2 * p0 + 70)), .int p1]) (q := (some (.int v), σ)) (st := st) hd (kX9_statementFault hi hp0 hq) tw_1_221 tw_1_222 tw_1_14 tw_1_223 ⟨by decide, by decide, pdX9_statementFault⟩ rfl (by decide) hL hn hW k
theorem kx_X9_15 {E : Ec} {ad : Nat → Nat} {cy : Nat → ClassId} {cc : ByteArray} {nL : Nat} {rt : Option FieldType} {r : Option Value × CS} {pc : Nat} {lv : List (Nat × Value)} {st : List Value} {σ : CS} {n : Nat} {p0 : Nat} {p1 : Int32} {v : Int32} (hi : wl_inj (ΓC ad cy)) (hp0 : okS p0) (hd : decode cc pc = .ok (.invokestatic 15, 3)) (hq : X_behind σ p0 p1 = some v) (hL : Lv E n) (hn : 1 + 1 ≤ n) (hW : (st.map fun v => v.category).sum ≤ 8) (k : Jw E (ΓC ad cy) RX9 cc nL rt r (pc + 3) lv (.int v :: st) σ) : Jw E (ΓC ad cy) RX9 cc nL rt r pc lv (.int p1 :: .ref (ad (2 * p0 + 70)) :: st) σ :=
  J_callS (Γ := ΓC ad cy) (av := [.ref (ad (2 * p0 + 70)), .int p1]) (q := (some (.int v), σ)) (st := st) hd (kX9_behind hi hp0 hq) tw_1_227 tw_1_228 tw_1_14 tw_1_229 ⟨by decide, by decide, pdX9_behind⟩ rfl (by decide) hL hn hW k
set_option maxRecDepth 20000 in
set_option maxHeartbeats 4000000 in
theorem X_grammarFault_L4_ok {E : Ec} {ad : Nat → Nat} {cy : Nat → ClassId} {rv : Int32} {σ : CS} {b0 : Nat} (hi : wl_inj (ΓC ad cy)) (hL : Lv E 2) (hb0 : okS b0) : ∀ (n : Nat) (x1 : Int32) (x2 : Int32), X_grammarFault_L4 σ b0 n x1 x2 = some rv → Jw E (ΓC ad cy) RX9 cX9_grammarFault 4 (some .int) (some (.int rv), σ) 4 [(0, .ref (ad (2 * b0 + 70))), (1, .int x1), (2, .int x2)] [] σ := by
  intro n
  induction n with
  | zero =>
    intro x1 x2 h
    rw [X_grammarFault_L4] at h
    cases h
  | succ n ih =>
    intro x1 x2 h
    rw [X_grammarFault_L4] at h
    refine J_iload_n (q := 2) dX9_grammarFault_4 rfl rfl ?_
    refine J_bipush dX9_grammarFault_5 bp_100 ?_
    refine J_icmp_ge (tgt := 44) dX9_grammarFault_7 (by decide) (fun c1 => ?_) (fun c1 => ?_)
    · replace h := it_some h c1
      refine J_iconst dX9_grammarFault_44 ic_m1 ?_
      exact J_iret dX9_grammarFault_45 (rt_pi h) rfl
    · replace h := if_some h c1
      refine J_aload_n (q := 0) dX9_grammarFault_10 rfl rfl ?_
      refine J_iload_n (q := 1) dX9_grammarFault_11 rfl rfl ?_
      obtain ⟨r2, hq7, h⟩ := bd_some h
      refine kx_X9_9 hi hb0 dX9_grammarFault_12 hq7 hL (by decide) (Nat.le_of_ble_eq_true rfl) ?_
      refine J_istore_n (lv' := [(3, .int r2), (0, .ref (ad (2 * b0 + 70))), (1, .int x1), (2, .int x2)]) dX9_grammarFault_15 rfl (by decide) rfl ?_
      refine J_iload_n (q := 0) dX9_grammarFault_16 rfl rfl ?_
      refine J_if_lt (tgt := 22) dX9_grammarFault_17 (by decide) (fun c3 => ?_) (fun c3 => ?_)
      · replace h := it_some h c3
        refine J_aload_n (q := 1) dX9_grammarFault_22 rfl rfl ?_
        refine J_iload_n (q := 2) dX9_grammarFault_23 rfl rfl ?_
        obtain ⟨r4, hq8, h⟩ := bd_some h
        refine kx_X9_15 hi hb0 dX9_grammarFault_24 hq8 hL (by decide) (Nat.le_of_ble_eq_true rfl) ?_
        refine J_istore_n (lv' := [(1, .int r4), (3, .int r2), (0, .ref (ad (2 * b0 + 70))), (2, .int x2)]) dX9_grammarFault_27 rfl (by decide) rfl ?_
        refine J_iload_n (q := 0) dX9_grammarFault_28 rfl rfl ?_
        refine J_aload_n (q := 2) dX9_grammarFault_29 rfl rfl ?_
        refine gS_X9_size dX9_grammarFault_30 hb0 rfl ?_
        refine J_icmp_lt (tgt := 38) dX9_grammarFault_33 (by decide) (fun c5 => ?_) (fun c5 => ?_)
        · replace h := it_some h c5
          refine J_iinc (q := 3) (v := (x2 + (1 : Int32))) (lv' := [(2, .int (x2 + (1 : Int32))), (1, .int r4), (3, .int r2), (0, .ref (ad (2 * b0 + 70)))]) dX9_grammarFault_38 rfl (congrArg (fun z => x2 + z) ic_1) (by decide) rfl ?_
          refine J_tv (fun v6 ev6 => ?_)
          replace h := nm_some ev6 h
          refine J_goto (tgt := 4) dX9_grammarFault_41 (by decide) ?_
          exact J_sub [3, 1, 0] rfl (ih _ _ h)
        · replace h := if_some h c5
          refine J_iconst dX9_grammarFault_36 ic_m1 ?_
          exact J_iret dX9_grammarFault_37 (rt_pi h) rfl
      · replace h := if_some h c3
        refine J_iload_n (q := 0) dX9_grammarFault_20 rfl rfl ?_
        exact J_iret dX9_grammarFault_21 (rt_pi h) rfl
set_option maxRecDepth 20000 in
set_option maxHeartbeats 4000000 in
theorem X_grammarFault_ok {E : Ec} {ad : Nat → Nat} {cy : Nat → ClassId} {rv : Int32} {σ : CS} {p0 : Nat} (hi : wl_inj (ΓC ad cy)) (hL : Lv E 2) (hp0 : okS p0) (h : X_grammarFault σ p0 = some rv) : Jw E (ΓC ad cy) RX9 cX9_grammarFault 4 (some .int) (some (.int rv), σ) 0 [(0, .ref (ad (2 * p0 + 70)))] [] σ := by
  unfold X_grammarFault at h
  refine J_iconst dX9_grammarFault_0 ic_0 ?_
  refine J_istore_n (lv' := [(1, .int (0 : Int32)), (0, .ref (ad (2 * p0 + 70)))]) dX9_grammarFault_1 rfl (by decide) rfl ?_
  refine J_iconst dX9_grammarFault_2 ic_0 ?_
  refine J_istore_n (lv' := [(2, .int (0 : Int32)), (1, .int (0 : Int32)), (0, .ref (ad (2 * p0 + 70)))]) dX9_grammarFault_3 rfl (by decide) rfl ?_
  refine J_sub [2, 1, 0] rfl (X_grammarFault_L4_ok hi hL hp0 FU _ _ h)
set_option maxRecDepth 20000 in
set_option maxHeartbeats 4000000 in
theorem kX9_grammarFault {l : Launch} {D : va_G} {ad : Nat → Nat} {cy : Nat → ClassId} {rv : Int32} {σ : CS} {p0 : Nat} (hi : wl_inj (ΓC ad cy)) (hp0 : okS p0) (h : X_grammarFault σ p0 = some rv) : Cn l D (ΓC ad cy) yX9_grammarFault cX9_grammarFault 4 (some .int) 2 [.ref (ad (2 * p0 + 70))] σ (some (.int rv), σ) :=
  Cn.of hi rfl (Nat.le_of_ble_eq_true rfl) (fun _ _ _ hL => X_grammarFault_ok hi hL hp0 h)
theorem pdX9_number : (parseMethodDescriptor yX9_number.desc).map (fun d => d.parameters.length) = some 3 := by decide +kernel
set_option maxRecDepth 20000 in
set_option maxHeartbeats 4000000 in
theorem X_number_L5_ok {E : Ec} {ad : Nat → Nat} {cy : Nat → ClassId} {rv : Int32} {σ : CS} {b0 : Nat} {a1 : Int32} {a2 : Int32} (hi : wl_inj (ΓC ad cy)) (hL : Lv E 0) (hb0 : okS b0) : ∀ (n : Nat) (x3 : Int32) (x4 : Int32), X_number_L5 σ b0 a1 a2 n x3 x4 = some rv → Jw E (ΓC ad cy) RX9 cX9_number 5 (some .int) (some (.int rv), σ) 5 [(0, .ref (ad (2 * b0 + 70))), (1, .int a1), (2, .int a2), (3, .int x3), (4, .int x4)] [] σ := by
  intro n
  induction n with
  | zero =>
    intro x3 x4 h
    rw [X_number_L5] at h
    cases h
  | succ n ih =>
    intro x3 x4 h
    rw [X_number_L5] at h
    refine J_iload (q := 4) dX9_number_5 rfl ?_
    refine J_iload_n (q := 1) dX9_number_7 rfl rfl ?_
    refine J_iload_n (q := 2) dX9_number_8 rfl rfl ?_
    refine J_iadd dX9_number_9 ?_
    refine J_icmp_ge (tgt := 44) dX9_number_10 (by decide) (fun c1 => ?_) (fun c1 => ?_)
    · replace h := it_some h c1
      refine J_iload_n (q := 3) dX9_number_44 rfl rfl ?_
      exact J_iret dX9_number_45 (rt_pi h) rfl
    · replace h := if_some h c1
      refine J_iload (q := 4) dX9_number_13 rfl ?_
      refine J_aload_n (q := 0) dX9_number_15 rfl rfl ?_
      refine gS_X9_size dX9_number_16 hb0 rfl ?_
      refine J_icmp_ge (tgt := 44) dX9_number_19 (by decide) (fun c2 => ?_) (fun c2 => ?_)
      · replace h := it_some h c2
        refine J_iload_n (q := 3) dX9_number_44 rfl rfl ?_
        exact J_iret dX9_number_45 (rt_pi h) rfl
      · replace h := if_some h c2
        refine J_bipush dX9_number_22 bp_10 ?_
        refine J_iload_n (q := 3) dX9_number_24 rfl rfl ?_
        refine J_imul dX9_number_25 ?_
        refine J_aload_n (q := 0) dX9_number_26 rfl rfl ?_
        refine gS_X9_cells dX9_number_27 hb0 rfl ?_
        refine J_iload (q := 4) dX9_number_30 rfl ?_
        obtain ⟨hg3, h⟩ := gd_some h
        refine aS_ld dX9_number_32 hb0 rfl hg3 ?_
        refine J_iadd dX9_number_33 ?_
        refine J_bipush dX9_number_34 bp_48 ?_
        refine J_isub dX9_number_36 ?_
        refine J_ti (fun v4 ev4 => ?_)
        replace h := nm_some ev4 h
        refine J_istore_n (lv' := [(3, .int v4), (0, .ref (ad (2 * b0 + 70))), (1, .int a1), (2, .int a2), (4, .int x4)]) dX9_number_37 rfl (by decide) rfl ?_
        refine J_iinc (q := 4) (v := (x4 + (1 : Int32))) (lv' := [(4, .int (x4 + (1 : Int32))), (3, .int v4), (0, .ref (ad (2 * b0 + 70))), (1, .int a1), (2, .int a2)]) dX9_number_38 rfl (congrArg (fun z => x4 + z) ic_1) (by decide) rfl ?_
        refine J_tv (fun v5 ev5 => ?_)
        replace h := nm_some ev5 h
        refine J_goto (tgt := 5) dX9_number_41 (by decide) ?_
        exact J_sub [2, 3, 4, 1, 0] rfl (ih _ _ h)
set_option maxRecDepth 20000 in
set_option maxHeartbeats 4000000 in
theorem X_number_ok {E : Ec} {ad : Nat → Nat} {cy : Nat → ClassId} {rv : Int32} {σ : CS} {p0 : Nat} {p1 : Int32} {p2 : Int32} (hi : wl_inj (ΓC ad cy)) (hL : Lv E 0) (hp0 : okS p0) (h : X_number σ p0 p1 p2 = some rv) : Jw E (ΓC ad cy) RX9 cX9_number 5 (some .int) (some (.int rv), σ) 0 [(0, .ref (ad (2 * p0 + 70))), (1, .int p1), (2, .int p2)] [] σ := by
  unfold X_number at h
  refine J_iconst dX9_number_0 ic_0 ?_
  refine J_istore_n (lv' := [(3, .int (0 : Int32)), (0, .ref (ad (2 * p0 + 70))), (1, .int p1), (2, .int p2)]) dX9_number_1 rfl (by decide) rfl ?_
  refine J_iload_n (q := 2) dX9_number_2 rfl rfl ?_
  refine J_istore (lv' := [(4, .int p1), (3, .int (0 : Int32)), (0, .ref (ad (2 * p0 + 70))), (1, .int p1), (2, .int p2)]) dX9_number_3 (by decide) rfl ?_
  refine J_sub [2, 3, 4, 1, 0] rfl (X_number_L5_ok hi hL hp0 FU _ _ h)
set_option maxRecDepth 20000 in
set_option maxHeartbeats 4000000 in
theorem kX9_number {l : Launch} {D : va_G} {ad : Nat → Nat} {cy : Nat → ClassId} {rv : Int32} {σ : CS} {p0 : Nat} {p1 : Int32} {p2 : Int32} (hi : wl_inj (ΓC ad cy)) (hp0 : okS p0) (h : X_number σ p0 p1 p2 = some rv) : Cn l D (ΓC ad cy) yX9_number cX9_number 5 (some .int) 0 [.ref (ad (2 * p0 + 70)), .int p1, .int p2] σ (some (.int rv), σ) :=
  Cn.of hi rfl (Nat.le_of_ble_eq_true rfl) (fun _ _ _ hL => X_number_ok hi hL hp0 h)
theorem pdX11_isThing : (parseMethodDescriptor yX11_isThing.desc).map (fun d => d.parameters.length) = some 1 := by decide +kernel
set_option maxRecDepth 20000 in
set_option maxHeartbeats 4000000 in
theorem C_isThing_ok {E : Ec} {ad : Nat → Nat} {cy : Nat → ClassId} {rv : Int32} {w : CS} {p0 : Int32} (hi : wl_inj (ΓC ad cy)) (hL : Lv E 0) (h : C_isThing p0 = some rv) : Jw E (ΓC ad cy) RX11 cX11_isThing 1 (some .boolean) (some (.int rv), w) 0 [(0, .int p0)] [] w := by
  unfold C_isThing at h
  refine J_iload_n (q := 0) dX11_isThing_0 rfl rfl ?_
  refine J_if_lt (tgt := 13) dX11_isThing_1 (by decide) (fun c1 => ?_) (fun c1 => ?_)
  · replace h := it_some h c1
    refine J_iconst dX11_isThing_13 ic_0 ?_
    exact J_zret dX11_isThing_14 (rt_pi h) rfl rfl
  · replace h := if_some h c1
    refine J_iload_n (q := 0) dX11_isThing_4 rfl rfl ?_
    refine J_iconst dX11_isThing_5 ic_5 ?_
    refine J_icmp_ge (tgt := 13) dX11_isThing_6 (by decide) (fun c2 => ?_) (fun c2 => ?_)
    · replace h := it_some h c2
      refine J_iconst dX11_isThing_13 ic_0 ?_
      exact J_zret dX11_isThing_14 (rt_pi h) rfl rfl
    · replace h := if_some h c2
      refine J_iconst dX11_isThing_9 ic_1 ?_
      refine J_goto (tgt := 14) dX11_isThing_10 (by decide) ?_
      exact J_zret dX11_isThing_14 (rt_pi h) rfl rfl
set_option maxRecDepth 20000 in
set_option maxHeartbeats 4000000 in
theorem kX11_isThing {l : Launch} {D : va_G} {ad : Nat → Nat} {cy : Nat → ClassId} {rv : Int32} {w : CS} {p0 : Int32} (hi : wl_inj (ΓC ad cy)) (h : C_isThing p0 = some rv) : Cn l D (ΓC ad cy) yX11_isThing cX11_isThing 1 (some .boolean) 0 [.int p0] w (some (.int rv), w) :=
  Cn.of hi rfl (Nat.le_of_ble_eq_true rfl) (fun _ _ _ hL => C_isThing_ok hi hL h)
theorem pdX11_within : (parseMethodDescriptor yX11_within.desc).map (fun d => d.parameters.length) = some 2 := by decide +kernel
set_option maxRecDepth 20000 in
set_option maxHeartbeats 4000000 in
theorem C_within_ok {E : Ec} {ad : Nat → Nat} {cy : Nat → ClassId} {rv : Int32} {w : CS} {p0 : Int32} {p1 : Int32} (hi : wl_inj (ΓC ad cy)) (hL : Lv E 0) (h : C_within p0 p1 = some rv) : Jw E (ΓC ad cy) RX11 cX11_within 2 (some .boolean) (some (.int rv), w) 0 [(0, .int p0), (1, .int p1)] [] w := by
  unfold C_within at h
  refine J_iload_n (q := 0) dX11_within_0 rfl rfl ?_
  refine J_if_lt (tgt := 13) dX11_within_1 (by decide) (fun c1 => ?_) (fun c1 => ?_)
  · replace h := it_some h c1
    refine J_iconst dX11_within_13 ic_0 ?_
    exact J_zret dX11_within_14 (rt_pi h) rfl rfl
  · replace h := if_some h c1
    refine J_iload_n (q := 0) dX11_within_4 rfl rfl ?_
    refine J_iload_n (q := 1) dX11_within_5 rfl rfl ?_
    refine J_icmp_gt (tgt := 13) dX11_within_6 (by decide) (fun c2 => ?_) (fun c2 => ?_)
    · replace h := it_some h c2
      refine J_iconst dX11_within_13 ic_0 ?_
      exact J_zret dX11_within_14 (rt_pi h) rfl rfl
    · replace h := if_some h c2
      refine J_iconst dX11_within_9 ic_1 ?_
      refine J_goto (tgt := 14) dX11_within_10 (by decide) ?_
      exact J_zret dX11_within_14 (rt_pi h) rfl rfl
set_option maxRecDepth 20000 in
set_option maxHeartbeats 4000000 in
theorem kX11_within {l : Launch} {D : va_G} {ad : Nat → Nat} {cy : Nat → ClassId} {rv : Int32} {w : CS} {p0 : Int32} {p1 : Int32} (hi : wl_inj (ΓC ad cy)) (h : C_within p0 p1 = some rv) : Cn l D (ΓC ad cy) yX11_within cX11_within 2 (some .boolean) 0 [.int p0, .int p1] w (some (.int rv), w) :=
  Cn.of hi rfl (Nat.le_of_ble_eq_true rfl) (fun _ _ _ hL => C_within_ok hi hL h)
theorem pdX10_remake : (parseMethodDescriptor yX10_remake.desc).map (fun d => d.parameters.length) = some 3 := by decide +kernel
theorem kx_X10_56 {E : Ec} {ad : Nat → Nat} {cy : Nat → ClassId} {cc : ByteArray} {nL : Nat} {rt : Option FieldType} {r : Option Value × CS} {pc : Nat} {lv : List (Nat × Value)} {st : List Value} {w : CS} {n : Nat} {p0 : Int32} {v : Int32} (hi : wl_inj (ΓC ad cy)) (hd : decode cc pc = .ok (.invokestatic 56, 3)) (hq : C_isThing p0 = some v) (hL : Lv E n) (hn : 0 + 1 ≤ n) (hW : (st.map fun v => v.category).sum ≤ 8) (k : Jw E (ΓC ad cy) RX10 cc nL rt r (pc + 3) lv (.int v :: st) w) : Jw E (ΓC ad cy) RX10 cc nL rt r pc lv (.int p0 :: st) w :=
  J_callSN (Γ := ΓC ad cy) (av := [.int p0]) (q := (some (.int v), w)) (st := st) hd (kX11_isThing hi hq) rfl (by decide) tw_2_11 tw_1_1 tw_2_12 ⟨by decide, by decide, pdX11_isThing⟩ rfl (by decide) hL hn hW k
theorem kx_X10_60 {E : Ec} {ad : Nat → Nat} {cy : Nat → ClassId} {cc : ByteArray} {nL : Nat} {rt : Option FieldType} {r : Option Value × CS} {pc : Nat} {lv : List (Nat × Value)} {st : List Value} {w : CS} {n : Nat} {p0 : Int32} {p1 : Int32} {v : Int32} (hi : wl_inj (ΓC ad cy)) (hd : decode cc pc = .ok (.invokestatic 60, 3)) (hq : C_within p0 p1 = some v) (hL : Lv E n) (hn : 0 + 1 ≤ n) (hW : (st.map fun v => v.category).sum ≤ 8) (k : Jw E (ΓC ad cy) RX10 cc nL rt r (pc + 3) lv (.int v :: st) w) : Jw E (ΓC ad cy) RX10 cc nL rt r pc lv (.int p1 :: .int p0 :: st) w :=
  J_callSN (Γ := ΓC ad cy) (av := [.int p0, .int p1]) (q := (some (.int v), w)) (st := st) hd (kX11_within hi hq) rfl (by decide) tw_2_14 tw_1_1 tw_2_15 ⟨by decide, by decide, pdX11_within⟩ rfl (by decide) hL hn hW k
set_option maxRecDepth 20000 in
set_option maxHeartbeats 4000000 in
theorem T_remake_ok {E : Ec} {ad : Nat → Nat} {cy : Nat → ClassId} {rv : (Int32 × Ob)} {σ : CS} {a : Nat} {t : Ob} {p1 : Int32} {p2 : Int32} {p3 : Int32} (hi : wl_inj (ΓC ad cy)) (ha : okT a) (hL : Lv E 1) (h : T_remake t p1 p2 p3 = some rv) : Jw E (ΓC ad cy) RX10 cX10_remake 4 (some .boolean) (some (.int rv.1), va_up σ a rv.2) 0 [(0, .ref (ad (8 * a + 2))), (1, .int p1), (2, .int p2), (3, .int p3)] [] (va_up σ a t) := by
  unfold T_remake at h
  refine J_iload_n (q := 1) dX10_remake_0 rfl rfl ?_
  obtain ⟨r1, hq11, h⟩ := bd_some h
  refine kx_X10_56 hi dX10_remake_1 hq11 hL (by decide) (Nat.le_of_ble_eq_true rfl) ?_
  refine J_if_eq (tgt := 26) dX10_remake_4 (by decide) (fun c2 => ?_) (fun c2 => ?_)
  · replace h := it_some h c2
    refine J_iconst dX10_remake_26 ic_0 ?_
    exact J_zret dX10_remake_27 (rt_fi h) rfl rfl
  · replace h := if_some h c2
    refine J_iload_n (q := 2) dX10_remake_7 rfl rfl ?_
    refine J_sipush dX10_remake_8 sp_4095 ?_
    obtain ⟨r3, hq12, h⟩ := bd_some h
    refine kx_X10_60 hi dX10_remake_11 hq12 hL (by decide) (Nat.le_of_ble_eq_true rfl) ?_
    refine J_if_eq (tgt := 26) dX10_remake_14 (by decide) (fun c4 => ?_) (fun c4 => ?_)
    · replace h := it_some h c4
      refine J_iconst dX10_remake_26 ic_0 ?_
      exact J_zret dX10_remake_27 (rt_fi h) rfl rfl
    · replace h := if_some h c4
      refine J_iload_n (q := 3) dX10_remake_17 rfl rfl ?_
      refine J_bipush dX10_remake_18 bp_9 ?_
      obtain ⟨r5, hq13, h⟩ := bd_some h
      refine kx_X10_60 hi dX10_remake_20 hq13 hL (by decide) (Nat.le_of_ble_eq_true rfl) ?_
      refine J_if_ne (tgt := 28) dX10_remake_23 (by decide) (fun c6 => ?_) (fun c6 => ?_)
      · replace h := if_some h c6
        refine J_aload_n (q := 0) dX10_remake_28 rfl rfl ?_
        refine gT_X10_truth dX10_remake_29 ha vu_at ?_
        refine J_iload_n (q := 1) dX10_remake_32 rfl rfl ?_
        refine J_iload_n (q := 2) dX10_remake_33 rfl rfl ?_
        obtain ⟨hg7, h⟩ := gd_some h
        refine aT_st (w' := va_up σ a (pA t 1 p1 p2)) (j := 1) (n := 5) dX10_remake_34 ha vu_at vu_at vu_oth (by decide) rfl hg7 ?_
        refine J_twu (fun t8 et8 => ?_)
        replace h := nm_some et8 h
        refine J_aload_n (q := 0) dX10_remake_35 rfl rfl ?_
        refine gT_X10_worth dX10_remake_36 ha vu_at ?_
        refine J_iload_n (q := 1) dX10_remake_39 rfl rfl ?_
        refine J_iload_n (q := 3) dX10_remake_40 rfl rfl ?_
        obtain ⟨hg9, h⟩ := gd_some h
        refine aT_st (w' := va_up σ a (pA t8 2 p1 p3)) (j := 2) (n := 5) dX10_remake_41 ha vu_at vu_at vu_oth (by decide) rfl hg9 ?_
        refine J_twu (fun t10 et10 => ?_)
        replace h := nm_some et10 h
        refine J_iconst dX10_remake_42 ic_1 ?_
        exact J_zret dX10_remake_43 (rt_fi h) rfl rfl
      · replace h := it_some h c6
        refine J_iconst dX10_remake_26 ic_0 ?_
        exact J_zret dX10_remake_27 (rt_fi h) rfl rfl
set_option maxRecDepth 20000 in
set_option maxHeartbeats 4000000 in
theorem kX10_remake {l : Launch} {D : va_G} {ad : Nat → Nat} {cy : Nat → ClassId} {rv : (Int32 × Ob)} {σ : CS} {a : Nat} {t : Ob} {p1 : Int32} {p2 : Int32} {p3 : Int32} (hi : wl_inj (ΓC ad cy)) (ha : okT a) (h : T_remake t p1 p2 p3 = some rv) : Cn l D (ΓC ad cy) yX10_remake cX10_remake 4 (some .boolean) 1 [.ref (ad (8 * a + 2)), .int p1, .int p2, .int p3] (va_up σ a t) (some (.int rv.1), va_up σ a rv.2) :=
  Cn.of hi rfl (Nat.le_of_ble_eq_true rfl) (fun _ _ _ hL => T_remake_ok hi ha hL h)
theorem pdX11_isCare : (parseMethodDescriptor yX11_isCare.desc).map (fun d => d.parameters.length) = some 1 := by decide +kernel
theorem kx_X11_125 {E : Ec} {ad : Nat → Nat} {cy : Nat → ClassId} {cc : ByteArray} {nL : Nat} {rt : Option FieldType} {r : Option Value × CS} {pc : Nat} {lv : List (Nat × Value)} {st : List Value} {w : CS} {n : Nat} {p0 : Int32} {v : Int32} (hi : wl_inj (ΓC ad cy)) (hd : decode cc pc = .ok (.invokestatic 125, 3)) (hq : C_isThing p0 = some v) (hL : Lv E n) (hn : 0 + 1 ≤ n) (hW : (st.map fun v => v.category).sum ≤ 8) (k : Jw E (ΓC ad cy) RX11 cc nL rt r (pc + 3) lv (.int v :: st) w) : Jw E (ΓC ad cy) RX11 cc nL rt r pc lv (.int p0 :: st) w :=
  J_callS (Γ := ΓC ad cy) (av := [.int p0]) (q := (some (.int v), w)) (st := st) hd (kX11_isThing hi hq) tw_2_23 tw_2_11 tw_1_1 tw_2_12 ⟨by decide, by decide, pdX11_isThing⟩ rfl (by decide) hL hn hW k
set_option maxRecDepth 20000 in
set_option maxHeartbeats 4000000 in
theorem C_isCare_ok {E : Ec} {ad : Nat → Nat} {cy : Nat → ClassId} {rv : Int32} {w : CS} {p0 : Int32} (hi : wl_inj (ΓC ad cy)) (hL : Lv E 1) (h : C_isCare p0 = some rv) : Jw E (ΓC ad cy) RX11 cX11_isCare 1 (some .boolean) (some (.int rv), w) 0 [(0, .int p0)] [] w := by
  unfold C_isCare at h
  refine J_iload_n (q := 0) dX11_isCare_0 rfl rfl ?_
  obtain ⟨r1, hq4, h⟩ := bd_some h
  refine kx_X11_125 hi dX11_isCare_1 hq4 hL (by decide) (Nat.le_of_ble_eq_true rfl) ?_
  obtain ⟨kk13, ekk13, h⟩ := jn_some h
  have K13 : kk13 = some rv → Jw E (ΓC ad cy) RX11 cX11_isCare 1 (some .boolean) (some (.int rv), w) 13 [] [] w := by
    subst ekk13
    clear h
    intro h
    refine J_iconst dX11_isCare_13 ic_1 ?_
    refine J_goto (tgt := 18) dX11_isCare_14 (by decide) ?_
    exact J_zret dX11_isCare_18 (rt_pi h) rfl rfl
  clear ekk13
  refine J_if_ne (tgt := 13) dX11_isCare_4 (by decide) (fun c2 => ?_) (fun c2 => ?_)
  · replace h := if_some h c2
    exact J_sub [] rfl (K13 h)
  · replace h := it_some h c2
    refine J_iload_n (q := 0) dX11_isCare_7 rfl rfl ?_
    refine J_bipush dX11_isCare_8 bp_9 ?_
    refine J_icmp_ne (tgt := 17) dX11_isCare_10 (by decide) (fun c3 => ?_) (fun c3 => ?_)
    · replace h := if_some h c3
      refine J_iconst dX11_isCare_17 ic_0 ?_
      exact J_zret dX11_isCare_18 (rt_pi h) rfl rfl
    · replace h := it_some h c3
      exact J_sub [] rfl (K13 h)
set_option maxRecDepth 20000 in
set_option maxHeartbeats 4000000 in
theorem kX11_isCare {l : Launch} {D : va_G} {ad : Nat → Nat} {cy : Nat → ClassId} {rv : Int32} {w : CS} {p0 : Int32} (hi : wl_inj (ΓC ad cy)) (h : C_isCare p0 = some rv) : Cn l D (ΓC ad cy) yX11_isCare cX11_isCare 1 (some .boolean) 1 [.int p0] w (some (.int rv), w) :=
  Cn.of hi rfl (Nat.le_of_ble_eq_true rfl) (fun _ _ _ hL => C_isCare_ok hi hL h)
theorem pdX10_arrive : (parseMethodDescriptor yX10_arrive.desc).map (fun d => d.parameters.length) = some 3 := by decide +kernel
theorem kx_X10_64 {E : Ec} {ad : Nat → Nat} {cy : Nat → ClassId} {cc : ByteArray} {nL : Nat} {rt : Option FieldType} {r : Option Value × CS} {pc : Nat} {lv : List (Nat × Value)} {st : List Value} {w : CS} {n : Nat} {p0 : Int32} {v : Int32} (hi : wl_inj (ΓC ad cy)) (hd : decode cc pc = .ok (.invokestatic 64, 3)) (hq : C_isCare p0 = some v) (hL : Lv E n) (hn : 1 + 1 ≤ n) (hW : (st.map fun v => v.category).sum ≤ 8) (k : Jw E (ΓC ad cy) RX10 cc nL rt r (pc + 3) lv (.int v :: st) w) : Jw E (ΓC ad cy) RX10 cc nL rt r pc lv (.int p0 :: st) w :=
  J_callSN (Γ := ΓC ad cy) (av := [.int p0]) (q := (some (.int v), w)) (st := st) hd (kX11_isCare hi hq) rfl (by decide) tw_2_21 tw_1_1 tw_2_22 ⟨by decide, by decide, pdX11_isCare⟩ rfl (by decide) hL hn hW k
set_option maxRecDepth 20000 in
set_option maxHeartbeats 4000000 in
theorem T_arrive_ok {E : Ec} {ad : Nat → Nat} {cy : Nat → ClassId} {rv : (Int32 × Ob)} {σ : CS} {a : Nat} {t : Ob} {p1 : Int32} {p2 : Int32} {p3 : Int32} (hi : wl_inj (ΓC ad cy)) (ha : okT a) (hL : Lv E 2) (h : T_arrive t p1 p2 p3 = some rv) : Jw E (ΓC ad cy) RX10 cX10_arrive 4 (some .boolean) (some (.int rv.1), va_up σ a rv.2) 0 [(0, .ref (ad (8 * a + 2))), (1, .int p1), (2, .int p2), (3, .int p3)] [] (va_up σ a t) := by
  unfold T_arrive at h
  refine J_aload_n (q := 0) dX10_arrive_0 rfl rfl ?_
  refine gT_X10_people dX10_arrive_1 ha vu_at ?_
  refine J_bipush dX10_arrive_4 bp_7 ?_
  refine J_icmp_ge (tgt := 34) dX10_arrive_6 (by decide) (fun c1 => ?_) (fun c1 => ?_)
  · replace h := it_some h c1
    refine J_iconst dX10_arrive_34 ic_0 ?_
    exact J_zret dX10_arrive_35 (rt_fi h) rfl rfl
  · replace h := if_some h c1
    refine J_iload_n (q := 1) dX10_arrive_9 rfl rfl ?_
    refine J_bipush dX10_arrive_10 bp_7 ?_
    obtain ⟨r2, hq15, h⟩ := bd_some h
    refine kx_X10_60 hi dX10_arrive_12 hq15 hL (by decide) (Nat.le_of_ble_eq_true rfl) ?_
    refine J_if_eq (tgt := 34) dX10_arrive_15 (by decide) (fun c3 => ?_) (fun c3 => ?_)
    · replace h := it_some h c3
      refine J_iconst dX10_arrive_34 ic_0 ?_
      exact J_zret dX10_arrive_35 (rt_fi h) rfl rfl
    · replace h := if_some h c3
      refine J_iload_n (q := 2) dX10_arrive_18 rfl rfl ?_
      refine J_bipush dX10_arrive_19 bp_9 ?_
      obtain ⟨r4, hq16, h⟩ := bd_some h
      refine kx_X10_60 hi dX10_arrive_21 hq16 hL (by decide) (Nat.le_of_ble_eq_true rfl) ?_
      refine J_if_eq (tgt := 34) dX10_arrive_24 (by decide) (fun c5 => ?_) (fun c5 => ?_)
      · replace h := it_some h c5
        refine J_iconst dX10_arrive_34 ic_0 ?_
        exact J_zret dX10_arrive_35 (rt_fi h) rfl rfl
      · replace h := if_some h c5
        refine J_iload_n (q := 3) dX10_arrive_27 rfl rfl ?_
        obtain ⟨r6, hq17, h⟩ := bd_some h
        refine kx_X10_64 hi dX10_arrive_28 hq17 hL (by decide) (Nat.le_of_ble_eq_true rfl) ?_
        refine J_if_ne (tgt := 36) dX10_arrive_31 (by decide) (fun c7 => ?_) (fun c7 => ?_)
        · replace h := if_some h c7
          refine J_aload_n (q := 0) dX10_arrive_36 rfl rfl ?_
          refine gT_X10_kind dX10_arrive_37 ha vu_at ?_
          refine J_aload_n (q := 0) dX10_arrive_40 rfl rfl ?_
          refine gT_X10_people dX10_arrive_41 ha vu_at ?_
          refine J_iload_n (q := 1) dX10_arrive_44 rfl rfl ?_
          obtain ⟨hg8, h⟩ := gd_some h
          refine aT_st (w' := va_up σ a (pA t 4 (oS t 1) p1)) (j := 4) (n := 7) dX10_arrive_45 ha vu_at vu_at vu_oth (by decide) rfl hg8 ?_
          refine J_twu (fun t9 et9 => ?_)
          replace h := nm_some et9 h
          refine J_aload_n (q := 0) dX10_arrive_46 rfl rfl ?_
          refine gT_X10_figure dX10_arrive_47 ha vu_at ?_
          refine J_aload_n (q := 0) dX10_arrive_50 rfl rfl ?_
          refine gT_X10_people dX10_arrive_51 ha vu_at ?_
          refine J_iload_n (q := 2) dX10_arrive_54 rfl rfl ?_
          obtain ⟨hg10, h⟩ := gd_some h
          refine aT_st (w' := va_up σ a (pA t9 5 (oS t9 1) p2)) (j := 5) (n := 7) dX10_arrive_55 ha vu_at vu_at vu_oth (by decide) rfl hg10 ?_
          refine J_twu (fun t11 et11 => ?_)
          replace h := nm_some et11 h
          refine J_aload_n (q := 0) dX10_arrive_56 rfl rfl ?_
          refine gT_X10_caresFor dX10_arrive_57 ha vu_at ?_
          refine J_aload_n (q := 0) dX10_arrive_60 rfl rfl ?_
          refine gT_X10_people dX10_arrive_61 ha vu_at ?_
          refine J_iload_n (q := 3) dX10_arrive_64 rfl rfl ?_
          obtain ⟨hg12, h⟩ := gd_some h
          refine aT_st (w' := va_up σ a (pA t11 6 (oS t11 1) p3)) (j := 6) (n := 7) dX10_arrive_65 ha vu_at vu_at vu_oth (by decide) rfl hg12 ?_
          refine J_twu (fun t13 et13 => ?_)
          replace h := nm_some et13 h
          refine J_aload_n (q := 0) dX10_arrive_66 rfl rfl ?_
          refine J_dup dX10_arrive_67 rfl ?_
          refine gT_X10_people dX10_arrive_68 ha vu_at ?_
          refine J_iconst dX10_arrive_71 ic_1 ?_
          refine J_iadd dX10_arrive_72 ?_
          refine pT_X10_people dX10_arrive_73 ha ?_
          refine J_twu (fun t14 et14 => ?_)
          replace h := nm_some et14 h
          refine J_iconst dX10_arrive_76 ic_1 ?_
          exact J_zret dX10_arrive_77 (rt_fi h) rfl rfl
        · replace h := it_some h c7
          refine J_iconst dX10_arrive_34 ic_0 ?_
          exact J_zret dX10_arrive_35 (rt_fi h) rfl rfl
set_option maxRecDepth 20000 in
set_option maxHeartbeats 4000000 in
theorem kX10_arrive {l : Launch} {D : va_G} {ad : Nat → Nat} {cy : Nat → ClassId} {rv : (Int32 × Ob)} {σ : CS} {a : Nat} {t : Ob} {p1 : Int32} {p2 : Int32} {p3 : Int32} (hi : wl_inj (ΓC ad cy)) (ha : okT a) (h : T_arrive t p1 p2 p3 = some rv) : Cn l D (ΓC ad cy) yX10_arrive cX10_arrive 4 (some .boolean) 2 [.ref (ad (8 * a + 2)), .int p1, .int p2, .int p3] (va_up σ a t) (some (.int rv.1), va_up σ a rv.2) :=
  Cn.of hi rfl (Nat.le_of_ble_eq_true rfl) (fun _ _ _ hL => T_arrive_ok hi ha hL h)
theorem pdX10_hasOne : (parseMethodDescriptor yX10_hasOne.desc).map (fun d => d.parameters.length) = some 1 := by decide +kernel
set_option maxRecDepth 20000 in
set_option maxHeartbeats 4000000 in
theorem T_hasOne_ok {E : Ec} {ad : Nat → Nat} {cy : Nat → ClassId} {rv : Int32} {σ : CS} {a : Nat} {t : Ob} {p1 : Int32} (hi : wl_inj (ΓC ad cy)) (ha : okT a) (hL : Lv E 0) (h : T_hasOne t p1 = some rv) : Jw E (ΓC ad cy) RX10 cX10_hasOne 2 (some .boolean) (some (.int rv), va_up σ a t) 0 [(0, .ref (ad (8 * a + 2))), (1, .int p1)] [] (va_up σ a t) := by
  unfold T_hasOne at h
  refine J_iload_n (q := 1) dX10_hasOne_0 rfl rfl ?_
  refine J_if_lt (tgt := 16) dX10_hasOne_1 (by decide) (fun c1 => ?_) (fun c1 => ?_)
  · replace h := it_some h c1
    refine J_iconst dX10_hasOne_16 ic_0 ?_
    exact J_zret dX10_hasOne_17 (rt_pi h) rfl rfl
  · replace h := if_some h c1
    refine J_iload_n (q := 1) dX10_hasOne_4 rfl rfl ?_
    refine J_aload_n (q := 0) dX10_hasOne_5 rfl rfl ?_
    refine gT_X10_people dX10_hasOne_6 ha vu_at ?_
    refine J_icmp_ge (tgt := 16) dX10_hasOne_9 (by decide) (fun c2 => ?_) (fun c2 => ?_)
    · replace h := it_some h c2
      refine J_iconst dX10_hasOne_16 ic_0 ?_
      exact J_zret dX10_hasOne_17 (rt_pi h) rfl rfl
    · replace h := if_some h c2
      refine J_iconst dX10_hasOne_12 ic_1 ?_
      refine J_goto (tgt := 17) dX10_hasOne_13 (by decide) ?_
      exact J_zret dX10_hasOne_17 (rt_pi h) rfl rfl
set_option maxRecDepth 20000 in
set_option maxHeartbeats 4000000 in
theorem kX10_hasOne {l : Launch} {D : va_G} {ad : Nat → Nat} {cy : Nat → ClassId} {rv : Int32} {σ : CS} {a : Nat} {t : Ob} {p1 : Int32} (hi : wl_inj (ΓC ad cy)) (ha : okT a) (h : T_hasOne t p1 = some rv) : Cn l D (ΓC ad cy) yX10_hasOne cX10_hasOne 2 (some .boolean) 0 [.ref (ad (8 * a + 2)), .int p1] (va_up σ a t) (some (.int rv), va_up σ a t) :=
  Cn.of hi rfl (Nat.le_of_ble_eq_true rfl) (fun _ _ _ hL => T_hasOne_ok hi ha hL h)
theorem pdX10_turnFact : (parseMethodDescriptor yX10_turnFact.desc).map (fun d => d.parameters.length) = some 3 := by decide +kernel
theorem kx_X10_67 {E : Ec} {ad : Nat → Nat} {cy : Nat → ClassId} {cc : ByteArray} {nL : Nat} {rt : Option FieldType} {r : Option Value × CS} {pc : Nat} {lv : List (Nat × Value)} {st : List Value} {σ : CS} {n a : Nat} {t : Ob} {p1 : Int32} {v : Int32} (hi : wl_inj (ΓC ad cy)) (ha : okT a) (hd : decode cc pc = .ok (.invokevirtual 67, 3)) (hq : T_hasOne t p1 = some v) (hL : Lv E n) (hn : 0 + 1 ≤ n) (hW : (st.map fun v => v.category).sum ≤ 8) (k : Jw E (ΓC ad cy) RX10 cc nL rt r (pc + 3) lv (.int v :: st) (va_up σ a t)) : Jw E (ΓC ad cy) RX10 cc nL rt r pc lv (.int p1 :: .ref (ad (8 * a + 2)) :: st) (va_up σ a t) := by
  have hM := fun (l : Launch) (D : va_G) => kX10_hasOne (l := l) (D := D) (ad := ad) (cy := cy) (σ := σ) hi ha hq
  exact J_callV (Γ := ΓC ad cy) (h := 8 * a + 2) (ci := 9) (av := [.int p1]) (q := (some (.int v), va_up σ a t)) (st := st) hd (hM _ _) tw_2_28 tw_2_29 tw_1_10 tw_2_31 tw_2_30 ⟨by decide, by decide, pdX10_hasOne⟩ (hT (j := 0) ha (by decide)) (cC_t0 ha vu_at) rfl rfl rfl (by decide) hL hn hW k
set_option maxRecDepth 20000 in
set_option maxHeartbeats 4000000 in
theorem T_turnFact_ok {E : Ec} {ad : Nat → Nat} {cy : Nat → ClassId} {rv : (Int32 × Ob)} {σ : CS} {a : Nat} {t : Ob} {p1 : Int32} {p2 : Int32} {p3 : Int32} (hi : wl_inj (ΓC ad cy)) (ha : okT a) (hL : Lv E 1) (h : T_turnFact t p1 p2 p3 = some rv) : Jw E (ΓC ad cy) RX10 cX10_turnFact 4 (some .boolean) (some (.int rv.1), va_up σ a rv.2) 0 [(0, .ref (ad (8 * a + 2))), (1, .int p1), (2, .int p2), (3, .int p3)] [] (va_up σ a t) := by
  unfold T_turnFact at h
  refine J_aload_n (q := 0) dX10_turnFact_0 rfl rfl ?_
  refine J_iload_n (q := 1) dX10_turnFact_1 rfl rfl ?_
  obtain ⟨r1, hq11, h⟩ := bd_some h
  refine kx_X10_67 hi ha dX10_turnFact_2 hq11 hL (by decide) (Nat.le_of_ble_eq_true rfl) ?_
  refine J_if_eq (tgt := 24) dX10_turnFact_5 (by decide) (fun c2 => ?_) (fun c2 => ?_)
  · replace h := it_some h c2
    refine J_iconst dX10_turnFact_24 ic_0 ?_
    exact J_zret dX10_turnFact_25 (rt_fi h) rfl rfl
  · replace h := if_some h c2
    refine J_iload_n (q := 2) dX10_turnFact_8 rfl rfl ?_
    obtain ⟨r3, hq12, h⟩ := bd_some h
    refine kx_X10_56 hi dX10_turnFact_9 hq12 hL (by decide) (Nat.le_of_ble_eq_true rfl) ?_
    refine J_if_eq (tgt := 24) dX10_turnFact_12 (by decide) (fun c4 => ?_) (fun c4 => ?_)
    · replace h := it_some h c4
      refine J_iconst dX10_turnFact_24 ic_0 ?_
      exact J_zret dX10_turnFact_25 (rt_fi h) rfl rfl
    · replace h := if_some h c4
      refine J_iload_n (q := 3) dX10_turnFact_15 rfl rfl ?_
      refine J_bipush dX10_turnFact_16 bp_11 ?_
      obtain ⟨r5, hq13, h⟩ := bd_some h
      refine kx_X10_60 hi dX10_turnFact_18 hq13 hL (by decide) (Nat.le_of_ble_eq_true rfl) ?_
      refine J_if_ne (tgt := 26) dX10_turnFact_21 (by decide) (fun c6 => ?_) (fun c6 => ?_)
      · replace h := if_some h c6
        refine J_aload_n (q := 0) dX10_turnFact_26 rfl rfl ?_
        refine gT_X10_knows dX10_turnFact_27 ha vu_at ?_
        refine J_iload_n (q := 1) dX10_turnFact_30 rfl rfl ?_
        refine J_iconst dX10_turnFact_31 ic_5 ?_
        refine J_imul dX10_turnFact_32 ?_
        refine J_iload_n (q := 2) dX10_turnFact_33 rfl rfl ?_
        refine J_iadd dX10_turnFact_34 ?_
        refine J_ti (fun v7 ev7 => ?_)
        replace h := nm_some ev7 h
        refine J_dup2 dX10_turnFact_35 rfl rfl ?_
        obtain ⟨hg8, h⟩ := gd_some h
        refine aT_ld (j := 7) (n := 35) dX10_turnFact_36 ha vu_at (by decide) rfl hg8 ?_
        refine J_iconst dX10_turnFact_37 ic_1 ?_
        refine J_iload_n (q := 3) dX10_turnFact_38 rfl rfl ?_
        refine J_ishl dX10_turnFact_39 ?_
        refine J_ixor dX10_turnFact_40 ?_
        obtain ⟨hg9, h⟩ := gd_some h
        refine aT_st (w' := va_up σ a (pA t 7 v7 ((ix (oA t 7) v7) ^^^ (shl32 (1 : Int32) p3)))) (j := 7) (n := 35) dX10_turnFact_41 ha vu_at vu_at vu_oth (by decide) rfl hg9 ?_
        refine J_twu (fun t10 et10 => ?_)
        replace h := nm_some et10 h
        refine J_iconst dX10_turnFact_42 ic_1 ?_
        exact J_zret dX10_turnFact_43 (rt_fi h) rfl rfl
      · replace h := it_some h c6
        refine J_iconst dX10_turnFact_24 ic_0 ?_
        exact J_zret dX10_turnFact_25 (rt_fi h) rfl rfl
set_option maxRecDepth 20000 in
set_option maxHeartbeats 4000000 in
theorem kX10_turnFact {l : Launch} {D : va_G} {ad : Nat → Nat} {cy : Nat → ClassId} {rv : (Int32 × Ob)} {σ : CS} {a : Nat} {t : Ob} {p1 : Int32} {p2 : Int32} {p3 : Int32} (hi : wl_inj (ΓC ad cy)) (ha : okT a) (h : T_turnFact t p1 p2 p3 = some rv) : Cn l D (ΓC ad cy) yX10_turnFact cX10_turnFact 4 (some .boolean) 1 [.ref (ad (8 * a + 2)), .int p1, .int p2, .int p3] (va_up σ a t) (some (.int rv.1), va_up σ a rv.2) :=
  Cn.of hi rfl (Nat.le_of_ble_eq_true rfl) (fun _ _ _ hL => T_turnFact_ok hi ha hL h)
theorem pdX10_handOver : (parseMethodDescriptor yX10_handOver.desc).map (fun d => d.parameters.length) = some 2 := by decide +kernel
set_option maxRecDepth 20000 in
set_option maxHeartbeats 4000000 in
theorem T_handOver_ok {E : Ec} {ad : Nat → Nat} {cy : Nat → ClassId} {rv : (Int32 × Ob)} {σ : CS} {a : Nat} {t : Ob} {p1 : Int32} {p2 : Int32} (hi : wl_inj (ΓC ad cy)) (ha : okT a) (hL : Lv E 1) (h : T_handOver t p1 p2 = some rv) : Jw E (ΓC ad cy) RX10 cX10_handOver 3 (some .boolean) (some (.int rv.1), va_up σ a rv.2) 0 [(0, .ref (ad (8 * a + 2))), (1, .int p1), (2, .int p2)] [] (va_up σ a t) := by
  unfold T_handOver at h
  refine J_iload_n (q := 1) dX10_handOver_0 rfl rfl ?_
  obtain ⟨r1, hq8, h⟩ := bd_some h
  refine kx_X10_56 hi dX10_handOver_1 hq8 hL (by decide) (Nat.le_of_ble_eq_true rfl) ?_
  refine J_if_eq (tgt := 21) dX10_handOver_4 (by decide) (fun c2 => ?_) (fun c2 => ?_)
  · replace h := it_some h c2
    refine J_iconst dX10_handOver_21 ic_0 ?_
    exact J_zret dX10_handOver_22 (rt_fi h) rfl rfl
  · replace h := if_some h c2
    refine J_aload_n (q := 0) dX10_handOver_7 rfl rfl ?_
    refine J_iload_n (q := 2) dX10_handOver_8 rfl rfl ?_
    obtain ⟨r3, hq9, h⟩ := bd_some h
    refine kx_X10_67 hi ha dX10_handOver_9 hq9 hL (by decide) (Nat.le_of_ble_eq_true rfl) ?_
    obtain ⟨kk23, ekk23, h⟩ := jn_some h
    have K23 : kk23 = some rv → Jw E (ΓC ad cy) RX10 cX10_handOver 3 (some .boolean) (some (.int rv.1), va_up σ a rv.2) 23 [(0, .ref (ad (8 * a + 2))), (1, .int p1), (2, .int p2)] [] (va_up σ a t) := by
      subst ekk23
      clear h
      intro h
      refine J_aload_n (q := 0) dX10_handOver_23 rfl rfl ?_
      refine gT_X10_owner dX10_handOver_24 ha vu_at ?_
      refine J_iload_n (q := 1) dX10_handOver_27 rfl rfl ?_
      refine J_iload_n (q := 2) dX10_handOver_28 rfl rfl ?_
      obtain ⟨hg6, h⟩ := gd_some h
      refine aT_st (w' := va_up σ a (pA t 3 p1 p2)) (j := 3) (n := 5) dX10_handOver_29 ha vu_at vu_at vu_oth (by decide) rfl hg6 ?_
      refine J_twu (fun t7 et7 => ?_)
      replace h := nm_some et7 h
      refine J_iconst dX10_handOver_30 ic_1 ?_
      exact J_zret dX10_handOver_31 (rt_fi h) rfl rfl
    clear ekk23
    refine J_if_ne (tgt := 23) dX10_handOver_12 (by decide) (fun c4 => ?_) (fun c4 => ?_)
    · replace h := if_some h c4
      exact J_sub [0, 1, 2] rfl (K23 h)
    · replace h := it_some h c4
      refine J_iload_n (q := 2) dX10_handOver_15 rfl rfl ?_
      refine J_bipush dX10_handOver_16 bp_9 ?_
      refine J_icmp_eq (tgt := 23) dX10_handOver_18 (by decide) (fun c5 => ?_) (fun c5 => ?_)
      · replace h := it_some h c5
        exact J_sub [0, 1, 2] rfl (K23 h)
      · replace h := if_some h c5
        refine J_iconst dX10_handOver_21 ic_0 ?_
        exact J_zret dX10_handOver_22 (rt_fi h) rfl rfl
set_option maxRecDepth 20000 in
set_option maxHeartbeats 4000000 in
theorem kX10_handOver {l : Launch} {D : va_G} {ad : Nat → Nat} {cy : Nat → ClassId} {rv : (Int32 × Ob)} {σ : CS} {a : Nat} {t : Ob} {p1 : Int32} {p2 : Int32} (hi : wl_inj (ΓC ad cy)) (ha : okT a) (h : T_handOver t p1 p2 = some rv) : Cn l D (ΓC ad cy) yX10_handOver cX10_handOver 3 (some .boolean) 1 [.ref (ad (8 * a + 2)), .int p1, .int p2] (va_up σ a t) (some (.int rv.1), va_up σ a rv.2) :=
  Cn.of hi rfl (Nat.le_of_ble_eq_true rfl) (fun _ _ _ hL => T_handOver_ok hi ha hL h)
theorem pdX10_turnTo : (parseMethodDescriptor yX10_turnTo.desc).map (fun d => d.parameters.length) = some 2 := by decide +kernel
set_option maxRecDepth 20000 in
set_option maxHeartbeats 4000000 in
theorem T_turnTo_ok {E : Ec} {ad : Nat → Nat} {cy : Nat → ClassId} {rv : (Int32 × Ob)} {σ : CS} {a : Nat} {t : Ob} {p1 : Int32} {p2 : Int32} (hi : wl_inj (ΓC ad cy)) (ha : okT a) (hL : Lv E 2) (h : T_turnTo t p1 p2 = some rv) : Jw E (ΓC ad cy) RX10 cX10_turnTo 3 (some .boolean) (some (.int rv.1), va_up σ a rv.2) 0 [(0, .ref (ad (8 * a + 2))), (1, .int p1), (2, .int p2)] [] (va_up σ a t) := by
  unfold T_turnTo at h
  refine J_aload_n (q := 0) dX10_turnTo_0 rfl rfl ?_
  refine J_iload_n (q := 1) dX10_turnTo_1 rfl rfl ?_
  obtain ⟨r1, hq7, h⟩ := bd_some h
  refine kx_X10_67 hi ha dX10_turnTo_2 hq7 hL (by decide) (Nat.le_of_ble_eq_true rfl) ?_
  refine J_if_eq (tgt := 15) dX10_turnTo_5 (by decide) (fun c2 => ?_) (fun c2 => ?_)
  · replace h := it_some h c2
    refine J_iconst dX10_turnTo_15 ic_0 ?_
    exact J_zret dX10_turnTo_16 (rt_fi h) rfl rfl
  · replace h := if_some h c2
    refine J_iload_n (q := 2) dX10_turnTo_8 rfl rfl ?_
    obtain ⟨r3, hq8, h⟩ := bd_some h
    refine kx_X10_64 hi dX10_turnTo_9 hq8 hL (by decide) (Nat.le_of_ble_eq_true rfl) ?_
    refine J_if_ne (tgt := 17) dX10_turnTo_12 (by decide) (fun c4 => ?_) (fun c4 => ?_)
    · replace h := if_some h c4
      refine J_aload_n (q := 0) dX10_turnTo_17 rfl rfl ?_
      refine gT_X10_caresFor dX10_turnTo_18 ha vu_at ?_
      refine J_iload_n (q := 1) dX10_turnTo_21 rfl rfl ?_
      refine J_iload_n (q := 2) dX10_turnTo_22 rfl rfl ?_
      obtain ⟨hg5, h⟩ := gd_some h
      refine aT_st (w' := va_up σ a (pA t 6 p1 p2)) (j := 6) (n := 7) dX10_turnTo_23 ha vu_at vu_at vu_oth (by decide) rfl hg5 ?_
      refine J_twu (fun t6 et6 => ?_)
      replace h := nm_some et6 h
      refine J_iconst dX10_turnTo_24 ic_1 ?_
      exact J_zret dX10_turnTo_25 (rt_fi h) rfl rfl
    · replace h := it_some h c4
      refine J_iconst dX10_turnTo_15 ic_0 ?_
      exact J_zret dX10_turnTo_16 (rt_fi h) rfl rfl
set_option maxRecDepth 20000 in
set_option maxHeartbeats 4000000 in
theorem kX10_turnTo {l : Launch} {D : va_G} {ad : Nat → Nat} {cy : Nat → ClassId} {rv : (Int32 × Ob)} {σ : CS} {a : Nat} {t : Ob} {p1 : Int32} {p2 : Int32} (hi : wl_inj (ΓC ad cy)) (ha : okT a) (h : T_turnTo t p1 p2 = some rv) : Cn l D (ΓC ad cy) yX10_turnTo cX10_turnTo 3 (some .boolean) 2 [.ref (ad (8 * a + 2)), .int p1, .int p2] (va_up σ a t) (some (.int rv.1), va_up σ a rv.2) :=
  Cn.of hi rfl (Nat.le_of_ble_eq_true rfl) (fun _ _ _ hL => T_turnTo_ok hi ha hL h)
theorem pdX10_lessons : (parseMethodDescriptor yX10_lessons.desc).map (fun d => d.parameters.length) = some 2 := by decide +kernel
theorem kx_X10_83 {E : Ec} {ad : Nat → Nat} {cy : Nat → ClassId} {cc : ByteArray} {nL : Nat} {rt : Option FieldType} {r : Option Value × CS} {pc : Nat} {lv : List (Nat × Value)} {st : List Value} {w : CS} {n : Nat} {kd : Int32} {p1 : Int32} {p2 : Int32} {p3 : Int32} {v : Int32} (hi : wl_inj (ΓC ad cy)) (hk : inb kd 8 = true) (hd : decode cc pc = .ok (.invokevirtual 83, 3)) (hq : KD_lessons kd p1 p2 p3 = some v) (hL : Lv E n) (hn : 1 + 1 ≤ n) (hW : (st.map fun v => v.category).sum ≤ 8) (k : Jw E (ΓC ad cy) RX10 cc nL rt r (pc + 3) lv (.int v :: st) w) : Jw E (ΓC ad cy) RX10 cc nL rt r pc lv (.int p3 :: .int p2 :: .int p1 :: .ref (ad (2 + kd.toNatClampNeg)) :: st) w := by
  rcases k8 hk with rfl | rfl | rfl | rfl | rfl | rfl | rfl | rfl
  · exact J_callU (Γ := ΓC ad cy) (h := 2 + 0) (ci := 3) (C := RX3) (x := yX3_lessons) (av := [.int p1, .int p2, .int p3]) (q := (some (.int v), w)) (st := st) hd (kX3_lessons (kx := 0) hi (by decide) hq) tw_2_56 tw_2_59 tw_2_57 tw_2_80 tw_2_57 tw_1_2 tw_2_80 tw_2_58 ⟨by decide, by decide, pdX3_lessons⟩ (by show 2 + 0 < 111; decide) rfl rfl rfl rfl (by decide) hL (Nat.le_trans (by decide) hn) hW k
  · exact J_callU (Γ := ΓC ad cy) (h := 2 + 1) (ci := 4) (C := RX4) (x := yX3_lessons) (av := [.int p1, .int p2, .int p3]) (q := (some (.int v), w)) (st := st) hd (kX4_lessons (kx := 1) hi (by decide) hq) tw_2_56 tw_2_59 tw_2_57 tw_2_80 tw_2_64 tw_1_3 tw_2_65 tw_2_70 ⟨by decide, by decide, pdX3_lessons⟩ (by show 2 + 1 < 111; decide) rfl rfl rfl rfl (by decide) hL (Nat.le_trans (by decide) hn) hW k
  · exact J_callU (Γ := ΓC ad cy) (h := 2 + 2) (ci := 2) (C := RX2) (x := yX3_lessons) (av := [.int p1, .int p2, .int p3]) (q := (some (.int v), w)) (st := st) hd (kX2_lessons (kx := 2) hi (by decide) hq) tw_2_56 tw_2_59 tw_2_57 tw_2_80 tw_2_67 tw_1_4 tw_2_68 tw_2_66 ⟨by decide, by decide, pdX3_lessons⟩ (by show 2 + 2 < 111; decide) rfl rfl rfl rfl (by decide) hL (Nat.le_trans (by decide) hn) hW k
  · exact J_callU (Γ := ΓC ad cy) (h := 2 + 3) (ci := 6) (C := RX6) (x := yX3_lessons) (av := [.int p1, .int p2, .int p3]) (q := (some (.int v), w)) (st := st) hd (kX6_lessons (kx := 3) hi (by decide) hq) tw_2_56 tw_2_59 tw_2_57 tw_2_80 tw_2_75 tw_1_5 tw_2_76 tw_2_74 ⟨by decide, by decide, pdX3_lessons⟩ (by show 2 + 3 < 111; decide) rfl rfl rfl rfl (by decide) hL (Nat.le_trans (by decide) hn) hW k
  · exact J_callU (Γ := ΓC ad cy) (h := 2 + 4) (ci := 1) (C := RX1) (x := yX3_lessons) (av := [.int p1, .int p2, .int p3]) (q := (some (.int v), w)) (st := st) hd (kX4_lessons (kx := 4) hi (by decide) hq) tw_2_56 tw_2_59 tw_2_57 tw_2_80 tw_2_64 tw_1_3 tw_2_65 tw_2_63 ⟨by decide, by decide, pdX3_lessons⟩ (by show 2 + 4 < 111; decide) rfl rfl rfl rfl (by decide) hL (Nat.le_trans (by decide) hn) hW k
  · exact J_callU (Γ := ΓC ad cy) (h := 2 + 5) (ci := 5) (C := RX5) (x := yX3_lessons) (av := [.int p1, .int p2, .int p3]) (q := (some (.int v), w)) (st := st) hd (kX5_lessons (kx := 5) hi (by decide) hq) tw_2_56 tw_2_59 tw_2_57 tw_2_80 tw_2_72 tw_1_7 tw_2_73 tw_2_71 ⟨by decide, by decide, pdX3_lessons⟩ (by show 2 + 5 < 111; decide) rfl rfl rfl rfl (by decide) hL (Nat.le_trans (by decide) hn) hW k
  · exact J_callU (Γ := ΓC ad cy) (h := 2 + 6) (ci := 0) (C := RX0) (x := yX3_lessons) (av := [.int p1, .int p2, .int p3]) (q := (some (.int v), w)) (st := st) hd (kX0_lessons (kx := 6) hi (by decide) hq) tw_2_56 tw_2_59 tw_2_57 tw_2_80 tw_2_61 tw_1_8 tw_2_62 tw_2_60 ⟨by decide, by decide, pdX3_lessons⟩ (by show 2 + 6 < 111; decide) rfl rfl rfl rfl (by decide) hL (Nat.le_trans (by decide) hn) hW k
  · exact J_callU (Γ := ΓC ad cy) (h := 2 + 7) (ci := 8) (C := RX8) (x := yX3_lessons) (av := [.int p1, .int p2, .int p3]) (q := (some (.int v), w)) (st := st) hd (kX8_lessons (kx := 7) hi (by decide) hq) tw_2_56 tw_2_59 tw_2_57 tw_2_80 tw_2_78 tw_1_9 tw_2_79 tw_2_77 ⟨by decide, by decide, pdX3_lessons⟩ (by show 2 + 7 < 111; decide) rfl rfl rfl rfl (by decide) hL (Nat.le_trans (by decide) hn) hW k
set_option maxRecDepth 20000 in
set_option maxHeartbeats 4000000 in
theorem T_lessons_ok {E : Ec} {ad : Nat → Nat} {cy : Nat → ClassId} {rv : Int32} {σ : CS} {a : Nat} {t : Ob} {p1 : Int32} {p2 : Int32} (hi : wl_inj (ΓC ad cy)) (ha : okT a) (hL : Lv E 2) (h : T_lessons t p1 p2 = some rv) : Jw E (ΓC ad cy) RX10 cX10_lessons 4 (some .int) (some (.int rv), va_up σ a t) 0 [(0, .ref (ad (8 * a + 2))), (1, .int p1), (2, .int p2)] [] (va_up σ a t) := by
  unfold T_lessons at h
  refine J_aload_n (q := 0) dX10_lessons_0 rfl rfl ?_
  refine gT_X10_caresFor dX10_lessons_1 ha vu_at ?_
  refine J_iload_n (q := 1) dX10_lessons_4 rfl rfl ?_
  obtain ⟨hg1, h⟩ := gd_some h
  refine aT_ld (j := 6) (n := 7) dX10_lessons_5 ha vu_at (by decide) rfl hg1 ?_
  refine J_ti (fun v2 ev2 => ?_)
  replace h := nm_some ev2 h
  refine J_istore_n (lv' := [(3, .int v2), (0, .ref (ad (8 * a + 2))), (1, .int p1), (2, .int p2)]) dX10_lessons_6 rfl (by decide) rfl ?_
  refine J_iload_n (q := 0) dX10_lessons_7 rfl rfl ?_
  obtain ⟨r3, hq12, h⟩ := bd_some h
  refine kx_X10_56 hi dX10_lessons_8 hq12 hL (by decide) (Nat.le_of_ble_eq_true rfl) ?_
  refine J_if_eq (tgt := 53) dX10_lessons_11 (by decide) (fun c4 => ?_) (fun c4 => ?_)
  · replace h := it_some h c4
    refine J_iconst dX10_lessons_53 ic_0 ?_
    exact J_iret dX10_lessons_54 (rt_pi h) rfl
  · replace h := if_some h c4
    refine J_aload_n (q := 1) dX10_lessons_14 rfl rfl ?_
    refine gT_X10_kinds dX10_lessons_15 ha vu_at ?_
    refine J_aload_n (q := 1) dX10_lessons_18 rfl rfl ?_
    refine gT_X10_kind dX10_lessons_19 ha vu_at ?_
    refine J_iload_n (q := 2) dX10_lessons_22 rfl rfl ?_
    obtain ⟨hg5, h⟩ := gd_some h
    refine aT_ld (j := 4) (n := 7) dX10_lessons_23 ha vu_at (by decide) rfl hg5 ?_
    obtain ⟨hg6, h⟩ := gd_some h
    refine aK_ld dX10_lessons_24 hg6 ?_
    refine J_aload_n (q := 1) dX10_lessons_25 rfl rfl ?_
    refine gT_X10_figure dX10_lessons_26 ha vu_at ?_
    refine J_iload_n (q := 2) dX10_lessons_29 rfl rfl ?_
    obtain ⟨hg7, h⟩ := gd_some h
    refine aT_ld (j := 5) (n := 7) dX10_lessons_30 ha vu_at (by decide) rfl hg7 ?_
    refine J_iload_n (q := 3) dX10_lessons_31 rfl rfl ?_
    refine J_aload_n (q := 1) dX10_lessons_32 rfl rfl ?_
    refine gT_X10_owner dX10_lessons_33 ha vu_at ?_
    refine J_iload_n (q := 0) dX10_lessons_36 rfl rfl ?_
    obtain ⟨hg8, h⟩ := gd_some h
    refine aT_ld (j := 3) (n := 5) dX10_lessons_37 ha vu_at (by decide) rfl hg8 ?_
    refine J_iload_n (q := 2) dX10_lessons_38 rfl rfl ?_
    obtain ⟨s10, ha47, h⟩ := bd_some h
    have K47 : Jw E (ΓC ad cy) RX10 cX10_lessons 4 (some .int) (some (.int rv), va_up σ a t) 47 [] [.int s10, .int p2, .int (ix (oA t 5) p1), .ref (ad (2 + (ix (oA t 4) p1).toNatClampNeg))] (va_up σ a t) := by
      clear ha47
      obtain ⟨r11, hq13, h⟩ := bd_some h
      refine kx_X10_83 hi hg6 dX10_lessons_47 hq13 hL (by decide) (Nat.le_of_ble_eq_true rfl) ?_
      refine J_goto (tgt := 54) dX10_lessons_50 (by decide) ?_
      exact J_iret dX10_lessons_54 (rt_pi h) rfl
    clear h
    refine J_icmp_ne (tgt := 46) dX10_lessons_39 (by decide) (fun c9 => ?_) (fun c9 => ?_)
    · replace ha47 := if_some ha47 c9
      refine J_iconst dX10_lessons_46 ic_0 ?_
      cases ha47
      exact J_sub [] rfl (K47)
    · replace ha47 := it_some ha47 c9
      refine J_iconst dX10_lessons_42 ic_1 ?_
      refine J_goto (tgt := 47) dX10_lessons_43 (by decide) ?_
      cases ha47
      exact J_sub [] rfl (K47)
set_option maxRecDepth 20000 in
set_option maxHeartbeats 4000000 in
theorem kX10_lessons {l : Launch} {D : va_G} {ad : Nat → Nat} {cy : Nat → ClassId} {rv : Int32} {σ : CS} {a : Nat} {t : Ob} {p1 : Int32} {p2 : Int32} (hi : wl_inj (ΓC ad cy)) (ha : okT a) (h : T_lessons t p1 p2 = some rv) : Cn l D (ΓC ad cy) yX10_lessons cX10_lessons 4 (some .int) 2 [.ref (ad (8 * a + 2)), .int p1, .int p2] (va_up σ a t) (some (.int rv), va_up σ a t) :=
  Cn.of hi rfl (Nat.le_of_ble_eq_true rfl) (fun _ _ _ hL => T_lessons_ok hi ha hL h)
theorem pdX10_study : (parseMethodDescriptor yX10_study.desc).map (fun d => d.parameters.length) = some 1 := by decide +kernel
theorem kx_X10_109 {E : Ec} {ad : Nat → Nat} {cy : Nat → ClassId} {cc : ByteArray} {nL : Nat} {rt : Option FieldType} {r : Option Value × CS} {pc : Nat} {lv : List (Nat × Value)} {st : List Value} {σ : CS} {n a : Nat} {t : Ob} {p1 : Int32} {p2 : Int32} {v : Int32} (hi : wl_inj (ΓC ad cy)) (ha : okT a) (hd : decode cc pc = .ok (.invokevirtual 109, 3)) (hq : T_lessons t p1 p2 = some v) (hL : Lv E n) (hn : 2 + 1 ≤ n) (hW : (st.map fun v => v.category).sum ≤ 8) (k : Jw E (ΓC ad cy) RX10 cc nL rt r (pc + 3) lv (.int v :: st) (va_up σ a t)) : Jw E (ΓC ad cy) RX10 cc nL rt r pc lv (.int p2 :: .int p1 :: .ref (ad (8 * a + 2)) :: st) (va_up σ a t) := by
  have hM := fun (l : Launch) (D : va_G) => kX10_lessons (l := l) (D := D) (ad := ad) (cy := cy) (σ := σ) hi ha hq
  exact J_callV (Γ := ΓC ad cy) (h := 8 * a + 2) (ci := 9) (av := [.int p1, .int p2]) (q := (some (.int v), va_up σ a t)) (st := st) hd (hM _ _) tw_2_52 tw_2_53 tw_1_10 tw_2_55 tw_2_54 ⟨by decide, by decide, pdX10_lessons⟩ (hT (j := 0) ha (by decide)) (cC_t0 ha vu_at) rfl rfl rfl (by decide) hL hn hW k
theorem kx_X10_112 {E : Ec} {ad : Nat → Nat} {cy : Nat → ClassId} {cc : ByteArray} {nL : Nat} {rt : Option FieldType} {r : Option Value × CS} {pc : Nat} {lv : List (Nat × Value)} {st : List Value} {w : CS} {n : Nat} {kd : Int32} {p1 : Int32} {p2 : Int32} {v : Int32} (hi : wl_inj (ΓC ad cy)) (hk : inb kd 8 = true) (hd : decode cc pc = .ok (.invokevirtual 112, 3)) (hq : KD_nextFact kd p1 p2 = some v) (hL : Lv E n) (hn : 1 + 1 ≤ n) (hW : (st.map fun v => v.category).sum ≤ 8) (k : Jw E (ΓC ad cy) RX10 cc nL rt r (pc + 3) lv (.int v :: st) w) : Jw E (ΓC ad cy) RX10 cc nL rt r pc lv (.int p2 :: .int p1 :: .ref (ad (2 + kd.toNatClampNeg)) :: st) w := by
  rcases k8 hk with rfl | rfl | rfl | rfl | rfl | rfl | rfl | rfl
  · exact J_callU (Γ := ΓC ad cy) (h := 2 + 0) (ci := 3) (C := RX3) (x := yX3_nextFact) (av := [.int p1, .int p2]) (q := (some (.int v), w)) (st := st) hd (kX3_nextFact (kx := 0) hi (by decide) hq) tw_2_81 tw_2_84 tw_2_82 tw_2_95 tw_2_82 tw_1_2 tw_2_95 tw_2_83 ⟨by decide, by decide, pdX3_nextFact⟩ (by show 2 + 0 < 111; decide) rfl rfl rfl rfl (by decide) hL (Nat.le_trans (by decide) hn) hW k
  · exact J_callU (Γ := ΓC ad cy) (h := 2 + 1) (ci := 4) (C := RX4) (x := yX3_nextFact) (av := [.int p1, .int p2]) (q := (some (.int v), w)) (st := st) hd (kX3_nextFact (kx := 1) hi (by decide) hq) tw_2_81 tw_2_84 tw_2_82 tw_2_95 tw_2_82 tw_1_2 tw_2_95 tw_2_91 ⟨by decide, by decide, pdX3_nextFact⟩ (by show 2 + 1 < 111; decide) rfl rfl rfl rfl (by decide) hL (Nat.le_trans (by decide) hn) hW k
  · exact J_callU (Γ := ΓC ad cy) (h := 2 + 2) (ci := 2) (C := RX2) (x := yX3_nextFact) (av := [.int p1, .int p2]) (q := (some (.int v), w)) (st := st) hd (kX2_nextFact (kx := 2) hi (by decide) hq) tw_2_81 tw_2_84 tw_2_82 tw_2_95 tw_2_88 tw_1_4 tw_2_89 tw_2_87 ⟨by decide, by decide, pdX3_nextFact⟩ (by show 2 + 2 < 111; decide) rfl rfl rfl rfl (by decide) hL (Nat.le_trans (by decide) hn) hW k
  · exact J_callU (Γ := ΓC ad cy) (h := 2 + 3) (ci := 6) (C := RX6) (x := yX3_nextFact) (av := [.int p1, .int p2]) (q := (some (.int v), w)) (st := st) hd (kX3_nextFact (kx := 3) hi (by decide) hq) tw_2_81 tw_2_84 tw_2_82 tw_2_95 tw_2_82 tw_1_2 tw_2_95 tw_2_93 ⟨by decide, by decide, pdX3_nextFact⟩ (by show 2 + 3 < 111; decide) rfl rfl rfl rfl (by decide) hL (Nat.le_trans (by decide) hn) hW k
  · exact J_callU (Γ := ΓC ad cy) (h := 2 + 4) (ci := 1) (C := RX1) (x := yX3_nextFact) (av := [.int p1, .int p2]) (q := (some (.int v), w)) (st := st) hd (kX3_nextFact (kx := 4) hi (by decide) hq) tw_2_81 tw_2_84 tw_2_82 tw_2_95 tw_2_82 tw_1_2 tw_2_95 tw_2_86 ⟨by decide, by decide, pdX3_nextFact⟩ (by show 2 + 4 < 111; decide) rfl rfl rfl rfl (by decide) hL (Nat.le_trans (by decide) hn) hW k
  · exact J_callU (Γ := ΓC ad cy) (h := 2 + 5) (ci := 5) (C := RX5) (x := yX3_nextFact) (av := [.int p1, .int p2]) (q := (some (.int v), w)) (st := st) hd (kX2_nextFact (kx := 5) hi (by decide) hq) tw_2_81 tw_2_84 tw_2_82 tw_2_95 tw_2_88 tw_1_4 tw_2_89 tw_2_92 ⟨by decide, by decide, pdX3_nextFact⟩ (by show 2 + 5 < 111; decide) rfl rfl rfl rfl (by decide) hL (Nat.le_trans (by decide) hn) hW k
  · exact J_callU (Γ := ΓC ad cy) (h := 2 + 6) (ci := 0) (C := RX0) (x := yX3_nextFact) (av := [.int p1, .int p2]) (q := (some (.int v), w)) (st := st) hd (kX3_nextFact (kx := 6) hi (by decide) hq) tw_2_81 tw_2_84 tw_2_82 tw_2_95 tw_2_82 tw_1_2 tw_2_95 tw_2_85 ⟨by decide, by decide, pdX3_nextFact⟩ (by show 2 + 6 < 111; decide) rfl rfl rfl rfl (by decide) hL (Nat.le_trans (by decide) hn) hW k
  · exact J_callU (Γ := ΓC ad cy) (h := 2 + 7) (ci := 8) (C := RX8) (x := yX3_nextFact) (av := [.int p1, .int p2]) (q := (some (.int v), w)) (st := st) hd (kX3_nextFact (kx := 7) hi (by decide) hq) tw_2_81 tw_2_84 tw_2_82 tw_2_95 tw_2_82 tw_1_2 tw_2_95 tw_2_94 ⟨by decide, by decide, pdX3_nextFact⟩ (by show 2 + 7 < 111; decide) rfl rfl rfl rfl (by decide) hL (Nat.le_trans (by decide) hn) hW k
set_option maxRecDepth 20000 in
set_option maxHeartbeats 4000000 in
theorem T_study_L20_ok {E : Ec} {ad : Nat → Nat} {cy : Nat → ClassId} {rv : Ob} {σ : CS} {a : Nat} {a1 : Int32} {a2 : Int32} {a3 : Int32} (hi : wl_inj (ΓC ad cy)) (ha : okT a) (hL : Lv E 3) : ∀ (n : Nat) (t : Ob) (x4 : Int32), T_study_L20 a1 a2 a3 n t x4 = some rv → Jw E (ΓC ad cy) RX10 cX10_study 5 none (none, va_up σ a rv) 20 [(0, .ref (ad (8 * a + 2))), (1, .int a1), (2, .int a2), (3, .int a3), (4, .int x4)] [] (va_up σ a t) := by
  intro n
  induction n with
  | zero =>
    intro t x4 h
    rw [T_study_L20] at h
    cases h
  | succ n ih =>
    intro t x4 h
    rw [T_study_L20] at h
    refine J_iload (q := 4) dX10_study_20 rfl ?_
    refine J_iload_n (q := 3) dX10_study_22 rfl rfl ?_
    refine J_icmp_ge (tgt := 75) dX10_study_23 (by decide) (fun c4 => ?_) (fun c4 => ?_)
    · replace h := it_some h c4
      exact J_vret dX10_study_75 (rt_fv h) rfl
    · replace h := if_some h c4
      refine J_aload_n (q := 0) dX10_study_26 rfl rfl ?_
      refine gT_X10_knows dX10_study_27 ha vu_at ?_
      refine J_iload_n (q := 1) dX10_study_30 rfl rfl ?_
      refine J_iconst dX10_study_31 ic_5 ?_
      refine J_imul dX10_study_32 ?_
      refine J_iload_n (q := 2) dX10_study_33 rfl rfl ?_
      refine J_iadd dX10_study_34 ?_
      refine J_ti (fun v5 ev5 => ?_)
      replace h := nm_some ev5 h
      refine J_dup2 dX10_study_35 rfl rfl ?_
      obtain ⟨hg6, h⟩ := gd_some h
      refine aT_ld (j := 7) (n := 35) dX10_study_36 ha vu_at (by decide) rfl hg6 ?_
      refine J_aload_n (q := 0) dX10_study_37 rfl rfl ?_
      refine gT_X10_kinds dX10_study_38 ha vu_at ?_
      refine J_aload_n (q := 0) dX10_study_41 rfl rfl ?_
      refine gT_X10_kind dX10_study_42 ha vu_at ?_
      refine J_iload_n (q := 1) dX10_study_45 rfl rfl ?_
      obtain ⟨hg7, h⟩ := gd_some h
      refine aT_ld (j := 4) (n := 7) dX10_study_46 ha vu_at (by decide) rfl hg7 ?_
      obtain ⟨hg8, h⟩ := gd_some h
      refine aK_ld dX10_study_47 hg8 ?_
      refine J_aload_n (q := 0) dX10_study_48 rfl rfl ?_
      refine gT_X10_truth dX10_study_49 ha vu_at ?_
      refine J_iload_n (q := 2) dX10_study_52 rfl rfl ?_
      obtain ⟨hg9, h⟩ := gd_some h
      refine aT_ld (j := 1) (n := 5) dX10_study_53 ha vu_at (by decide) rfl hg9 ?_
      refine J_aload_n (q := 0) dX10_study_54 rfl rfl ?_
      refine gT_X10_knows dX10_study_55 ha vu_at ?_
      refine J_iload_n (q := 1) dX10_study_58 rfl rfl ?_
      refine J_iconst dX10_study_59 ic_5 ?_
      refine J_imul dX10_study_60 ?_
      refine J_iload_n (q := 2) dX10_study_61 rfl rfl ?_
      refine J_iadd dX10_study_62 ?_
      obtain ⟨hg10, h⟩ := gd_some h
      refine aT_ld (j := 7) (n := 35) dX10_study_63 ha vu_at (by decide) rfl hg10 ?_
      obtain ⟨r11, hq15, h⟩ := bd_some h
      refine kx_X10_112 hi hg8 dX10_study_64 hq15 hL (by decide) (Nat.le_of_ble_eq_true rfl) ?_
      refine J_ior dX10_study_67 ?_
      obtain ⟨hg12, h⟩ := gd_some h
      refine aT_st (w' := va_up σ a (pA t 7 v5 ((ix (oA t 7) v5) ||| r11))) (j := 7) (n := 35) dX10_study_68 ha vu_at vu_at vu_oth (by decide) rfl hg12 ?_
      refine J_twu (fun t13 et13 => ?_)
      replace h := nm_some et13 h
      refine J_iinc (q := 4) (v := (x4 + (1 : Int32))) (lv' := [(4, .int (x4 + (1 : Int32))), (0, .ref (ad (8 * a + 2))), (1, .int a1), (2, .int a2), (3, .int a3)]) dX10_study_69 rfl (congrArg (fun z => x4 + z) ic_1) (by decide) rfl ?_
      refine J_tv (fun v14 ev14 => ?_)
      replace h := nm_some ev14 h
      refine J_goto (tgt := 20) dX10_study_72 (by decide) ?_
      exact J_sub [1, 2, 3, 4, 0] rfl (ih _ _ h)
set_option maxRecDepth 20000 in
set_option maxHeartbeats 4000000 in
theorem T_study_ok {E : Ec} {ad : Nat → Nat} {cy : Nat → ClassId} {rv : Ob} {σ : CS} {a : Nat} {t : Ob} {p1 : Int32} (hi : wl_inj (ΓC ad cy)) (ha : okT a) (hL : Lv E 3) (h : T_study t p1 = some rv) : Jw E (ΓC ad cy) RX10 cX10_study 5 none (none, va_up σ a rv) 0 [(0, .ref (ad (8 * a + 2))), (1, .int p1)] [] (va_up σ a t) := by
  unfold T_study at h
  refine J_aload_n (q := 0) dX10_study_0 rfl rfl ?_
  refine gT_X10_caresFor dX10_study_1 ha vu_at ?_
  refine J_iload_n (q := 1) dX10_study_4 rfl rfl ?_
  obtain ⟨hg1, h⟩ := gd_some h
  refine aT_ld (j := 6) (n := 7) dX10_study_5 ha vu_at (by decide) rfl hg1 ?_
  refine J_ti (fun v2 ev2 => ?_)
  replace h := nm_some ev2 h
  refine J_istore_n (lv' := [(2, .int v2), (0, .ref (ad (8 * a + 2))), (1, .int p1)]) dX10_study_6 rfl (by decide) rfl ?_
  refine J_aload_n (q := 1) dX10_study_7 rfl rfl ?_
  refine J_iload_n (q := 2) dX10_study_8 rfl rfl ?_
  refine J_aload_n (q := 1) dX10_study_9 rfl rfl ?_
  refine gT_X10_day dX10_study_10 ha vu_at ?_
  obtain ⟨r3, hq16, h⟩ := bd_some h
  refine kx_X10_109 hi ha dX10_study_13 hq16 hL (by decide) (Nat.le_of_ble_eq_true rfl) ?_
  refine J_istore_n (lv' := [(3, .int r3), (2, .int v2), (0, .ref (ad (8 * a + 2))), (1, .int p1)]) dX10_study_16 rfl (by decide) rfl ?_
  refine J_iconst dX10_study_17 ic_0 ?_
  refine J_istore (lv' := [(4, .int (0 : Int32)), (3, .int r3), (2, .int v2), (0, .ref (ad (8 * a + 2))), (1, .int p1)]) dX10_study_18 (by decide) rfl ?_
  refine J_sub [3, 4, 2, 1, 0] rfl (T_study_L20_ok hi ha hL FU _ _ h)
set_option maxRecDepth 20000 in
set_option maxHeartbeats 4000000 in
theorem kX10_study {l : Launch} {D : va_G} {ad : Nat → Nat} {cy : Nat → ClassId} {rv : Ob} {σ : CS} {a : Nat} {t : Ob} {p1 : Int32} (hi : wl_inj (ΓC ad cy)) (ha : okT a) (h : T_study t p1 = some rv) : Cn l D (ΓC ad cy) yX10_study cX10_study 5 none 3 [.ref (ad (8 * a + 2)), .int p1] (va_up σ a t) (none, va_up σ a rv) :=
  Cn.of hi rfl (Nat.le_of_ble_eq_true rfl) (fun _ _ _ hL => T_study_ok hi ha hL h)
theorem pdX10_forgetLatest : (parseMethodDescriptor yX10_forgetLatest.desc).map (fun d => d.parameters.length) = some 1 := by decide +kernel
set_option maxRecDepth 20000 in
set_option maxHeartbeats 4000000 in
theorem T_forgetLatest_L2_ok {E : Ec} {ad : Nat → Nat} {cy : Nat → ClassId} {rv : Ob} {σ : CS} {a : Nat} {a1 : Int32} (hi : wl_inj (ΓC ad cy)) (ha : okT a) (hL : Lv E 0) : ∀ (n : Nat) (t : Ob) (x2 : Int32), T_forgetLatest_L2 a1 n t x2 = some rv → Jw E (ΓC ad cy) RX10 cX10_forgetLatest 5 none (none, va_up σ a rv) 2 [(0, .ref (ad (8 * a + 2))), (1, .int a1), (2, .int x2)] [] (va_up σ a t) := by
  intro n
  induction n with
  | zero =>
    intro t x2 h
    rw [T_forgetLatest_L2] at h
    cases h
  | succ n ih =>
    intro t x2 h
    rw [T_forgetLatest_L2] at h
    refine J_iload_n (q := 2) dX10_forgetLatest_2 rfl rfl ?_
    refine J_iconst dX10_forgetLatest_3 ic_5 ?_
    refine J_icmp_ge (tgt := 75) dX10_forgetLatest_4 (by decide) (fun c1 => ?_) (fun c1 => ?_)
    · replace h := it_some h c1
      exact J_vret dX10_forgetLatest_75 (rt_fv h) rfl
    · replace h := if_some h c1
      refine J_aload_n (q := 0) dX10_forgetLatest_7 rfl rfl ?_
      refine gT_X10_knows dX10_forgetLatest_8 ha vu_at ?_
      refine J_iload_n (q := 1) dX10_forgetLatest_11 rfl rfl ?_
      refine J_iconst dX10_forgetLatest_12 ic_5 ?_
      refine J_imul dX10_forgetLatest_13 ?_
      refine J_iload_n (q := 2) dX10_forgetLatest_14 rfl rfl ?_
      refine J_iadd dX10_forgetLatest_15 ?_
      obtain ⟨hg2, h⟩ := gd_some h
      refine aT_ld (j := 7) (n := 35) dX10_forgetLatest_16 ha vu_at (by decide) rfl hg2 ?_
      refine J_ti (fun v3 ev3 => ?_)
      replace h := nm_some ev3 h
      refine J_istore_n (lv' := [(3, .int v3), (0, .ref (ad (8 * a + 2))), (1, .int a1), (2, .int x2)]) dX10_forgetLatest_17 rfl (by decide) rfl ?_
      refine J_iload_n (q := 0) dX10_forgetLatest_18 rfl rfl ?_
      refine J_iload_n (q := 0) dX10_forgetLatest_19 rfl rfl ?_
      refine J_iconst dX10_forgetLatest_20 ic_1 ?_
      refine J_ishr dX10_forgetLatest_21 ?_
      refine J_ior dX10_forgetLatest_22 ?_
      refine J_ti (fun v4 ev4 => ?_)
      replace h := nm_some ev4 h
      refine J_istore (lv' := [(4, .int v4), (3, .int v3), (0, .ref (ad (8 * a + 2))), (1, .int a1), (2, .int x2)]) dX10_forgetLatest_23 (by decide) rfl ?_
      refine J_iload (q := 0) dX10_forgetLatest_25 rfl ?_
      refine J_iload (q := 0) dX10_forgetLatest_27 rfl ?_
      refine J_iconst dX10_forgetLatest_29 ic_2 ?_
      refine J_ishr dX10_forgetLatest_30 ?_
      refine J_ior dX10_forgetLatest_31 ?_
      refine J_ti (fun v5 ev5 => ?_)
      replace h := nm_some ev5 h
      refine J_istore (lv' := [(4, .int v5), (3, .int v3), (0, .ref (ad (8 * a + 2))), (1, .int a1), (2, .int x2)]) dX10_forgetLatest_32 (by decide) rfl ?_
      refine J_iload (q := 0) dX10_forgetLatest_34 rfl ?_
      refine J_iload (q := 0) dX10_forgetLatest_36 rfl ?_
      refine J_iconst dX10_forgetLatest_38 ic_4 ?_
      refine J_ishr dX10_forgetLatest_39 ?_
      refine J_ior dX10_forgetLatest_40 ?_
      refine J_ti (fun v6 ev6 => ?_)
      replace h := nm_some ev6 h
      refine J_istore (lv' := [(4, .int v6), (3, .int v3), (0, .ref (ad (8 * a + 2))), (1, .int a1), (2, .int x2)]) dX10_forgetLatest_41 (by decide) rfl ?_
      refine J_iload (q := 0) dX10_forgetLatest_43 rfl ?_
      refine J_iload (q := 0) dX10_forgetLatest_45 rfl ?_
      refine J_bipush dX10_forgetLatest_47 bp_8 ?_
      refine J_ishr dX10_forgetLatest_49 ?_
      refine J_ior dX10_forgetLatest_50 ?_
      refine J_ti (fun v7 ev7 => ?_)
      replace h := nm_some ev7 h
      refine J_istore (lv' := [(4, .int v7), (3, .int v3), (0, .ref (ad (8 * a + 2))), (1, .int a1), (2, .int x2)]) dX10_forgetLatest_51 (by decide) rfl ?_
      refine J_aload_n (q := 2) dX10_forgetLatest_53 rfl rfl ?_
      refine gT_X10_knows dX10_forgetLatest_54 ha vu_at ?_
      refine J_iload_n (q := 3) dX10_forgetLatest_57 rfl rfl ?_
      refine J_iconst dX10_forgetLatest_58 ic_5 ?_
      refine J_imul dX10_forgetLatest_59 ?_
      refine J_iload_n (q := 4) dX10_forgetLatest_60 rfl rfl ?_
      refine J_iadd dX10_forgetLatest_61 ?_
      refine J_iload_n (q := 1) dX10_forgetLatest_62 rfl rfl ?_
      refine J_iload (q := 0) dX10_forgetLatest_63 rfl ?_
      refine J_iconst dX10_forgetLatest_65 ic_1 ?_
      refine J_ishr dX10_forgetLatest_66 ?_
      refine J_iand dX10_forgetLatest_67 ?_
      obtain ⟨hg8, h⟩ := gd_some h
      refine aT_st (w' := va_up σ a (pA t 7 ((a1 * (5 : Int32)) + x2) (v3 &&& (shr32 v7 (1 : Int32))))) (j := 7) (n := 35) dX10_forgetLatest_68 ha vu_at vu_at vu_oth (by decide) rfl hg8 ?_
      refine J_twu (fun t9 et9 => ?_)
      replace h := nm_some et9 h
      refine J_iinc (q := 4) (v := (x2 + (1 : Int32))) (lv' := [(2, .int (x2 + (1 : Int32))), (4, .int v7), (3, .int v3), (0, .ref (ad (8 * a + 2))), (1, .int a1)]) dX10_forgetLatest_69 rfl (congrArg (fun z => x2 + z) ic_1) (by decide) rfl ?_
      refine J_tv (fun v10 ev10 => ?_)
      replace h := nm_some ev10 h
      refine J_goto (tgt := 2) dX10_forgetLatest_72 (by decide) ?_
      exact J_sub [3, 4, 0] rfl (ih _ _ h)
set_option maxRecDepth 20000 in
set_option maxHeartbeats 4000000 in
theorem T_forgetLatest_ok {E : Ec} {ad : Nat → Nat} {cy : Nat → ClassId} {rv : Ob} {σ : CS} {a : Nat} {t : Ob} {p1 : Int32} (hi : wl_inj (ΓC ad cy)) (ha : okT a) (hL : Lv E 0) (h : T_forgetLatest t p1 = some rv) : Jw E (ΓC ad cy) RX10 cX10_forgetLatest 5 none (none, va_up σ a rv) 0 [(0, .ref (ad (8 * a + 2))), (1, .int p1)] [] (va_up σ a t) := by
  unfold T_forgetLatest at h
  refine J_iconst dX10_forgetLatest_0 ic_0 ?_
  refine J_istore_n (lv' := [(2, .int (0 : Int32)), (0, .ref (ad (8 * a + 2))), (1, .int p1)]) dX10_forgetLatest_1 rfl (by decide) rfl ?_
  refine J_sub [1, 2, 0] rfl (T_forgetLatest_L2_ok hi ha hL FU _ _ h)
set_option maxRecDepth 20000 in
set_option maxHeartbeats 4000000 in
theorem kX10_forgetLatest {l : Launch} {D : va_G} {ad : Nat → Nat} {cy : Nat → ClassId} {rv : Ob} {σ : CS} {a : Nat} {t : Ob} {p1 : Int32} (hi : wl_inj (ΓC ad cy)) (ha : okT a) (h : T_forgetLatest t p1 = some rv) : Cn l D (ΓC ad cy) yX10_forgetLatest cX10_forgetLatest 5 none 0 [.ref (ad (8 * a + 2)), .int p1] (va_up σ a t) (none, va_up σ a rv) :=
  Cn.of hi rfl (Nat.le_of_ble_eq_true rfl) (fun _ _ _ hL => T_forgetLatest_ok hi ha hL h)
theorem pdX10_settle : (parseMethodDescriptor yX10_settle.desc).map (fun d => d.parameters.length) = some 1 := by decide +kernel
theorem kx_X10_78 {E : Ec} {ad : Nat → Nat} {cy : Nat → ClassId} {cc : ByteArray} {nL : Nat} {rt : Option FieldType} {r : Option Value × CS} {pc : Nat} {lv : List (Nat × Value)} {st : List Value} {w : CS} {n : Nat} {kd : Int32} {p1 : Int32} {p2 : Int32} {p3 : Int32} {v : Int32} (hi : wl_inj (ΓC ad cy)) (hk : inb kd 8 = true) (hd : decode cc pc = .ok (.invokevirtual 78, 3)) (hq : KD_tells kd p1 p2 p3 = some v) (hL : Lv E n) (hn : 2 + 1 ≤ n) (hW : (st.map fun v => v.category).sum ≤ 8) (k : Jw E (ΓC ad cy) RX10 cc nL rt r (pc + 3) lv (.int v :: st) w) : Jw E (ΓC ad cy) RX10 cc nL rt r pc lv (.int p3 :: .int p2 :: .int p1 :: .ref (ad (2 + kd.toNatClampNeg)) :: st) w := by
  rcases k8 hk with rfl | rfl | rfl | rfl | rfl | rfl | rfl | rfl
  · exact J_callU (Γ := ΓC ad cy) (h := 2 + 0) (ci := 3) (C := RX3) (x := yX3_tells) (av := [.int p1, .int p2, .int p3]) (q := (some (.int v), w)) (st := st) hd (kX3_tells (kx := 0) hi (by decide) hq) tw_2_118 tw_2_121 tw_2_119 tw_2_152 tw_2_119 tw_1_2 tw_2_152 tw_2_120 ⟨by decide, by decide, pdX3_tells⟩ (by show 2 + 0 < 111; decide) rfl rfl rfl rfl (by decide) hL (Nat.le_trans (by decide) hn) hW k
  · exact J_callU (Γ := ΓC ad cy) (h := 2 + 1) (ci := 4) (C := RX4) (x := yX3_tells) (av := [.int p1, .int p2, .int p3]) (q := (some (.int v), w)) (st := st) hd (kX4_tells (kx := 1) hi (by decide) hq) tw_2_118 tw_2_121 tw_2_119 tw_2_152 tw_2_139 tw_1_3 tw_2_140 tw_2_146 ⟨by decide, by decide, pdX3_tells⟩ (by show 2 + 1 < 111; decide) rfl rfl rfl rfl (by decide) hL (Nat.le_trans (by decide) hn) hW k
  · exact J_callU (Γ := ΓC ad cy) (h := 2 + 2) (ci := 2) (C := RX2) (x := yX3_tells) (av := [.int p1, .int p2, .int p3]) (q := (some (.int v), w)) (st := st) hd (kX2_tells (kx := 2) hi (by decide) hq) tw_2_118 tw_2_121 tw_2_119 tw_2_152 tw_2_143 tw_1_4 tw_2_144 tw_2_142 ⟨by decide, by decide, pdX3_tells⟩ (by show 2 + 2 < 111; decide) rfl rfl rfl rfl (by decide) hL (Nat.le_trans (by decide) hn) hW k
  · exact J_callU (Γ := ΓC ad cy) (h := 2 + 3) (ci := 6) (C := RX6) (x := yX3_tells) (av := [.int p1, .int p2, .int p3]) (q := (some (.int v), w)) (st := st) hd (kX6_tells (kx := 3) hi (by decide) hq) tw_2_118 tw_2_121 tw_2_119 tw_2_152 tw_2_126 tw_1_5 tw_2_127 tw_2_148 ⟨by decide, by decide, pdX3_tells⟩ (by show 2 + 3 < 111; decide) rfl rfl rfl rfl (by decide) hL (Nat.le_trans (by decide) hn) hW k
  · exact J_callU (Γ := ΓC ad cy) (h := 2 + 4) (ci := 1) (C := RX1) (x := yX3_tells) (av := [.int p1, .int p2, .int p3]) (q := (some (.int v), w)) (st := st) hd (kX1_tells (kx := 4) hi (by decide) hq) tw_2_118 tw_2_121 tw_2_119 tw_2_152 tw_2_136 tw_1_6 tw_2_137 tw_2_135 ⟨by decide, by decide, pdX3_tells⟩ (by show 2 + 4 < 111; decide) rfl rfl rfl rfl (by decide) hL (Nat.le_trans (by decide) hn) hW k
  · exact J_callU (Γ := ΓC ad cy) (h := 2 + 5) (ci := 5) (C := RX5) (x := yX3_tells) (av := [.int p1, .int p2, .int p3]) (q := (some (.int v), w)) (st := st) hd (kX2_tells (kx := 5) hi (by decide) hq) tw_2_118 tw_2_121 tw_2_119 tw_2_152 tw_2_143 tw_1_4 tw_2_144 tw_2_147 ⟨by decide, by decide, pdX3_tells⟩ (by show 2 + 5 < 111; decide) rfl rfl rfl rfl (by decide) hL (Nat.le_trans (by decide) hn) hW k
  · exact J_callU (Γ := ΓC ad cy) (h := 2 + 6) (ci := 0) (C := RX0) (x := yX3_tells) (av := [.int p1, .int p2, .int p3]) (q := (some (.int v), w)) (st := st) hd (kX0_tells (kx := 6) hi (by decide) hq) tw_2_118 tw_2_121 tw_2_119 tw_2_152 tw_2_123 tw_1_8 tw_2_124 tw_2_122 ⟨by decide, by decide, pdX3_tells⟩ (by show 2 + 6 < 111; decide) rfl rfl rfl rfl (by decide) hL (Nat.le_trans (by decide) hn) hW k
  · exact J_callU (Γ := ΓC ad cy) (h := 2 + 7) (ci := 8) (C := RX8) (x := yX3_tells) (av := [.int p1, .int p2, .int p3]) (q := (some (.int v), w)) (st := st) hd (kX8_tells (kx := 7) hi (by decide) hq) tw_2_118 tw_2_121 tw_2_119 tw_2_152 tw_2_150 tw_1_9 tw_2_151 tw_2_149 ⟨by decide, by decide, pdX3_tells⟩ (by show 2 + 7 < 111; decide) rfl rfl rfl rfl (by decide) hL (Nat.le_trans (by decide) hn) hW k
set_option maxRecDepth 20000 in
set_option maxHeartbeats 4000000 in
theorem T_settle_L11_ok {E : Ec} {ad : Nat → Nat} {cy : Nat → ClassId} {rv : (Int32 × Ob)} {σ : CS} {a : Nat} {k113 : Int32 → Int32 → Int32 → Option (Int32 × Ob)} {t : Ob} {a1 : Int32} (hi : wl_inj (ΓC ad cy)) (ha : okT a) (hL : Lv E 3) (hk113 : ∀ (y2 : Int32) (y3 : Int32) (y4 : Int32), k113 y2 y3 y4 = some rv → Jw E (ΓC ad cy) RX10 cX10_settle 8 (some .boolean) (some (.int rv.1), va_up σ a rv.2) 113 [(0, .ref (ad (8 * a + 2))), (1, .int a1), (2, .int y2), (3, .int y3), (4, .int y4)] [] (va_up σ a t)) : ∀ (n : Nat) (x2 : Int32) (x3 : Int32) (x4 : Int32) (x5 : Int32), T_settle_L11 k113 t a1 n x2 x3 x4 x5 = some rv → Jw E (ΓC ad cy) RX10 cX10_settle 8 (some .boolean) (some (.int rv.1), va_up σ a rv.2) 11 [(0, .ref (ad (8 * a + 2))), (1, .int a1), (2, .int x2), (3, .int x3), (4, .int x4), (5, .int x5)] [] (va_up σ a t) := by
  intro n
  induction n with
  | zero =>
    intro x2 x3 x4 x5 h
    rw [T_settle_L11] at h
    cases h
  | succ n ih =>
    intro x2 x3 x4 x5 h
    rw [T_settle_L11] at h
    refine J_iload (q := 5) dX10_settle_11 rfl ?_
    refine J_aload_n (q := 0) dX10_settle_13 rfl rfl ?_
    refine gT_X10_people dX10_settle_14 ha vu_at ?_
    refine J_icmp_ge (tgt := 113) dX10_settle_17 (by decide) (fun c1 => ?_) (fun c1 => ?_)
    · replace h := it_some h c1
      exact J_sub [0, 1, 2, 3, 4] rfl (hk113 _ _ _ h)
    · replace h := if_some h c1
      refine J_aload_n (q := 0) dX10_settle_20 rfl rfl ?_
      refine gT_X10_knows dX10_settle_21 ha vu_at ?_
      refine J_iload (q := 5) dX10_settle_24 rfl ?_
      refine J_iconst dX10_settle_26 ic_5 ?_
      refine J_imul dX10_settle_27 ?_
      refine J_iload_n (q := 1) dX10_settle_28 rfl rfl ?_
      refine J_iadd dX10_settle_29 ?_
      obtain ⟨hg2, h⟩ := gd_some h
      refine aT_ld (j := 7) (n := 35) dX10_settle_30 ha vu_at (by decide) rfl hg2 ?_
      refine J_ti (fun v3 ev3 => ?_)
      replace h := nm_some ev3 h
      refine J_istore (lv' := [(6, .int v3), (0, .ref (ad (8 * a + 2))), (1, .int a1), (2, .int x2), (3, .int x3), (4, .int x4), (5, .int x5)]) dX10_settle_31 (by decide) rfl ?_
      refine J_aload_n (q := 1) dX10_settle_33 rfl rfl ?_
      refine gT_X10_kinds dX10_settle_34 ha vu_at ?_
      refine J_aload_n (q := 1) dX10_settle_37 rfl rfl ?_
      refine gT_X10_kind dX10_settle_38 ha vu_at ?_
      refine J_iload (q := 6) dX10_settle_41 rfl ?_
      obtain ⟨hg4, h⟩ := gd_some h
      refine aT_ld (j := 4) (n := 7) dX10_settle_43 ha vu_at (by decide) rfl hg4 ?_
      obtain ⟨hg5, h⟩ := gd_some h
      refine aK_ld dX10_settle_44 hg5 ?_
      refine J_aload_n (q := 1) dX10_settle_45 rfl rfl ?_
      refine gT_X10_figure dX10_settle_46 ha vu_at ?_
      refine J_iload (q := 6) dX10_settle_49 rfl ?_
      obtain ⟨hg6, h⟩ := gd_some h
      refine aT_ld (j := 5) (n := 7) dX10_settle_51 ha vu_at (by decide) rfl hg6 ?_
      refine J_iload (q := 0) dX10_settle_52 rfl ?_
      refine J_aload_n (q := 1) dX10_settle_54 rfl rfl ?_
      refine gT_X10_truth dX10_settle_55 ha vu_at ?_
      refine J_iload_n (q := 2) dX10_settle_58 rfl rfl ?_
      obtain ⟨hg7, h⟩ := gd_some h
      refine aT_ld (j := 1) (n := 5) dX10_settle_59 ha vu_at (by decide) rfl hg7 ?_
      refine J_iand dX10_settle_60 ?_
      refine J_iload (q := 0) dX10_settle_61 rfl ?_
      refine J_aload_n (q := 1) dX10_settle_63 rfl rfl ?_
      refine gT_X10_truth dX10_settle_64 ha vu_at ?_
      refine J_iload_n (q := 2) dX10_settle_67 rfl rfl ?_
      obtain ⟨hg8, h⟩ := gd_some h
      refine aT_ld (j := 1) (n := 5) dX10_settle_68 ha vu_at (by decide) rfl hg8 ?_
      refine J_iconst dX10_settle_69 ic_m1 ?_
      refine J_ixor dX10_settle_70 ?_
      refine J_iand dX10_settle_71 ?_
      obtain ⟨r9, hq17, h⟩ := bd_some h
      refine kx_X10_78 hi hg5 dX10_settle_72 hq17 hL (by decide) (Nat.le_of_ble_eq_true rfl) ?_
      refine J_istore (lv' := [(7, .int r9), (6, .int v3), (0, .ref (ad (8 * a + 2))), (1, .int a1), (2, .int x2), (3, .int x3), (4, .int x4), (5, .int x5)]) dX10_settle_75 (by decide) rfl ?_
      refine J_iload (q := 7) dX10_settle_77 rfl ?_
      refine J_aload_n (q := 2) dX10_settle_79 rfl rfl ?_
      refine gT_X10_owner dX10_settle_80 ha vu_at ?_
      refine J_iload_n (q := 3) dX10_settle_83 rfl rfl ?_
      obtain ⟨hg10, h⟩ := gd_some h
      refine aT_ld (j := 3) (n := 5) dX10_settle_84 ha vu_at (by decide) rfl hg10 ?_
      obtain ⟨x2_13, x3_14, x4_15, ha107, h⟩ := bd3_some h
      have K107 : Jw E (ΓC ad cy) RX10 cX10_settle 8 (some .boolean) (some (.int rv.1), va_up σ a rv.2) 107 [(0, .ref (ad (8 * a + 2))), (1, .int a1), (2, .int x2_13), (3, .int x3_14), (4, .int x4_15), (5, .int x5)] [] (va_up σ a t) := by
        clear ha107
        refine J_iinc (q := 5) (v := (x5 + (1 : Int32))) (lv' := [(5, .int (x5 + (1 : Int32))), (0, .ref (ad (8 * a + 2))), (1, .int a1), (2, .int x2_13), (3, .int x3_14), (4, .int x4_15)]) dX10_settle_107 rfl (congrArg (fun z => x5 + z) ic_1) (by decide) rfl ?_
        refine J_tv (fun v16 ev16 => ?_)
        replace h := nm_some ev16 h
        refine J_goto (tgt := 11) dX10_settle_110 (by decide) ?_
        exact J_sub [1, 2, 3, 4, 5, 0] rfl (ih _ _ _ _ h)
      clear h
      refine J_icmp_ne (tgt := 94) dX10_settle_85 (by decide) (fun c11 => ?_) (fun c11 => ?_)
      · replace ha107 := if_some ha107 c11
        refine J_iload (q := 0) dX10_settle_94 rfl ?_
        refine J_iload_n (q := 5) dX10_settle_96 rfl rfl ?_
        refine J_icmp_le (tgt := 107) dX10_settle_97 (by decide) (fun c12 => ?_) (fun c12 => ?_)
        · replace ha107 := it_some ha107 c12
          cases ha107
          exact J_sub [2, 3, 4, 5, 6, 7] rfl (K107)
        · replace ha107 := if_some ha107 c12
          refine J_iload (q := 0) dX10_settle_100 rfl ?_
          refine J_istore_n (lv' := [(3, .int r9), (7, .int r9), (6, .int v3), (0, .ref (ad (8 * a + 2))), (1, .int a1), (2, .int x2), (4, .int x4), (5, .int x5)]) dX10_settle_102 rfl (by decide) rfl ?_
          refine J_iload (q := 7) dX10_settle_103 rfl ?_
          refine J_istore (lv' := [(4, .int x5), (3, .int r9), (7, .int r9), (6, .int v3), (0, .ref (ad (8 * a + 2))), (1, .int a1), (2, .int x2), (5, .int x5)]) dX10_settle_105 (by decide) rfl ?_
          cases ha107
          exact J_sub [4, 5, 6, 1, 0, 7] rfl (K107)
      · replace ha107 := it_some ha107 c11
        refine J_iload (q := 0) dX10_settle_88 rfl ?_
        refine J_istore_n (lv' := [(2, .int r9), (7, .int r9), (6, .int v3), (0, .ref (ad (8 * a + 2))), (1, .int a1), (3, .int x3), (4, .int x4), (5, .int x5)]) dX10_settle_90 rfl (by decide) rfl ?_
        refine J_goto (tgt := 107) dX10_settle_91 (by decide) ?_
        cases ha107
        exact J_sub [3, 4, 0, 5, 6, 7] rfl (K107)
set_option maxRecDepth 20000 in
set_option maxHeartbeats 4000000 in
theorem T_settle_ok {E : Ec} {ad : Nat → Nat} {cy : Nat → ClassId} {rv : (Int32 × Ob)} {σ : CS} {a : Nat} {t : Ob} {p1 : Int32} (hi : wl_inj (ΓC ad cy)) (ha : okT a) (hL : Lv E 3) (h : T_settle t p1 = some rv) : Jw E (ΓC ad cy) RX10 cX10_settle 8 (some .boolean) (some (.int rv.1), va_up σ a rv.2) 0 [(0, .ref (ad (8 * a + 2))), (1, .int p1)] [] (va_up σ a t) := by
  unfold T_settle at h
  refine J_iconst dX10_settle_0 ic_0 ?_
  refine J_istore_n (lv' := [(2, .int (0 : Int32)), (0, .ref (ad (8 * a + 2))), (1, .int p1)]) dX10_settle_1 rfl (by decide) rfl ?_
  refine J_iconst dX10_settle_2 ic_0 ?_
  refine J_istore_n (lv' := [(3, .int (0 : Int32)), (2, .int (0 : Int32)), (0, .ref (ad (8 * a + 2))), (1, .int p1)]) dX10_settle_3 rfl (by decide) rfl ?_
  refine J_bipush dX10_settle_4 bp_9 ?_
  refine J_istore (lv' := [(4, .int (9 : Int32)), (3, .int (0 : Int32)), (2, .int (0 : Int32)), (0, .ref (ad (8 * a + 2))), (1, .int p1)]) dX10_settle_6 (by decide) rfl ?_
  refine J_iconst dX10_settle_8 ic_0 ?_
  refine J_istore (lv' := [(5, .int (0 : Int32)), (4, .int (9 : Int32)), (3, .int (0 : Int32)), (2, .int (0 : Int32)), (0, .ref (ad (8 * a + 2))), (1, .int p1)]) dX10_settle_9 (by decide) rfl ?_
  refine J_sub [4, 5, 3, 2, 1, 0] rfl (T_settle_L11_ok hi ha hL (fun x2_18 x3_19 x4_20 h => ?_) FU _ _ _ _ h)
  refine J_iload_n (q := 3) dX10_settle_113 rfl rfl ?_
  refine J_iload_n (q := 2) dX10_settle_114 rfl rfl ?_
  refine J_icmp_gt (tgt := 120) dX10_settle_115 (by decide) (fun c21 => ?_) (fun c21 => ?_)
  · replace h := it_some h c21
    refine J_aload_n (q := 0) dX10_settle_120 rfl rfl ?_
    refine gT_X10_owner dX10_settle_121 ha vu_at ?_
    refine J_iload_n (q := 1) dX10_settle_124 rfl rfl ?_
    refine J_iload (q := 4) dX10_settle_125 rfl ?_
    obtain ⟨hg22, h⟩ := gd_some h
    refine aT_st (w' := va_up σ a (pA t 3 p1 x4_20)) (j := 3) (n := 5) dX10_settle_127 ha vu_at vu_at vu_oth (by decide) rfl hg22 ?_
    refine J_twu (fun t23 et23 => ?_)
    replace h := nm_some et23 h
    refine J_iconst dX10_settle_128 ic_1 ?_
    exact J_zret dX10_settle_129 (rt_fi h) rfl rfl
  · replace h := if_some h c21
    refine J_iconst dX10_settle_118 ic_0 ?_
    exact J_zret dX10_settle_119 (rt_fi h) rfl rfl
set_option maxRecDepth 20000 in
set_option maxHeartbeats 4000000 in
theorem kX10_settle {l : Launch} {D : va_G} {ad : Nat → Nat} {cy : Nat → ClassId} {rv : (Int32 × Ob)} {σ : CS} {a : Nat} {t : Ob} {p1 : Int32} (hi : wl_inj (ΓC ad cy)) (ha : okT a) (h : T_settle t p1 = some rv) : Cn l D (ΓC ad cy) yX10_settle cX10_settle 8 (some .boolean) 3 [.ref (ad (8 * a + 2)), .int p1] (va_up σ a t) (some (.int rv.1), va_up σ a rv.2) :=
  Cn.of hi rfl (Nat.le_of_ble_eq_true rfl) (fun _ _ _ hL => T_settle_ok hi ha hL h)
theorem pdX10_pass : (parseMethodDescriptor yX10_pass.desc).map (fun d => d.parameters.length) = some 0 := by decide +kernel
theorem kx_X10_96 {E : Ec} {ad : Nat → Nat} {cy : Nat → ClassId} {cc : ByteArray} {nL : Nat} {rt : Option FieldType} {r : Option Value × CS} {pc : Nat} {lv : List (Nat × Value)} {st : List Value} {σ : CS} {n a : Nat} {t : Ob} {p1 : Int32} {t' : Ob} (hi : wl_inj (ΓC ad cy)) (ha : okT a) (hd : decode cc pc = .ok (.invokevirtual 96, 3)) (hq : T_study t p1 = some t') (hL : Lv E n) (hn : 3 + 1 ≤ n) (hW : (st.map fun v => v.category).sum ≤ 8) (k : Jw E (ΓC ad cy) RX10 cc nL rt r (pc + 3) lv (st) (va_up σ a t')) : Jw E (ΓC ad cy) RX10 cc nL rt r pc lv (.int p1 :: .ref (ad (8 * a + 2)) :: st) (va_up σ a t) := by
  have hM := fun (l : Launch) (D : va_G) => kX10_study (l := l) (D := D) (ad := ad) (cy := cy) (σ := σ) hi ha hq
  exact J_callV (Γ := ΓC ad cy) (h := 8 * a + 2) (ci := 9) (av := [.int p1]) (q := (none, va_up σ a t')) (st := st) hd (hM _ _) tw_2_48 tw_2_50 tw_1_10 tw_2_51 sl_1_2 ⟨by decide, by decide, pdX10_study⟩ (hT (j := 0) ha (by decide)) (cC_t0 ha vu_at) rfl rfl rfl (by decide) hL hn hW k
theorem kx_X10_100 {E : Ec} {ad : Nat → Nat} {cy : Nat → ClassId} {cc : ByteArray} {nL : Nat} {rt : Option FieldType} {r : Option Value × CS} {pc : Nat} {lv : List (Nat × Value)} {st : List Value} {w : CS} {n : Nat} {kd : Int32} {p1 : Int32} {v : Int32} (hi : wl_inj (ΓC ad cy)) (hk : inb kd 8 = true) (hd : decode cc pc = .ok (.invokevirtual 100, 3)) (hq : KD_forgets kd p1 = some v) (hL : Lv E n) (hn : 0 + 1 ≤ n) (hW : (st.map fun v => v.category).sum ≤ 8) (k : Jw E (ΓC ad cy) RX10 cc nL rt r (pc + 3) lv (.int v :: st) w) : Jw E (ΓC ad cy) RX10 cc nL rt r pc lv (.int p1 :: .ref (ad (2 + kd.toNatClampNeg)) :: st) w := by
  rcases k8 hk with rfl | rfl | rfl | rfl | rfl | rfl | rfl | rfl
  · exact J_callU (Γ := ΓC ad cy) (h := 2 + 0) (ci := 3) (C := RX3) (x := yX3_forgets) (av := [.int p1]) (q := (some (.int v), w)) (st := st) hd (kX3_forgets (kx := 0) hi (by decide) hq) tw_2_96 tw_2_99 tw_2_97 tw_2_109 tw_2_97 tw_1_2 tw_2_109 tw_2_98 ⟨by decide, by decide, pdX3_forgets⟩ (by show 2 + 0 < 111; decide) rfl rfl rfl rfl (by decide) hL (Nat.le_trans (by decide) hn) hW k
  · exact J_callU (Γ := ΓC ad cy) (h := 2 + 1) (ci := 4) (C := RX4) (x := yX3_forgets) (av := [.int p1]) (q := (some (.int v), w)) (st := st) hd (kX4_forgets (kx := 1) hi (by decide) hq) tw_2_96 tw_2_99 tw_2_97 tw_2_109 tw_2_102 tw_1_3 tw_2_103 tw_2_105 ⟨by decide, by decide, pdX3_forgets⟩ (by show 2 + 1 < 111; decide) rfl rfl rfl rfl (by decide) hL (Nat.le_trans (by decide) hn) hW k
  · exact J_callU (Γ := ΓC ad cy) (h := 2 + 2) (ci := 2) (C := RX2) (x := yX3_forgets) (av := [.int p1]) (q := (some (.int v), w)) (st := st) hd (kX3_forgets (kx := 2) hi (by decide) hq) tw_2_96 tw_2_99 tw_2_97 tw_2_109 tw_2_97 tw_1_2 tw_2_109 tw_2_104 ⟨by decide, by decide, pdX3_forgets⟩ (by show 2 + 2 < 111; decide) rfl rfl rfl rfl (by decide) hL (Nat.le_trans (by decide) hn) hW k
  · exact J_callU (Γ := ΓC ad cy) (h := 2 + 3) (ci := 6) (C := RX6) (x := yX3_forgets) (av := [.int p1]) (q := (some (.int v), w)) (st := st) hd (kX3_forgets (kx := 3) hi (by decide) hq) tw_2_96 tw_2_99 tw_2_97 tw_2_109 tw_2_97 tw_1_2 tw_2_109 tw_2_107 ⟨by decide, by decide, pdX3_forgets⟩ (by show 2 + 3 < 111; decide) rfl rfl rfl rfl (by decide) hL (Nat.le_trans (by decide) hn) hW k
  · exact J_callU (Γ := ΓC ad cy) (h := 2 + 4) (ci := 1) (C := RX1) (x := yX3_forgets) (av := [.int p1]) (q := (some (.int v), w)) (st := st) hd (kX4_forgets (kx := 4) hi (by decide) hq) tw_2_96 tw_2_99 tw_2_97 tw_2_109 tw_2_102 tw_1_3 tw_2_103 tw_2_101 ⟨by decide, by decide, pdX3_forgets⟩ (by show 2 + 4 < 111; decide) rfl rfl rfl rfl (by decide) hL (Nat.le_trans (by decide) hn) hW k
  · exact J_callU (Γ := ΓC ad cy) (h := 2 + 5) (ci := 5) (C := RX5) (x := yX3_forgets) (av := [.int p1]) (q := (some (.int v), w)) (st := st) hd (kX3_forgets (kx := 5) hi (by decide) hq) tw_2_96 tw_2_99 tw_2_97 tw_2_109 tw_2_97 tw_1_2 tw_2_109 tw_2_106 ⟨by decide, by decide, pdX3_forgets⟩ (by show 2 + 5 < 111; decide) rfl rfl rfl rfl (by decide) hL (Nat.le_trans (by decide) hn) hW k
  · exact J_callU (Γ := ΓC ad cy) (h := 2 + 6) (ci := 0) (C := RX0) (x := yX3_forgets) (av := [.int p1]) (q := (some (.int v), w)) (st := st) hd (kX3_forgets (kx := 6) hi (by decide) hq) tw_2_96 tw_2_99 tw_2_97 tw_2_109 tw_2_97 tw_1_2 tw_2_109 tw_2_100 ⟨by decide, by decide, pdX3_forgets⟩ (by show 2 + 6 < 111; decide) rfl rfl rfl rfl (by decide) hL (Nat.le_trans (by decide) hn) hW k
  · exact J_callU (Γ := ΓC ad cy) (h := 2 + 7) (ci := 8) (C := RX8) (x := yX3_forgets) (av := [.int p1]) (q := (some (.int v), w)) (st := st) hd (kX4_forgets (kx := 7) hi (by decide) hq) tw_2_96 tw_2_99 tw_2_97 tw_2_109 tw_2_102 tw_1_3 tw_2_103 tw_2_108 ⟨by decide, by decide, pdX3_forgets⟩ (by show 2 + 7 < 111; decide) rfl rfl rfl rfl (by decide) hL (Nat.le_trans (by decide) hn) hW k
theorem kx_X10_103 {E : Ec} {ad : Nat → Nat} {cy : Nat → ClassId} {cc : ByteArray} {nL : Nat} {rt : Option FieldType} {r : Option Value × CS} {pc : Nat} {lv : List (Nat × Value)} {st : List Value} {σ : CS} {n a : Nat} {t : Ob} {p1 : Int32} {t' : Ob} (hi : wl_inj (ΓC ad cy)) (ha : okT a) (hd : decode cc pc = .ok (.invokevirtual 103, 3)) (hq : T_forgetLatest t p1 = some t') (hL : Lv E n) (hn : 0 + 1 ≤ n) (hW : (st.map fun v => v.category).sum ≤ 8) (k : Jw E (ΓC ad cy) RX10 cc nL rt r (pc + 3) lv (st) (va_up σ a t')) : Jw E (ΓC ad cy) RX10 cc nL rt r pc lv (.int p1 :: .ref (ad (8 * a + 2)) :: st) (va_up σ a t) := by
  have hM := fun (l : Launch) (D : va_G) => kX10_forgetLatest (l := l) (D := D) (ad := ad) (cy := cy) (σ := σ) hi ha hq
  exact J_callV (Γ := ΓC ad cy) (h := 8 * a + 2) (ci := 9) (av := [.int p1]) (q := (none, va_up σ a t')) (st := st) hd (hM _ _) tw_2_110 tw_2_112 tw_1_10 tw_2_113 sl_1_3 ⟨by decide, by decide, pdX10_forgetLatest⟩ (hT (j := 0) ha (by decide)) (cC_t0 ha vu_at) rfl rfl rfl (by decide) hL hn hW k
theorem kx_X10_106 {E : Ec} {ad : Nat → Nat} {cy : Nat → ClassId} {cc : ByteArray} {nL : Nat} {rt : Option FieldType} {r : Option Value × CS} {pc : Nat} {lv : List (Nat × Value)} {st : List Value} {σ : CS} {n a : Nat} {t : Ob} {p1 : Int32} {v : Int32} {t' : Ob} (hi : wl_inj (ΓC ad cy)) (ha : okT a) (hd : decode cc pc = .ok (.invokevirtual 106, 3)) (hq : T_settle t p1 = some (v, t')) (hL : Lv E n) (hn : 3 + 1 ≤ n) (hW : (st.map fun v => v.category).sum ≤ 8) (k : Jw E (ΓC ad cy) RX10 cc nL rt r (pc + 3) lv (.int v :: st) (va_up σ a t')) : Jw E (ΓC ad cy) RX10 cc nL rt r pc lv (.int p1 :: .ref (ad (8 * a + 2)) :: st) (va_up σ a t) := by
  have hM := fun (l : Launch) (D : va_G) => kX10_settle (l := l) (D := D) (ad := ad) (cy := cy) (σ := σ) hi ha hq
  exact J_callV (Γ := ΓC ad cy) (h := 8 * a + 2) (ci := 9) (av := [.int p1]) (q := (some (.int v), va_up σ a t')) (st := st) hd (hM _ _) tw_2_114 tw_2_116 tw_1_10 tw_2_117 sl_1_4 ⟨by decide, by decide, pdX10_settle⟩ (hT (j := 0) ha (by decide)) (cC_t0 ha vu_at) rfl rfl rfl (by decide) hL hn hW k
set_option maxRecDepth 20000 in
set_option maxHeartbeats 4000000 in
theorem T_pass_L12_ok {E : Ec} {ad : Nat → Nat} {cy : Nat → ClassId} {rv : (Int32 × Ob)} {σ : CS} {a : Nat} {k57 : Ob → Option (Int32 × Ob)} (hi : wl_inj (ΓC ad cy)) (ha : okT a) (hL : Lv E 4) (hk57 : ∀ (yw : Ob), k57 yw = some rv → Jw E (ΓC ad cy) RX10 cX10_pass 3 (some .boolean) (some (.int rv.1), va_up σ a rv.2) 57 [(0, .ref (ad (8 * a + 2)))] [] (va_up σ a yw)) : ∀ (n : Nat) (t : Ob) (x1 : Int32), T_pass_L12 k57 n t x1 = some rv → Jw E (ΓC ad cy) RX10 cX10_pass 3 (some .boolean) (some (.int rv.1), va_up σ a rv.2) 12 [(0, .ref (ad (8 * a + 2))), (1, .int x1)] [] (va_up σ a t) := by
  intro n
  induction n with
  | zero =>
    intro t x1 h
    rw [T_pass_L12] at h
    cases h
  | succ n ih =>
    intro t x1 h
    rw [T_pass_L12] at h
    refine J_iload_n (q := 1) dX10_pass_12 rfl rfl ?_
    refine J_aload_n (q := 0) dX10_pass_13 rfl rfl ?_
    refine gT_X10_people dX10_pass_14 ha vu_at ?_
    refine J_icmp_ge (tgt := 57) dX10_pass_17 (by decide) (fun c2 => ?_) (fun c2 => ?_)
    · replace h := it_some h c2
      exact J_sub [0] rfl (hk57 _ h)
    · replace h := if_some h c2
      refine J_aload_n (q := 0) dX10_pass_20 rfl rfl ?_
      refine J_iload_n (q := 1) dX10_pass_21 rfl rfl ?_
      obtain ⟨t3, hq11, h⟩ := bd_some h
      refine kx_X10_96 hi ha dX10_pass_22 hq11 hL (by decide) (Nat.le_of_ble_eq_true rfl) ?_
      refine J_aload_n (q := 0) dX10_pass_25 rfl rfl ?_
      refine gT_X10_kinds dX10_pass_26 ha vu_at ?_
      refine J_aload_n (q := 0) dX10_pass_29 rfl rfl ?_
      refine gT_X10_kind dX10_pass_30 ha vu_at ?_
      refine J_iload_n (q := 1) dX10_pass_33 rfl rfl ?_
      obtain ⟨hg4, h⟩ := gd_some h
      refine aT_ld (j := 4) (n := 7) dX10_pass_34 ha vu_at (by decide) rfl hg4 ?_
      obtain ⟨hg5, h⟩ := gd_some h
      refine aK_ld dX10_pass_35 hg5 ?_
      refine J_aload_n (q := 0) dX10_pass_36 rfl rfl ?_
      refine gT_X10_day dX10_pass_37 ha vu_at ?_
      obtain ⟨r6, hq12, h⟩ := bd_some h
      refine kx_X10_100 hi hg5 dX10_pass_40 hq12 hL (by decide) (Nat.le_of_ble_eq_true rfl) ?_
      obtain ⟨t9, ha51, h⟩ := bd_some h
      have K51 : Jw E (ΓC ad cy) RX10 cX10_pass 3 (some .boolean) (some (.int rv.1), va_up σ a rv.2) 51 [(0, .ref (ad (8 * a + 2))), (1, .int x1)] [] (va_up σ a t9) := by
        clear ha51
        refine J_iinc (q := 1) (v := (x1 + (1 : Int32))) (lv' := [(1, .int (x1 + (1 : Int32))), (0, .ref (ad (8 * a + 2)))]) dX10_pass_51 rfl (congrArg (fun z => x1 + z) ic_1) (by decide) rfl ?_
        refine J_tv (fun v10 ev10 => ?_)
        replace h := nm_some ev10 h
        refine J_goto (tgt := 12) dX10_pass_54 (by decide) ?_
        exact J_sub [1, 0] rfl (ih _ _ h)
      clear h
      refine J_if_eq (tgt := 51) dX10_pass_43 (by decide) (fun c7 => ?_) (fun c7 => ?_)
      · replace ha51 := it_some ha51 c7
        cases ha51
        exact J_sub [0, 1] rfl (K51)
      · replace ha51 := if_some ha51 c7
        refine J_aload_n (q := 0) dX10_pass_46 rfl rfl ?_
        refine J_iload_n (q := 1) dX10_pass_47 rfl rfl ?_
        obtain ⟨t8, hq13, ha51⟩ := bd_some ha51
        refine kx_X10_103 hi ha dX10_pass_48 hq13 hL (by decide) (Nat.le_of_ble_eq_true rfl) ?_
        cases ha51
        exact J_sub [0, 1] rfl (K51)
set_option maxRecDepth 20000 in
set_option maxHeartbeats 4000000 in
theorem T_pass_L61_ok {E : Ec} {ad : Nat → Nat} {cy : Nat → ClassId} {rv : (Int32 × Ob)} {σ : CS} {a : Nat} (hi : wl_inj (ΓC ad cy)) (ha : okT a) (hL : Lv E 4) : ∀ (n : Nat) (t : Ob) (x1 : Int32) (x2 : Int32), T_pass_L61 n t x1 x2 = some rv → Jw E (ΓC ad cy) RX10 cX10_pass 3 (some .boolean) (some (.int rv.1), va_up σ a rv.2) 61 [(0, .ref (ad (8 * a + 2))), (1, .int x1), (2, .int x2)] [] (va_up σ a t) := by
  intro n
  induction n with
  | zero =>
    intro t x1 x2 h
    rw [T_pass_L61] at h
    cases h
  | succ n ih =>
    intro t x1 x2 h
    rw [T_pass_L61] at h
    refine J_iload_n (q := 2) dX10_pass_61 rfl rfl ?_
    refine J_iconst dX10_pass_62 ic_5 ?_
    refine J_icmp_ge (tgt := 80) dX10_pass_63 (by decide) (fun c15 => ?_) (fun c15 => ?_)
    · replace h := it_some h c15
      refine J_iload_n (q := 1) dX10_pass_80 rfl rfl ?_
      obtain ⟨hg16, h⟩ := gd_some h
      exact J_zret dX10_pass_81 (rt_fi h) rfl hg16
    · replace h := if_some h c15
      refine J_iload_n (q := 1) dX10_pass_66 rfl rfl ?_
      refine J_aload_n (q := 0) dX10_pass_67 rfl rfl ?_
      refine J_iload_n (q := 2) dX10_pass_68 rfl rfl ?_
      obtain ⟨r17, t18, hq21, h⟩ := bd2_some h
      refine kx_X10_106 hi ha dX10_pass_69 hq21 hL (by decide) (Nat.le_of_ble_eq_true rfl) ?_
      refine J_ior dX10_pass_72 ?_
      refine J_ti (fun v19 ev19 => ?_)
      replace h := nm_some ev19 h
      refine J_istore_n (lv' := [(1, .int v19), (0, .ref (ad (8 * a + 2))), (2, .int x2)]) dX10_pass_73 rfl (by decide) rfl ?_
      refine J_iinc (q := 2) (v := (x2 + (1 : Int32))) (lv' := [(2, .int (x2 + (1 : Int32))), (1, .int v19), (0, .ref (ad (8 * a + 2)))]) dX10_pass_74 rfl (congrArg (fun z => x2 + z) ic_1) (by decide) rfl ?_
      refine J_tv (fun v20 ev20 => ?_)
      replace h := nm_some ev20 h
      refine J_goto (tgt := 61) dX10_pass_77 (by decide) ?_
      exact J_sub [2, 1, 0] rfl (ih _ _ _ h)
set_option maxRecDepth 20000 in
set_option maxHeartbeats 4000000 in
theorem T_pass_ok {E : Ec} {ad : Nat → Nat} {cy : Nat → ClassId} {rv : (Int32 × Ob)} {σ : CS} {a : Nat} {t : Ob} (hi : wl_inj (ΓC ad cy)) (ha : okT a) (hL : Lv E 4) (h : T_pass t = some rv) : Jw E (ΓC ad cy) RX10 cX10_pass 3 (some .boolean) (some (.int rv.1), va_up σ a rv.2) 0 [(0, .ref (ad (8 * a + 2)))] [] (va_up σ a t) := by
  unfold T_pass at h
  refine J_aload_n (q := 0) dX10_pass_0 rfl rfl ?_
  refine J_dup dX10_pass_1 rfl ?_
  refine gT_X10_day dX10_pass_2 ha vu_at ?_
  refine J_iconst dX10_pass_5 ic_1 ?_
  refine J_iadd dX10_pass_6 ?_
  refine pT_X10_day dX10_pass_7 ha ?_
  refine J_twu (fun t1 et1 => ?_)
  replace h := nm_some et1 h
  refine J_iconst dX10_pass_10 ic_0 ?_
  refine J_istore_n (lv' := [(1, .int (0 : Int32)), (0, .ref (ad (8 * a + 2)))]) dX10_pass_11 rfl (by decide) rfl ?_
  refine J_sub [1, 0] rfl (T_pass_L12_ok hi ha hL (fun t14 h => ?_) FU _ _ h)
  refine J_iconst dX10_pass_57 ic_0 ?_
  refine J_istore_n (lv' := [(1, .int (0 : Int32)), (0, .ref (ad (8 * a + 2)))]) dX10_pass_58 rfl (by decide) rfl ?_
  refine J_iconst dX10_pass_59 ic_0 ?_
  refine J_istore_n (lv' := [(2, .int (0 : Int32)), (1, .int (0 : Int32)), (0, .ref (ad (8 * a + 2)))]) dX10_pass_60 rfl (by decide) rfl ?_
  refine J_sub [2, 1, 0] rfl (T_pass_L61_ok hi ha hL FU _ _ _ h)
set_option maxRecDepth 20000 in
set_option maxHeartbeats 4000000 in
theorem kX10_pass {l : Launch} {D : va_G} {ad : Nat → Nat} {cy : Nat → ClassId} {rv : (Int32 × Ob)} {σ : CS} {a : Nat} {t : Ob} (hi : wl_inj (ΓC ad cy)) (ha : okT a) (h : T_pass t = some rv) : Cn l D (ΓC ad cy) yX10_pass cX10_pass 3 (some .boolean) 4 [.ref (ad (8 * a + 2))] (va_up σ a t) (some (.int rv.1), va_up σ a rv.2) :=
  Cn.of hi rfl (Nat.le_of_ble_eq_true rfl) (fun _ _ _ hL => T_pass_ok hi ha hL h)
theorem pdX10_goOn : (parseMethodDescriptor yX10_goOn.desc).map (fun d => d.parameters.length) = some 1 := by decide +kernel
theorem kx_X10_70 {E : Ec} {ad : Nat → Nat} {cy : Nat → ClassId} {cc : ByteArray} {nL : Nat} {rt : Option FieldType} {r : Option Value × CS} {pc : Nat} {lv : List (Nat × Value)} {st : List Value} {σ : CS} {n a : Nat} {t : Ob} {v : Int32} {t' : Ob} (hi : wl_inj (ΓC ad cy)) (ha : okT a) (hd : decode cc pc = .ok (.invokevirtual 70, 3)) (hq : T_pass t = some (v, t')) (hL : Lv E n) (hn : 4 + 1 ≤ n) (hW : (st.map fun v => v.category).sum ≤ 8) (k : Jw E (ΓC ad cy) RX10 cc nL rt r (pc + 3) lv (.int v :: st) (va_up σ a t')) : Jw E (ΓC ad cy) RX10 cc nL rt r pc lv (.ref (ad (8 * a + 2)) :: st) (va_up σ a t) := by
  have hM := fun (l : Launch) (D : va_G) => kX10_pass (l := l) (D := D) (ad := ad) (cy := cy) (σ := σ) hi ha hq
  exact J_callV (Γ := ΓC ad cy) (h := 8 * a + 2) (ci := 9) (av := []) (q := (some (.int v), va_up σ a t')) (st := st) hd (hM _ _) tw_2_44 tw_2_45 tw_1_10 tw_2_47 tw_2_46 ⟨by decide, by decide, pdX10_pass⟩ (hT (j := 0) ha (by decide)) (cC_t0 ha vu_at) rfl rfl rfl (by decide) hL hn hW k
set_option maxRecDepth 20000 in
set_option maxHeartbeats 4000000 in
theorem T_goOn_L27_ok {E : Ec} {ad : Nat → Nat} {cy : Nat → ClassId} {rv : (Int32 × Ob)} {σ : CS} {a : Nat} {a1 : Int32} (hi : wl_inj (ΓC ad cy)) (ha : okT a) (hL : Lv E 5) : ∀ (n : Nat) (t : Ob) (x2 : Int32), T_goOn_L27 a1 n t x2 = some rv → Jw E (ΓC ad cy) RX10 cX10_goOn 3 (some .boolean) (some (.int rv.1), va_up σ a rv.2) 27 [(0, .ref (ad (8 * a + 2))), (1, .int a1), (2, .int x2)] [] (va_up σ a t) := by
  intro n
  induction n with
  | zero =>
    intro t x2 h
    rw [T_goOn_L27] at h
    cases h
  | succ n ih =>
    intro t x2 h
    rw [T_goOn_L27] at h
    refine J_iload_n (q := 2) dX10_goOn_27 rfl rfl ?_
    refine J_iload_n (q := 1) dX10_goOn_28 rfl rfl ?_
    refine J_icmp_ge (tgt := 43) dX10_goOn_29 (by decide) (fun c4 => ?_) (fun c4 => ?_)
    · replace h := it_some h c4
      refine J_iconst dX10_goOn_43 ic_1 ?_
      exact J_zret dX10_goOn_44 (rt_fi h) rfl rfl
    · replace h := if_some h c4
      refine J_aload_n (q := 0) dX10_goOn_32 rfl rfl ?_
      obtain ⟨r5, t6, hq8, h⟩ := bd2_some h
      refine kx_X10_70 hi ha dX10_goOn_33 hq8 hL (by decide) (Nat.le_of_ble_eq_true rfl) ?_
      refine J_pop dX10_goOn_36 rfl ?_
      refine J_iinc (q := 2) (v := (x2 + (1 : Int32))) (lv' := [(2, .int (x2 + (1 : Int32))), (0, .ref (ad (8 * a + 2))), (1, .int a1)]) dX10_goOn_37 rfl (congrArg (fun z => x2 + z) ic_1) (by decide) rfl ?_
      refine J_tv (fun v7 ev7 => ?_)
      replace h := nm_some ev7 h
      refine J_goto (tgt := 27) dX10_goOn_40 (by decide) ?_
      exact J_sub [1, 2, 0] rfl (ih _ _ h)
set_option maxRecDepth 20000 in
set_option maxHeartbeats 4000000 in
theorem T_goOn_ok {E : Ec} {ad : Nat → Nat} {cy : Nat → ClassId} {rv : (Int32 × Ob)} {σ : CS} {a : Nat} {t : Ob} {p1 : Int32} (hi : wl_inj (ΓC ad cy)) (ha : okT a) (hL : Lv E 5) (h : T_goOn t p1 = some rv) : Jw E (ΓC ad cy) RX10 cX10_goOn 3 (some .boolean) (some (.int rv.1), va_up σ a rv.2) 0 [(0, .ref (ad (8 * a + 2))), (1, .int p1)] [] (va_up σ a t) := by
  unfold T_goOn at h
  refine J_iload_n (q := 1) dX10_goOn_0 rfl rfl ?_
  refine J_iconst dX10_goOn_1 ic_1 ?_
  refine J_icmp_lt (tgt := 23) dX10_goOn_2 (by decide) (fun c1 => ?_) (fun c1 => ?_)
  · replace h := it_some h c1
    refine J_iconst dX10_goOn_23 ic_0 ?_
    exact J_zret dX10_goOn_24 (rt_fi h) rfl rfl
  · replace h := if_some h c1
    refine J_iload_n (q := 1) dX10_goOn_5 rfl rfl ?_
    refine J_bipush dX10_goOn_6 bp_60 ?_
    refine J_icmp_gt (tgt := 23) dX10_goOn_8 (by decide) (fun c2 => ?_) (fun c2 => ?_)
    · replace h := it_some h c2
      refine J_iconst dX10_goOn_23 ic_0 ?_
      exact J_zret dX10_goOn_24 (rt_fi h) rfl rfl
    · replace h := if_some h c2
      refine J_aload_n (q := 0) dX10_goOn_11 rfl rfl ?_
      refine gT_X10_day dX10_goOn_12 ha vu_at ?_
      refine J_iload_n (q := 1) dX10_goOn_15 rfl rfl ?_
      refine J_iadd dX10_goOn_16 ?_
      refine J_sipush dX10_goOn_17 sp_999 ?_
      refine J_icmp_le (tgt := 25) dX10_goOn_20 (by decide) (fun c3 => ?_) (fun c3 => ?_)
      · replace h := it_some h c3
        refine J_iconst dX10_goOn_25 ic_0 ?_
        refine J_istore_n (lv' := [(2, .int (0 : Int32)), (0, .ref (ad (8 * a + 2))), (1, .int p1)]) dX10_goOn_26 rfl (by decide) rfl ?_
        refine J_sub [1, 2, 0] rfl (T_goOn_L27_ok hi ha hL FU _ _ h)
      · replace h := if_some h c3
        refine J_iconst dX10_goOn_23 ic_0 ?_
        exact J_zret dX10_goOn_24 (rt_fi h) rfl rfl
set_option maxRecDepth 20000 in
set_option maxHeartbeats 4000000 in
theorem kX10_goOn {l : Launch} {D : va_G} {ad : Nat → Nat} {cy : Nat → ClassId} {rv : (Int32 × Ob)} {σ : CS} {a : Nat} {t : Ob} {p1 : Int32} (hi : wl_inj (ΓC ad cy)) (ha : okT a) (h : T_goOn t p1 = some rv) : Cn l D (ΓC ad cy) yX10_goOn cX10_goOn 3 (some .boolean) 5 [.ref (ad (8 * a + 2)), .int p1] (va_up σ a t) (some (.int rv.1), va_up σ a rv.2) :=
  Cn.of hi rfl (Nat.le_of_ble_eq_true rfl) (fun _ _ _ hL => T_goOn_ok hi ha hL h)
theorem pdX9_obey : (parseMethodDescriptor yX9_obey.desc).map (fun d => d.parameters.length) = some 3 := by decide +kernel
theorem kx_X9_38 {E : Ec} {ad : Nat → Nat} {cy : Nat → ClassId} {cc : ByteArray} {nL : Nat} {rt : Option FieldType} {r : Option Value × CS} {pc : Nat} {lv : List (Nat × Value)} {st : List Value} {σ : CS} {n : Nat} {p0 : Nat} {p1 : Int32} {p2 : Int32} {v : Int32} (hi : wl_inj (ΓC ad cy)) (hp0 : okS p0) (hd : decode cc pc = .ok (.invokestatic 38, 3)) (hq : X_number σ p0 p1 p2 = some v) (hL : Lv E n) (hn : 0 + 1 ≤ n) (hW : (st.map fun v => v.category).sum ≤ 8) (k : Jw E (ΓC ad cy) RX9 cc nL rt r (pc + 3) lv (.int v :: st) σ) : Jw E (ΓC ad cy) RX9 cc nL rt r pc lv (.int p2 :: .int p1 :: .ref (ad (2 * p0 + 70)) :: st) σ :=
  J_callS (Γ := ΓC ad cy) (av := [.ref (ad (2 * p0 + 70)), .int p1, .int p2]) (q := (some (.int v), σ)) (st := st) hd (kX9_number hi hp0 hq) tw_2_3 tw_2_4 tw_1_14 tw_2_5 ⟨by decide, by decide, pdX9_number⟩ rfl (by decide) hL hn hW k
theorem kx_X9_42 {E : Ec} {ad : Nat → Nat} {cy : Nat → ClassId} {cc : ByteArray} {nL : Nat} {rt : Option FieldType} {r : Option Value × CS} {pc : Nat} {lv : List (Nat × Value)} {st : List Value} {σ : CS} {n a : Nat} {p1 : Int32} {p2 : Int32} {p3 : Int32} {v : Int32} {t' : Ob} (hi : wl_inj (ΓC ad cy)) (ha : okT a) (hd : decode cc pc = .ok (.invokevirtual 42, 3)) (hq : T_remake (σ a) p1 p2 p3 = some (v, t')) (hL : Lv E n) (hn : 1 + 1 ≤ n) (hW : (st.map fun v => v.category).sum ≤ 8) (k : Jw E (ΓC ad cy) RX9 cc nL rt r (pc + 3) lv (.int v :: st) (va_up σ a t')) : Jw E (ΓC ad cy) RX9 cc nL rt r pc lv (.int p3 :: .int p2 :: .int p1 :: .ref (ad (8 * a + 2)) :: st) σ := by
  have hM := fun (l : Launch) (D : va_G) => kX10_remake (l := l) (D := D) (ad := ad) (cy := cy) (σ := σ) hi ha hq
  simp only [vu_self] at hM
  exact J_callV (Γ := ΓC ad cy) (h := 8 * a + 2) (ci := 9) (av := [.int p1, .int p2, .int p3]) (q := (some (.int v), va_up σ a t')) (st := st) hd (hM _ _) tw_2_6 tw_2_7 tw_1_10 tw_2_9 tw_2_8 ⟨by decide, by decide, pdX10_remake⟩ (hT (j := 0) ha (by decide)) (cC_t0 ha rfl) rfl rfl rfl (by decide) hL hn hW k
theorem kx_X9_48 {E : Ec} {ad : Nat → Nat} {cy : Nat → ClassId} {cc : ByteArray} {nL : Nat} {rt : Option FieldType} {r : Option Value × CS} {pc : Nat} {lv : List (Nat × Value)} {st : List Value} {σ : CS} {n a : Nat} {p1 : Int32} {p2 : Int32} {p3 : Int32} {v : Int32} {t' : Ob} (hi : wl_inj (ΓC ad cy)) (ha : okT a) (hd : decode cc pc = .ok (.invokevirtual 48, 3)) (hq : T_arrive (σ a) p1 p2 p3 = some (v, t')) (hL : Lv E n) (hn : 2 + 1 ≤ n) (hW : (st.map fun v => v.category).sum ≤ 8) (k : Jw E (ΓC ad cy) RX9 cc nL rt r (pc + 3) lv (.int v :: st) (va_up σ a t')) : Jw E (ΓC ad cy) RX9 cc nL rt r pc lv (.int p3 :: .int p2 :: .int p1 :: .ref (ad (8 * a + 2)) :: st) σ := by
  have hM := fun (l : Launch) (D : va_G) => kX10_arrive (l := l) (D := D) (ad := ad) (cy := cy) (σ := σ) hi ha hq
  simp only [vu_self] at hM
  exact J_callV (Γ := ΓC ad cy) (h := 8 * a + 2) (ci := 9) (av := [.int p1, .int p2, .int p3]) (q := (some (.int v), va_up σ a t')) (st := st) hd (hM _ _) tw_2_16 tw_2_17 tw_1_10 tw_2_19 tw_2_18 ⟨by decide, by decide, pdX10_arrive⟩ (hT (j := 0) ha (by decide)) (cC_t0 ha rfl) rfl rfl rfl (by decide) hL hn hW k
theorem kx_X9_51 {E : Ec} {ad : Nat → Nat} {cy : Nat → ClassId} {cc : ByteArray} {nL : Nat} {rt : Option FieldType} {r : Option Value × CS} {pc : Nat} {lv : List (Nat × Value)} {st : List Value} {σ : CS} {n a : Nat} {p1 : Int32} {p2 : Int32} {p3 : Int32} {v : Int32} {t' : Ob} (hi : wl_inj (ΓC ad cy)) (ha : okT a) (hd : decode cc pc = .ok (.invokevirtual 51, 3)) (hq : T_turnFact (σ a) p1 p2 p3 = some (v, t')) (hL : Lv E n) (hn : 1 + 1 ≤ n) (hW : (st.map fun v => v.category).sum ≤ 8) (k : Jw E (ΓC ad cy) RX9 cc nL rt r (pc + 3) lv (.int v :: st) (va_up σ a t')) : Jw E (ΓC ad cy) RX9 cc nL rt r pc lv (.int p3 :: .int p2 :: .int p1 :: .ref (ad (8 * a + 2)) :: st) σ := by
  have hM := fun (l : Launch) (D : va_G) => kX10_turnFact (l := l) (D := D) (ad := ad) (cy := cy) (σ := σ) hi ha hq
  simp only [vu_self] at hM
  exact J_callV (Γ := ΓC ad cy) (h := 8 * a + 2) (ci := 9) (av := [.int p1, .int p2, .int p3]) (q := (some (.int v), va_up σ a t')) (st := st) hd (hM _ _) tw_2_24 tw_2_25 tw_1_10 tw_2_27 tw_2_26 ⟨by decide, by decide, pdX10_turnFact⟩ (hT (j := 0) ha (by decide)) (cC_t0 ha rfl) rfl rfl rfl (by decide) hL hn hW k
theorem kx_X9_54 {E : Ec} {ad : Nat → Nat} {cy : Nat → ClassId} {cc : ByteArray} {nL : Nat} {rt : Option FieldType} {r : Option Value × CS} {pc : Nat} {lv : List (Nat × Value)} {st : List Value} {σ : CS} {n a : Nat} {p1 : Int32} {p2 : Int32} {v : Int32} {t' : Ob} (hi : wl_inj (ΓC ad cy)) (ha : okT a) (hd : decode cc pc = .ok (.invokevirtual 54, 3)) (hq : T_handOver (σ a) p1 p2 = some (v, t')) (hL : Lv E n) (hn : 1 + 1 ≤ n) (hW : (st.map fun v => v.category).sum ≤ 8) (k : Jw E (ΓC ad cy) RX9 cc nL rt r (pc + 3) lv (.int v :: st) (va_up σ a t')) : Jw E (ΓC ad cy) RX9 cc nL rt r pc lv (.int p2 :: .int p1 :: .ref (ad (8 * a + 2)) :: st) σ := by
  have hM := fun (l : Launch) (D : va_G) => kX10_handOver (l := l) (D := D) (ad := ad) (cy := cy) (σ := σ) hi ha hq
  simp only [vu_self] at hM
  exact J_callV (Γ := ΓC ad cy) (h := 8 * a + 2) (ci := 9) (av := [.int p1, .int p2]) (q := (some (.int v), va_up σ a t')) (st := st) hd (hM _ _) tw_2_32 tw_2_33 tw_1_10 tw_2_35 tw_2_34 ⟨by decide, by decide, pdX10_handOver⟩ (hT (j := 0) ha (by decide)) (cC_t0 ha rfl) rfl rfl rfl (by decide) hL hn hW k
theorem kx_X9_58 {E : Ec} {ad : Nat → Nat} {cy : Nat → ClassId} {cc : ByteArray} {nL : Nat} {rt : Option FieldType} {r : Option Value × CS} {pc : Nat} {lv : List (Nat × Value)} {st : List Value} {σ : CS} {n a : Nat} {p1 : Int32} {p2 : Int32} {v : Int32} {t' : Ob} (hi : wl_inj (ΓC ad cy)) (ha : okT a) (hd : decode cc pc = .ok (.invokevirtual 58, 3)) (hq : T_turnTo (σ a) p1 p2 = some (v, t')) (hL : Lv E n) (hn : 2 + 1 ≤ n) (hW : (st.map fun v => v.category).sum ≤ 8) (k : Jw E (ΓC ad cy) RX9 cc nL rt r (pc + 3) lv (.int v :: st) (va_up σ a t')) : Jw E (ΓC ad cy) RX9 cc nL rt r pc lv (.int p2 :: .int p1 :: .ref (ad (8 * a + 2)) :: st) σ := by
  have hM := fun (l : Launch) (D : va_G) => kX10_turnTo (l := l) (D := D) (ad := ad) (cy := cy) (σ := σ) hi ha hq
  simp only [vu_self] at hM
  exact J_callV (Γ := ΓC ad cy) (h := 8 * a + 2) (ci := 9) (av := [.int p1, .int p2]) (q := (some (.int v), va_up σ a t')) (st := st) hd (hM _ _) tw_2_36 tw_2_37 tw_1_10 tw_2_39 tw_2_38 ⟨by decide, by decide, pdX10_turnTo⟩ (hT (j := 0) ha (by decide)) (cC_t0 ha rfl) rfl rfl rfl (by decide) hL hn hW k
theorem kx_X9_61 {E : Ec} {ad : Nat → Nat} {cy : Nat → ClassId} {cc : ByteArray} {nL : Nat} {rt : Option FieldType} {r : Option Value × CS} {pc : Nat} {lv : List (Nat × Value)} {st : List Value} {σ : CS} {n a : Nat} {p1 : Int32} {v : Int32} {t' : Ob} (hi : wl_inj (ΓC ad cy)) (ha : okT a) (hd : decode cc pc = .ok (.invokevirtual 61, 3)) (hq : T_goOn (σ a) p1 = some (v, t')) (hL : Lv E n) (hn : 5 + 1 ≤ n) (hW : (st.map fun v => v.category).sum ≤ 8) (k : Jw E (ΓC ad cy) RX9 cc nL rt r (pc + 3) lv (.int v :: st) (va_up σ a t')) : Jw E (ΓC ad cy) RX9 cc nL rt r pc lv (.int p1 :: .ref (ad (8 * a + 2)) :: st) σ := by
  have hM := fun (l : Launch) (D : va_G) => kX10_goOn (l := l) (D := D) (ad := ad) (cy := cy) (σ := σ) hi ha hq
  simp only [vu_self] at hM
  exact J_callV (Γ := ΓC ad cy) (h := 8 * a + 2) (ci := 9) (av := [.int p1]) (q := (some (.int v), va_up σ a t')) (st := st) hd (hM _ _) tw_2_40 tw_2_41 tw_1_10 tw_2_43 tw_2_42 ⟨by decide, by decide, pdX10_goOn⟩ (hT (j := 0) ha (by decide)) (cC_t0 ha rfl) rfl rfl rfl (by decide) hL hn hW k
set_option maxRecDepth 20000 in
set_option maxHeartbeats 4000000 in
theorem X_obey_ok {E : Ec} {ad : Nat → Nat} {cy : Nat → ClassId} {rv : (Int32 × CS)} {σ : CS} {p0 : Nat} {p1 : Int32} {p2 : Nat} (hi : wl_inj (ΓC ad cy)) (hL : Lv E 6) (hp0 : okS p0) (hp2 : okT p2) (h : X_obey σ p0 p1 p2 = some rv) : Jw E (ΓC ad cy) RX9 cX9_obey 5 (some .boolean) (some (.int rv.1), rv.2) 0 [(0, .ref (ad (2 * p0 + 70))), (1, .int p1), (2, .ref (ad (8 * p2 + 2)))] [] σ := by
  unfold X_obey at h
  refine J_aload_n (q := 0) dX9_obey_0 rfl rfl ?_
  refine J_iload_n (q := 1) dX9_obey_1 rfl rfl ?_
  refine J_iconst dX9_obey_2 ic_1 ?_
  refine J_iadd dX9_obey_3 ?_
  refine J_iconst dX9_obey_4 ic_1 ?_
  obtain ⟨r1, hq51, h⟩ := bd_some h
  refine kx_X9_38 hi hp0 dX9_obey_5 hq51 hL (by decide) (Nat.le_of_ble_eq_true rfl) ?_
  refine J_istore_n (lv' := [(3, .int r1), (0, .ref (ad (2 * p0 + 70))), (1, .int p1), (2, .ref (ad (8 * p2 + 2)))]) dX9_obey_8 rfl (by decide) rfl ?_
  refine J_aload_n (q := 1) dX9_obey_9 rfl rfl ?_
  refine J_iload_n (q := 2) dX9_obey_10 rfl rfl ?_
  refine J_iconst dX9_obey_11 ic_2 ?_
  refine J_iadd dX9_obey_12 ?_
  refine J_iconst dX9_obey_13 ic_1 ?_
  obtain ⟨r2, hq52, h⟩ := bd_some h
  refine kx_X9_38 hi hp0 dX9_obey_14 hq52 hL (by decide) (Nat.le_of_ble_eq_true rfl) ?_
  refine J_istore (lv' := [(4, .int r2), (3, .int r1), (0, .ref (ad (2 * p0 + 70))), (1, .int p1), (2, .ref (ad (8 * p2 + 2)))]) dX9_obey_17 (by decide) rfl ?_
  refine J_aload_n (q := 2) dX9_obey_19 rfl rfl ?_
  refine gS_X9_cells dX9_obey_20 hp0 rfl ?_
  refine J_iload_n (q := 3) dX9_obey_23 rfl rfl ?_
  obtain ⟨hg3, h⟩ := gd_some h
  refine aS_ld dX9_obey_24 hp0 rfl hg3 ?_
  by_cases c4 : (ix (oA (σ p0) 1) p1) = (99 : Int32)
  · replace h := it_some h c4
    refine J_tin (tgt := 175) dX9_obey_25 (by rw [c4]; decide) (by rw [c4]; decide) (by rw [c4]; rfl) (by decide) ?_
    refine J_aload_n (q := 4) dX9_obey_175 rfl rfl ?_
    refine J_iload_n (q := 1) dX9_obey_176 rfl rfl ?_
    refine J_iload (q := 0) dX9_obey_177 rfl ?_
    obtain ⟨r5, t6, hq53, h⟩ := bd2_some h
    refine kx_X9_58 hi hp2 dX9_obey_179 hq53 hL (by decide) (Nat.le_of_ble_eq_true rfl) ?_
    refine J_tw (fun σ7 eσ7 => ?_)
    replace h := nm_some eσ7 h
    obtain ⟨hg8, h⟩ := gd_some h
    exact J_zret dX9_obey_182 (rt_i h) rfl hg8
  · replace h := if_some h c4
    by_cases c9 : (ix (oA (σ p0) 1) p1) = (100 : Int32)
    · replace h := it_some h c9
      refine J_tin (tgt := 183) dX9_obey_25 (by rw [c9]; decide) (by rw [c9]; decide) (by rw [c9]; rfl) (by decide) ?_
      refine J_aload_n (q := 4) dX9_obey_183 rfl rfl ?_
      refine J_aload_n (q := 2) dX9_obey_184 rfl rfl ?_
      refine J_iload_n (q := 3) dX9_obey_185 rfl rfl ?_
      refine J_iconst dX9_obey_186 ic_1 ?_
      refine J_iadd dX9_obey_187 ?_
      refine J_iconst dX9_obey_188 ic_2 ?_
      obtain ⟨r10, hq54, h⟩ := bd_some h
      refine kx_X9_38 hi hp0 dX9_obey_189 hq54 hL (by decide) (Nat.le_of_ble_eq_true rfl) ?_
      obtain ⟨r11, t12, hq55, h⟩ := bd2_some h
      refine kx_X9_61 hi hp2 dX9_obey_192 hq55 hL (by decide) (Nat.le_of_ble_eq_true rfl) ?_
      refine J_tw (fun σ13 eσ13 => ?_)
      replace h := nm_some eσ13 h
      obtain ⟨hg14, h⟩ := gd_some h
      exact J_zret dX9_obey_195 (rt_i h) rfl hg14
    · replace h := if_some h c9
      by_cases c15 : (ix (oA (σ p0) 1) p1) = (101 : Int32)
      · replace h := it_some h c15
        refine J_tin (tgt := 196) dX9_obey_25 (by rw [c15]; decide) (by rw [c15]; decide) (by rw [c15]; rfl) (by decide) ?_
        refine J_iconst dX9_obey_196 ic_0 ?_
        exact J_zret dX9_obey_197 (rt_i h) rfl rfl
      · replace h := if_some h c15
        by_cases c16 : (ix (oA (σ p0) 1) p1) = (102 : Int32)
        · replace h := it_some h c16
          refine J_tin (tgt := 196) dX9_obey_25 (by rw [c16]; decide) (by rw [c16]; decide) (by rw [c16]; rfl) (by decide) ?_
          refine J_iconst dX9_obey_196 ic_0 ?_
          exact J_zret dX9_obey_197 (rt_i h) rfl rfl
        · replace h := if_some h c16
          by_cases c17 : (ix (oA (σ p0) 1) p1) = (103 : Int32)
          · replace h := it_some h c17
            refine J_tin (tgt := 196) dX9_obey_25 (by rw [c17]; decide) (by rw [c17]; decide) (by rw [c17]; rfl) (by decide) ?_
            refine J_iconst dX9_obey_196 ic_0 ?_
            exact J_zret dX9_obey_197 (rt_i h) rfl rfl
          · replace h := if_some h c17
            by_cases c18 : (ix (oA (σ p0) 1) p1) = (104 : Int32)
            · replace h := it_some h c18
              refine J_tin (tgt := 196) dX9_obey_25 (by rw [c18]; decide) (by rw [c18]; decide) (by rw [c18]; rfl) (by decide) ?_
              refine J_iconst dX9_obey_196 ic_0 ?_
              exact J_zret dX9_obey_197 (rt_i h) rfl rfl
            · replace h := if_some h c18
              by_cases c19 : (ix (oA (σ p0) 1) p1) = (105 : Int32)
              · replace h := it_some h c19
                refine J_tin (tgt := 196) dX9_obey_25 (by rw [c19]; decide) (by rw [c19]; decide) (by rw [c19]; rfl) (by decide) ?_
                refine J_iconst dX9_obey_196 ic_0 ?_
                exact J_zret dX9_obey_197 (rt_i h) rfl rfl
              · replace h := if_some h c19
                by_cases c20 : (ix (oA (σ p0) 1) p1) = (106 : Int32)
                · replace h := it_some h c20
                  refine J_tin (tgt := 196) dX9_obey_25 (by rw [c20]; decide) (by rw [c20]; decide) (by rw [c20]; rfl) (by decide) ?_
                  refine J_iconst dX9_obey_196 ic_0 ?_
                  exact J_zret dX9_obey_197 (rt_i h) rfl rfl
                · replace h := if_some h c20
                  by_cases c21 : (ix (oA (σ p0) 1) p1) = (107 : Int32)
                  · replace h := it_some h c21
                    refine J_tin (tgt := 196) dX9_obey_25 (by rw [c21]; decide) (by rw [c21]; decide) (by rw [c21]; rfl) (by decide) ?_
                    refine J_iconst dX9_obey_196 ic_0 ?_
                    exact J_zret dX9_obey_197 (rt_i h) rfl rfl
                  · replace h := if_some h c21
                    by_cases c22 : (ix (oA (σ p0) 1) p1) = (108 : Int32)
                    · replace h := it_some h c22
                      refine J_tin (tgt := 151) dX9_obey_25 (by rw [c22]; decide) (by rw [c22]; decide) (by rw [c22]; rfl) (by decide) ?_
                      refine J_aload_n (q := 4) dX9_obey_151 rfl rfl ?_
                      refine J_iload_n (q := 1) dX9_obey_152 rfl rfl ?_
                      refine J_iload (q := 0) dX9_obey_153 rfl ?_
                      refine J_aload_n (q := 2) dX9_obey_155 rfl rfl ?_
                      refine J_iload_n (q := 3) dX9_obey_156 rfl rfl ?_
                      refine J_iconst dX9_obey_157 ic_3 ?_
                      refine J_iadd dX9_obey_158 ?_
                      refine J_iconst dX9_obey_159 ic_2 ?_
                      obtain ⟨r23, hq56, h⟩ := bd_some h
                      refine kx_X9_38 hi hp0 dX9_obey_160 hq56 hL (by decide) (Nat.le_of_ble_eq_true rfl) ?_
                      obtain ⟨r24, t25, hq57, h⟩ := bd2_some h
                      refine kx_X9_51 hi hp2 dX9_obey_163 hq57 hL (by decide) (Nat.le_of_ble_eq_true rfl) ?_
                      refine J_tw (fun σ26 eσ26 => ?_)
                      replace h := nm_some eσ26 h
                      obtain ⟨hg27, h⟩ := gd_some h
                      exact J_zret dX9_obey_166 (rt_i h) rfl hg27
                    · replace h := if_some h c22
                      by_cases c28 : (ix (oA (σ p0) 1) p1) = (109 : Int32)
                      · replace h := it_some h c28
                        refine J_tin (tgt := 196) dX9_obey_25 (by rw [c28]; decide) (by rw [c28]; decide) (by rw [c28]; rfl) (by decide) ?_
                        refine J_iconst dX9_obey_196 ic_0 ?_
                        exact J_zret dX9_obey_197 (rt_i h) rfl rfl
                      · replace h := if_some h c28
                        by_cases c29 : (ix (oA (σ p0) 1) p1) = (110 : Int32)
                        · replace h := it_some h c29
                          refine J_tin (tgt := 196) dX9_obey_25 (by rw [c29]; decide) (by rw [c29]; decide) (by rw [c29]; rfl) (by decide) ?_
                          refine J_iconst dX9_obey_196 ic_0 ?_
                          exact J_zret dX9_obey_197 (rt_i h) rfl rfl
                        · replace h := if_some h c29
                          by_cases c30 : (ix (oA (σ p0) 1) p1) = (111 : Int32)
                          · replace h := it_some h c30
                            refine J_tin (tgt := 167) dX9_obey_25 (by rw [c30]; decide) (by rw [c30]; decide) (by rw [c30]; rfl) (by decide) ?_
                            refine J_aload_n (q := 4) dX9_obey_167 rfl rfl ?_
                            refine J_iload_n (q := 1) dX9_obey_168 rfl rfl ?_
                            refine J_iload (q := 0) dX9_obey_169 rfl ?_
                            obtain ⟨r31, t32, hq58, h⟩ := bd2_some h
                            refine kx_X9_54 hi hp2 dX9_obey_171 hq58 hL (by decide) (Nat.le_of_ble_eq_true rfl) ?_
                            refine J_tw (fun σ33 eσ33 => ?_)
                            replace h := nm_some eσ33 h
                            obtain ⟨hg34, h⟩ := gd_some h
                            exact J_zret dX9_obey_174 (rt_i h) rfl hg34
                          · replace h := if_some h c30
                            by_cases c35 : (ix (oA (σ p0) 1) p1) = (112 : Int32)
                            · replace h := it_some h c35
                              refine J_tin (tgt := 135) dX9_obey_25 (by rw [c35]; decide) (by rw [c35]; decide) (by rw [c35]; rfl) (by decide) ?_
                              refine J_aload_n (q := 4) dX9_obey_135 rfl rfl ?_
                              refine J_iload_n (q := 1) dX9_obey_136 rfl rfl ?_
                              refine J_iload (q := 0) dX9_obey_137 rfl ?_
                              refine J_aload_n (q := 2) dX9_obey_139 rfl rfl ?_
                              refine J_iload_n (q := 3) dX9_obey_140 rfl rfl ?_
                              refine J_iconst dX9_obey_141 ic_3 ?_
                              refine J_iadd dX9_obey_142 ?_
                              refine J_iconst dX9_obey_143 ic_1 ?_
                              obtain ⟨r36, hq59, h⟩ := bd_some h
                              refine kx_X9_38 hi hp0 dX9_obey_144 hq59 hL (by decide) (Nat.le_of_ble_eq_true rfl) ?_
                              obtain ⟨r37, t38, hq60, h⟩ := bd2_some h
                              refine kx_X9_48 hi hp2 dX9_obey_147 hq60 hL (by decide) (Nat.le_of_ble_eq_true rfl) ?_
                              refine J_tw (fun σ39 eσ39 => ?_)
                              replace h := nm_some eσ39 h
                              obtain ⟨hg40, h⟩ := gd_some h
                              exact J_zret dX9_obey_150 (rt_i h) rfl hg40
                            · replace h := if_some h c35
                              by_cases c41 : (ix (oA (σ p0) 1) p1) = (113 : Int32)
                              · replace h := it_some h c41
                                refine J_tin (tgt := 196) dX9_obey_25 (by rw [c41]; decide) (by rw [c41]; decide) (by rw [c41]; rfl) (by decide) ?_
                                refine J_iconst dX9_obey_196 ic_0 ?_
                                exact J_zret dX9_obey_197 (rt_i h) rfl rfl
                              · replace h := if_some h c41
                                by_cases c42 : (ix (oA (σ p0) 1) p1) = (114 : Int32)
                                · replace h := it_some h c42
                                  refine J_tin (tgt := 196) dX9_obey_25 (by rw [c42]; decide) (by rw [c42]; decide) (by rw [c42]; rfl) (by decide) ?_
                                  refine J_iconst dX9_obey_196 ic_0 ?_
                                  exact J_zret dX9_obey_197 (rt_i h) rfl rfl
                                · replace h := if_some h c42
                                  by_cases c43 : (ix (oA (σ p0) 1) p1) = (115 : Int32)
                                  · replace h := it_some h c43
                                    refine J_tin (tgt := 196) dX9_obey_25 (by rw [c43]; decide) (by rw [c43]; decide) (by rw [c43]; rfl) (by decide) ?_
                                    refine J_iconst dX9_obey_196 ic_0 ?_
                                    exact J_zret dX9_obey_197 (rt_i h) rfl rfl
                                  · replace h := if_some h c43
                                    by_cases c44 : (ix (oA (σ p0) 1) p1) = (116 : Int32)
                                    · replace h := it_some h c44
                                      refine J_tin (tgt := 112) dX9_obey_25 (by rw [c44]; decide) (by rw [c44]; decide) (by rw [c44]; rfl) (by decide) ?_
                                      refine J_aload_n (q := 4) dX9_obey_112 rfl rfl ?_
                                      refine J_iload_n (q := 1) dX9_obey_113 rfl rfl ?_
                                      refine J_aload_n (q := 2) dX9_obey_114 rfl rfl ?_
                                      refine J_iload_n (q := 3) dX9_obey_115 rfl rfl ?_
                                      refine J_iconst dX9_obey_116 ic_2 ?_
                                      refine J_iadd dX9_obey_117 ?_
                                      refine J_iconst dX9_obey_118 ic_4 ?_
                                      obtain ⟨r45, hq61, h⟩ := bd_some h
                                      refine kx_X9_38 hi hp0 dX9_obey_119 hq61 hL (by decide) (Nat.le_of_ble_eq_true rfl) ?_
                                      refine J_aload_n (q := 2) dX9_obey_122 rfl rfl ?_
                                      refine J_iload_n (q := 3) dX9_obey_123 rfl rfl ?_
                                      refine J_bipush dX9_obey_124 bp_6 ?_
                                      refine J_iadd dX9_obey_126 ?_
                                      refine J_iconst dX9_obey_127 ic_1 ?_
                                      obtain ⟨r46, hq62, h⟩ := bd_some h
                                      refine kx_X9_38 hi hp0 dX9_obey_128 hq62 hL (by decide) (Nat.le_of_ble_eq_true rfl) ?_
                                      obtain ⟨r47, t48, hq63, h⟩ := bd2_some h
                                      refine kx_X9_42 hi hp2 dX9_obey_131 hq63 hL (by decide) (Nat.le_of_ble_eq_true rfl) ?_
                                      refine J_tw (fun σ49 eσ49 => ?_)
                                      replace h := nm_some eσ49 h
                                      obtain ⟨hg50, h⟩ := gd_some h
                                      exact J_zret dX9_obey_134 (rt_i h) rfl hg50
                                    · replace h := if_some h c44
                                      refine J_tout (tgt := 196) dX9_obey_25 (sw_out99_116 c4 c9 c15 c16 c17 c18 c19 c20 c21 c22 c28 c29 c30 c35 c41 c42 c43 c44) (by decide) ?_
                                      refine J_iconst dX9_obey_196 ic_0 ?_
                                      exact J_zret dX9_obey_197 (rt_i h) rfl rfl
set_option maxRecDepth 20000 in
set_option maxHeartbeats 4000000 in
theorem kX9_obey {l : Launch} {D : va_G} {ad : Nat → Nat} {cy : Nat → ClassId} {rv : (Int32 × CS)} {σ : CS} {p0 : Nat} {p1 : Int32} {p2 : Nat} (hi : wl_inj (ΓC ad cy)) (hp0 : okS p0) (hp2 : okT p2) (h : X_obey σ p0 p1 p2 = some rv) : Cn l D (ΓC ad cy) yX9_obey cX9_obey 5 (some .boolean) 6 [.ref (ad (2 * p0 + 70)), .int p1, .ref (ad (8 * p2 + 2))] σ (some (.int rv.1), rv.2) :=
  Cn.of hi rfl (Nat.le_of_ble_eq_true rfl) (fun _ _ _ hL => X_obey_ok hi hL hp0 hp2 h)
theorem pdX10_takeFrom : (parseMethodDescriptor yX10_takeFrom.desc).map (fun d => d.parameters.length) = some 1 := by decide +kernel
set_option maxRecDepth 20000 in
set_option maxHeartbeats 4000000 in
theorem T_takeFrom_ok {E : Ec} {ad : Nat → Nat} {cy : Nat → ClassId} {rv : Ob} {σ : CS} {a : Nat} {a2 : Nat} {u : Ob} {t : Ob} (hi : wl_inj (ΓC ad cy)) (ha : okT a) (ha2 : okT a2) (htu : ∀ t, (va_up σ a t) a2 = u) (hL : Lv E 1) (h : T_takeFrom t u = some rv) : Jw E (ΓC ad cy) RX10 cX10_takeFrom 2 none (none, va_up σ a rv) 0 [(0, .ref (ad (8 * a + 2))), (1, .ref (ad (8 * a2 + 2)))] [] (va_up σ a t) := by
  unfold T_takeFrom at h
  refine J_aload_n (q := 0) dX10_takeFrom_0 rfl rfl ?_
  refine J_aload_n (q := 1) dX10_takeFrom_1 rfl rfl ?_
  refine gT_X10_people dX10_takeFrom_2 ha2 (htu _) ?_
  refine pT_X10_people dX10_takeFrom_5 ha ?_
  refine J_twu (fun t1 et1 => ?_)
  replace h := nm_some et1 h
  refine J_aload_n (q := 0) dX10_takeFrom_8 rfl rfl ?_
  refine J_aload_n (q := 1) dX10_takeFrom_9 rfl rfl ?_
  refine gT_X10_day dX10_takeFrom_10 ha2 (htu _) ?_
  refine pT_X10_day dX10_takeFrom_13 ha ?_
  refine J_twu (fun t2 et2 => ?_)
  replace h := nm_some et2 h
  refine J_aload_n (q := 1) dX10_takeFrom_16 rfl rfl ?_
  refine gT_X10_truth dX10_takeFrom_17 ha2 (htu _) ?_
  refine J_iconst dX10_takeFrom_20 ic_0 ?_
  refine J_aload_n (q := 0) dX10_takeFrom_21 rfl rfl ?_
  refine gT_X10_truth dX10_takeFrom_22 ha vu_at ?_
  refine J_iconst dX10_takeFrom_25 ic_0 ?_
  refine J_iconst dX10_takeFrom_26 ic_5 ?_
  refine kcp_T (j := 1) (n := (5 : Int32)) dX10_takeFrom_27 ha ha2 (htu _) (by decide) (by decide) hL (by decide) (Nat.le_of_ble_eq_true rfl) ?_
  refine J_twu (fun t3 et3 => ?_)
  replace h := nm_some et3 h
  refine J_aload_n (q := 1) dX10_takeFrom_30 rfl rfl ?_
  refine gT_X10_worth dX10_takeFrom_31 ha2 (htu _) ?_
  refine J_iconst dX10_takeFrom_34 ic_0 ?_
  refine J_aload_n (q := 0) dX10_takeFrom_35 rfl rfl ?_
  refine gT_X10_worth dX10_takeFrom_36 ha vu_at ?_
  refine J_iconst dX10_takeFrom_39 ic_0 ?_
  refine J_iconst dX10_takeFrom_40 ic_5 ?_
  refine kcp_T (j := 2) (n := (5 : Int32)) dX10_takeFrom_41 ha ha2 (htu _) (by decide) (by decide) hL (by decide) (Nat.le_of_ble_eq_true rfl) ?_
  refine J_twu (fun t4 et4 => ?_)
  replace h := nm_some et4 h
  refine J_aload_n (q := 1) dX10_takeFrom_44 rfl rfl ?_
  refine gT_X10_owner dX10_takeFrom_45 ha2 (htu _) ?_
  refine J_iconst dX10_takeFrom_48 ic_0 ?_
  refine J_aload_n (q := 0) dX10_takeFrom_49 rfl rfl ?_
  refine gT_X10_owner dX10_takeFrom_50 ha vu_at ?_
  refine J_iconst dX10_takeFrom_53 ic_0 ?_
  refine J_iconst dX10_takeFrom_54 ic_5 ?_
  refine kcp_T (j := 3) (n := (5 : Int32)) dX10_takeFrom_55 ha ha2 (htu _) (by decide) (by decide) hL (by decide) (Nat.le_of_ble_eq_true rfl) ?_
  refine J_twu (fun t5 et5 => ?_)
  replace h := nm_some et5 h
  refine J_aload_n (q := 1) dX10_takeFrom_58 rfl rfl ?_
  refine gT_X10_kind dX10_takeFrom_59 ha2 (htu _) ?_
  refine J_iconst dX10_takeFrom_62 ic_0 ?_
  refine J_aload_n (q := 0) dX10_takeFrom_63 rfl rfl ?_
  refine gT_X10_kind dX10_takeFrom_64 ha vu_at ?_
  refine J_iconst dX10_takeFrom_67 ic_0 ?_
  refine J_bipush dX10_takeFrom_68 bp_7 ?_
  refine kcp_T (j := 4) (n := (7 : Int32)) dX10_takeFrom_70 ha ha2 (htu _) (by decide) (by decide) hL (by decide) (Nat.le_of_ble_eq_true rfl) ?_
  refine J_twu (fun t6 et6 => ?_)
  replace h := nm_some et6 h
  refine J_aload_n (q := 1) dX10_takeFrom_73 rfl rfl ?_
  refine gT_X10_figure dX10_takeFrom_74 ha2 (htu _) ?_
  refine J_iconst dX10_takeFrom_77 ic_0 ?_
  refine J_aload_n (q := 0) dX10_takeFrom_78 rfl rfl ?_
  refine gT_X10_figure dX10_takeFrom_79 ha vu_at ?_
  refine J_iconst dX10_takeFrom_82 ic_0 ?_
  refine J_bipush dX10_takeFrom_83 bp_7 ?_
  refine kcp_T (j := 5) (n := (7 : Int32)) dX10_takeFrom_85 ha ha2 (htu _) (by decide) (by decide) hL (by decide) (Nat.le_of_ble_eq_true rfl) ?_
  refine J_twu (fun t7 et7 => ?_)
  replace h := nm_some et7 h
  refine J_aload_n (q := 1) dX10_takeFrom_88 rfl rfl ?_
  refine gT_X10_caresFor dX10_takeFrom_89 ha2 (htu _) ?_
  refine J_iconst dX10_takeFrom_92 ic_0 ?_
  refine J_aload_n (q := 0) dX10_takeFrom_93 rfl rfl ?_
  refine gT_X10_caresFor dX10_takeFrom_94 ha vu_at ?_
  refine J_iconst dX10_takeFrom_97 ic_0 ?_
  refine J_bipush dX10_takeFrom_98 bp_7 ?_
  refine kcp_T (j := 6) (n := (7 : Int32)) dX10_takeFrom_100 ha ha2 (htu _) (by decide) (by decide) hL (by decide) (Nat.le_of_ble_eq_true rfl) ?_
  refine J_twu (fun t8 et8 => ?_)
  replace h := nm_some et8 h
  refine J_aload_n (q := 1) dX10_takeFrom_103 rfl rfl ?_
  refine gT_X10_knows dX10_takeFrom_104 ha2 (htu _) ?_
  refine J_iconst dX10_takeFrom_107 ic_0 ?_
  refine J_aload_n (q := 0) dX10_takeFrom_108 rfl rfl ?_
  refine gT_X10_knows dX10_takeFrom_109 ha vu_at ?_
  refine J_iconst dX10_takeFrom_112 ic_0 ?_
  refine J_bipush dX10_takeFrom_113 bp_35 ?_
  refine kcp_T (j := 7) (n := (35 : Int32)) dX10_takeFrom_115 ha ha2 (htu _) (by decide) (by decide) hL (by decide) (Nat.le_of_ble_eq_true rfl) ?_
  refine J_twu (fun t9 et9 => ?_)
  replace h := nm_some et9 h
  exact J_vret dX10_takeFrom_118 (rt_fv h) rfl
set_option maxRecDepth 20000 in
set_option maxHeartbeats 4000000 in
theorem kX10_takeFrom {l : Launch} {D : va_G} {ad : Nat → Nat} {cy : Nat → ClassId} {rv : Ob} {σ : CS} {a : Nat} {a2 : Nat} {u : Ob} {t : Ob} (hi : wl_inj (ΓC ad cy)) (ha : okT a) (ha2 : okT a2) (htu : ∀ t, (va_up σ a t) a2 = u) (h : T_takeFrom t u = some rv) : Cn l D (ΓC ad cy) yX10_takeFrom cX10_takeFrom 2 none 1 [.ref (ad (8 * a + 2)), .ref (ad (8 * a2 + 2))] (va_up σ a t) (none, va_up σ a rv) :=
  Cn.of hi rfl (Nat.le_of_ble_eq_true rfl) (fun _ _ _ hL => T_takeFrom_ok hi ha ha2 htu hL h)
theorem pdX10_taleWith : (parseMethodDescriptor yX10_taleWith.desc).map (fun d => d.parameters.length) = some 3 := by decide +kernel
set_option maxRecDepth 20000 in
set_option maxHeartbeats 4000000 in
theorem T_taleWith_ok {E : Ec} {ad : Nat → Nat} {cy : Nat → ClassId} {rv : Int32} {σ : CS} {a : Nat} {t : Ob} {p1 : Int32} {p2 : Int32} {p3 : Int32} (hi : wl_inj (ΓC ad cy)) (ha : okT a) (hL : Lv E 3) (h : T_taleWith t p1 p2 p3 = some rv) : Jw E (ΓC ad cy) RX10 cX10_taleWith 4 (some .int) (some (.int rv), va_up σ a t) 0 [(0, .ref (ad (8 * a + 2))), (1, .int p1), (2, .int p2), (3, .int p3)] [] (va_up σ a t) := by
  unfold T_taleWith at h
  refine J_aload_n (q := 0) dX10_taleWith_0 rfl rfl ?_
  refine gT_X10_kinds dX10_taleWith_1 ha vu_at ?_
  refine J_aload_n (q := 0) dX10_taleWith_4 rfl rfl ?_
  refine gT_X10_kind dX10_taleWith_5 ha vu_at ?_
  refine J_iload_n (q := 1) dX10_taleWith_8 rfl rfl ?_
  obtain ⟨hg1, h⟩ := gd_some h
  refine aT_ld (j := 4) (n := 7) dX10_taleWith_9 ha vu_at (by decide) rfl hg1 ?_
  obtain ⟨hg2, h⟩ := gd_some h
  refine aK_ld dX10_taleWith_10 hg2 ?_
  refine J_aload_n (q := 0) dX10_taleWith_11 rfl rfl ?_
  refine gT_X10_figure dX10_taleWith_12 ha vu_at ?_
  refine J_iload_n (q := 1) dX10_taleWith_15 rfl rfl ?_
  obtain ⟨hg3, h⟩ := gd_some h
  refine aT_ld (j := 5) (n := 7) dX10_taleWith_16 ha vu_at (by decide) rfl hg3 ?_
  refine J_iload_n (q := 3) dX10_taleWith_17 rfl rfl ?_
  refine J_aload_n (q := 0) dX10_taleWith_18 rfl rfl ?_
  refine gT_X10_truth dX10_taleWith_19 ha vu_at ?_
  refine J_iload_n (q := 2) dX10_taleWith_22 rfl rfl ?_
  obtain ⟨hg4, h⟩ := gd_some h
  refine aT_ld (j := 1) (n := 5) dX10_taleWith_23 ha vu_at (by decide) rfl hg4 ?_
  refine J_iand dX10_taleWith_24 ?_
  refine J_iload_n (q := 3) dX10_taleWith_25 rfl rfl ?_
  refine J_aload_n (q := 0) dX10_taleWith_26 rfl rfl ?_
  refine gT_X10_truth dX10_taleWith_27 ha vu_at ?_
  refine J_iload_n (q := 2) dX10_taleWith_30 rfl rfl ?_
  obtain ⟨hg5, h⟩ := gd_some h
  refine aT_ld (j := 1) (n := 5) dX10_taleWith_31 ha vu_at (by decide) rfl hg5 ?_
  refine J_iconst dX10_taleWith_32 ic_m1 ?_
  refine J_ixor dX10_taleWith_33 ?_
  refine J_iand dX10_taleWith_34 ?_
  obtain ⟨r6, hq7, h⟩ := bd_some h
  refine kx_X10_78 hi hg2 dX10_taleWith_35 hq7 hL (by decide) (Nat.le_of_ble_eq_true rfl) ?_
  exact J_iret dX10_taleWith_38 (rt_pi h) rfl
set_option maxRecDepth 20000 in
set_option maxHeartbeats 4000000 in
theorem kX10_taleWith {l : Launch} {D : va_G} {ad : Nat → Nat} {cy : Nat → ClassId} {rv : Int32} {σ : CS} {a : Nat} {t : Ob} {p1 : Int32} {p2 : Int32} {p3 : Int32} (hi : wl_inj (ΓC ad cy)) (ha : okT a) (h : T_taleWith t p1 p2 p3 = some rv) : Cn l D (ΓC ad cy) yX10_taleWith cX10_taleWith 4 (some .int) 3 [.ref (ad (8 * a + 2)), .int p1, .int p2, .int p3] (va_up σ a t) (some (.int rv), va_up σ a t) :=
  Cn.of hi rfl (Nat.le_of_ble_eq_true rfl) (fun _ _ _ hL => T_taleWith_ok hi ha hL h)
theorem pdX10_tale : (parseMethodDescriptor yX10_tale.desc).map (fun d => d.parameters.length) = some 2 := by decide +kernel
theorem kx_X10_74 {E : Ec} {ad : Nat → Nat} {cy : Nat → ClassId} {cc : ByteArray} {nL : Nat} {rt : Option FieldType} {r : Option Value × CS} {pc : Nat} {lv : List (Nat × Value)} {st : List Value} {σ : CS} {n a : Nat} {t : Ob} {p1 : Int32} {p2 : Int32} {p3 : Int32} {v : Int32} (hi : wl_inj (ΓC ad cy)) (ha : okT a) (hd : decode cc pc = .ok (.invokevirtual 74, 3)) (hq : T_taleWith t p1 p2 p3 = some v) (hL : Lv E n) (hn : 3 + 1 ≤ n) (hW : (st.map fun v => v.category).sum ≤ 8) (k : Jw E (ΓC ad cy) RX10 cc nL rt r (pc + 3) lv (.int v :: st) (va_up σ a t)) : Jw E (ΓC ad cy) RX10 cc nL rt r pc lv (.int p3 :: .int p2 :: .int p1 :: .ref (ad (8 * a + 2)) :: st) (va_up σ a t) := by
  have hM := fun (l : Launch) (D : va_G) => kX10_taleWith (l := l) (D := D) (ad := ad) (cy := cy) (σ := σ) hi ha hq
  exact J_callV (Γ := ΓC ad cy) (h := 8 * a + 2) (ci := 9) (av := [.int p1, .int p2, .int p3]) (q := (some (.int v), va_up σ a t)) (st := st) hd (hM _ _) tw_2_181 tw_2_182 tw_1_10 tw_2_184 tw_2_183 ⟨by decide, by decide, pdX10_taleWith⟩ (hT (j := 0) ha (by decide)) (cC_t0 ha vu_at) rfl rfl rfl (by decide) hL hn hW k
set_option maxRecDepth 20000 in
set_option maxHeartbeats 4000000 in
theorem T_tale_ok {E : Ec} {ad : Nat → Nat} {cy : Nat → ClassId} {rv : Int32} {σ : CS} {a : Nat} {t : Ob} {p1 : Int32} {p2 : Int32} (hi : wl_inj (ΓC ad cy)) (ha : okT a) (hL : Lv E 4) (h : T_tale t p1 p2 = some rv) : Jw E (ΓC ad cy) RX10 cX10_tale 3 (some .int) (some (.int rv), va_up σ a t) 0 [(0, .ref (ad (8 * a + 2))), (1, .int p1), (2, .int p2)] [] (va_up σ a t) := by
  unfold T_tale at h
  refine J_aload_n (q := 0) dX10_tale_0 rfl rfl ?_
  refine J_iload_n (q := 1) dX10_tale_1 rfl rfl ?_
  refine J_iload_n (q := 2) dX10_tale_2 rfl rfl ?_
  refine J_aload_n (q := 0) dX10_tale_3 rfl rfl ?_
  refine gT_X10_knows dX10_tale_4 ha vu_at ?_
  refine J_iload_n (q := 1) dX10_tale_7 rfl rfl ?_
  refine J_iconst dX10_tale_8 ic_5 ?_
  refine J_imul dX10_tale_9 ?_
  refine J_iload_n (q := 2) dX10_tale_10 rfl rfl ?_
  refine J_iadd dX10_tale_11 ?_
  obtain ⟨hg1, h⟩ := gd_some h
  refine aT_ld (j := 7) (n := 35) dX10_tale_12 ha vu_at (by decide) rfl hg1 ?_
  obtain ⟨r2, hq3, h⟩ := bd_some h
  refine kx_X10_74 hi ha dX10_tale_13 hq3 hL (by decide) (Nat.le_of_ble_eq_true rfl) ?_
  exact J_iret dX10_tale_16 (rt_pi h) rfl
set_option maxRecDepth 20000 in
set_option maxHeartbeats 4000000 in
theorem kX10_tale {l : Launch} {D : va_G} {ad : Nat → Nat} {cy : Nat → ClassId} {rv : Int32} {σ : CS} {a : Nat} {t : Ob} {p1 : Int32} {p2 : Int32} (hi : wl_inj (ΓC ad cy)) (ha : okT a) (h : T_tale t p1 p2 = some rv) : Cn l D (ΓC ad cy) yX10_tale cX10_tale 3 (some .int) 4 [.ref (ad (8 * a + 2)), .int p1, .int p2] (va_up σ a t) (some (.int rv), va_up σ a t) :=
  Cn.of hi rfl (Nat.le_of_ble_eq_true rfl) (fun _ _ _ hL => T_tale_ok hi ha hL h)
theorem pdX10_ownedBy : (parseMethodDescriptor yX10_ownedBy.desc).map (fun d => d.parameters.length) = some 1 := by decide +kernel
set_option maxRecDepth 20000 in
set_option maxHeartbeats 4000000 in
theorem T_ownedBy_L4_ok {E : Ec} {ad : Nat → Nat} {cy : Nat → ClassId} {rv : Int32} {σ : CS} {a : Nat} {t : Ob} {a1 : Int32} (hi : wl_inj (ΓC ad cy)) (ha : okT a) (hL : Lv E 0) : ∀ (n : Nat) (x2 : Int32) (x3 : Int32), T_ownedBy_L4 t a1 n x2 x3 = some rv → Jw E (ΓC ad cy) RX10 cX10_ownedBy 4 (some .int) (some (.int rv), va_up σ a t) 4 [(0, .ref (ad (8 * a + 2))), (1, .int a1), (2, .int x2), (3, .int x3)] [] (va_up σ a t) := by
  intro n
  induction n with
  | zero =>
    intro x2 x3 h
    rw [T_ownedBy_L4] at h
    cases h
  | succ n ih =>
    intro x2 x3 h
    rw [T_ownedBy_L4] at h
    refine J_iload_n (q := 3) dX10_ownedBy_4 rfl rfl ?_
    refine J_iconst dX10_ownedBy_5 ic_5 ?_
    refine J_icmp_ge (tgt := 31) dX10_ownedBy_6 (by decide) (fun c1 => ?_) (fun c1 => ?_)
    · replace h := it_some h c1
      refine J_iload_n (q := 2) dX10_ownedBy_31 rfl rfl ?_
      exact J_iret dX10_ownedBy_32 (rt_pi h) rfl
    · replace h := if_some h c1
      refine J_aload_n (q := 0) dX10_ownedBy_9 rfl rfl ?_
      refine gT_X10_owner dX10_ownedBy_10 ha vu_at ?_
      refine J_iload_n (q := 3) dX10_ownedBy_13 rfl rfl ?_
      obtain ⟨hg2, h⟩ := gd_some h
      refine aT_ld (j := 3) (n := 5) dX10_ownedBy_14 ha vu_at (by decide) rfl hg2 ?_
      refine J_iload_n (q := 1) dX10_ownedBy_15 rfl rfl ?_
      obtain ⟨x2_5, ha25, h⟩ := bd_some h
      have K25 : Jw E (ΓC ad cy) RX10 cX10_ownedBy 4 (some .int) (some (.int rv), va_up σ a t) 25 [(0, .ref (ad (8 * a + 2))), (1, .int a1), (2, .int x2_5), (3, .int x3)] [] (va_up σ a t) := by
        clear ha25
        refine J_iinc (q := 3) (v := (x3 + (1 : Int32))) (lv' := [(3, .int (x3 + (1 : Int32))), (0, .ref (ad (8 * a + 2))), (1, .int a1), (2, .int x2_5)]) dX10_ownedBy_25 rfl (congrArg (fun z => x3 + z) ic_1) (by decide) rfl ?_
        refine J_tv (fun v6 ev6 => ?_)
        replace h := nm_some ev6 h
        refine J_goto (tgt := 4) dX10_ownedBy_28 (by decide) ?_
        exact J_sub [1, 2, 3, 0] rfl (ih _ _ h)
      clear h
      refine J_icmp_ne (tgt := 25) dX10_ownedBy_16 (by decide) (fun c3 => ?_) (fun c3 => ?_)
      · replace ha25 := if_some ha25 c3
        cases ha25
        exact J_sub [0, 1, 2, 3] rfl (K25)
      · replace ha25 := it_some ha25 c3
        refine J_iload_n (q := 2) dX10_ownedBy_19 rfl rfl ?_
        refine J_iconst dX10_ownedBy_20 ic_1 ?_
        refine J_iload_n (q := 3) dX10_ownedBy_21 rfl rfl ?_
        refine J_ishl dX10_ownedBy_22 ?_
        refine J_ior dX10_ownedBy_23 ?_
        refine J_ti (fun v4 ev4 => ?_)
        replace ha25 := nm_some ev4 ha25
        refine J_istore_n (lv' := [(2, .int v4), (0, .ref (ad (8 * a + 2))), (1, .int a1), (3, .int x3)]) dX10_ownedBy_24 rfl (by decide) rfl ?_
        cases ha25
        exact J_sub [1, 2, 0, 3] rfl (K25)
set_option maxRecDepth 20000 in
set_option maxHeartbeats 4000000 in
theorem T_ownedBy_ok {E : Ec} {ad : Nat → Nat} {cy : Nat → ClassId} {rv : Int32} {σ : CS} {a : Nat} {t : Ob} {p1 : Int32} (hi : wl_inj (ΓC ad cy)) (ha : okT a) (hL : Lv E 0) (h : T_ownedBy t p1 = some rv) : Jw E (ΓC ad cy) RX10 cX10_ownedBy 4 (some .int) (some (.int rv), va_up σ a t) 0 [(0, .ref (ad (8 * a + 2))), (1, .int p1)] [] (va_up σ a t) := by
  unfold T_ownedBy at h
  refine J_iconst dX10_ownedBy_0 ic_0 ?_
  refine J_istore_n (lv' := [(2, .int (0 : Int32)), (0, .ref (ad (8 * a + 2))), (1, .int p1)]) dX10_ownedBy_1 rfl (by decide) rfl ?_
  refine J_iconst dX10_ownedBy_2 ic_0 ?_
  refine J_istore_n (lv' := [(3, .int (0 : Int32)), (2, .int (0 : Int32)), (0, .ref (ad (8 * a + 2))), (1, .int p1)]) dX10_ownedBy_3 rfl (by decide) rfl ?_
  refine J_sub [2, 3, 1, 0] rfl (T_ownedBy_L4_ok hi ha hL FU _ _ h)
set_option maxRecDepth 20000 in
set_option maxHeartbeats 4000000 in
theorem kX10_ownedBy {l : Launch} {D : va_G} {ad : Nat → Nat} {cy : Nat → ClassId} {rv : Int32} {σ : CS} {a : Nat} {t : Ob} {p1 : Int32} (hi : wl_inj (ΓC ad cy)) (ha : okT a) (h : T_ownedBy t p1 = some rv) : Cn l D (ΓC ad cy) yX10_ownedBy cX10_ownedBy 4 (some .int) 0 [.ref (ad (8 * a + 2)), .int p1] (va_up σ a t) (some (.int rv), va_up σ a t) :=
  Cn.of hi rfl (Nat.le_of_ble_eq_true rfl) (fun _ _ _ hL => T_ownedBy_ok hi ha hL h)
theorem pdX10_ownedThings : (parseMethodDescriptor yX10_ownedThings.desc).map (fun d => d.parameters.length) = some 0 := by decide +kernel
theorem kx_X10_87 {E : Ec} {ad : Nat → Nat} {cy : Nat → ClassId} {cc : ByteArray} {nL : Nat} {rt : Option FieldType} {r : Option Value × CS} {pc : Nat} {lv : List (Nat × Value)} {st : List Value} {σ : CS} {n a : Nat} {t : Ob} {p1 : Int32} {v : Int32} (hi : wl_inj (ΓC ad cy)) (ha : okT a) (hd : decode cc pc = .ok (.invokevirtual 87, 3)) (hq : T_ownedBy t p1 = some v) (hL : Lv E n) (hn : 0 + 1 ≤ n) (hW : (st.map fun v => v.category).sum ≤ 8) (k : Jw E (ΓC ad cy) RX10 cc nL rt r (pc + 3) lv (.int v :: st) (va_up σ a t)) : Jw E (ΓC ad cy) RX10 cc nL rt r pc lv (.int p1 :: .ref (ad (8 * a + 2)) :: st) (va_up σ a t) := by
  have hM := fun (l : Launch) (D : va_G) => kX10_ownedBy (l := l) (D := D) (ad := ad) (cy := cy) (σ := σ) hi ha hq
  exact J_callV (Γ := ΓC ad cy) (h := 8 * a + 2) (ci := 9) (av := [.int p1]) (q := (some (.int v), va_up σ a t)) (st := st) hd (hM _ _) tw_2_223 tw_2_162 tw_1_10 tw_2_164 tw_2_163 ⟨by decide, by decide, pdX10_ownedBy⟩ (hT (j := 0) ha (by decide)) (cC_t0 ha vu_at) rfl rfl rfl (by decide) hL hn hW k
set_option maxRecDepth 20000 in
set_option maxHeartbeats 4000000 in
theorem T_ownedThings_ok {E : Ec} {ad : Nat → Nat} {cy : Nat → ClassId} {rv : Int32} {σ : CS} {a : Nat} {t : Ob} (hi : wl_inj (ΓC ad cy)) (ha : okT a) (hL : Lv E 1) (h : T_ownedThings t = some rv) : Jw E (ΓC ad cy) RX10 cX10_ownedThings 1 (some .int) (some (.int rv), va_up σ a t) 0 [(0, .ref (ad (8 * a + 2)))] [] (va_up σ a t) := by
  unfold T_ownedThings at h
  refine J_bipush dX10_ownedThings_0 bp_31 ?_
  refine J_aload_n (q := 0) dX10_ownedThings_2 rfl rfl ?_
  refine J_bipush dX10_ownedThings_3 bp_9 ?_
  obtain ⟨r1, hq2, h⟩ := bd_some h
  refine kx_X10_87 hi ha dX10_ownedThings_5 hq2 hL (by decide) (Nat.le_of_ble_eq_true rfl) ?_
  refine J_iconst dX10_ownedThings_8 ic_m1 ?_
  refine J_ixor dX10_ownedThings_9 ?_
  refine J_iand dX10_ownedThings_10 ?_
  exact J_iret dX10_ownedThings_11 (rt_pi h) rfl
set_option maxRecDepth 20000 in
set_option maxHeartbeats 4000000 in
theorem kX10_ownedThings {l : Launch} {D : va_G} {ad : Nat → Nat} {cy : Nat → ClassId} {rv : Int32} {σ : CS} {a : Nat} {t : Ob} (hi : wl_inj (ΓC ad cy)) (ha : okT a) (h : T_ownedThings t = some rv) : Cn l D (ΓC ad cy) yX10_ownedThings cX10_ownedThings 1 (some .int) 1 [.ref (ad (8 * a + 2))] (va_up σ a t) (some (.int rv), va_up σ a t) :=
  Cn.of hi rfl (Nat.le_of_ble_eq_true rfl) (fun _ _ _ hL => T_ownedThings_ok hi ha hL h)
theorem pdX10_wealth : (parseMethodDescriptor yX10_wealth.desc).map (fun d => d.parameters.length) = some 1 := by decide +kernel
set_option maxRecDepth 20000 in
set_option maxHeartbeats 4000000 in
theorem T_wealth_L4_ok {E : Ec} {ad : Nat → Nat} {cy : Nat → ClassId} {rv : Int32} {σ : CS} {a : Nat} {t : Ob} {a1 : Int32} (hi : wl_inj (ΓC ad cy)) (ha : okT a) (hL : Lv E 0) : ∀ (n : Nat) (x2 : Int32) (x3 : Int32), T_wealth_L4 t a1 n x2 x3 = some rv → Jw E (ΓC ad cy) RX10 cX10_wealth 4 (some .int) (some (.int rv), va_up σ a t) 4 [(0, .ref (ad (8 * a + 2))), (1, .int a1), (2, .int x2), (3, .int x3)] [] (va_up σ a t) := by
  intro n
  induction n with
  | zero =>
    intro x2 x3 h
    rw [T_wealth_L4] at h
    cases h
  | succ n ih =>
    intro x2 x3 h
    rw [T_wealth_L4] at h
    refine J_iload_n (q := 3) dX10_wealth_4 rfl rfl ?_
    refine J_iconst dX10_wealth_5 ic_5 ?_
    refine J_icmp_ge (tgt := 34) dX10_wealth_6 (by decide) (fun c1 => ?_) (fun c1 => ?_)
    · replace h := it_some h c1
      refine J_iload_n (q := 2) dX10_wealth_34 rfl rfl ?_
      exact J_iret dX10_wealth_35 (rt_pi h) rfl
    · replace h := if_some h c1
      refine J_aload_n (q := 0) dX10_wealth_9 rfl rfl ?_
      refine gT_X10_owner dX10_wealth_10 ha vu_at ?_
      refine J_iload_n (q := 3) dX10_wealth_13 rfl rfl ?_
      obtain ⟨hg2, h⟩ := gd_some h
      refine aT_ld (j := 3) (n := 5) dX10_wealth_14 ha vu_at (by decide) rfl hg2 ?_
      refine J_iload_n (q := 1) dX10_wealth_15 rfl rfl ?_
      obtain ⟨x2_6, ha28, h⟩ := bd_some h
      have K28 : Jw E (ΓC ad cy) RX10 cX10_wealth 4 (some .int) (some (.int rv), va_up σ a t) 28 [(0, .ref (ad (8 * a + 2))), (1, .int a1), (2, .int x2_6), (3, .int x3)] [] (va_up σ a t) := by
        clear ha28
        refine J_iinc (q := 3) (v := (x3 + (1 : Int32))) (lv' := [(3, .int (x3 + (1 : Int32))), (0, .ref (ad (8 * a + 2))), (1, .int a1), (2, .int x2_6)]) dX10_wealth_28 rfl (congrArg (fun z => x3 + z) ic_1) (by decide) rfl ?_
        refine J_tv (fun v7 ev7 => ?_)
        replace h := nm_some ev7 h
        refine J_goto (tgt := 4) dX10_wealth_31 (by decide) ?_
        exact J_sub [1, 2, 3, 0] rfl (ih _ _ h)
      clear h
      refine J_icmp_ne (tgt := 28) dX10_wealth_16 (by decide) (fun c3 => ?_) (fun c3 => ?_)
      · replace ha28 := if_some ha28 c3
        cases ha28
        exact J_sub [0, 1, 2, 3] rfl (K28)
      · replace ha28 := it_some ha28 c3
        refine J_iload_n (q := 2) dX10_wealth_19 rfl rfl ?_
        refine J_aload_n (q := 0) dX10_wealth_20 rfl rfl ?_
        refine gT_X10_worth dX10_wealth_21 ha vu_at ?_
        refine J_iload_n (q := 3) dX10_wealth_24 rfl rfl ?_
        obtain ⟨hg4, ha28⟩ := gd_some ha28
        refine aT_ld (j := 2) (n := 5) dX10_wealth_25 ha vu_at (by decide) rfl hg4 ?_
        refine J_iadd dX10_wealth_26 ?_
        refine J_ti (fun v5 ev5 => ?_)
        replace ha28 := nm_some ev5 ha28
        refine J_istore_n (lv' := [(2, .int v5), (0, .ref (ad (8 * a + 2))), (1, .int a1), (3, .int x3)]) dX10_wealth_27 rfl (by decide) rfl ?_
        cases ha28
        exact J_sub [1, 2, 0, 3] rfl (K28)
set_option maxRecDepth 20000 in
set_option maxHeartbeats 4000000 in
theorem T_wealth_ok {E : Ec} {ad : Nat → Nat} {cy : Nat → ClassId} {rv : Int32} {σ : CS} {a : Nat} {t : Ob} {p1 : Int32} (hi : wl_inj (ΓC ad cy)) (ha : okT a) (hL : Lv E 0) (h : T_wealth t p1 = some rv) : Jw E (ΓC ad cy) RX10 cX10_wealth 4 (some .int) (some (.int rv), va_up σ a t) 0 [(0, .ref (ad (8 * a + 2))), (1, .int p1)] [] (va_up σ a t) := by
  unfold T_wealth at h
  refine J_iconst dX10_wealth_0 ic_0 ?_
  refine J_istore_n (lv' := [(2, .int (0 : Int32)), (0, .ref (ad (8 * a + 2))), (1, .int p1)]) dX10_wealth_1 rfl (by decide) rfl ?_
  refine J_iconst dX10_wealth_2 ic_0 ?_
  refine J_istore_n (lv' := [(3, .int (0 : Int32)), (2, .int (0 : Int32)), (0, .ref (ad (8 * a + 2))), (1, .int p1)]) dX10_wealth_3 rfl (by decide) rfl ?_
  refine J_sub [2, 3, 1, 0] rfl (T_wealth_L4_ok hi ha hL FU _ _ h)
set_option maxRecDepth 20000 in
set_option maxHeartbeats 4000000 in
theorem kX10_wealth {l : Launch} {D : va_G} {ad : Nat → Nat} {cy : Nat → ClassId} {rv : Int32} {σ : CS} {a : Nat} {t : Ob} {p1 : Int32} (hi : wl_inj (ΓC ad cy)) (ha : okT a) (h : T_wealth t p1 = some rv) : Cn l D (ΓC ad cy) yX10_wealth cX10_wealth 4 (some .int) 0 [.ref (ad (8 * a + 2)), .int p1] (va_up σ a t) (some (.int rv), va_up σ a t) :=
  Cn.of hi rfl (Nat.le_of_ble_eq_true rfl) (fun _ _ _ hL => T_wealth_ok hi ha hL h)
theorem pdX10_allWorth : (parseMethodDescriptor yX10_allWorth.desc).map (fun d => d.parameters.length) = some 0 := by decide +kernel
set_option maxRecDepth 20000 in
set_option maxHeartbeats 4000000 in
theorem T_allWorth_L4_ok {E : Ec} {ad : Nat → Nat} {cy : Nat → ClassId} {rv : Int32} {σ : CS} {a : Nat} {t : Ob} (hi : wl_inj (ΓC ad cy)) (ha : okT a) (hL : Lv E 0) : ∀ (n : Nat) (x1 : Int32) (x2 : Int32), T_allWorth_L4 t n x1 x2 = some rv → Jw E (ΓC ad cy) RX10 cX10_allWorth 3 (some .int) (some (.int rv), va_up σ a t) 4 [(0, .ref (ad (8 * a + 2))), (1, .int x1), (2, .int x2)] [] (va_up σ a t) := by
  intro n
  induction n with
  | zero =>
    intro x1 x2 h
    rw [T_allWorth_L4] at h
    cases h
  | succ n ih =>
    intro x1 x2 h
    rw [T_allWorth_L4] at h
    refine J_iload_n (q := 2) dX10_allWorth_4 rfl rfl ?_
    refine J_iconst dX10_allWorth_5 ic_5 ?_
    refine J_icmp_ge (tgt := 24) dX10_allWorth_6 (by decide) (fun c1 => ?_) (fun c1 => ?_)
    · replace h := it_some h c1
      refine J_iload_n (q := 1) dX10_allWorth_24 rfl rfl ?_
      exact J_iret dX10_allWorth_25 (rt_pi h) rfl
    · replace h := if_some h c1
      refine J_iload_n (q := 1) dX10_allWorth_9 rfl rfl ?_
      refine J_aload_n (q := 0) dX10_allWorth_10 rfl rfl ?_
      refine gT_X10_worth dX10_allWorth_11 ha vu_at ?_
      refine J_iload_n (q := 2) dX10_allWorth_14 rfl rfl ?_
      obtain ⟨hg2, h⟩ := gd_some h
      refine aT_ld (j := 2) (n := 5) dX10_allWorth_15 ha vu_at (by decide) rfl hg2 ?_
      refine J_iadd dX10_allWorth_16 ?_
      refine J_ti (fun v3 ev3 => ?_)
      replace h := nm_some ev3 h
      refine J_istore_n (lv' := [(1, .int v3), (0, .ref (ad (8 * a + 2))), (2, .int x2)]) dX10_allWorth_17 rfl (by decide) rfl ?_
      refine J_iinc (q := 2) (v := (x2 + (1 : Int32))) (lv' := [(2, .int (x2 + (1 : Int32))), (1, .int v3), (0, .ref (ad (8 * a + 2)))]) dX10_allWorth_18 rfl (congrArg (fun z => x2 + z) ic_1) (by decide) rfl ?_
      refine J_tv (fun v4 ev4 => ?_)
      replace h := nm_some ev4 h
      refine J_goto (tgt := 4) dX10_allWorth_21 (by decide) ?_
      exact J_sub [2, 1, 0] rfl (ih _ _ h)
set_option maxRecDepth 20000 in
set_option maxHeartbeats 4000000 in
theorem T_allWorth_ok {E : Ec} {ad : Nat → Nat} {cy : Nat → ClassId} {rv : Int32} {σ : CS} {a : Nat} {t : Ob} (hi : wl_inj (ΓC ad cy)) (ha : okT a) (hL : Lv E 0) (h : T_allWorth t = some rv) : Jw E (ΓC ad cy) RX10 cX10_allWorth 3 (some .int) (some (.int rv), va_up σ a t) 0 [(0, .ref (ad (8 * a + 2)))] [] (va_up σ a t) := by
  unfold T_allWorth at h
  refine J_iconst dX10_allWorth_0 ic_0 ?_
  refine J_istore_n (lv' := [(1, .int (0 : Int32)), (0, .ref (ad (8 * a + 2)))]) dX10_allWorth_1 rfl (by decide) rfl ?_
  refine J_iconst dX10_allWorth_2 ic_0 ?_
  refine J_istore_n (lv' := [(2, .int (0 : Int32)), (1, .int (0 : Int32)), (0, .ref (ad (8 * a + 2)))]) dX10_allWorth_3 rfl (by decide) rfl ?_
  refine J_sub [2, 1, 0] rfl (T_allWorth_L4_ok hi ha hL FU _ _ h)
set_option maxRecDepth 20000 in
set_option maxHeartbeats 4000000 in
theorem kX10_allWorth {l : Launch} {D : va_G} {ad : Nat → Nat} {cy : Nat → ClassId} {rv : Int32} {σ : CS} {a : Nat} {t : Ob} (hi : wl_inj (ΓC ad cy)) (ha : okT a) (h : T_allWorth t = some rv) : Cn l D (ΓC ad cy) yX10_allWorth cX10_allWorth 3 (some .int) 0 [.ref (ad (8 * a + 2))] (va_up σ a t) (some (.int rv), va_up σ a t) :=
  Cn.of hi rfl (Nat.le_of_ble_eq_true rfl) (fun _ _ _ hL => T_allWorth_ok hi ha hL h)
theorem pdX10_allKnown : (parseMethodDescriptor yX10_allKnown.desc).map (fun d => d.parameters.length) = some 0 := by decide +kernel
theorem kx_X10_91 {E : Ec} {ad : Nat → Nat} {cy : Nat → ClassId} {cc : ByteArray} {nL : Nat} {rt : Option FieldType} {r : Option Value × CS} {pc : Nat} {lv : List (Nat × Value)} {st : List Value} {w : CS} {n : Nat} {p0 : Int32} {v : Int32} (hi : wl_inj (ΓC ad cy)) (hd : decode cc pc = .ok (.invokestatic 91, 3)) (hq : B_bitCount p0 = some v) (hL : Lv E n) (hn : 0 + 1 ≤ n) (hW : (st.map fun v => v.category).sum ≤ 8) (k : Jw E (ΓC ad cy) RX10 cc nL rt r (pc + 3) lv (.int v :: st) w) : Jw E (ΓC ad cy) RX10 cc nL rt r pc lv (.int p0 :: st) w :=
  J_callS (Γ := ΓC ad cy) (av := [.int p0]) (q := (some (.int v), w)) (st := st) hd (kJ6_bitCount_0f7a4 hi hq) tw_3_173 tw_2_129 tw_1_17 tw_2_130 ⟨by decide, by decide, pdJ6_bitCount_0f7a4⟩ rfl (by decide) hL hn hW k
set_option maxRecDepth 20000 in
set_option maxHeartbeats 4000000 in
theorem T_allKnown_L4_ok {E : Ec} {ad : Nat → Nat} {cy : Nat → ClassId} {rv : Int32} {σ : CS} {a : Nat} {t : Ob} (hi : wl_inj (ΓC ad cy)) (ha : okT a) (hL : Lv E 1) : ∀ (n : Nat) (x1 : Int32) (x2 : Int32), T_allKnown_L4 t n x1 x2 = some rv → Jw E (ΓC ad cy) RX10 cX10_allKnown 3 (some .int) (some (.int rv), va_up σ a t) 4 [(0, .ref (ad (8 * a + 2))), (1, .int x1), (2, .int x2)] [] (va_up σ a t) := by
  intro n
  induction n with
  | zero =>
    intro x1 x2 h
    rw [T_allKnown_L4] at h
    cases h
  | succ n ih =>
    intro x1 x2 h
    rw [T_allKnown_L4] at h
    refine J_iload_n (q := 2) dX10_allKnown_4 rfl rfl ?_
    refine J_aload_n (q := 0) dX10_allKnown_5 rfl rfl ?_
    refine gT_X10_people dX10_allKnown_6 ha vu_at ?_
    refine J_iconst dX10_allKnown_9 ic_5 ?_
    refine J_imul dX10_allKnown_10 ?_
    refine J_icmp_ge (tgt := 32) dX10_allKnown_11 (by decide) (fun c1 => ?_) (fun c1 => ?_)
    · replace h := it_some h c1
      refine J_iload_n (q := 1) dX10_allKnown_32 rfl rfl ?_
      exact J_iret dX10_allKnown_33 (rt_pi h) rfl
    · replace h := if_some h c1
      refine J_iload_n (q := 1) dX10_allKnown_14 rfl rfl ?_
      refine J_aload_n (q := 0) dX10_allKnown_15 rfl rfl ?_
      refine gT_X10_knows dX10_allKnown_16 ha vu_at ?_
      refine J_iload_n (q := 2) dX10_allKnown_19 rfl rfl ?_
      obtain ⟨hg2, h⟩ := gd_some h
      refine aT_ld (j := 7) (n := 35) dX10_allKnown_20 ha vu_at (by decide) rfl hg2 ?_
      obtain ⟨r3, hq6, h⟩ := bd_some h
      refine kx_X10_91 hi dX10_allKnown_21 hq6 hL (by decide) (Nat.le_of_ble_eq_true rfl) ?_
      refine J_iadd dX10_allKnown_24 ?_
      refine J_ti (fun v4 ev4 => ?_)
      replace h := nm_some ev4 h
      refine J_istore_n (lv' := [(1, .int v4), (0, .ref (ad (8 * a + 2))), (2, .int x2)]) dX10_allKnown_25 rfl (by decide) rfl ?_
      refine J_iinc (q := 2) (v := (x2 + (1 : Int32))) (lv' := [(2, .int (x2 + (1 : Int32))), (1, .int v4), (0, .ref (ad (8 * a + 2)))]) dX10_allKnown_26 rfl (congrArg (fun z => x2 + z) ic_1) (by decide) rfl ?_
      refine J_tv (fun v5 ev5 => ?_)
      replace h := nm_some ev5 h
      refine J_goto (tgt := 4) dX10_allKnown_29 (by decide) ?_
      exact J_sub [2, 1, 0] rfl (ih _ _ h)
set_option maxRecDepth 20000 in
set_option maxHeartbeats 4000000 in
theorem T_allKnown_ok {E : Ec} {ad : Nat → Nat} {cy : Nat → ClassId} {rv : Int32} {σ : CS} {a : Nat} {t : Ob} (hi : wl_inj (ΓC ad cy)) (ha : okT a) (hL : Lv E 1) (h : T_allKnown t = some rv) : Jw E (ΓC ad cy) RX10 cX10_allKnown 3 (some .int) (some (.int rv), va_up σ a t) 0 [(0, .ref (ad (8 * a + 2)))] [] (va_up σ a t) := by
  unfold T_allKnown at h
  refine J_iconst dX10_allKnown_0 ic_0 ?_
  refine J_istore_n (lv' := [(1, .int (0 : Int32)), (0, .ref (ad (8 * a + 2)))]) dX10_allKnown_1 rfl (by decide) rfl ?_
  refine J_iconst dX10_allKnown_2 ic_0 ?_
  refine J_istore_n (lv' := [(2, .int (0 : Int32)), (1, .int (0 : Int32)), (0, .ref (ad (8 * a + 2)))]) dX10_allKnown_3 rfl (by decide) rfl ?_
  refine J_sub [2, 1, 0] rfl (T_allKnown_L4_ok hi ha hL FU _ _ h)
set_option maxRecDepth 20000 in
set_option maxHeartbeats 4000000 in
theorem kX10_allKnown {l : Launch} {D : va_G} {ad : Nat → Nat} {cy : Nat → ClassId} {rv : Int32} {σ : CS} {a : Nat} {t : Ob} (hi : wl_inj (ΓC ad cy)) (ha : okT a) (h : T_allKnown t = some rv) : Cn l D (ΓC ad cy) yX10_allKnown cX10_allKnown 3 (some .int) 1 [.ref (ad (8 * a + 2))] (va_up σ a t) (some (.int rv), va_up σ a t) :=
  Cn.of hi rfl (Nat.le_of_ble_eq_true rfl) (fun _ _ _ hL => T_allKnown_ok hi ha hL h)
theorem pdX10_passAll : (parseMethodDescriptor yX10_passAll.desc).map (fun d => d.parameters.length) = some 1 := by decide +kernel
set_option maxRecDepth 20000 in
set_option maxHeartbeats 4000000 in
theorem T_passAll_L2_ok {E : Ec} {ad : Nat → Nat} {cy : Nat → ClassId} {rv : Ob} {σ : CS} {a : Nat} {a1 : Int32} (hi : wl_inj (ΓC ad cy)) (ha : okT a) (hL : Lv E 5) : ∀ (n : Nat) (t : Ob) (x2 : Int32), T_passAll_L2 a1 n t x2 = some rv → Jw E (ΓC ad cy) RX10 cX10_passAll 3 none (none, va_up σ a rv) 2 [(0, .ref (ad (8 * a + 2))), (1, .int a1), (2, .int x2)] [] (va_up σ a t) := by
  intro n
  induction n with
  | zero =>
    intro t x2 h
    rw [T_passAll_L2] at h
    cases h
  | succ n ih =>
    intro t x2 h
    rw [T_passAll_L2] at h
    refine J_iload_n (q := 2) dX10_passAll_2 rfl rfl ?_
    refine J_iload_n (q := 1) dX10_passAll_3 rfl rfl ?_
    refine J_icmp_ge (tgt := 18) dX10_passAll_4 (by decide) (fun c1 => ?_) (fun c1 => ?_)
    · replace h := it_some h c1
      exact J_vret dX10_passAll_18 (rt_fv h) rfl
    · replace h := if_some h c1
      refine J_aload_n (q := 0) dX10_passAll_7 rfl rfl ?_
      obtain ⟨r2, t3, hq5, h⟩ := bd2_some h
      refine kx_X10_70 hi ha dX10_passAll_8 hq5 hL (by decide) (Nat.le_of_ble_eq_true rfl) ?_
      refine J_pop dX10_passAll_11 rfl ?_
      refine J_iinc (q := 2) (v := (x2 + (1 : Int32))) (lv' := [(2, .int (x2 + (1 : Int32))), (0, .ref (ad (8 * a + 2))), (1, .int a1)]) dX10_passAll_12 rfl (congrArg (fun z => x2 + z) ic_1) (by decide) rfl ?_
      refine J_tv (fun v4 ev4 => ?_)
      replace h := nm_some ev4 h
      refine J_goto (tgt := 2) dX10_passAll_15 (by decide) ?_
      exact J_sub [1, 2, 0] rfl (ih _ _ h)
set_option maxRecDepth 20000 in
set_option maxHeartbeats 4000000 in
theorem T_passAll_ok {E : Ec} {ad : Nat → Nat} {cy : Nat → ClassId} {rv : Ob} {σ : CS} {a : Nat} {t : Ob} {p1 : Int32} (hi : wl_inj (ΓC ad cy)) (ha : okT a) (hL : Lv E 5) (h : T_passAll t p1 = some rv) : Jw E (ΓC ad cy) RX10 cX10_passAll 3 none (none, va_up σ a rv) 0 [(0, .ref (ad (8 * a + 2))), (1, .int p1)] [] (va_up σ a t) := by
  unfold T_passAll at h
  refine J_iconst dX10_passAll_0 ic_0 ?_
  refine J_istore_n (lv' := [(2, .int (0 : Int32)), (0, .ref (ad (8 * a + 2))), (1, .int p1)]) dX10_passAll_1 rfl (by decide) rfl ?_
  refine J_sub [1, 2, 0] rfl (T_passAll_L2_ok hi ha hL FU _ _ h)
set_option maxRecDepth 20000 in
set_option maxHeartbeats 4000000 in
theorem kX10_passAll {l : Launch} {D : va_G} {ad : Nat → Nat} {cy : Nat → ClassId} {rv : Ob} {σ : CS} {a : Nat} {t : Ob} {p1 : Int32} (hi : wl_inj (ΓC ad cy)) (ha : okT a) (h : T_passAll t p1 = some rv) : Cn l D (ΓC ad cy) yX10_passAll cX10_passAll 3 none 5 [.ref (ad (8 * a + 2)), .int p1] (va_up σ a t) (none, va_up σ a rv) :=
  Cn.of hi rfl (Nat.le_of_ble_eq_true rfl) (fun _ _ _ hL => T_passAll_ok hi ha hL h)
theorem pdX10_flood : (parseMethodDescriptor yX10_flood.desc).map (fun d => d.parameters.length) = some 0 := by decide +kernel
set_option maxRecDepth 20000 in
set_option maxHeartbeats 4000000 in
theorem T_flood_L2_ok {E : Ec} {ad : Nat → Nat} {cy : Nat → ClassId} {rv : Ob} {σ : CS} {a : Nat} (hi : wl_inj (ΓC ad cy)) (ha : okT a) (hL : Lv E 0) : ∀ (n : Nat) (t : Ob) (x1 : Int32), T_flood_L2 n t x1 = some rv → Jw E (ΓC ad cy) RX10 cX10_flood 2 none (none, va_up σ a rv) 2 [(0, .ref (ad (8 * a + 2))), (1, .int x1)] [] (va_up σ a t) := by
  intro n
  induction n with
  | zero =>
    intro t x1 h
    rw [T_flood_L2] at h
    cases h
  | succ n ih =>
    intro t x1 h
    rw [T_flood_L2] at h
    refine J_iload_n (q := 1) dX10_flood_2 rfl rfl ?_
    refine J_aload_n (q := 0) dX10_flood_3 rfl rfl ?_
    refine gT_X10_people dX10_flood_4 ha vu_at ?_
    refine J_iconst dX10_flood_7 ic_5 ?_
    refine J_imul dX10_flood_8 ?_
    refine J_icmp_ge (tgt := 35) dX10_flood_9 (by decide) (fun c1 => ?_) (fun c1 => ?_)
    · replace h := it_some h c1
      exact J_vret dX10_flood_35 (rt_fv h) rfl
    · replace h := if_some h c1
      refine J_aload_n (q := 0) dX10_flood_12 rfl rfl ?_
      refine gT_X10_knows dX10_flood_13 ha vu_at ?_
      refine J_iload_n (q := 1) dX10_flood_16 rfl rfl ?_
      refine J_dup2 dX10_flood_17 rfl rfl ?_
      obtain ⟨hg2, h⟩ := gd_some h
      refine aT_ld (j := 7) (n := 35) dX10_flood_18 ha vu_at (by decide) rfl hg2 ?_
      refine J_aload_n (q := 0) dX10_flood_19 rfl rfl ?_
      refine gT_X10_knows dX10_flood_20 ha vu_at ?_
      refine J_iload_n (q := 1) dX10_flood_23 rfl rfl ?_
      obtain ⟨hg3, h⟩ := gd_some h
      refine aT_ld (j := 7) (n := 35) dX10_flood_24 ha vu_at (by decide) rfl hg3 ?_
      refine J_iconst dX10_flood_25 ic_1 ?_
      refine J_isub dX10_flood_26 ?_
      refine J_iand dX10_flood_27 ?_
      obtain ⟨hg4, h⟩ := gd_some h
      refine aT_st (w' := va_up σ a (pA t 7 x1 ((ix (oA t 7) x1) &&& ((ix (oA t 7) x1) - (1 : Int32))))) (j := 7) (n := 35) dX10_flood_28 ha vu_at vu_at vu_oth (by decide) rfl hg4 ?_
      refine J_twu (fun t5 et5 => ?_)
      replace h := nm_some et5 h
      refine J_iinc (q := 1) (v := (x1 + (1 : Int32))) (lv' := [(1, .int (x1 + (1 : Int32))), (0, .ref (ad (8 * a + 2)))]) dX10_flood_29 rfl (congrArg (fun z => x1 + z) ic_1) (by decide) rfl ?_
      refine J_tv (fun v6 ev6 => ?_)
      replace h := nm_some ev6 h
      refine J_goto (tgt := 2) dX10_flood_32 (by decide) ?_
      exact J_sub [1, 0] rfl (ih _ _ h)
set_option maxRecDepth 20000 in
set_option maxHeartbeats 4000000 in
theorem T_flood_ok {E : Ec} {ad : Nat → Nat} {cy : Nat → ClassId} {rv : Ob} {σ : CS} {a : Nat} {t : Ob} (hi : wl_inj (ΓC ad cy)) (ha : okT a) (hL : Lv E 0) (h : T_flood t = some rv) : Jw E (ΓC ad cy) RX10 cX10_flood 2 none (none, va_up σ a rv) 0 [(0, .ref (ad (8 * a + 2)))] [] (va_up σ a t) := by
  unfold T_flood at h
  refine J_iconst dX10_flood_0 ic_0 ?_
  refine J_istore_n (lv' := [(1, .int (0 : Int32)), (0, .ref (ad (8 * a + 2)))]) dX10_flood_1 rfl (by decide) rfl ?_
  refine J_sub [1, 0] rfl (T_flood_L2_ok hi ha hL FU _ _ h)
set_option maxRecDepth 20000 in
set_option maxHeartbeats 4000000 in
theorem kX10_flood {l : Launch} {D : va_G} {ad : Nat → Nat} {cy : Nat → ClassId} {rv : Ob} {σ : CS} {a : Nat} {t : Ob} (hi : wl_inj (ΓC ad cy)) (ha : okT a) (h : T_flood t = some rv) : Cn l D (ΓC ad cy) yX10_flood cX10_flood 2 none 0 [.ref (ad (8 * a + 2))] (va_up σ a t) (none, va_up σ a rv) :=
  Cn.of hi rfl (Nat.le_of_ble_eq_true rfl) (fun _ _ _ hL => T_flood_ok hi ha hL h)
theorem pdX11_isShelf : (parseMethodDescriptor yX11_isShelf.desc).map (fun d => d.parameters.length) = some 1 := by decide +kernel
set_option maxRecDepth 20000 in
set_option maxHeartbeats 4000000 in
theorem C_isShelf_ok {E : Ec} {ad : Nat → Nat} {cy : Nat → ClassId} {rv : Int32} {w : CS} {p0 : Int32} (hi : wl_inj (ΓC ad cy)) (hL : Lv E 0) (h : C_isShelf p0 = some rv) : Jw E (ΓC ad cy) RX11 cX11_isShelf 1 (some .boolean) (some (.int rv), w) 0 [(0, .int p0)] [] w := by
  unfold C_isShelf at h
  refine J_iload_n (q := 0) dX11_isShelf_0 rfl rfl ?_
  refine J_if_lt (tgt := 14) dX11_isShelf_1 (by decide) (fun c1 => ?_) (fun c1 => ?_)
  · replace h := it_some h c1
    refine J_iconst dX11_isShelf_14 ic_0 ?_
    exact J_zret dX11_isShelf_15 (rt_pi h) rfl rfl
  · replace h := if_some h c1
    refine J_iload_n (q := 0) dX11_isShelf_4 rfl rfl ?_
    refine J_bipush dX11_isShelf_5 bp_8 ?_
    refine J_icmp_ge (tgt := 14) dX11_isShelf_7 (by decide) (fun c2 => ?_) (fun c2 => ?_)
    · replace h := it_some h c2
      refine J_iconst dX11_isShelf_14 ic_0 ?_
      exact J_zret dX11_isShelf_15 (rt_pi h) rfl rfl
    · replace h := if_some h c2
      refine J_iconst dX11_isShelf_10 ic_1 ?_
      refine J_goto (tgt := 15) dX11_isShelf_11 (by decide) ?_
      exact J_zret dX11_isShelf_15 (rt_pi h) rfl rfl
set_option maxRecDepth 20000 in
set_option maxHeartbeats 4000000 in
theorem kX11_isShelf {l : Launch} {D : va_G} {ad : Nat → Nat} {cy : Nat → ClassId} {rv : Int32} {w : CS} {p0 : Int32} (hi : wl_inj (ΓC ad cy)) (h : C_isShelf p0 = some rv) : Cn l D (ΓC ad cy) yX11_isShelf cX11_isShelf 1 (some .boolean) 0 [.int p0] w (some (.int rv), w) :=
  Cn.of hi rfl (Nat.le_of_ble_eq_true rfl) (fun _ _ _ hL => C_isShelf_ok hi hL h)
theorem pdX11_holdRefusal : (parseMethodDescriptor yX11_holdRefusal.desc).map (fun d => d.parameters.length) = some 2 := by decide +kernel
theorem kx_X11_146 {E : Ec} {ad : Nat → Nat} {cy : Nat → ClassId} {cc : ByteArray} {nL : Nat} {rt : Option FieldType} {r : Option Value × CS} {pc : Nat} {lv : List (Nat × Value)} {st : List Value} {w : CS} {n : Nat} {p0 : Int32} {v : Int32} (hi : wl_inj (ΓC ad cy)) (hd : decode cc pc = .ok (.invokestatic 146, 3)) (hq : C_isShelf p0 = some v) (hL : Lv E n) (hn : 0 + 1 ≤ n) (hW : (st.map fun v => v.category).sum ≤ 8) (k : Jw E (ΓC ad cy) RX11 cc nL rt r (pc + 3) lv (.int v :: st) w) : Jw E (ΓC ad cy) RX11 cc nL rt r pc lv (.int p0 :: st) w :=
  J_callS (Γ := ΓC ad cy) (av := [.int p0]) (q := (some (.int v), w)) (st := st) hd (kX11_isShelf hi hq) tw_1_215 tw_1_216 tw_1_1 tw_1_217 ⟨by decide, by decide, pdX11_isShelf⟩ rfl (by decide) hL hn hW k
set_option maxRecDepth 20000 in
set_option maxHeartbeats 4000000 in
theorem C_holdRefusal_ok {E : Ec} {ad : Nat → Nat} {cy : Nat → ClassId} {rv : Int32} {σ : CS} {p1 : Int32} {p2 : Int32} (hi : wl_inj (ΓC ad cy)) (hL : Lv E 1) (h : C_holdRefusal σ p1 p2 = some rv) : Jw E (ΓC ad cy) RX11 cX11_holdRefusal 4 (some .int) (some (.int rv), σ) 0 [(0, .ref (ad 0)), (1, .int p1), (2, .int p2)] [] σ := by
  unfold C_holdRefusal at h
  refine J_iload_n (q := 1) dX11_holdRefusal_0 rfl rfl ?_
  obtain ⟨r1, hq7, h⟩ := bd_some h
  refine kx_X11_146 hi dX11_holdRefusal_1 hq7 hL (by decide) (Nat.le_of_ble_eq_true rfl) ?_
  refine J_if_ne (tgt := 9) dX11_holdRefusal_4 (by decide) (fun c2 => ?_) (fun c2 => ?_)
  · replace h := if_some h c2
    refine J_aload_n (q := 0) dX11_holdRefusal_9 rfl rfl ?_
    refine gC_shelves dX11_holdRefusal_10 ?_
    refine J_iload_n (q := 1) dX11_holdRefusal_13 rfl rfl ?_
    obtain ⟨hg3, h⟩ := gd_some h
    refine aM_shelf dX11_holdRefusal_14 hg3 ?_
    refine gS_X11_holds dX11_holdRefusal_15 (okS_m hg3) rfl ?_
    refine J_ti (fun v4 ev4 => ?_)
    replace h := nm_some ev4 h
    refine J_istore_n (lv' := [(3, .int v4), (0, .ref (ad 0)), (1, .int p1), (2, .int p2)]) dX11_holdRefusal_18 rfl (by decide) rfl ?_
    refine J_iload_n (q := 0) dX11_holdRefusal_19 rfl rfl ?_
    refine J_if_ne (tgt := 26) dX11_holdRefusal_20 (by decide) (fun c5 => ?_) (fun c5 => ?_)
    · replace h := if_some h c5
      refine J_iload_n (q := 0) dX11_holdRefusal_26 rfl rfl ?_
      refine J_iload_n (q := 3) dX11_holdRefusal_27 rfl rfl ?_
      refine J_icmp_ne (tgt := 35) dX11_holdRefusal_28 (by decide) (fun c6 => ?_) (fun c6 => ?_)
      · replace h := if_some h c6
        refine J_bipush dX11_holdRefusal_35 bp_m12 ?_
        exact J_iret dX11_holdRefusal_37 (rt_pi h) rfl
      · replace h := it_some h c6
        refine J_iconst dX11_holdRefusal_31 ic_0 ?_
        refine J_goto (tgt := 37) dX11_holdRefusal_32 (by decide) ?_
        exact J_iret dX11_holdRefusal_37 (rt_pi h) rfl
    · replace h := it_some h c5
      refine J_bipush dX11_holdRefusal_23 bp_m11 ?_
      exact J_iret dX11_holdRefusal_25 (rt_pi h) rfl
  · replace h := it_some h c2
    refine J_iconst dX11_holdRefusal_7 ic_m1 ?_
    exact J_iret dX11_holdRefusal_8 (rt_pi h) rfl
set_option maxRecDepth 20000 in
set_option maxHeartbeats 4000000 in
theorem kX11_holdRefusal {l : Launch} {D : va_G} {ad : Nat → Nat} {cy : Nat → ClassId} {rv : Int32} {σ : CS} {p1 : Int32} {p2 : Int32} (hi : wl_inj (ΓC ad cy)) (h : C_holdRefusal σ p1 p2 = some rv) : Cn l D (ΓC ad cy) yX11_holdRefusal cX11_holdRefusal 4 (some .int) 1 [.ref (ad 0), .int p1, .int p2] σ (some (.int rv), σ) :=
  Cn.of hi rfl (Nat.le_of_ble_eq_true rfl) (fun _ _ _ hL => C_holdRefusal_ok hi hL h)
theorem pdX11_rowRefusal : (parseMethodDescriptor yX11_rowRefusal.desc).map (fun d => d.parameters.length) = some 1 := by decide +kernel
theorem kx_X11_318 {E : Ec} {ad : Nat → Nat} {cy : Nat → ClassId} {cc : ByteArray} {nL : Nat} {rt : Option FieldType} {r : Option Value × CS} {pc : Nat} {lv : List (Nat × Value)} {st : List Value} {σ : CS} {n : Nat} {p1 : Int32} {p2 : Int32} {v : Int32} (hi : wl_inj (ΓC ad cy)) (hd : decode cc pc = .ok (.invokevirtual 318, 3)) (hq : C_holdRefusal σ p1 p2 = some v) (hL : Lv E n) (hn : 1 + 1 ≤ n) (hW : (st.map fun v => v.category).sum ≤ 8) (k : Jw E (ΓC ad cy) RX11 cc nL rt r (pc + 3) lv (.int v :: st) σ) : Jw E (ΓC ad cy) RX11 cc nL rt r pc lv (.int p2 :: .int p1 :: .ref (ad 0) :: st) σ :=
  J_callV (Γ := ΓC ad cy) (h := 0) (ci := 10) (av := [.int p1, .int p2]) (q := (some (.int v), σ)) (st := st) hd (kX11_holdRefusal hi hq) tw_1_211 tw_1_213 tw_1_1 tw_1_214 sl_1_1 ⟨by decide, by decide, pdX11_holdRefusal⟩ (by show 0 < 111; decide) rfl rfl rfl rfl (by decide) hL hn hW k
set_option maxRecDepth 20000 in
set_option maxHeartbeats 4000000 in
theorem C_rowRefusal_ok {E : Ec} {ad : Nat → Nat} {cy : Nat → ClassId} {rv : Int32} {σ : CS} {p1 : Int32} (hi : wl_inj (ΓC ad cy)) (hL : Lv E 2) (h : C_rowRefusal σ p1 = some rv) : Jw E (ΓC ad cy) RX11 cX11_rowRefusal 2 (some .int) (some (.int rv), σ) 0 [(0, .ref (ad 0)), (1, .int p1)] [] σ := by
  unfold C_rowRefusal at h
  refine J_aload_n (q := 0) dX11_rowRefusal_0 rfl rfl ?_
  refine J_iload_n (q := 1) dX11_rowRefusal_1 rfl rfl ?_
  refine J_iconst dX11_rowRefusal_2 ic_2 ?_
  obtain ⟨r1, hq2, h⟩ := bd_some h
  refine kx_X11_318 hi dX11_rowRefusal_3 hq2 hL (by decide) (Nat.le_of_ble_eq_true rfl) ?_
  exact J_iret dX11_rowRefusal_6 (rt_pi h) rfl
set_option maxRecDepth 20000 in
set_option maxHeartbeats 4000000 in
theorem kX11_rowRefusal {l : Launch} {D : va_G} {ad : Nat → Nat} {cy : Nat → ClassId} {rv : Int32} {σ : CS} {p1 : Int32} (hi : wl_inj (ΓC ad cy)) (h : C_rowRefusal σ p1 = some rv) : Cn l D (ΓC ad cy) yX11_rowRefusal cX11_rowRefusal 2 (some .int) 2 [.ref (ad 0), .int p1] σ (some (.int rv), σ) :=
  Cn.of hi rfl (Nat.le_of_ble_eq_true rfl) (fun _ _ _ hL => C_rowRefusal_ok hi hL h)
theorem pdX11_town : (parseMethodDescriptor yX11_town.desc).map (fun d => d.parameters.length) = some 1 := by decide +kernel
theorem kx_X11_69 {E : Ec} {ad : Nat → Nat} {cy : Nat → ClassId} {cc : ByteArray} {nL : Nat} {rt : Option FieldType} {r : Option Value × CS} {pc : Nat} {lv : List (Nat × Value)} {st : List Value} {σ : CS} {n : Nat} {p1 : Int32} {v : Int32} (hi : wl_inj (ΓC ad cy)) (hd : decode cc pc = .ok (.invokevirtual 69, 3)) (hq : C_rowRefusal σ p1 = some v) (hL : Lv E n) (hn : 2 + 1 ≤ n) (hW : (st.map fun v => v.category).sum ≤ 8) (k : Jw E (ΓC ad cy) RX11 cc nL rt r (pc + 3) lv (.int v :: st) σ) : Jw E (ΓC ad cy) RX11 cc nL rt r pc lv (.int p1 :: .ref (ad 0) :: st) σ :=
  J_callV (Γ := ΓC ad cy) (h := 0) (ci := 10) (av := [.int p1]) (q := (some (.int v), σ)) (st := st) hd (kX11_rowRefusal hi hq) tw_1_207 tw_1_209 tw_1_1 tw_1_210 sl_1_0 ⟨by decide, by decide, pdX11_rowRefusal⟩ (by show 0 < 111; decide) rfl rfl rfl rfl (by decide) hL hn hW k
theorem kx_X11_77 {E : Ec} {ad : Nat → Nat} {cy : Nat → ClassId} {cc : ByteArray} {nL : Nat} {rt : Option FieldType} {r : Option Value × CS} {pc : Nat} {lv : List (Nat × Value)} {st : List Value} {σ : CS} {n : Nat} {p0 : Nat} {v : Int32} (hi : wl_inj (ΓC ad cy)) (hp0 : okS p0) (hd : decode cc pc = .ok (.invokestatic 77, 3)) (hq : X_grammarFault σ p0 = some v) (hL : Lv E n) (hn : 2 + 1 ≤ n) (hW : (st.map fun v => v.category).sum ≤ 8) (k : Jw E (ΓC ad cy) RX11 cc nL rt r (pc + 3) lv (.int v :: st) σ) : Jw E (ΓC ad cy) RX11 cc nL rt r pc lv (.ref (ad (2 * p0 + 70)) :: st) σ :=
  J_callS (Γ := ΓC ad cy) (av := [.ref (ad (2 * p0 + 70))]) (q := (some (.int v), σ)) (st := st) hd (kX9_grammarFault hi hp0 hq) tw_1_218 tw_1_219 tw_1_14 tw_1_220 ⟨by decide, by decide, pdX9_grammarFault⟩ rfl (by decide) hL hn hW k
theorem kx_X11_83 {E : Ec} {ad : Nat → Nat} {cy : Nat → ClassId} {cc : ByteArray} {nL : Nat} {rt : Option FieldType} {r : Option Value × CS} {pc : Nat} {lv : List (Nat × Value)} {st : List Value} {σ : CS} {n a a2 : Nat} {t' : Ob} (hi : wl_inj (ΓC ad cy)) (ha : okT a) (ha2 : okT a2) (hne : a2 ≠ a) (hd : decode cc pc = .ok (.invokevirtual 83, 3)) (hq : T_takeFrom (σ a) (σ a2) = some t') (hL : Lv E n) (hn : 1 + 1 ≤ n) (hW : (st.map fun v => v.category).sum ≤ 8) (k : Jw E (ΓC ad cy) RX11 cc nL rt r (pc + 3) lv (st) (va_up σ a t')) : Jw E (ΓC ad cy) RX11 cc nL rt r pc lv (.ref (ad (8 * a2 + 2)) :: .ref (ad (8 * a + 2)) :: st) σ := by
  have hM := fun (l : Launch) (D : va_G) => kX10_takeFrom (l := l) (D := D) (ad := ad) (cy := cy) (σ := σ) hi ha ha2 (fun _ => vu_ne hne) hq
  simp only [vu_self] at hM
  exact J_callV (Γ := ΓC ad cy) (h := 8 * a + 2) (ci := 9) (av := [.ref (ad (8 * a2 + 2))]) (q := (none, va_up σ a t')) (st := st) hd (hM _ _) tw_1_233 tw_1_234 tw_1_10 tw_1_236 tw_1_235 ⟨by decide, by decide, pdX10_takeFrom⟩ (hT (j := 0) ha (by decide)) (cC_t0 ha rfl) rfl rfl rfl (by decide) hL hn hW k
theorem kx_X11_90 {E : Ec} {ad : Nat → Nat} {cy : Nat → ClassId} {cc : ByteArray} {nL : Nat} {rt : Option FieldType} {r : Option Value × CS} {pc : Nat} {lv : List (Nat × Value)} {st : List Value} {σ : CS} {n : Nat} {p0 : Nat} {p1 : Int32} {p2 : Nat} {v : Int32} {σ' : CS} (hi : wl_inj (ΓC ad cy)) (hp0 : okS p0) (hp2 : okT p2) (hd : decode cc pc = .ok (.invokestatic 90, 3)) (hq : X_obey σ p0 p1 p2 = some (v, σ')) (hL : Lv E n) (hn : 6 + 1 ≤ n) (hW : (st.map fun v => v.category).sum ≤ 8) (k : Jw E (ΓC ad cy) RX11 cc nL rt r (pc + 3) lv (.int v :: st) σ') : Jw E (ΓC ad cy) RX11 cc nL rt r pc lv (.ref (ad (8 * p2 + 2)) :: .int p1 :: .ref (ad (2 * p0 + 70)) :: st) σ :=
  J_callS (Γ := ΓC ad cy) (av := [.ref (ad (2 * p0 + 70)), .int p1, .ref (ad (8 * p2 + 2))]) (q := (some (.int v), σ')) (st := st) hd (kX9_obey hi hp0 hp2 hq) tw_2_0 tw_2_1 tw_1_14 tw_2_2 ⟨by decide, by decide, pdX9_obey⟩ rfl (by decide) hL hn hW k
theorem kx_X11_94 {E : Ec} {ad : Nat → Nat} {cy : Nat → ClassId} {cc : ByteArray} {nL : Nat} {rt : Option FieldType} {r : Option Value × CS} {pc : Nat} {lv : List (Nat × Value)} {st : List Value} {σ : CS} {n : Nat} {p0 : Nat} {p1 : Int32} {v : Int32} (hi : wl_inj (ΓC ad cy)) (hp0 : okS p0) (hd : decode cc pc = .ok (.invokestatic 94, 3)) (hq : X_behind σ p0 p1 = some v) (hL : Lv E n) (hn : 1 + 1 ≤ n) (hW : (st.map fun v => v.category).sum ≤ 8) (k : Jw E (ΓC ad cy) RX11 cc nL rt r (pc + 3) lv (.int v :: st) σ) : Jw E (ΓC ad cy) RX11 cc nL rt r pc lv (.int p1 :: .ref (ad (2 * p0 + 70)) :: st) σ :=
  J_callS (Γ := ΓC ad cy) (av := [.ref (ad (2 * p0 + 70)), .int p1]) (q := (some (.int v), σ)) (st := st) hd (kX9_behind hi hp0 hq) tw_2_154 tw_1_228 tw_1_14 tw_1_229 ⟨by decide, by decide, pdX9_behind⟩ rfl (by decide) hL hn hW k
set_option maxRecDepth 20000 in
set_option maxHeartbeats 4000000 in
theorem C_town_L64_ok {E : Ec} {ad : Nat → Nat} {cy : Nat → ClassId} {rv : (Int32 × CS)} {k114 : Int32 → CS → Option (Int32 × CS)} {b3 : Nat} (hi : wl_inj (ΓC ad cy)) (hL : Lv E 7) (hb3 : okS b3) (hk114 : ∀ (y6 : Int32) (yw : CS), k114 y6 yw = some rv → Jw E (ΓC ad cy) RX11 cX11_town 7 (some .int) (some (.int rv.1), rv.2) 114 [(0, .ref (ad 0)), (6, .int y6)] [] yw) : ∀ (n : Nat) (σ : CS) (x5 : Int32) (x6 : Int32), C_town_L64 k114 b3 n σ x5 x6 = some rv → Jw E (ΓC ad cy) RX11 cX11_town 7 (some .int) (some (.int rv.1), rv.2) 64 [(0, .ref (ad 0)), (3, .ref (ad (2 * b3 + 70))), (5, .int x5), (6, .int x6)] [] σ := by
  intro n
  induction n with
  | zero =>
    intro σ x5 x6 h
    rw [C_town_L64] at h
    cases h
  | succ n ih =>
    intro σ x5 x6 h
    rw [C_town_L64] at h
    refine J_iload (q := 2) dX11_town_64 rfl ?_
    refine J_aload_n (q := 1) dX11_town_66 rfl rfl ?_
    refine gS_X11_size dX11_town_67 hb3 rfl ?_
    refine J_icmp_ge (tgt := 114) dX11_town_70 (by decide) (fun c9 => ?_) (fun c9 => ?_)
    · replace h := it_some h c9
      exact J_sub [0, 3] rfl (hk114 _ _ h)
    · replace h := if_some h c9
      refine J_iload (q := 3) dX11_town_73 rfl ?_
      refine J_bipush dX11_town_75 bp_100 ?_
      refine J_icmp_ge (tgt := 114) dX11_town_77 (by decide) (fun c10 => ?_) (fun c10 => ?_)
      · replace h := it_some h c10
        exact J_sub [0, 3] rfl (hk114 _ _ h)
      · replace h := if_some h c10
        refine J_aload_n (q := 1) dX11_town_80 rfl rfl ?_
        refine J_iload (q := 2) dX11_town_81 rfl ?_
        refine J_aload_n (q := 0) dX11_town_83 rfl rfl ?_
        refine gC_mind dX11_town_84 ?_
        obtain ⟨r11, σ12, hq16, h⟩ := bd2_some h
        refine kx_X11_90 hi hb3 okT_3 dX11_town_87 hq16 hL (by decide) (Nat.le_of_ble_eq_true rfl) ?_
        refine J_if_ne (tgt := 100) dX11_town_90 (by decide) (fun c13 => ?_) (fun c13 => ?_)
        · replace h := if_some h c13
          refine J_aload_n (q := 1) dX11_town_100 rfl rfl ?_
          refine J_iload (q := 2) dX11_town_101 rfl ?_
          obtain ⟨r14, hq17, h⟩ := bd_some h
          refine kx_X11_94 hi hb3 dX11_town_103 hq17 hL (by decide) (Nat.le_of_ble_eq_true rfl) ?_
          refine J_istore (lv' := [(5, .int r14), (0, .ref (ad 0)), (3, .ref (ad (2 * b3 + 70))), (6, .int x6)]) dX11_town_106 (by decide) rfl ?_
          refine J_iinc (q := 3) (v := (x6 + (1 : Int32))) (lv' := [(6, .int (x6 + (1 : Int32))), (5, .int r14), (0, .ref (ad 0)), (3, .ref (ad (2 * b3 + 70)))]) dX11_town_108 rfl (congrArg (fun z => x6 + z) ic_1) (by decide) rfl ?_
          refine J_tv (fun v15 ev15 => ?_)
          replace h := nm_some ev15 h
          refine J_goto (tgt := 64) dX11_town_111 (by decide) ?_
          exact J_sub [2, 3, 1, 0] rfl (ih _ _ _ h)
        · replace h := it_some h c13
          refine J_sipush dX11_town_93 sp_m2000 ?_
          refine J_iload (q := 2) dX11_town_96 rfl ?_
          refine J_isub dX11_town_98 ?_
          exact J_iret dX11_town_99 (rt_i h) rfl
set_option maxRecDepth 20000 in
set_option maxHeartbeats 4000000 in
theorem C_town_ok {E : Ec} {ad : Nat → Nat} {cy : Nat → ClassId} {rv : (Int32 × CS)} {σ : CS} {p1 : Int32} (hi : wl_inj (ΓC ad cy)) (hL : Lv E 7) (h : C_town σ p1 = some rv) : Jw E (ΓC ad cy) RX11 cX11_town 7 (some .int) (some (.int rv.1), rv.2) 0 [(0, .ref (ad 0)), (1, .int p1)] [] σ := by
  unfold C_town at h
  refine J_aload_n (q := 0) dX11_town_0 rfl rfl ?_
  refine J_iload_n (q := 1) dX11_town_1 rfl rfl ?_
  obtain ⟨r1, hq22, h⟩ := bd_some h
  refine kx_X11_69 hi dX11_town_2 hq22 hL (by decide) (Nat.le_of_ble_eq_true rfl) ?_
  refine J_istore_n (lv' := [(2, .int r1), (0, .ref (ad 0)), (1, .int p1)]) dX11_town_5 rfl (by decide) rfl ?_
  refine J_iload_n (q := 0) dX11_town_6 rfl rfl ?_
  refine J_if_eq (tgt := 12) dX11_town_7 (by decide) (fun c2 => ?_) (fun c2 => ?_)
  · replace h := it_some h c2
    refine J_aload_n (q := 1) dX11_town_12 rfl rfl ?_
    refine gC_shelves dX11_town_13 ?_
    refine J_iload_n (q := 2) dX11_town_16 rfl rfl ?_
    obtain ⟨hg3, h⟩ := gd_some h
    refine aM_shelf dX11_town_17 hg3 ?_
    refine J_astore_n (lv' := [(3, .ref (ad (2 * (11 + p1.toNatClampNeg) + 70))), (2, .int r1), (0, .ref (ad 0)), (1, .int p1)]) dX11_town_18 rfl (by decide) rfl ?_
    refine J_aload_n (q := 0) dX11_town_19 rfl rfl ?_
    refine gS_X11_sort dX11_town_20 (okS_m hg3) rfl ?_
    refine J_if_eq (tgt := 29) dX11_town_23 (by decide) (fun c4 => ?_) (fun c4 => ?_)
    · replace h := it_some h c4
      refine J_aload_n (q := 0) dX11_town_29 rfl rfl ?_
      obtain ⟨r5, hq23, h⟩ := bd_some h
      refine kx_X11_77 hi (okS_m hg3) dX11_town_30 hq23 hL (by decide) (Nat.le_of_ble_eq_true rfl) ?_
      refine J_istore (lv' := [(4, .int r5), (3, .ref (ad (2 * (11 + p1.toNatClampNeg) + 70))), (2, .int r1), (0, .ref (ad 0)), (1, .int p1)]) dX11_town_33 (by decide) rfl ?_
      refine J_iload (q := 0) dX11_town_35 rfl ?_
      refine J_if_lt (tgt := 47) dX11_town_37 (by decide) (fun c6 => ?_) (fun c6 => ?_)
      · replace h := it_some h c6
        refine J_aload_n (q := 3) dX11_town_47 rfl rfl ?_
        refine gC_mind dX11_town_48 ?_
        refine J_aload_n (q := 3) dX11_town_51 rfl rfl ?_
        refine gC_now dX11_town_52 ?_
        obtain ⟨t7, hq24, h⟩ := bd_some h
        refine kx_X11_83 hi okT_3 okT_1 (by decide) dX11_town_55 hq24 hL (by decide) (Nat.le_of_ble_eq_true rfl) ?_
        refine J_tw (fun σ8 eσ8 => ?_)
        replace h := nm_some eσ8 h
        refine J_iconst dX11_town_58 ic_0 ?_
        refine J_istore (lv' := [(5, .int (0 : Int32)), (4, .int r5), (3, .ref (ad (2 * (11 + p1.toNatClampNeg) + 70))), (2, .int r1), (0, .ref (ad 0)), (1, .int p1)]) dX11_town_59 (by decide) rfl ?_
        refine J_iconst dX11_town_61 ic_0 ?_
        refine J_istore (lv' := [(6, .int (0 : Int32)), (5, .int (0 : Int32)), (4, .int r5), (3, .ref (ad (2 * (11 + p1.toNatClampNeg) + 70))), (2, .int r1), (0, .ref (ad 0)), (1, .int p1)]) dX11_town_62 (by decide) rfl ?_
        refine J_sub [5, 3, 1, 0] rfl (C_town_L64_ok hi hL (okS_m hg3) (fun x6_18 σ19 h => ?_) FU _ _ _ h)
        refine J_aload_n (q := 0) dX11_town_114 rfl rfl ?_
        refine gC_now dX11_town_115 ?_
        refine J_aload_n (q := 0) dX11_town_118 rfl rfl ?_
        refine gC_mind dX11_town_119 ?_
        obtain ⟨t20, hq25, h⟩ := bd_some h
        refine kx_X11_83 hi okT_1 okT_3 (by decide) dX11_town_122 hq25 hL (by decide) (Nat.le_of_ble_eq_true rfl) ?_
        refine J_tw (fun σ21 eσ21 => ?_)
        replace h := nm_some eσ21 h
        refine J_iload (q := 1) dX11_town_125 rfl ?_
        exact J_iret dX11_town_127 (rt_i h) rfl
      · replace h := if_some h c6
        refine J_sipush dX11_town_40 sp_m1000 ?_
        refine J_iload (q := 0) dX11_town_43 rfl ?_
        refine J_isub dX11_town_45 ?_
        exact J_iret dX11_town_46 (rt_i h) rfl
    · replace h := if_some h c4
      refine J_bipush dX11_town_26 bp_m12 ?_
      exact J_iret dX11_town_28 (rt_i h) rfl
  · replace h := if_some h c2
    refine J_iload_n (q := 0) dX11_town_10 rfl rfl ?_
    exact J_iret dX11_town_11 (rt_i h) rfl
set_option maxRecDepth 20000 in
set_option maxHeartbeats 4000000 in
theorem kX11_town {l : Launch} {D : va_G} {ad : Nat → Nat} {cy : Nat → ClassId} {rv : (Int32 × CS)} {σ : CS} {p1 : Int32} (hi : wl_inj (ΓC ad cy)) (h : C_town σ p1 = some rv) : Cn l D (ΓC ad cy) yX11_town cX11_town 7 (some .int) 7 [.ref (ad 0), .int p1] σ (some (.int rv.1), rv.2) :=
  Cn.of hi rfl (Nat.le_of_ble_eq_true rfl) (fun _ _ _ hL => C_town_ok hi hL h)
theorem pdX11_one : (parseMethodDescriptor yX11_one.desc).map (fun d => d.parameters.length) = some 2 := by decide +kernel
theorem kx_X11_98 {E : Ec} {ad : Nat → Nat} {cy : Nat → ClassId} {cc : ByteArray} {nL : Nat} {rt : Option FieldType} {r : Option Value × CS} {pc : Nat} {lv : List (Nat × Value)} {st : List Value} {σ : CS} {n a : Nat} {p1 : Int32} {v : Int32} (hi : wl_inj (ΓC ad cy)) (ha : okT a) (hd : decode cc pc = .ok (.invokevirtual 98, 3)) (hq : T_hasOne (σ a) p1 = some v) (hL : Lv E n) (hn : 0 + 1 ≤ n) (hW : (st.map fun v => v.category).sum ≤ 8) (k : Jw E (ΓC ad cy) RX11 cc nL rt r (pc + 3) lv (.int v :: st) σ) : Jw E (ΓC ad cy) RX11 cc nL rt r pc lv (.int p1 :: .ref (ad (8 * a + 2)) :: st) σ := by
  have hM := fun (l : Launch) (D : va_G) => kX10_hasOne (l := l) (D := D) (ad := ad) (cy := cy) (σ := σ) hi ha hq
  simp only [vu_self] at hM
  exact J_callV (Γ := ΓC ad cy) (h := 8 * a + 2) (ci := 9) (av := [.int p1]) (q := (some (.int v), σ)) (st := st) hd (hM _ _) tw_2_159 tw_2_29 tw_1_10 tw_2_31 tw_2_30 ⟨by decide, by decide, pdX10_hasOne⟩ (hT (j := 0) ha (by decide)) (cC_t0 ha rfl) rfl rfl rfl (by decide) hL hn hW k
theorem kx_X11_102 {E : Ec} {ad : Nat → Nat} {cy : Nat → ClassId} {cc : ByteArray} {nL : Nat} {rt : Option FieldType} {r : Option Value × CS} {pc : Nat} {lv : List (Nat × Value)} {st : List Value} {w : CS} {n : Nat} {p0 : Int32} {p1 : Int32} {v : Int32} (hi : wl_inj (ΓC ad cy)) (hd : decode cc pc = .ok (.invokestatic 102, 3)) (hq : C_within p0 p1 = some v) (hL : Lv E n) (hn : 0 + 1 ≤ n) (hW : (st.map fun v => v.category).sum ≤ 8) (k : Jw E (ΓC ad cy) RX11 cc nL rt r (pc + 3) lv (.int v :: st) w) : Jw E (ΓC ad cy) RX11 cc nL rt r pc lv (.int p1 :: .int p0 :: st) w :=
  J_callS (Γ := ΓC ad cy) (av := [.int p0, .int p1]) (q := (some (.int v), w)) (st := st) hd (kX11_within hi hq) tw_2_160 tw_2_14 tw_1_1 tw_2_15 ⟨by decide, by decide, pdX11_within⟩ rfl (by decide) hL hn hW k
theorem kx_X11_115 {E : Ec} {ad : Nat → Nat} {cy : Nat → ClassId} {cc : ByteArray} {nL : Nat} {rt : Option FieldType} {r : Option Value × CS} {pc : Nat} {lv : List (Nat × Value)} {st : List Value} {σ : CS} {n a : Nat} {p1 : Int32} {v : Int32} (hi : wl_inj (ΓC ad cy)) (ha : okT a) (hd : decode cc pc = .ok (.invokevirtual 115, 3)) (hq : T_ownedBy (σ a) p1 = some v) (hL : Lv E n) (hn : 0 + 1 ≤ n) (hW : (st.map fun v => v.category).sum ≤ 8) (k : Jw E (ΓC ad cy) RX11 cc nL rt r (pc + 3) lv (.int v :: st) σ) : Jw E (ΓC ad cy) RX11 cc nL rt r pc lv (.int p1 :: .ref (ad (8 * a + 2)) :: st) σ := by
  have hM := fun (l : Launch) (D : va_G) => kX10_ownedBy (l := l) (D := D) (ad := ad) (cy := cy) (σ := σ) hi ha hq
  simp only [vu_self] at hM
  exact J_callV (Γ := ΓC ad cy) (h := 8 * a + 2) (ci := 9) (av := [.int p1]) (q := (some (.int v), σ)) (st := st) hd (hM _ _) tw_2_161 tw_2_162 tw_1_10 tw_2_164 tw_2_163 ⟨by decide, by decide, pdX10_ownedBy⟩ (hT (j := 0) ha (by decide)) (cC_t0 ha rfl) rfl rfl rfl (by decide) hL hn hW k
theorem kx_X11_121 {E : Ec} {ad : Nat → Nat} {cy : Nat → ClassId} {cc : ByteArray} {nL : Nat} {rt : Option FieldType} {r : Option Value × CS} {pc : Nat} {lv : List (Nat × Value)} {st : List Value} {σ : CS} {n a : Nat} {p1 : Int32} {p2 : Int32} {v : Int32} (hi : wl_inj (ΓC ad cy)) (ha : okT a) (hd : decode cc pc = .ok (.invokevirtual 121, 3)) (hq : T_lessons (σ a) p1 p2 = some v) (hL : Lv E n) (hn : 2 + 1 ≤ n) (hW : (st.map fun v => v.category).sum ≤ 8) (k : Jw E (ΓC ad cy) RX11 cc nL rt r (pc + 3) lv (.int v :: st) σ) : Jw E (ΓC ad cy) RX11 cc nL rt r pc lv (.int p2 :: .int p1 :: .ref (ad (8 * a + 2)) :: st) σ := by
  have hM := fun (l : Launch) (D : va_G) => kX10_lessons (l := l) (D := D) (ad := ad) (cy := cy) (σ := σ) hi ha hq
  simp only [vu_self] at hM
  exact J_callV (Γ := ΓC ad cy) (h := 8 * a + 2) (ci := 9) (av := [.int p1, .int p2]) (q := (some (.int v), σ)) (st := st) hd (hM _ _) tw_2_165 tw_2_53 tw_1_10 tw_2_55 tw_2_54 ⟨by decide, by decide, pdX10_lessons⟩ (hT (j := 0) ha (by decide)) (cC_t0 ha rfl) rfl rfl rfl (by decide) hL hn hW k
set_option maxRecDepth 20000 in
set_option maxHeartbeats 4000000 in
theorem C_one_ok {E : Ec} {ad : Nat → Nat} {cy : Nat → ClassId} {rv : Int32} {σ : CS} {p1 : Int32} {p2 : Int32} (hi : wl_inj (ΓC ad cy)) (hL : Lv E 3) (h : C_one σ p1 p2 = some rv) : Jw E (ΓC ad cy) RX11 cX11_one 3 (some .int) (some (.int rv), σ) 0 [(0, .ref (ad 0)), (1, .int p1), (2, .int p2)] [] σ := by
  unfold C_one at h
  refine J_aload_n (q := 0) dX11_one_0 rfl rfl ?_
  refine gC_now dX11_one_1 ?_
  refine J_iload_n (q := 1) dX11_one_4 rfl rfl ?_
  obtain ⟨r1, hq14, h⟩ := bd_some h
  refine kx_X11_98 hi okT_1 dX11_one_5 hq14 hL (by decide) (Nat.le_of_ble_eq_true rfl) ?_
  refine J_if_eq (tgt := 19) dX11_one_8 (by decide) (fun c2 => ?_) (fun c2 => ?_)
  · replace h := it_some h c2
    refine J_iconst dX11_one_19 ic_m1 ?_
    exact J_iret dX11_one_20 (rt_pi h) rfl
  · replace h := if_some h c2
    refine J_iload_n (q := 2) dX11_one_11 rfl rfl ?_
    refine J_iconst dX11_one_12 ic_4 ?_
    obtain ⟨r3, hq15, h⟩ := bd_some h
    refine kx_X11_102 hi dX11_one_13 hq15 hL (by decide) (Nat.le_of_ble_eq_true rfl) ?_
    refine J_if_ne (tgt := 21) dX11_one_16 (by decide) (fun c4 => ?_) (fun c4 => ?_)
    · replace h := if_some h c4
      refine J_iload_n (q := 2) dX11_one_21 rfl rfl ?_
      by_cases c5 : p2 = (0 : Int32)
      · replace h := it_some h c5
        refine J_tin (tgt := 52) dX11_one_22 (by rw [c5]; decide) (by rw [c5]; decide) (by rw [c5]; rfl) (by decide) ?_
        refine J_aload_n (q := 0) dX11_one_52 rfl rfl ?_
        refine gC_now dX11_one_53 ?_
        refine gT_X11_kind dX11_one_56 okT_1 rfl ?_
        refine J_iload_n (q := 1) dX11_one_59 rfl rfl ?_
        obtain ⟨hg6, h⟩ := gd_some h
        refine aT_ld (j := 4) (n := 7) dX11_one_60 okT_1 rfl (by decide) rfl hg6 ?_
        exact J_iret dX11_one_61 (rt_pi h) rfl
      · replace h := if_some h c5
        by_cases c7 : p2 = (1 : Int32)
        · replace h := it_some h c7
          refine J_tin (tgt := 62) dX11_one_22 (by rw [c7]; decide) (by rw [c7]; decide) (by rw [c7]; rfl) (by decide) ?_
          refine J_aload_n (q := 0) dX11_one_62 rfl rfl ?_
          refine gC_now dX11_one_63 ?_
          refine gT_X11_figure dX11_one_66 okT_1 rfl ?_
          refine J_iload_n (q := 1) dX11_one_69 rfl rfl ?_
          obtain ⟨hg8, h⟩ := gd_some h
          refine aT_ld (j := 5) (n := 7) dX11_one_70 okT_1 rfl (by decide) rfl hg8 ?_
          exact J_iret dX11_one_71 (rt_pi h) rfl
        · replace h := if_some h c7
          by_cases c9 : p2 = (2 : Int32)
          · replace h := it_some h c9
            refine J_tin (tgt := 72) dX11_one_22 (by rw [c9]; decide) (by rw [c9]; decide) (by rw [c9]; rfl) (by decide) ?_
            refine J_aload_n (q := 0) dX11_one_72 rfl rfl ?_
            refine gC_now dX11_one_73 ?_
            refine gT_X11_caresFor dX11_one_76 okT_1 rfl ?_
            refine J_iload_n (q := 1) dX11_one_79 rfl rfl ?_
            obtain ⟨hg10, h⟩ := gd_some h
            refine aT_ld (j := 6) (n := 7) dX11_one_80 okT_1 rfl (by decide) rfl hg10 ?_
            exact J_iret dX11_one_81 (rt_pi h) rfl
          · replace h := if_some h c9
            by_cases c11 : p2 = (3 : Int32)
            · replace h := it_some h c11
              refine J_tin (tgt := 82) dX11_one_22 (by rw [c11]; decide) (by rw [c11]; decide) (by rw [c11]; rfl) (by decide) ?_
              refine J_aload_n (q := 0) dX11_one_82 rfl rfl ?_
              refine gC_now dX11_one_83 ?_
              refine J_iload_n (q := 1) dX11_one_86 rfl rfl ?_
              obtain ⟨r12, hq16, h⟩ := bd_some h
              refine kx_X11_115 hi okT_1 dX11_one_87 hq16 hL (by decide) (Nat.le_of_ble_eq_true rfl) ?_
              exact J_iret dX11_one_90 (rt_pi h) rfl
            · replace h := if_some h c11
              refine J_tout (tgt := 91) dX11_one_22 (sw_out0_3 c5 c7 c9 c11) (by decide) ?_
              refine J_aload_n (q := 0) dX11_one_91 rfl rfl ?_
              refine gC_now dX11_one_92 ?_
              refine J_iload_n (q := 1) dX11_one_95 rfl rfl ?_
              refine J_aload_n (q := 0) dX11_one_96 rfl rfl ?_
              refine gC_now dX11_one_97 ?_
              refine gT_X11_day dX11_one_100 okT_1 rfl ?_
              refine J_iconst dX11_one_103 ic_1 ?_
              refine J_iadd dX11_one_104 ?_
              obtain ⟨r13, hq17, h⟩ := bd_some h
              refine kx_X11_121 hi okT_1 dX11_one_105 hq17 hL (by decide) (Nat.le_of_ble_eq_true rfl) ?_
              exact J_iret dX11_one_108 (rt_pi h) rfl
    · replace h := it_some h c4
      refine J_iconst dX11_one_19 ic_m1 ?_
      exact J_iret dX11_one_20 (rt_pi h) rfl
set_option maxRecDepth 20000 in
set_option maxHeartbeats 4000000 in
theorem kX11_one {l : Launch} {D : va_G} {ad : Nat → Nat} {cy : Nat → ClassId} {rv : Int32} {σ : CS} {p1 : Int32} {p2 : Int32} (hi : wl_inj (ΓC ad cy)) (h : C_one σ p1 p2 = some rv) : Cn l D (ΓC ad cy) yX11_one cX11_one 3 (some .int) 3 [.ref (ad 0), .int p1, .int p2] σ (some (.int rv), σ) :=
  Cn.of hi rfl (Nat.le_of_ble_eq_true rfl) (fun _ _ _ hL => C_one_ok hi hL h)
theorem pdX11_noneIfNobody : (parseMethodDescriptor yX11_noneIfNobody.desc).map (fun d => d.parameters.length) = some 1 := by decide +kernel
set_option maxRecDepth 20000 in
set_option maxHeartbeats 4000000 in
theorem C_noneIfNobody_ok {E : Ec} {ad : Nat → Nat} {cy : Nat → ClassId} {rv : Int32} {w : CS} {p0 : Int32} (hi : wl_inj (ΓC ad cy)) (hL : Lv E 0) (h : C_noneIfNobody p0 = some rv) : Jw E (ΓC ad cy) RX11 cX11_noneIfNobody 1 (some .int) (some (.int rv), w) 0 [(0, .int p0)] [] w := by
  unfold C_noneIfNobody at h
  refine J_iload_n (q := 0) dX11_noneIfNobody_0 rfl rfl ?_
  refine J_bipush dX11_noneIfNobody_1 bp_9 ?_
  refine J_icmp_ne (tgt := 11) dX11_noneIfNobody_3 (by decide) (fun c1 => ?_) (fun c1 => ?_)
  · replace h := if_some h c1
    refine J_iload_n (q := 0) dX11_noneIfNobody_11 rfl rfl ?_
    exact J_iret dX11_noneIfNobody_12 (rt_pi h) rfl
  · replace h := it_some h c1
    refine J_bipush dX11_noneIfNobody_6 bp_m4 ?_
    refine J_goto (tgt := 12) dX11_noneIfNobody_8 (by decide) ?_
    exact J_iret dX11_noneIfNobody_12 (rt_pi h) rfl
set_option maxRecDepth 20000 in
set_option maxHeartbeats 4000000 in
theorem kX11_noneIfNobody {l : Launch} {D : va_G} {ad : Nat → Nat} {cy : Nat → ClassId} {rv : Int32} {w : CS} {p0 : Int32} (hi : wl_inj (ΓC ad cy)) (h : C_noneIfNobody p0 = some rv) : Cn l D (ΓC ad cy) yX11_noneIfNobody cX11_noneIfNobody 1 (some .int) 0 [.int p0] w (some (.int rv), w) :=
  Cn.of hi rfl (Nat.le_of_ble_eq_true rfl) (fun _ _ _ hL => C_noneIfNobody_ok hi hL h)
theorem pdX11_thing : (parseMethodDescriptor yX11_thing.desc).map (fun d => d.parameters.length) = some 2 := by decide +kernel
theorem kx_X11_137 {E : Ec} {ad : Nat → Nat} {cy : Nat → ClassId} {cc : ByteArray} {nL : Nat} {rt : Option FieldType} {r : Option Value × CS} {pc : Nat} {lv : List (Nat × Value)} {st : List Value} {w : CS} {n : Nat} {p0 : Int32} {v : Int32} (hi : wl_inj (ΓC ad cy)) (hd : decode cc pc = .ok (.invokestatic 137, 3)) (hq : C_noneIfNobody p0 = some v) (hL : Lv E n) (hn : 0 + 1 ≤ n) (hW : (st.map fun v => v.category).sum ≤ 8) (k : Jw E (ΓC ad cy) RX11 cc nL rt r (pc + 3) lv (.int v :: st) w) : Jw E (ΓC ad cy) RX11 cc nL rt r pc lv (.int p0 :: st) w :=
  J_callS (Γ := ΓC ad cy) (av := [.int p0]) (q := (some (.int v), w)) (st := st) hd (kX11_noneIfNobody hi hq) tw_2_170 tw_2_171 tw_1_1 tw_2_172 ⟨by decide, by decide, pdX11_noneIfNobody⟩ rfl (by decide) hL hn hW k
set_option maxRecDepth 20000 in
set_option maxHeartbeats 4000000 in
theorem C_thing_ok {E : Ec} {ad : Nat → Nat} {cy : Nat → ClassId} {rv : Int32} {σ : CS} {p1 : Int32} {p2 : Int32} (hi : wl_inj (ΓC ad cy)) (hL : Lv E 1) (h : C_thing σ p1 p2 = some rv) : Jw E (ΓC ad cy) RX11 cX11_thing 3 (some .int) (some (.int rv), σ) 0 [(0, .ref (ad 0)), (1, .int p1), (2, .int p2)] [] σ := by
  unfold C_thing at h
  refine J_iload_n (q := 1) dX11_thing_0 rfl rfl ?_
  obtain ⟨r1, hq11, h⟩ := bd_some h
  refine kx_X11_125 hi dX11_thing_1 hq11 hL (by decide) (Nat.le_of_ble_eq_true rfl) ?_
  refine J_if_eq (tgt := 15) dX11_thing_4 (by decide) (fun c2 => ?_) (fun c2 => ?_)
  · replace h := it_some h c2
    refine J_iconst dX11_thing_15 ic_m1 ?_
    exact J_iret dX11_thing_16 (rt_pi h) rfl
  · replace h := if_some h c2
    refine J_iload_n (q := 2) dX11_thing_7 rfl rfl ?_
    refine J_iconst dX11_thing_8 ic_2 ?_
    obtain ⟨r3, hq12, h⟩ := bd_some h
    refine kx_X11_102 hi dX11_thing_9 hq12 hL (by decide) (Nat.le_of_ble_eq_true rfl) ?_
    refine J_if_ne (tgt := 17) dX11_thing_12 (by decide) (fun c4 => ?_) (fun c4 => ?_)
    · replace h := if_some h c4
      refine J_iload_n (q := 2) dX11_thing_17 rfl rfl ?_
      refine J_if_ne (tgt := 31) dX11_thing_18 (by decide) (fun c5 => ?_) (fun c5 => ?_)
      · replace h := if_some h c5
        refine J_iload_n (q := 2) dX11_thing_31 rfl rfl ?_
        refine J_iconst dX11_thing_32 ic_1 ?_
        refine J_icmp_ne (tgt := 48) dX11_thing_33 (by decide) (fun c6 => ?_) (fun c6 => ?_)
        · replace h := if_some h c6
          refine J_aload_n (q := 0) dX11_thing_48 rfl rfl ?_
          refine gC_now dX11_thing_49 ?_
          refine gT_X11_owner dX11_thing_52 okT_1 rfl ?_
          refine J_iload_n (q := 1) dX11_thing_55 rfl rfl ?_
          obtain ⟨hg7, h⟩ := gd_some h
          refine aT_ld (j := 3) (n := 5) dX11_thing_56 okT_1 rfl (by decide) rfl hg7 ?_
          obtain ⟨r8, hq13, h⟩ := bd_some h
          refine kx_X11_137 hi dX11_thing_57 hq13 hL (by decide) (Nat.le_of_ble_eq_true rfl) ?_
          exact J_iret dX11_thing_60 (rt_pi h) rfl
        · replace h := it_some h c6
          refine J_aload_n (q := 0) dX11_thing_36 rfl rfl ?_
          refine gC_now dX11_thing_37 ?_
          refine gT_X11_worth dX11_thing_40 okT_1 rfl ?_
          refine J_iload_n (q := 1) dX11_thing_43 rfl rfl ?_
          obtain ⟨hg9, h⟩ := gd_some h
          refine aT_ld (j := 2) (n := 5) dX11_thing_44 okT_1 rfl (by decide) rfl hg9 ?_
          refine J_goto (tgt := 60) dX11_thing_45 (by decide) ?_
          exact J_iret dX11_thing_60 (rt_pi h) rfl
      · replace h := it_some h c5
        refine J_aload_n (q := 0) dX11_thing_21 rfl rfl ?_
        refine gC_now dX11_thing_22 ?_
        refine gT_X11_truth dX11_thing_25 okT_1 rfl ?_
        refine J_iload_n (q := 1) dX11_thing_28 rfl rfl ?_
        obtain ⟨hg10, h⟩ := gd_some h
        refine aT_ld (j := 1) (n := 5) dX11_thing_29 okT_1 rfl (by decide) rfl hg10 ?_
        exact J_iret dX11_thing_30 (rt_pi h) rfl
    · replace h := it_some h c4
      refine J_iconst dX11_thing_15 ic_m1 ?_
      exact J_iret dX11_thing_16 (rt_pi h) rfl
set_option maxRecDepth 20000 in
set_option maxHeartbeats 4000000 in
theorem kX11_thing {l : Launch} {D : va_G} {ad : Nat → Nat} {cy : Nat → ClassId} {rv : Int32} {σ : CS} {p1 : Int32} {p2 : Int32} (hi : wl_inj (ΓC ad cy)) (h : C_thing σ p1 p2 = some rv) : Cn l D (ΓC ad cy) yX11_thing cX11_thing 3 (some .int) 1 [.ref (ad 0), .int p1, .int p2] σ (some (.int rv), σ) :=
  Cn.of hi rfl (Nat.le_of_ble_eq_true rfl) (fun _ _ _ hL => C_thing_ok hi hL h)
theorem pdX11_story : (parseMethodDescriptor yX11_story.desc).map (fun d => d.parameters.length) = some 3 := by decide +kernel
theorem kx_X11_143 {E : Ec} {ad : Nat → Nat} {cy : Nat → ClassId} {cc : ByteArray} {nL : Nat} {rt : Option FieldType} {r : Option Value × CS} {pc : Nat} {lv : List (Nat × Value)} {st : List Value} {σ : CS} {n a : Nat} {p1 : Int32} {p2 : Int32} {v : Int32} (hi : wl_inj (ΓC ad cy)) (ha : okT a) (hd : decode cc pc = .ok (.invokevirtual 143, 3)) (hq : T_tale (σ a) p1 p2 = some v) (hL : Lv E n) (hn : 4 + 1 ≤ n) (hW : (st.map fun v => v.category).sum ≤ 8) (k : Jw E (ΓC ad cy) RX11 cc nL rt r (pc + 3) lv (.int v :: st) σ) : Jw E (ΓC ad cy) RX11 cc nL rt r pc lv (.int p2 :: .int p1 :: .ref (ad (8 * a + 2)) :: st) σ := by
  have hM := fun (l : Launch) (D : va_G) => kX10_tale (l := l) (D := D) (ad := ad) (cy := cy) (σ := σ) hi ha hq
  simp only [vu_self] at hM
  exact J_callV (Γ := ΓC ad cy) (h := 8 * a + 2) (ci := 9) (av := [.int p1, .int p2]) (q := (some (.int v), σ)) (st := st) hd (hM _ _) tw_2_177 tw_2_178 tw_1_10 tw_2_180 tw_2_179 ⟨by decide, by decide, pdX10_tale⟩ (hT (j := 0) ha (by decide)) (cC_t0 ha rfl) rfl rfl rfl (by decide) hL hn hW k
set_option maxRecDepth 20000 in
set_option maxHeartbeats 4000000 in
theorem C_story_ok {E : Ec} {ad : Nat → Nat} {cy : Nat → ClassId} {rv : Int32} {σ : CS} {p1 : Int32} {p2 : Int32} {p3 : Int32} (hi : wl_inj (ΓC ad cy)) (hL : Lv E 5) (h : C_story σ p1 p2 p3 = some rv) : Jw E (ΓC ad cy) RX11 cX11_story 4 (some .int) (some (.int rv), σ) 0 [(0, .ref (ad 0)), (1, .int p1), (2, .int p2), (3, .int p3)] [] σ := by
  unfold C_story at h
  refine J_aload_n (q := 0) dX11_story_0 rfl rfl ?_
  refine gC_now dX11_story_1 ?_
  refine J_iload_n (q := 1) dX11_story_4 rfl rfl ?_
  obtain ⟨r1, hq10, h⟩ := bd_some h
  refine kx_X11_98 hi okT_1 dX11_story_5 hq10 hL (by decide) (Nat.le_of_ble_eq_true rfl) ?_
  refine J_if_eq (tgt := 26) dX11_story_8 (by decide) (fun c2 => ?_) (fun c2 => ?_)
  · replace h := it_some h c2
    refine J_iconst dX11_story_26 ic_m1 ?_
    exact J_iret dX11_story_27 (rt_pi h) rfl
  · replace h := if_some h c2
    refine J_iload_n (q := 2) dX11_story_11 rfl rfl ?_
    obtain ⟨r3, hq11, h⟩ := bd_some h
    refine kx_X11_125 hi dX11_story_12 hq11 hL (by decide) (Nat.le_of_ble_eq_true rfl) ?_
    refine J_if_eq (tgt := 26) dX11_story_15 (by decide) (fun c4 => ?_) (fun c4 => ?_)
    · replace h := it_some h c4
      refine J_iconst dX11_story_26 ic_m1 ?_
      exact J_iret dX11_story_27 (rt_pi h) rfl
    · replace h := if_some h c4
      refine J_iload_n (q := 3) dX11_story_18 rfl rfl ?_
      refine J_iconst dX11_story_19 ic_1 ?_
      obtain ⟨r5, hq12, h⟩ := bd_some h
      refine kx_X11_102 hi dX11_story_20 hq12 hL (by decide) (Nat.le_of_ble_eq_true rfl) ?_
      refine J_if_ne (tgt := 28) dX11_story_23 (by decide) (fun c6 => ?_) (fun c6 => ?_)
      · replace h := if_some h c6
        refine J_iload_n (q := 3) dX11_story_28 rfl rfl ?_
        refine J_if_ne (tgt := 48) dX11_story_29 (by decide) (fun c7 => ?_) (fun c7 => ?_)
        · replace h := if_some h c7
          refine J_aload_n (q := 0) dX11_story_48 rfl rfl ?_
          refine gC_now dX11_story_49 ?_
          refine J_iload_n (q := 1) dX11_story_52 rfl rfl ?_
          refine J_iload_n (q := 2) dX11_story_53 rfl rfl ?_
          obtain ⟨r8, hq13, h⟩ := bd_some h
          refine kx_X11_143 hi okT_1 dX11_story_54 hq13 hL (by decide) (Nat.le_of_ble_eq_true rfl) ?_
          exact J_iret dX11_story_57 (rt_pi h) rfl
        · replace h := it_some h c7
          refine J_aload_n (q := 0) dX11_story_32 rfl rfl ?_
          refine gC_now dX11_story_33 ?_
          refine gT_X11_knows dX11_story_36 okT_1 rfl ?_
          refine J_iload_n (q := 1) dX11_story_39 rfl rfl ?_
          refine J_iconst dX11_story_40 ic_5 ?_
          refine J_imul dX11_story_41 ?_
          refine J_iload_n (q := 2) dX11_story_42 rfl rfl ?_
          refine J_iadd dX11_story_43 ?_
          obtain ⟨hg9, h⟩ := gd_some h
          refine aT_ld (j := 7) (n := 35) dX11_story_44 okT_1 rfl (by decide) rfl hg9 ?_
          refine J_goto (tgt := 57) dX11_story_45 (by decide) ?_
          exact J_iret dX11_story_57 (rt_pi h) rfl
      · replace h := it_some h c6
        refine J_iconst dX11_story_26 ic_m1 ?_
        exact J_iret dX11_story_27 (rt_pi h) rfl
set_option maxRecDepth 20000 in
set_option maxHeartbeats 4000000 in
theorem kX11_story {l : Launch} {D : va_G} {ad : Nat → Nat} {cy : Nat → ClassId} {rv : Int32} {σ : CS} {p1 : Int32} {p2 : Int32} {p3 : Int32} (hi : wl_inj (ΓC ad cy)) (h : C_story σ p1 p2 p3 = some rv) : Cn l D (ΓC ad cy) yX11_story cX11_story 4 (some .int) 5 [.ref (ad 0), .int p1, .int p2, .int p3] σ (some (.int rv), σ) :=
  Cn.of hi rfl (Nat.le_of_ble_eq_true rfl) (fun _ _ _ hL => C_story_ok hi hL h)
theorem pdX11_oneRefusal : (parseMethodDescriptor yX11_oneRefusal.desc).map (fun d => d.parameters.length) = some 1 := by decide +kernel
set_option maxRecDepth 20000 in
set_option maxHeartbeats 4000000 in
theorem C_oneRefusal_ok {E : Ec} {ad : Nat → Nat} {cy : Nat → ClassId} {rv : Int32} {σ : CS} {p1 : Int32} (hi : wl_inj (ΓC ad cy)) (hL : Lv E 2) (h : C_oneRefusal σ p1 = some rv) : Jw E (ΓC ad cy) RX11 cX11_oneRefusal 2 (some .int) (some (.int rv), σ) 0 [(0, .ref (ad 0)), (1, .int p1)] [] σ := by
  unfold C_oneRefusal at h
  refine J_aload_n (q := 0) dX11_oneRefusal_0 rfl rfl ?_
  refine J_iload_n (q := 1) dX11_oneRefusal_1 rfl rfl ?_
  refine J_iconst dX11_oneRefusal_2 ic_1 ?_
  obtain ⟨r1, hq2, h⟩ := bd_some h
  refine kx_X11_318 hi dX11_oneRefusal_3 hq2 hL (by decide) (Nat.le_of_ble_eq_true rfl) ?_
  exact J_iret dX11_oneRefusal_6 (rt_pi h) rfl
set_option maxRecDepth 20000 in
set_option maxHeartbeats 4000000 in
theorem kX11_oneRefusal {l : Launch} {D : va_G} {ad : Nat → Nat} {cy : Nat → ClassId} {rv : Int32} {σ : CS} {p1 : Int32} (hi : wl_inj (ΓC ad cy)) (h : C_oneRefusal σ p1 = some rv) : Cn l D (ΓC ad cy) yX11_oneRefusal cX11_oneRefusal 2 (some .int) 2 [.ref (ad 0), .int p1] σ (some (.int rv), σ) :=
  Cn.of hi rfl (Nat.le_of_ble_eq_true rfl) (fun _ _ _ hL => C_oneRefusal_ok hi hL h)
theorem pdX11_comes : (parseMethodDescriptor yX11_comes.desc).map (fun d => d.parameters.length) = some 2 := by decide +kernel
theorem kx_X11_149 {E : Ec} {ad : Nat → Nat} {cy : Nat → ClassId} {cc : ByteArray} {nL : Nat} {rt : Option FieldType} {r : Option Value × CS} {pc : Nat} {lv : List (Nat × Value)} {st : List Value} {w : CS} {n : Nat} {p0 : Int32} {v : Int32} (hi : wl_inj (ΓC ad cy)) (hd : decode cc pc = .ok (.invokestatic 149, 3)) (hq : C_isCare p0 = some v) (hL : Lv E n) (hn : 1 + 1 ≤ n) (hW : (st.map fun v => v.category).sum ≤ 8) (k : Jw E (ΓC ad cy) RX11 cc nL rt r (pc + 3) lv (.int v :: st) w) : Jw E (ΓC ad cy) RX11 cc nL rt r pc lv (.int p0 :: st) w :=
  J_callS (Γ := ΓC ad cy) (av := [.int p0]) (q := (some (.int v), w)) (st := st) hd (kX11_isCare hi hq) tw_2_189 tw_2_21 tw_1_1 tw_2_22 ⟨by decide, by decide, pdX11_isCare⟩ rfl (by decide) hL hn hW k
theorem kx_X11_152 {E : Ec} {ad : Nat → Nat} {cy : Nat → ClassId} {cc : ByteArray} {nL : Nat} {rt : Option FieldType} {r : Option Value × CS} {pc : Nat} {lv : List (Nat × Value)} {st : List Value} {σ : CS} {n : Nat} {p1 : Int32} {v : Int32} (hi : wl_inj (ΓC ad cy)) (hd : decode cc pc = .ok (.invokevirtual 152, 3)) (hq : C_oneRefusal σ p1 = some v) (hL : Lv E n) (hn : 2 + 1 ≤ n) (hW : (st.map fun v => v.category).sum ≤ 8) (k : Jw E (ΓC ad cy) RX11 cc nL rt r (pc + 3) lv (.int v :: st) σ) : Jw E (ΓC ad cy) RX11 cc nL rt r pc lv (.int p1 :: .ref (ad 0) :: st) σ :=
  J_callV (Γ := ΓC ad cy) (h := 0) (ci := 10) (av := [.int p1]) (q := (some (.int v), σ)) (st := st) hd (kX11_oneRefusal hi hq) tw_2_190 tw_2_192 tw_1_1 tw_2_193 sl_1_5 ⟨by decide, by decide, pdX11_oneRefusal⟩ (by show 0 < 111; decide) rfl rfl rfl rfl (by decide) hL hn hW k
theorem kx_X11_159 {E : Ec} {ad : Nat → Nat} {cy : Nat → ClassId} {cc : ByteArray} {nL : Nat} {rt : Option FieldType} {r : Option Value × CS} {pc : Nat} {lv : List (Nat × Value)} {st : List Value} {σ : CS} {n a : Nat} {p1 : Int32} {p2 : Int32} {p3 : Int32} {v : Int32} {t' : Ob} (hi : wl_inj (ΓC ad cy)) (ha : okT a) (hd : decode cc pc = .ok (.invokevirtual 159, 3)) (hq : T_arrive (σ a) p1 p2 p3 = some (v, t')) (hL : Lv E n) (hn : 2 + 1 ≤ n) (hW : (st.map fun v => v.category).sum ≤ 8) (k : Jw E (ΓC ad cy) RX11 cc nL rt r (pc + 3) lv (.int v :: st) (va_up σ a t')) : Jw E (ΓC ad cy) RX11 cc nL rt r pc lv (.int p3 :: .int p2 :: .int p1 :: .ref (ad (8 * a + 2)) :: st) σ := by
  have hM := fun (l : Launch) (D : va_G) => kX10_arrive (l := l) (D := D) (ad := ad) (cy := cy) (σ := σ) hi ha hq
  simp only [vu_self] at hM
  exact J_callV (Γ := ΓC ad cy) (h := 8 * a + 2) (ci := 9) (av := [.int p1, .int p2, .int p3]) (q := (some (.int v), va_up σ a t')) (st := st) hd (hM _ _) tw_2_194 tw_2_17 tw_1_10 tw_2_19 tw_2_18 ⟨by decide, by decide, pdX10_arrive⟩ (hT (j := 0) ha (by decide)) (cC_t0 ha rfl) rfl rfl rfl (by decide) hL hn hW k
set_option maxRecDepth 20000 in
set_option maxHeartbeats 4000000 in
theorem C_comes_ok {E : Ec} {ad : Nat → Nat} {cy : Nat → ClassId} {rv : (Int32 × CS)} {σ : CS} {p1 : Int32} {p2 : Int32} (hi : wl_inj (ΓC ad cy)) (hL : Lv E 3) (h : C_comes σ p1 p2 = some rv) : Jw E (ΓC ad cy) RX11 cX11_comes 5 (some .int) (some (.int rv.1), rv.2) 0 [(0, .ref (ad 0)), (1, .int p1), (2, .int p2)] [] σ := by
  unfold C_comes at h
  refine J_iload_n (q := 1) dX11_comes_0 rfl rfl ?_
  obtain ⟨r1, hq12, h⟩ := bd_some h
  refine kx_X11_146 hi dX11_comes_1 hq12 hL (by decide) (Nat.le_of_ble_eq_true rfl) ?_
  refine J_if_eq (tgt := 14) dX11_comes_4 (by decide) (fun c2 => ?_) (fun c2 => ?_)
  · replace h := it_some h c2
    refine J_iconst dX11_comes_14 ic_m1 ?_
    exact J_iret dX11_comes_15 (rt_i h) rfl
  · replace h := if_some h c2
    refine J_iload_n (q := 2) dX11_comes_7 rfl rfl ?_
    obtain ⟨r3, hq13, h⟩ := bd_some h
    refine kx_X11_149 hi dX11_comes_8 hq13 hL (by decide) (Nat.le_of_ble_eq_true rfl) ?_
    refine J_if_ne (tgt := 16) dX11_comes_11 (by decide) (fun c4 => ?_) (fun c4 => ?_)
    · replace h := if_some h c4
      refine J_aload_n (q := 0) dX11_comes_16 rfl rfl ?_
      refine J_iload_n (q := 1) dX11_comes_17 rfl rfl ?_
      obtain ⟨r5, hq14, h⟩ := bd_some h
      refine kx_X11_152 hi dX11_comes_18 hq14 hL (by decide) (Nat.le_of_ble_eq_true rfl) ?_
      refine J_istore_n (lv' := [(3, .int r5), (0, .ref (ad 0)), (1, .int p1), (2, .int p2)]) dX11_comes_21 rfl (by decide) rfl ?_
      refine J_iload_n (q := 0) dX11_comes_22 rfl rfl ?_
      refine J_if_eq (tgt := 28) dX11_comes_23 (by decide) (fun c6 => ?_) (fun c6 => ?_)
      · replace h := it_some h c6
        refine J_aload_n (q := 1) dX11_comes_28 rfl rfl ?_
        refine gC_shelves dX11_comes_29 ?_
        refine J_iload_n (q := 2) dX11_comes_32 rfl rfl ?_
        obtain ⟨hg7, h⟩ := gd_some h
        refine aM_shelf dX11_comes_33 hg7 ?_
        refine J_astore (lv' := [(4, .ref (ad (2 * (11 + p1.toNatClampNeg) + 70))), (3, .int r5), (0, .ref (ad 0)), (1, .int p1), (2, .int p2)]) dX11_comes_34 (by decide) rfl ?_
        refine J_aload_n (q := 2) dX11_comes_36 rfl rfl ?_
        refine gC_now dX11_comes_37 ?_
        refine J_aload (q := 0) dX11_comes_40 rfl ?_
        refine gS_X11_kind dX11_comes_42 (okS_m hg7) rfl ?_
        refine J_aload (q := 0) dX11_comes_45 rfl ?_
        refine gS_X11_figure dX11_comes_47 (okS_m hg7) rfl ?_
        refine J_iload_n (q := 4) dX11_comes_50 rfl rfl ?_
        obtain ⟨r8, t9, hq15, h⟩ := bd2_some h
        refine kx_X11_159 hi okT_1 dX11_comes_51 hq15 hL (by decide) (Nat.le_of_ble_eq_true rfl) ?_
        refine J_tw (fun σ10 eσ10 => ?_)
        replace h := nm_some eσ10 h
        refine J_if_eq (tgt := 69) dX11_comes_54 (by decide) (fun c11 => ?_) (fun c11 => ?_)
        · replace h := it_some h c11
          refine J_bipush dX11_comes_69 bp_m2 ?_
          exact J_iret dX11_comes_71 (rt_i h) rfl
        · replace h := if_some h c11
          refine J_aload_n (q := 2) dX11_comes_57 rfl rfl ?_
          refine gC_now dX11_comes_58 ?_
          refine gT_X11_people dX11_comes_61 okT_1 rfl ?_
          refine J_iconst dX11_comes_64 ic_1 ?_
          refine J_isub dX11_comes_65 ?_
          refine J_goto (tgt := 71) dX11_comes_66 (by decide) ?_
          exact J_iret dX11_comes_71 (rt_i h) rfl
      · replace h := if_some h c6
        refine J_iload_n (q := 0) dX11_comes_26 rfl rfl ?_
        exact J_iret dX11_comes_27 (rt_i h) rfl
    · replace h := it_some h c4
      refine J_iconst dX11_comes_14 ic_m1 ?_
      exact J_iret dX11_comes_15 (rt_i h) rfl
set_option maxRecDepth 20000 in
set_option maxHeartbeats 4000000 in
theorem kX11_comes {l : Launch} {D : va_G} {ad : Nat → Nat} {cy : Nat → ClassId} {rv : (Int32 × CS)} {σ : CS} {p1 : Int32} {p2 : Int32} (hi : wl_inj (ΓC ad cy)) (h : C_comes σ p1 p2 = some rv) : Cn l D (ΓC ad cy) yX11_comes cX11_comes 5 (some .int) 3 [.ref (ad 0), .int p1, .int p2] σ (some (.int rv.1), rv.2) :=
  Cn.of hi rfl (Nat.le_of_ble_eq_true rfl) (fun _ _ _ hL => C_comes_ok hi hL h)
theorem pdX11_learns : (parseMethodDescriptor yX11_learns.desc).map (fun d => d.parameters.length) = some 3 := by decide +kernel
theorem kx_X11_166 {E : Ec} {ad : Nat → Nat} {cy : Nat → ClassId} {cc : ByteArray} {nL : Nat} {rt : Option FieldType} {r : Option Value × CS} {pc : Nat} {lv : List (Nat × Value)} {st : List Value} {σ : CS} {n a : Nat} {p1 : Int32} {p2 : Int32} {p3 : Int32} {v : Int32} {t' : Ob} (hi : wl_inj (ΓC ad cy)) (ha : okT a) (hd : decode cc pc = .ok (.invokevirtual 166, 3)) (hq : T_turnFact (σ a) p1 p2 p3 = some (v, t')) (hL : Lv E n) (hn : 1 + 1 ≤ n) (hW : (st.map fun v => v.category).sum ≤ 8) (k : Jw E (ΓC ad cy) RX11 cc nL rt r (pc + 3) lv (.int v :: st) (va_up σ a t')) : Jw E (ΓC ad cy) RX11 cc nL rt r pc lv (.int p3 :: .int p2 :: .int p1 :: .ref (ad (8 * a + 2)) :: st) σ := by
  have hM := fun (l : Launch) (D : va_G) => kX10_turnFact (l := l) (D := D) (ad := ad) (cy := cy) (σ := σ) hi ha hq
  simp only [vu_self] at hM
  exact J_callV (Γ := ΓC ad cy) (h := 8 * a + 2) (ci := 9) (av := [.int p1, .int p2, .int p3]) (q := (some (.int v), va_up σ a t')) (st := st) hd (hM _ _) tw_2_199 tw_2_25 tw_1_10 tw_2_27 tw_2_26 ⟨by decide, by decide, pdX10_turnFact⟩ (hT (j := 0) ha (by decide)) (cC_t0 ha rfl) rfl rfl rfl (by decide) hL hn hW k
set_option maxRecDepth 20000 in
set_option maxHeartbeats 4000000 in
theorem C_learns_ok {E : Ec} {ad : Nat → Nat} {cy : Nat → ClassId} {rv : (Int32 × CS)} {σ : CS} {p1 : Int32} {p2 : Int32} {p3 : Int32} (hi : wl_inj (ΓC ad cy)) (hL : Lv E 2) (h : C_learns σ p1 p2 p3 = some rv) : Jw E (ΓC ad cy) RX11 cX11_learns 4 (some .int) (some (.int rv.1), rv.2) 0 [(0, .ref (ad 0)), (1, .int p1), (2, .int p2), (3, .int p3)] [] σ := by
  unfold C_learns at h
  refine J_aload_n (q := 0) dX11_learns_0 rfl rfl ?_
  refine gC_now dX11_learns_1 ?_
  refine J_iload_n (q := 1) dX11_learns_4 rfl rfl ?_
  refine J_iload_n (q := 2) dX11_learns_5 rfl rfl ?_
  refine J_iload_n (q := 3) dX11_learns_6 rfl rfl ?_
  obtain ⟨r1, t2, hq6, h⟩ := bd2_some h
  refine kx_X11_166 hi okT_1 dX11_learns_7 hq6 hL (by decide) (Nat.le_of_ble_eq_true rfl) ?_
  refine J_tw (fun σ3 eσ3 => ?_)
  replace h := nm_some eσ3 h
  refine J_if_ne (tgt := 15) dX11_learns_10 (by decide) (fun c4 => ?_) (fun c4 => ?_)
  · replace h := if_some h c4
    refine J_aload_n (q := 0) dX11_learns_15 rfl rfl ?_
    refine gC_now dX11_learns_16 ?_
    refine gT_X11_knows dX11_learns_19 okT_1 rfl ?_
    refine J_iload_n (q := 1) dX11_learns_22 rfl rfl ?_
    refine J_iconst dX11_learns_23 ic_5 ?_
    refine J_imul dX11_learns_24 ?_
    refine J_iload_n (q := 2) dX11_learns_25 rfl rfl ?_
    refine J_iadd dX11_learns_26 ?_
    obtain ⟨hg5, h⟩ := gd_some h
    refine aT_ld (j := 7) (n := 35) dX11_learns_27 okT_1 rfl (by decide) rfl hg5 ?_
    refine J_iload_n (q := 3) dX11_learns_28 rfl rfl ?_
    refine J_ishr dX11_learns_29 ?_
    refine J_iconst dX11_learns_30 ic_1 ?_
    refine J_iand dX11_learns_31 ?_
    exact J_iret dX11_learns_32 (rt_i h) rfl
  · replace h := it_some h c4
    refine J_iconst dX11_learns_13 ic_m1 ?_
    exact J_iret dX11_learns_14 (rt_i h) rfl
set_option maxRecDepth 20000 in
set_option maxHeartbeats 4000000 in
theorem kX11_learns {l : Launch} {D : va_G} {ad : Nat → Nat} {cy : Nat → ClassId} {rv : (Int32 × CS)} {σ : CS} {p1 : Int32} {p2 : Int32} {p3 : Int32} (hi : wl_inj (ΓC ad cy)) (h : C_learns σ p1 p2 p3 = some rv) : Cn l D (ΓC ad cy) yX11_learns cX11_learns 4 (some .int) 2 [.ref (ad 0), .int p1, .int p2, .int p3] σ (some (.int rv.1), rv.2) :=
  Cn.of hi rfl (Nat.le_of_ble_eq_true rfl) (fun _ _ _ hL => C_learns_ok hi hL h)
theorem pdX11_cares : (parseMethodDescriptor yX11_cares.desc).map (fun d => d.parameters.length) = some 2 := by decide +kernel
theorem kx_X11_169 {E : Ec} {ad : Nat → Nat} {cy : Nat → ClassId} {cc : ByteArray} {nL : Nat} {rt : Option FieldType} {r : Option Value × CS} {pc : Nat} {lv : List (Nat × Value)} {st : List Value} {σ : CS} {n a : Nat} {p1 : Int32} {p2 : Int32} {v : Int32} {t' : Ob} (hi : wl_inj (ΓC ad cy)) (ha : okT a) (hd : decode cc pc = .ok (.invokevirtual 169, 3)) (hq : T_turnTo (σ a) p1 p2 = some (v, t')) (hL : Lv E n) (hn : 2 + 1 ≤ n) (hW : (st.map fun v => v.category).sum ≤ 8) (k : Jw E (ΓC ad cy) RX11 cc nL rt r (pc + 3) lv (.int v :: st) (va_up σ a t')) : Jw E (ΓC ad cy) RX11 cc nL rt r pc lv (.int p2 :: .int p1 :: .ref (ad (8 * a + 2)) :: st) σ := by
  have hM := fun (l : Launch) (D : va_G) => kX10_turnTo (l := l) (D := D) (ad := ad) (cy := cy) (σ := σ) hi ha hq
  simp only [vu_self] at hM
  exact J_callV (Γ := ΓC ad cy) (h := 8 * a + 2) (ci := 9) (av := [.int p1, .int p2]) (q := (some (.int v), va_up σ a t')) (st := st) hd (hM _ _) tw_2_204 tw_2_37 tw_1_10 tw_2_39 tw_2_38 ⟨by decide, by decide, pdX10_turnTo⟩ (hT (j := 0) ha (by decide)) (cC_t0 ha rfl) rfl rfl rfl (by decide) hL hn hW k
set_option maxRecDepth 20000 in
set_option maxHeartbeats 4000000 in
theorem C_cares_ok {E : Ec} {ad : Nat → Nat} {cy : Nat → ClassId} {rv : (Int32 × CS)} {σ : CS} {p1 : Int32} {p2 : Int32} (hi : wl_inj (ΓC ad cy)) (hL : Lv E 3) (h : C_cares σ p1 p2 = some rv) : Jw E (ΓC ad cy) RX11 cX11_cares 4 (some .int) (some (.int rv.1), rv.2) 0 [(0, .ref (ad 0)), (1, .int p1), (2, .int p2)] [] σ := by
  unfold C_cares at h
  refine J_aload_n (q := 0) dX11_cares_0 rfl rfl ?_
  refine gC_now dX11_cares_1 ?_
  refine J_iload_n (q := 1) dX11_cares_4 rfl rfl ?_
  obtain ⟨r1, hq9, h⟩ := bd_some h
  refine kx_X11_98 hi okT_1 dX11_cares_5 hq9 hL (by decide) (Nat.le_of_ble_eq_true rfl) ?_
  refine J_if_ne (tgt := 13) dX11_cares_8 (by decide) (fun c2 => ?_) (fun c2 => ?_)
  · replace h := if_some h c2
    refine J_aload_n (q := 0) dX11_cares_13 rfl rfl ?_
    refine gC_now dX11_cares_14 ?_
    refine gT_X11_caresFor dX11_cares_17 okT_1 rfl ?_
    refine J_iload_n (q := 1) dX11_cares_20 rfl rfl ?_
    obtain ⟨hg3, h⟩ := gd_some h
    refine aT_ld (j := 6) (n := 7) dX11_cares_21 okT_1 rfl (by decide) rfl hg3 ?_
    refine J_ti (fun v4 ev4 => ?_)
    replace h := nm_some ev4 h
    refine J_istore_n (lv' := [(3, .int v4), (0, .ref (ad 0)), (1, .int p1), (2, .int p2)]) dX11_cares_22 rfl (by decide) rfl ?_
    refine J_aload_n (q := 1) dX11_cares_23 rfl rfl ?_
    refine gC_now dX11_cares_24 ?_
    refine J_iload_n (q := 2) dX11_cares_27 rfl rfl ?_
    refine J_iload_n (q := 3) dX11_cares_28 rfl rfl ?_
    obtain ⟨r5, t6, hq10, h⟩ := bd2_some h
    refine kx_X11_169 hi okT_1 dX11_cares_29 hq10 hL (by decide) (Nat.le_of_ble_eq_true rfl) ?_
    refine J_tw (fun σ7 eσ7 => ?_)
    replace h := nm_some eσ7 h
    refine J_if_eq (tgt := 39) dX11_cares_32 (by decide) (fun c8 => ?_) (fun c8 => ?_)
    · replace h := it_some h c8
      refine J_iconst dX11_cares_39 ic_m1 ?_
      exact J_iret dX11_cares_40 (rt_i h) rfl
    · replace h := if_some h c8
      refine J_iload_n (q := 0) dX11_cares_35 rfl rfl ?_
      refine J_goto (tgt := 40) dX11_cares_36 (by decide) ?_
      exact J_iret dX11_cares_40 (rt_i h) rfl
  · replace h := it_some h c2
    refine J_iconst dX11_cares_11 ic_m1 ?_
    exact J_iret dX11_cares_12 (rt_i h) rfl
set_option maxRecDepth 20000 in
set_option maxHeartbeats 4000000 in
theorem kX11_cares {l : Launch} {D : va_G} {ad : Nat → Nat} {cy : Nat → ClassId} {rv : (Int32 × CS)} {σ : CS} {p1 : Int32} {p2 : Int32} (hi : wl_inj (ΓC ad cy)) (h : C_cares σ p1 p2 = some rv) : Cn l D (ΓC ad cy) yX11_cares cX11_cares 4 (some .int) 3 [.ref (ad 0), .int p1, .int p2] σ (some (.int rv.1), rv.2) :=
  Cn.of hi rfl (Nat.le_of_ble_eq_true rfl) (fun _ _ _ hL => C_cares_ok hi hL h)
theorem pdX11_gives : (parseMethodDescriptor yX11_gives.desc).map (fun d => d.parameters.length) = some 2 := by decide +kernel
theorem kx_X11_172 {E : Ec} {ad : Nat → Nat} {cy : Nat → ClassId} {cc : ByteArray} {nL : Nat} {rt : Option FieldType} {r : Option Value × CS} {pc : Nat} {lv : List (Nat × Value)} {st : List Value} {σ : CS} {n a : Nat} {p1 : Int32} {p2 : Int32} {v : Int32} {t' : Ob} (hi : wl_inj (ΓC ad cy)) (ha : okT a) (hd : decode cc pc = .ok (.invokevirtual 172, 3)) (hq : T_handOver (σ a) p1 p2 = some (v, t')) (hL : Lv E n) (hn : 1 + 1 ≤ n) (hW : (st.map fun v => v.category).sum ≤ 8) (k : Jw E (ΓC ad cy) RX11 cc nL rt r (pc + 3) lv (.int v :: st) (va_up σ a t')) : Jw E (ΓC ad cy) RX11 cc nL rt r pc lv (.int p2 :: .int p1 :: .ref (ad (8 * a + 2)) :: st) σ := by
  have hM := fun (l : Launch) (D : va_G) => kX10_handOver (l := l) (D := D) (ad := ad) (cy := cy) (σ := σ) hi ha hq
  simp only [vu_self] at hM
  exact J_callV (Γ := ΓC ad cy) (h := 8 * a + 2) (ci := 9) (av := [.int p1, .int p2]) (q := (some (.int v), va_up σ a t')) (st := st) hd (hM _ _) tw_2_209 tw_2_33 tw_1_10 tw_2_35 tw_2_34 ⟨by decide, by decide, pdX10_handOver⟩ (hT (j := 0) ha (by decide)) (cC_t0 ha rfl) rfl rfl rfl (by decide) hL hn hW k
set_option maxRecDepth 20000 in
set_option maxHeartbeats 4000000 in
theorem C_gives_ok {E : Ec} {ad : Nat → Nat} {cy : Nat → ClassId} {rv : (Int32 × CS)} {σ : CS} {p1 : Int32} {p2 : Int32} (hi : wl_inj (ΓC ad cy)) (hL : Lv E 2) (h : C_gives σ p1 p2 = some rv) : Jw E (ΓC ad cy) RX11 cX11_gives 4 (some .int) (some (.int rv.1), rv.2) 0 [(0, .ref (ad 0)), (1, .int p1), (2, .int p2)] [] σ := by
  unfold C_gives at h
  refine J_iload_n (q := 1) dX11_gives_0 rfl rfl ?_
  obtain ⟨r1, hq10, h⟩ := bd_some h
  refine kx_X11_125 hi dX11_gives_1 hq10 hL (by decide) (Nat.le_of_ble_eq_true rfl) ?_
  refine J_if_ne (tgt := 9) dX11_gives_4 (by decide) (fun c2 => ?_) (fun c2 => ?_)
  · replace h := if_some h c2
    refine J_aload_n (q := 0) dX11_gives_9 rfl rfl ?_
    refine gC_now dX11_gives_10 ?_
    refine gT_X11_owner dX11_gives_13 okT_1 rfl ?_
    refine J_iload_n (q := 1) dX11_gives_16 rfl rfl ?_
    obtain ⟨hg3, h⟩ := gd_some h
    refine aT_ld (j := 3) (n := 5) dX11_gives_17 okT_1 rfl (by decide) rfl hg3 ?_
    refine J_ti (fun v4 ev4 => ?_)
    replace h := nm_some ev4 h
    refine J_istore_n (lv' := [(3, .int v4), (0, .ref (ad 0)), (1, .int p1), (2, .int p2)]) dX11_gives_18 rfl (by decide) rfl ?_
    refine J_aload_n (q := 1) dX11_gives_19 rfl rfl ?_
    refine gC_now dX11_gives_20 ?_
    refine J_iload_n (q := 2) dX11_gives_23 rfl rfl ?_
    refine J_iload_n (q := 3) dX11_gives_24 rfl rfl ?_
    obtain ⟨r5, t6, hq11, h⟩ := bd2_some h
    refine kx_X11_172 hi okT_1 dX11_gives_25 hq11 hL (by decide) (Nat.le_of_ble_eq_true rfl) ?_
    refine J_tw (fun σ7 eσ7 => ?_)
    replace h := nm_some eσ7 h
    refine J_if_eq (tgt := 38) dX11_gives_28 (by decide) (fun c8 => ?_) (fun c8 => ?_)
    · replace h := it_some h c8
      refine J_iconst dX11_gives_38 ic_m1 ?_
      exact J_iret dX11_gives_39 (rt_i h) rfl
    · replace h := if_some h c8
      refine J_iload_n (q := 0) dX11_gives_31 rfl rfl ?_
      obtain ⟨r9, hq12, h⟩ := bd_some h
      refine kx_X11_137 hi dX11_gives_32 hq12 hL (by decide) (Nat.le_of_ble_eq_true rfl) ?_
      refine J_goto (tgt := 39) dX11_gives_35 (by decide) ?_
      exact J_iret dX11_gives_39 (rt_i h) rfl
  · replace h := it_some h c2
    refine J_iconst dX11_gives_7 ic_m1 ?_
    exact J_iret dX11_gives_8 (rt_i h) rfl
set_option maxRecDepth 20000 in
set_option maxHeartbeats 4000000 in
theorem kX11_gives {l : Launch} {D : va_G} {ad : Nat → Nat} {cy : Nat → ClassId} {rv : (Int32 × CS)} {σ : CS} {p1 : Int32} {p2 : Int32} (hi : wl_inj (ΓC ad cy)) (h : C_gives σ p1 p2 = some rv) : Cn l D (ΓC ad cy) yX11_gives cX11_gives 4 (some .int) 2 [.ref (ad 0), .int p1, .int p2] σ (some (.int rv.1), rv.2) :=
  Cn.of hi rfl (Nat.le_of_ble_eq_true rfl) (fun _ _ _ hL => C_gives_ok hi hL h)
theorem pdX11_past : (parseMethodDescriptor yX11_past.desc).map (fun d => d.parameters.length) = some 2 := by decide +kernel
set_option maxRecDepth 20000 in
set_option maxHeartbeats 4000000 in
theorem C_past_ok {E : Ec} {ad : Nat → Nat} {cy : Nat → ClassId} {rv : (Int32 × CS)} {σ : CS} {p1 : Int32} {p2 : Int32} (hi : wl_inj (ΓC ad cy)) (hL : Lv E 1) (h : C_past σ p1 p2 = some rv) : Jw E (ΓC ad cy) RX11 cX11_past 4 (some .int) (some (.int rv.1), rv.2) 0 [(0, .ref (ad 0)), (1, .int p1), (2, .int p2)] [] σ := by
  unfold C_past at h
  refine J_iload_n (q := 1) dX11_past_0 rfl rfl ?_
  obtain ⟨r1, hq9, h⟩ := bd_some h
  refine kx_X11_125 hi dX11_past_1 hq9 hL (by decide) (Nat.le_of_ble_eq_true rfl) ?_
  refine J_if_eq (tgt := 17) dX11_past_4 (by decide) (fun c2 => ?_) (fun c2 => ?_)
  · replace h := it_some h c2
    refine J_iconst dX11_past_17 ic_m1 ?_
    exact J_iret dX11_past_18 (rt_i h) rfl
  · replace h := if_some h c2
    refine J_iload_n (q := 2) dX11_past_7 rfl rfl ?_
    refine J_sipush dX11_past_8 sp_4095 ?_
    obtain ⟨r3, hq10, h⟩ := bd_some h
    refine kx_X11_102 hi dX11_past_11 hq10 hL (by decide) (Nat.le_of_ble_eq_true rfl) ?_
    refine J_if_ne (tgt := 19) dX11_past_14 (by decide) (fun c4 => ?_) (fun c4 => ?_)
    · replace h := if_some h c4
      refine J_aload_n (q := 0) dX11_past_19 rfl rfl ?_
      refine gC_now dX11_past_20 ?_
      refine gT_X11_truth dX11_past_23 okT_1 rfl ?_
      refine J_iload_n (q := 1) dX11_past_26 rfl rfl ?_
      obtain ⟨hg5, h⟩ := gd_some h
      refine aT_ld (j := 1) (n := 5) dX11_past_27 okT_1 rfl (by decide) rfl hg5 ?_
      refine J_ti (fun v6 ev6 => ?_)
      replace h := nm_some ev6 h
      refine J_istore_n (lv' := [(3, .int v6), (0, .ref (ad 0)), (1, .int p1), (2, .int p2)]) dX11_past_28 rfl (by decide) rfl ?_
      refine J_aload_n (q := 1) dX11_past_29 rfl rfl ?_
      refine gC_now dX11_past_30 ?_
      refine gT_X11_truth dX11_past_33 okT_1 rfl ?_
      refine J_iload_n (q := 2) dX11_past_36 rfl rfl ?_
      refine J_iload_n (q := 3) dX11_past_37 rfl rfl ?_
      obtain ⟨hg7, h⟩ := gd_some h
      refine aT_st (w' := (va_up σ 1 (pA (σ 1) 1 p1 p2))) (j := 1) (n := 5) dX11_past_38 okT_1 rfl vu_at (fun _ h9 => vu_ne h9) (by decide) rfl hg7 ?_
      refine J_tw (fun σ8 eσ8 => ?_)
      replace h := nm_some eσ8 h
      refine J_iload_n (q := 0) dX11_past_39 rfl rfl ?_
      exact J_iret dX11_past_40 (rt_i h) rfl
    · replace h := it_some h c4
      refine J_iconst dX11_past_17 ic_m1 ?_
      exact J_iret dX11_past_18 (rt_i h) rfl
set_option maxRecDepth 20000 in
set_option maxHeartbeats 4000000 in
theorem kX11_past {l : Launch} {D : va_G} {ad : Nat → Nat} {cy : Nat → ClassId} {rv : (Int32 × CS)} {σ : CS} {p1 : Int32} {p2 : Int32} (hi : wl_inj (ΓC ad cy)) (h : C_past σ p1 p2 = some rv) : Cn l D (ΓC ad cy) yX11_past cX11_past 4 (some .int) 1 [.ref (ad 0), .int p1, .int p2] σ (some (.int rv.1), rv.2) :=
  Cn.of hi rfl (Nat.le_of_ble_eq_true rfl) (fun _ _ _ hL => C_past_ok hi hL h)
theorem pdX11_days : (parseMethodDescriptor yX11_days.desc).map (fun d => d.parameters.length) = some 1 := by decide +kernel
theorem kx_X11_175 {E : Ec} {ad : Nat → Nat} {cy : Nat → ClassId} {cc : ByteArray} {nL : Nat} {rt : Option FieldType} {r : Option Value × CS} {pc : Nat} {lv : List (Nat × Value)} {st : List Value} {σ : CS} {n a : Nat} {p1 : Int32} {v : Int32} {t' : Ob} (hi : wl_inj (ΓC ad cy)) (ha : okT a) (hd : decode cc pc = .ok (.invokevirtual 175, 3)) (hq : T_goOn (σ a) p1 = some (v, t')) (hL : Lv E n) (hn : 5 + 1 ≤ n) (hW : (st.map fun v => v.category).sum ≤ 8) (k : Jw E (ΓC ad cy) RX11 cc nL rt r (pc + 3) lv (.int v :: st) (va_up σ a t')) : Jw E (ΓC ad cy) RX11 cc nL rt r pc lv (.int p1 :: .ref (ad (8 * a + 2)) :: st) σ := by
  have hM := fun (l : Launch) (D : va_G) => kX10_goOn (l := l) (D := D) (ad := ad) (cy := cy) (σ := σ) hi ha hq
  simp only [vu_self] at hM
  exact J_callV (Γ := ΓC ad cy) (h := 8 * a + 2) (ci := 9) (av := [.int p1]) (q := (some (.int v), va_up σ a t')) (st := st) hd (hM _ _) tw_2_218 tw_2_41 tw_1_10 tw_2_43 tw_2_42 ⟨by decide, by decide, pdX10_goOn⟩ (hT (j := 0) ha (by decide)) (cC_t0 ha rfl) rfl rfl rfl (by decide) hL hn hW k
theorem kx_X11_178 {E : Ec} {ad : Nat → Nat} {cy : Nat → ClassId} {cc : ByteArray} {nL : Nat} {rt : Option FieldType} {r : Option Value × CS} {pc : Nat} {lv : List (Nat × Value)} {st : List Value} {σ : CS} {n a : Nat} {v : Int32} (hi : wl_inj (ΓC ad cy)) (ha : okT a) (hd : decode cc pc = .ok (.invokevirtual 178, 3)) (hq : T_ownedThings (σ a) = some v) (hL : Lv E n) (hn : 1 + 1 ≤ n) (hW : (st.map fun v => v.category).sum ≤ 8) (k : Jw E (ΓC ad cy) RX11 cc nL rt r (pc + 3) lv (.int v :: st) σ) : Jw E (ΓC ad cy) RX11 cc nL rt r pc lv (.ref (ad (8 * a + 2)) :: st) σ := by
  have hM := fun (l : Launch) (D : va_G) => kX10_ownedThings (l := l) (D := D) (ad := ad) (cy := cy) (σ := σ) hi ha hq
  simp only [vu_self] at hM
  exact J_callV (Γ := ΓC ad cy) (h := 8 * a + 2) (ci := 9) (av := []) (q := (some (.int v), σ)) (st := st) hd (hM _ _) tw_2_219 tw_2_220 tw_1_10 tw_2_222 tw_2_221 ⟨by decide, by decide, pdX10_ownedThings⟩ (hT (j := 0) ha (by decide)) (cC_t0 ha rfl) rfl rfl rfl (by decide) hL hn hW k
theorem kx_X11_182 {E : Ec} {ad : Nat → Nat} {cy : Nat → ClassId} {cc : ByteArray} {nL : Nat} {rt : Option FieldType} {r : Option Value × CS} {pc : Nat} {lv : List (Nat × Value)} {st : List Value} {w : CS} {n : Nat} {p0 : Int32} {v : Int32} (hi : wl_inj (ΓC ad cy)) (hd : decode cc pc = .ok (.invokestatic 182, 3)) (hq : B_bitCount p0 = some v) (hL : Lv E n) (hn : 0 + 1 ≤ n) (hW : (st.map fun v => v.category).sum ≤ 8) (k : Jw E (ΓC ad cy) RX11 cc nL rt r (pc + 3) lv (.int v :: st) w) : Jw E (ΓC ad cy) RX11 cc nL rt r pc lv (.int p0 :: st) w :=
  J_callS (Γ := ΓC ad cy) (av := [.int p0]) (q := (some (.int v), w)) (st := st) hd (kJ6_bitCount_0f7a4 hi hq) tw_2_224 tw_2_129 tw_1_17 tw_2_130 ⟨by decide, by decide, pdJ6_bitCount_0f7a4⟩ rfl (by decide) hL hn hW k
set_option maxRecDepth 20000 in
set_option maxHeartbeats 4000000 in
theorem C_days_ok {E : Ec} {ad : Nat → Nat} {cy : Nat → ClassId} {rv : (Int32 × CS)} {σ : CS} {p1 : Int32} (hi : wl_inj (ΓC ad cy)) (hL : Lv E 6) (h : C_days σ p1 = some rv) : Jw E (ΓC ad cy) RX11 cX11_days 2 (some .int) (some (.int rv.1), rv.2) 0 [(0, .ref (ad 0)), (1, .int p1)] [] σ := by
  unfold C_days at h
  refine J_iload_n (q := 1) dX11_days_0 rfl rfl ?_
  refine J_iconst dX11_days_1 ic_1 ?_
  refine J_icmp_lt (tgt := 11) dX11_days_2 (by decide) (fun c1 => ?_) (fun c1 => ?_)
  · replace h := it_some h c1
    refine J_iconst dX11_days_11 ic_m1 ?_
    exact J_iret dX11_days_12 (rt_i h) rfl
  · replace h := if_some h c1
    refine J_iload_n (q := 1) dX11_days_5 rfl rfl ?_
    refine J_bipush dX11_days_6 bp_60 ?_
    refine J_icmp_le (tgt := 13) dX11_days_8 (by decide) (fun c2 => ?_) (fun c2 => ?_)
    · replace h := it_some h c2
      refine J_aload_n (q := 0) dX11_days_13 rfl rfl ?_
      refine gC_now dX11_days_14 ?_
      refine J_iload_n (q := 1) dX11_days_17 rfl rfl ?_
      obtain ⟨r3, t4, hq9, h⟩ := bd2_some h
      refine kx_X11_175 hi okT_1 dX11_days_18 hq9 hL (by decide) (Nat.le_of_ble_eq_true rfl) ?_
      refine J_tw (fun σ5 eσ5 => ?_)
      replace h := nm_some eσ5 h
      refine J_if_eq (tgt := 37) dX11_days_21 (by decide) (fun c6 => ?_) (fun c6 => ?_)
      · replace h := it_some h c6
        refine J_bipush dX11_days_37 bp_m3 ?_
        exact J_iret dX11_days_39 (rt_i h) rfl
      · replace h := if_some h c6
        refine J_aload_n (q := 0) dX11_days_24 rfl rfl ?_
        refine gC_now dX11_days_25 ?_
        obtain ⟨r7, hq10, h⟩ := bd_some h
        refine kx_X11_178 hi okT_1 dX11_days_28 hq10 hL (by decide) (Nat.le_of_ble_eq_true rfl) ?_
        obtain ⟨r8, hq11, h⟩ := bd_some h
        refine kx_X11_182 hi dX11_days_31 hq11 hL (by decide) (Nat.le_of_ble_eq_true rfl) ?_
        refine J_goto (tgt := 39) dX11_days_34 (by decide) ?_
        exact J_iret dX11_days_39 (rt_i h) rfl
    · replace h := if_some h c2
      refine J_iconst dX11_days_11 ic_m1 ?_
      exact J_iret dX11_days_12 (rt_i h) rfl
set_option maxRecDepth 20000 in
set_option maxHeartbeats 4000000 in
theorem kX11_days {l : Launch} {D : va_G} {ad : Nat → Nat} {cy : Nat → ClassId} {rv : (Int32 × CS)} {σ : CS} {p1 : Int32} (hi : wl_inj (ΓC ad cy)) (h : C_days σ p1 = some rv) : Cn l D (ΓC ad cy) yX11_days cX11_days 2 (some .int) 6 [.ref (ad 0), .int p1] σ (some (.int rv.1), rv.2) :=
  Cn.of hi rfl (Nat.le_of_ble_eq_true rfl) (fun _ _ _ hL => C_days_ok hi hL h)
theorem pdX11_thinkOn : (parseMethodDescriptor yX11_thinkOn.desc).map (fun d => d.parameters.length) = some 1 := by decide +kernel
theorem kx_X11_198 {E : Ec} {ad : Nat → Nat} {cy : Nat → ClassId} {cc : ByteArray} {nL : Nat} {rt : Option FieldType} {r : Option Value × CS} {pc : Nat} {lv : List (Nat × Value)} {st : List Value} {σ : CS} {n a : Nat} {p1 : Int32} {t' : Ob} (hi : wl_inj (ΓC ad cy)) (ha : okT a) (hd : decode cc pc = .ok (.invokevirtual 198, 3)) (hq : T_passAll (σ a) p1 = some t') (hL : Lv E n) (hn : 5 + 1 ≤ n) (hW : (st.map fun v => v.category).sum ≤ 8) (k : Jw E (ΓC ad cy) RX11 cc nL rt r (pc + 3) lv (st) (va_up σ a t')) : Jw E (ΓC ad cy) RX11 cc nL rt r pc lv (.int p1 :: .ref (ad (8 * a + 2)) :: st) σ := by
  have hM := fun (l : Launch) (D : va_G) => kX10_passAll (l := l) (D := D) (ad := ad) (cy := cy) (σ := σ) hi ha hq
  simp only [vu_self] at hM
  exact J_callV (Γ := ΓC ad cy) (h := 8 * a + 2) (ci := 9) (av := [.int p1]) (q := (none, va_up σ a t')) (st := st) hd (hM _ _) tw_2_233 tw_2_234 tw_1_10 tw_2_236 tw_2_235 ⟨by decide, by decide, pdX10_passAll⟩ (hT (j := 0) ha (by decide)) (cC_t0 ha rfl) rfl rfl rfl (by decide) hL hn hW k
set_option maxRecDepth 20000 in
set_option maxHeartbeats 4000000 in
theorem C_thinkOn_ok {E : Ec} {ad : Nat → Nat} {cy : Nat → ClassId} {rv : CS} {σ : CS} {p1 : Int32} (hi : wl_inj (ΓC ad cy)) (hL : Lv E 6) (h : C_thinkOn σ p1 = some rv) : Jw E (ΓC ad cy) RX11 cX11_thinkOn 2 none (none, rv) 0 [(0, .ref (ad 0)), (1, .int p1)] [] σ := by
  unfold C_thinkOn at h
  refine J_aload_n (q := 0) dX11_thinkOn_0 rfl rfl ?_
  refine gC_mind dX11_thinkOn_1 ?_
  refine J_aload_n (q := 0) dX11_thinkOn_4 rfl rfl ?_
  refine gC_now dX11_thinkOn_5 ?_
  obtain ⟨t1, hq5, h⟩ := bd_some h
  refine kx_X11_83 hi okT_3 okT_1 (by decide) dX11_thinkOn_8 hq5 hL (by decide) (Nat.le_of_ble_eq_true rfl) ?_
  refine J_tw (fun σ2 eσ2 => ?_)
  replace h := nm_some eσ2 h
  refine J_aload_n (q := 0) dX11_thinkOn_11 rfl rfl ?_
  refine gC_mind dX11_thinkOn_12 ?_
  refine J_iload_n (q := 1) dX11_thinkOn_15 rfl rfl ?_
  obtain ⟨t3, hq6, h⟩ := bd_some h
  refine kx_X11_198 hi okT_3 dX11_thinkOn_16 hq6 hL (by decide) (Nat.le_of_ble_eq_true rfl) ?_
  refine J_tw (fun σ4 eσ4 => ?_)
  replace h := nm_some eσ4 h
  exact J_vret dX11_thinkOn_19 (rt_v h) rfl
set_option maxRecDepth 20000 in
set_option maxHeartbeats 4000000 in
theorem kX11_thinkOn {l : Launch} {D : va_G} {ad : Nat → Nat} {cy : Nat → ClassId} {rv : CS} {σ : CS} {p1 : Int32} (hi : wl_inj (ΓC ad cy)) (h : C_thinkOn σ p1 = some rv) : Cn l D (ΓC ad cy) yX11_thinkOn cX11_thinkOn 2 none 6 [.ref (ad 0), .int p1] σ (none, rv) :=
  Cn.of hi rfl (Nat.le_of_ble_eq_true rfl) (fun _ _ _ hL => C_thinkOn_ok hi hL h)
theorem pdX11_ownerThen : (parseMethodDescriptor yX11_ownerThen.desc).map (fun d => d.parameters.length) = some 2 := by decide +kernel
theorem kx_X11_187 {E : Ec} {ad : Nat → Nat} {cy : Nat → ClassId} {cc : ByteArray} {nL : Nat} {rt : Option FieldType} {r : Option Value × CS} {pc : Nat} {lv : List (Nat × Value)} {st : List Value} {σ : CS} {n : Nat} {p1 : Int32} {σ' : CS} (hi : wl_inj (ΓC ad cy)) (hd : decode cc pc = .ok (.invokevirtual 187, 3)) (hq : C_thinkOn σ p1 = some σ') (hL : Lv E n) (hn : 6 + 1 ≤ n) (hW : (st.map fun v => v.category).sum ≤ 8) (k : Jw E (ΓC ad cy) RX11 cc nL rt r (pc + 3) lv (st) σ') : Jw E (ΓC ad cy) RX11 cc nL rt r pc lv (.int p1 :: .ref (ad 0) :: st) σ :=
  J_callV (Γ := ΓC ad cy) (h := 0) (ci := 10) (av := [.int p1]) (q := (none, σ')) (st := st) hd (kX11_thinkOn hi hq) tw_2_229 tw_2_231 tw_1_1 tw_2_232 sl_1_6 ⟨by decide, by decide, pdX11_thinkOn⟩ (by show 0 < 111; decide) rfl rfl rfl rfl (by decide) hL hn hW k
set_option maxRecDepth 20000 in
set_option maxHeartbeats 4000000 in
theorem C_ownerThen_ok {E : Ec} {ad : Nat → Nat} {cy : Nat → ClassId} {rv : (Int32 × CS)} {σ : CS} {p1 : Int32} {p2 : Int32} (hi : wl_inj (ΓC ad cy)) (hL : Lv E 7) (h : C_ownerThen σ p1 p2 = some rv) : Jw E (ΓC ad cy) RX11 cX11_ownerThen 3 (some .int) (some (.int rv.1), rv.2) 0 [(0, .ref (ad 0)), (1, .int p1), (2, .int p2)] [] σ := by
  unfold C_ownerThen at h
  refine J_iload_n (q := 1) dX11_ownerThen_0 rfl rfl ?_
  obtain ⟨r1, hq8, h⟩ := bd_some h
  refine kx_X11_125 hi dX11_ownerThen_1 hq8 hL (by decide) (Nat.le_of_ble_eq_true rfl) ?_
  refine J_if_eq (tgt := 16) dX11_ownerThen_4 (by decide) (fun c2 => ?_) (fun c2 => ?_)
  · replace h := it_some h c2
    refine J_iconst dX11_ownerThen_16 ic_m1 ?_
    exact J_iret dX11_ownerThen_17 (rt_i h) rfl
  · replace h := if_some h c2
    refine J_iload_n (q := 2) dX11_ownerThen_7 rfl rfl ?_
    refine J_bipush dX11_ownerThen_8 bp_60 ?_
    obtain ⟨r3, hq9, h⟩ := bd_some h
    refine kx_X11_102 hi dX11_ownerThen_10 hq9 hL (by decide) (Nat.le_of_ble_eq_true rfl) ?_
    refine J_if_ne (tgt := 18) dX11_ownerThen_13 (by decide) (fun c4 => ?_) (fun c4 => ?_)
    · replace h := if_some h c4
      refine J_aload_n (q := 0) dX11_ownerThen_18 rfl rfl ?_
      refine J_iload_n (q := 2) dX11_ownerThen_19 rfl rfl ?_
      obtain ⟨σ5, hq10, h⟩ := bd_some h
      refine kx_X11_187 hi dX11_ownerThen_20 hq10 hL (by decide) (Nat.le_of_ble_eq_true rfl) ?_
      refine J_aload_n (q := 0) dX11_ownerThen_23 rfl rfl ?_
      refine gC_mind dX11_ownerThen_24 ?_
      refine gT_X11_owner dX11_ownerThen_27 okT_3 rfl ?_
      refine J_iload_n (q := 1) dX11_ownerThen_30 rfl rfl ?_
      obtain ⟨hg6, h⟩ := gd_some h
      refine aT_ld (j := 3) (n := 5) dX11_ownerThen_31 okT_3 rfl (by decide) rfl hg6 ?_
      obtain ⟨r7, hq11, h⟩ := bd_some h
      refine kx_X11_137 hi dX11_ownerThen_32 hq11 hL (by decide) (Nat.le_of_ble_eq_true rfl) ?_
      exact J_iret dX11_ownerThen_35 (rt_i h) rfl
    · replace h := it_some h c4
      refine J_iconst dX11_ownerThen_16 ic_m1 ?_
      exact J_iret dX11_ownerThen_17 (rt_i h) rfl
set_option maxRecDepth 20000 in
set_option maxHeartbeats 4000000 in
theorem kX11_ownerThen {l : Launch} {D : va_G} {ad : Nat → Nat} {cy : Nat → ClassId} {rv : (Int32 × CS)} {σ : CS} {p1 : Int32} {p2 : Int32} (hi : wl_inj (ΓC ad cy)) (h : C_ownerThen σ p1 p2 = some rv) : Cn l D (ΓC ad cy) yX11_ownerThen cX11_ownerThen 3 (some .int) 7 [.ref (ad 0), .int p1, .int p2] σ (some (.int rv.1), rv.2) :=
  Cn.of hi rfl (Nat.le_of_ble_eq_true rfl) (fun _ _ _ hL => C_ownerThen_ok hi hL h)
theorem pdX11_storyThen : (parseMethodDescriptor yX11_storyThen.desc).map (fun d => d.parameters.length) = some 3 := by decide +kernel
set_option maxRecDepth 20000 in
set_option maxHeartbeats 4000000 in
theorem C_storyThen_ok {E : Ec} {ad : Nat → Nat} {cy : Nat → ClassId} {rv : (Int32 × CS)} {σ : CS} {p1 : Int32} {p2 : Int32} {p3 : Int32} (hi : wl_inj (ΓC ad cy)) (hL : Lv E 7) (h : C_storyThen σ p1 p2 p3 = some rv) : Jw E (ΓC ad cy) RX11 cX11_storyThen 4 (some .int) (some (.int rv.1), rv.2) 0 [(0, .ref (ad 0)), (1, .int p1), (2, .int p2), (3, .int p3)] [] σ := by
  unfold C_storyThen at h
  refine J_aload_n (q := 0) dX11_storyThen_0 rfl rfl ?_
  refine gC_now dX11_storyThen_1 ?_
  refine J_iload_n (q := 1) dX11_storyThen_4 rfl rfl ?_
  obtain ⟨r1, hq9, h⟩ := bd_some h
  refine kx_X11_98 hi okT_1 dX11_storyThen_5 hq9 hL (by decide) (Nat.le_of_ble_eq_true rfl) ?_
  refine J_if_eq (tgt := 27) dX11_storyThen_8 (by decide) (fun c2 => ?_) (fun c2 => ?_)
  · replace h := it_some h c2
    refine J_iconst dX11_storyThen_27 ic_m1 ?_
    exact J_iret dX11_storyThen_28 (rt_i h) rfl
  · replace h := if_some h c2
    refine J_iload_n (q := 2) dX11_storyThen_11 rfl rfl ?_
    obtain ⟨r3, hq10, h⟩ := bd_some h
    refine kx_X11_125 hi dX11_storyThen_12 hq10 hL (by decide) (Nat.le_of_ble_eq_true rfl) ?_
    refine J_if_eq (tgt := 27) dX11_storyThen_15 (by decide) (fun c4 => ?_) (fun c4 => ?_)
    · replace h := it_some h c4
      refine J_iconst dX11_storyThen_27 ic_m1 ?_
      exact J_iret dX11_storyThen_28 (rt_i h) rfl
    · replace h := if_some h c4
      refine J_iload_n (q := 3) dX11_storyThen_18 rfl rfl ?_
      refine J_bipush dX11_storyThen_19 bp_60 ?_
      obtain ⟨r5, hq11, h⟩ := bd_some h
      refine kx_X11_102 hi dX11_storyThen_21 hq11 hL (by decide) (Nat.le_of_ble_eq_true rfl) ?_
      refine J_if_ne (tgt := 29) dX11_storyThen_24 (by decide) (fun c6 => ?_) (fun c6 => ?_)
      · replace h := if_some h c6
        refine J_aload_n (q := 0) dX11_storyThen_29 rfl rfl ?_
        refine J_iload_n (q := 3) dX11_storyThen_30 rfl rfl ?_
        obtain ⟨σ7, hq12, h⟩ := bd_some h
        refine kx_X11_187 hi dX11_storyThen_31 hq12 hL (by decide) (Nat.le_of_ble_eq_true rfl) ?_
        refine J_aload_n (q := 0) dX11_storyThen_34 rfl rfl ?_
        refine gC_mind dX11_storyThen_35 ?_
        refine J_iload_n (q := 1) dX11_storyThen_38 rfl rfl ?_
        refine J_iload_n (q := 2) dX11_storyThen_39 rfl rfl ?_
        obtain ⟨r8, hq13, h⟩ := bd_some h
        refine kx_X11_143 hi okT_3 dX11_storyThen_40 hq13 hL (by decide) (Nat.le_of_ble_eq_true rfl) ?_
        exact J_iret dX11_storyThen_43 (rt_i h) rfl
      · replace h := it_some h c6
        refine J_iconst dX11_storyThen_27 ic_m1 ?_
        exact J_iret dX11_storyThen_28 (rt_i h) rfl
set_option maxRecDepth 20000 in
set_option maxHeartbeats 4000000 in
theorem kX11_storyThen {l : Launch} {D : va_G} {ad : Nat → Nat} {cy : Nat → ClassId} {rv : (Int32 × CS)} {σ : CS} {p1 : Int32} {p2 : Int32} {p3 : Int32} (hi : wl_inj (ΓC ad cy)) (h : C_storyThen σ p1 p2 p3 = some rv) : Cn l D (ΓC ad cy) yX11_storyThen cX11_storyThen 4 (some .int) 7 [.ref (ad 0), .int p1, .int p2, .int p3] σ (some (.int rv.1), rv.2) :=
  Cn.of hi rfl (Nat.le_of_ble_eq_true rfl) (fun _ _ _ hL => C_storyThen_ok hi hL h)
theorem pdX11_ownsThen : (parseMethodDescriptor yX11_ownsThen.desc).map (fun d => d.parameters.length) = some 3 := by decide +kernel
theorem kx_X11_191 {E : Ec} {ad : Nat → Nat} {cy : Nat → ClassId} {cc : ByteArray} {nL : Nat} {rt : Option FieldType} {r : Option Value × CS} {pc : Nat} {lv : List (Nat × Value)} {st : List Value} {σ : CS} {n a : Nat} {p1 : Int32} {v : Int32} (hi : wl_inj (ΓC ad cy)) (ha : okT a) (hd : decode cc pc = .ok (.invokevirtual 191, 3)) (hq : T_wealth (σ a) p1 = some v) (hL : Lv E n) (hn : 0 + 1 ≤ n) (hW : (st.map fun v => v.category).sum ≤ 8) (k : Jw E (ΓC ad cy) RX11 cc nL rt r (pc + 3) lv (.int v :: st) σ) : Jw E (ΓC ad cy) RX11 cc nL rt r pc lv (.int p1 :: .ref (ad (8 * a + 2)) :: st) σ := by
  have hM := fun (l : Launch) (D : va_G) => kX10_wealth (l := l) (D := D) (ad := ad) (cy := cy) (σ := σ) hi ha hq
  simp only [vu_self] at hM
  exact J_callV (Γ := ΓC ad cy) (h := 8 * a + 2) (ci := 9) (av := [.int p1]) (q := (some (.int v), σ)) (st := st) hd (hM _ _) tw_3_5 tw_3_6 tw_1_10 tw_3_8 tw_3_7 ⟨by decide, by decide, pdX10_wealth⟩ (hT (j := 0) ha (by decide)) (cC_t0 ha rfl) rfl rfl rfl (by decide) hL hn hW k
set_option maxRecDepth 20000 in
set_option maxHeartbeats 4000000 in
theorem C_ownsThen_ok {E : Ec} {ad : Nat → Nat} {cy : Nat → ClassId} {rv : (Int32 × CS)} {σ : CS} {p1 : Int32} {p2 : Int32} {p3 : Int32} (hi : wl_inj (ΓC ad cy)) (hL : Lv E 7) (h : C_ownsThen σ p1 p2 p3 = some rv) : Jw E (ΓC ad cy) RX11 cX11_ownsThen 4 (some .int) (some (.int rv.1), rv.2) 0 [(0, .ref (ad 0)), (1, .int p1), (2, .int p2), (3, .int p3)] [] σ := by
  unfold C_ownsThen at h
  refine J_aload_n (q := 0) dX11_ownsThen_0 rfl rfl ?_
  refine gC_now dX11_ownsThen_1 ?_
  refine J_iload_n (q := 1) dX11_ownsThen_4 rfl rfl ?_
  obtain ⟨r1, hq11, h⟩ := bd_some h
  refine kx_X11_98 hi okT_1 dX11_ownsThen_5 hq11 hL (by decide) (Nat.le_of_ble_eq_true rfl) ?_
  refine J_if_eq (tgt := 28) dX11_ownsThen_8 (by decide) (fun c2 => ?_) (fun c2 => ?_)
  · replace h := it_some h c2
    refine J_iconst dX11_ownsThen_28 ic_m1 ?_
    exact J_iret dX11_ownsThen_29 (rt_i h) rfl
  · replace h := if_some h c2
    refine J_iload_n (q := 2) dX11_ownsThen_11 rfl rfl ?_
    refine J_bipush dX11_ownsThen_12 bp_60 ?_
    obtain ⟨r3, hq12, h⟩ := bd_some h
    refine kx_X11_102 hi dX11_ownsThen_14 hq12 hL (by decide) (Nat.le_of_ble_eq_true rfl) ?_
    refine J_if_eq (tgt := 28) dX11_ownsThen_17 (by decide) (fun c4 => ?_) (fun c4 => ?_)
    · replace h := it_some h c4
      refine J_iconst dX11_ownsThen_28 ic_m1 ?_
      exact J_iret dX11_ownsThen_29 (rt_i h) rfl
    · replace h := if_some h c4
      refine J_iload_n (q := 3) dX11_ownsThen_20 rfl rfl ?_
      refine J_iconst dX11_ownsThen_21 ic_1 ?_
      obtain ⟨r5, hq13, h⟩ := bd_some h
      refine kx_X11_102 hi dX11_ownsThen_22 hq13 hL (by decide) (Nat.le_of_ble_eq_true rfl) ?_
      refine J_if_ne (tgt := 30) dX11_ownsThen_25 (by decide) (fun c6 => ?_) (fun c6 => ?_)
      · replace h := if_some h c6
        refine J_aload_n (q := 0) dX11_ownsThen_30 rfl rfl ?_
        refine J_iload_n (q := 2) dX11_ownsThen_31 rfl rfl ?_
        obtain ⟨σ7, hq14, h⟩ := bd_some h
        refine kx_X11_187 hi dX11_ownsThen_32 hq14 hL (by decide) (Nat.le_of_ble_eq_true rfl) ?_
        refine J_iload_n (q := 3) dX11_ownsThen_35 rfl rfl ?_
        refine J_if_ne (tgt := 50) dX11_ownsThen_36 (by decide) (fun c8 => ?_) (fun c8 => ?_)
        · replace h := if_some h c8
          refine J_aload_n (q := 0) dX11_ownsThen_50 rfl rfl ?_
          refine gC_mind dX11_ownsThen_51 ?_
          refine J_iload_n (q := 1) dX11_ownsThen_54 rfl rfl ?_
          obtain ⟨r9, hq15, h⟩ := bd_some h
          refine kx_X11_191 hi okT_3 dX11_ownsThen_55 hq15 hL (by decide) (Nat.le_of_ble_eq_true rfl) ?_
          exact J_iret dX11_ownsThen_58 (rt_i h) rfl
        · replace h := it_some h c8
          refine J_aload_n (q := 0) dX11_ownsThen_39 rfl rfl ?_
          refine gC_mind dX11_ownsThen_40 ?_
          refine J_iload_n (q := 1) dX11_ownsThen_43 rfl rfl ?_
          obtain ⟨r10, hq16, h⟩ := bd_some h
          refine kx_X11_115 hi okT_3 dX11_ownsThen_44 hq16 hL (by decide) (Nat.le_of_ble_eq_true rfl) ?_
          refine J_goto (tgt := 58) dX11_ownsThen_47 (by decide) ?_
          exact J_iret dX11_ownsThen_58 (rt_i h) rfl
      · replace h := it_some h c6
        refine J_iconst dX11_ownsThen_28 ic_m1 ?_
        exact J_iret dX11_ownsThen_29 (rt_i h) rfl
set_option maxRecDepth 20000 in
set_option maxHeartbeats 4000000 in
theorem kX11_ownsThen {l : Launch} {D : va_G} {ad : Nat → Nat} {cy : Nat → ClassId} {rv : (Int32 × CS)} {σ : CS} {p1 : Int32} {p2 : Int32} {p3 : Int32} (hi : wl_inj (ΓC ad cy)) (h : C_ownsThen σ p1 p2 p3 = some rv) : Cn l D (ΓC ad cy) yX11_ownsThen cX11_ownsThen 4 (some .int) 7 [.ref (ad 0), .int p1, .int p2, .int p3] σ (some (.int rv.1), rv.2) :=
  Cn.of hi rfl (Nat.le_of_ble_eq_true rfl) (fun _ _ _ hL => C_ownsThen_ok hi hL h)
theorem pdX11_when : (parseMethodDescriptor yX11_when.desc).map (fun d => d.parameters.length) = some 2 := by decide +kernel
theorem kx_X11_194 {E : Ec} {ad : Nat → Nat} {cy : Nat → ClassId} {cc : ByteArray} {nL : Nat} {rt : Option FieldType} {r : Option Value × CS} {pc : Nat} {lv : List (Nat × Value)} {st : List Value} {σ : CS} {n a : Nat} {v : Int32} {t' : Ob} (hi : wl_inj (ΓC ad cy)) (ha : okT a) (hd : decode cc pc = .ok (.invokevirtual 194, 3)) (hq : T_pass (σ a) = some (v, t')) (hL : Lv E n) (hn : 4 + 1 ≤ n) (hW : (st.map fun v => v.category).sum ≤ 8) (k : Jw E (ΓC ad cy) RX11 cc nL rt r (pc + 3) lv (.int v :: st) (va_up σ a t')) : Jw E (ΓC ad cy) RX11 cc nL rt r pc lv (.ref (ad (8 * a + 2)) :: st) σ := by
  have hM := fun (l : Launch) (D : va_G) => kX10_pass (l := l) (D := D) (ad := ad) (cy := cy) (σ := σ) hi ha hq
  simp only [vu_self] at hM
  exact J_callV (Γ := ΓC ad cy) (h := 8 * a + 2) (ci := 9) (av := []) (q := (some (.int v), va_up σ a t')) (st := st) hd (hM _ _) tw_3_13 tw_2_45 tw_1_10 tw_2_47 tw_2_46 ⟨by decide, by decide, pdX10_pass⟩ (hT (j := 0) ha (by decide)) (cC_t0 ha rfl) rfl rfl rfl (by decide) hL hn hW k
set_option maxRecDepth 20000 in
set_option maxHeartbeats 4000000 in
theorem C_when_L33_ok {E : Ec} {ad : Nat → Nat} {cy : Nat → ClassId} {rv : (Int32 × CS)} {a1 : Int32} {a2 : Int32} (hi : wl_inj (ΓC ad cy)) (hL : Lv E 5) : ∀ (n : Nat) (σ : CS) (x3 : Int32), C_when_L33 a1 a2 n σ x3 = some rv → Jw E (ΓC ad cy) RX11 cX11_when 4 (some .int) (some (.int rv.1), rv.2) 33 [(0, .ref (ad 0)), (1, .int a1), (2, .int a2), (3, .int x3)] [] σ := by
  intro n
  induction n with
  | zero =>
    intro σ x3 h
    rw [C_when_L33] at h
    cases h
  | succ n ih =>
    intro σ x3 h
    rw [C_when_L33] at h
    refine J_iload_n (q := 3) dX11_when_33 rfl rfl ?_
    refine J_bipush dX11_when_34 bp_60 ?_
    refine J_icmp_gt (tgt := 68) dX11_when_36 (by decide) (fun c7 => ?_) (fun c7 => ?_)
    · replace h := it_some h c7
      refine J_bipush dX11_when_68 bp_m4 ?_
      exact J_iret dX11_when_70 (rt_i h) rfl
    · replace h := if_some h c7
      refine J_aload_n (q := 0) dX11_when_39 rfl rfl ?_
      refine gC_mind dX11_when_40 ?_
      refine gT_X11_owner dX11_when_43 okT_3 rfl ?_
      refine J_iload_n (q := 2) dX11_when_46 rfl rfl ?_
      obtain ⟨hg8, h⟩ := gd_some h
      refine aT_ld (j := 3) (n := 5) dX11_when_47 okT_3 rfl (by decide) rfl hg8 ?_
      refine J_iload_n (q := 1) dX11_when_48 rfl rfl ?_
      refine J_icmp_ne (tgt := 54) dX11_when_49 (by decide) (fun c9 => ?_) (fun c9 => ?_)
      · replace h := if_some h c9
        refine J_aload_n (q := 0) dX11_when_54 rfl rfl ?_
        refine gC_mind dX11_when_55 ?_
        obtain ⟨r10, t11, hq14, h⟩ := bd2_some h
        refine kx_X11_194 hi okT_3 dX11_when_58 hq14 hL (by decide) (Nat.le_of_ble_eq_true rfl) ?_
        refine J_tw (fun σ12 eσ12 => ?_)
        replace h := nm_some eσ12 h
        refine J_pop dX11_when_61 rfl ?_
        refine J_iinc (q := 3) (v := (x3 + (1 : Int32))) (lv' := [(3, .int (x3 + (1 : Int32))), (0, .ref (ad 0)), (1, .int a1), (2, .int a2)]) dX11_when_62 rfl (congrArg (fun z => x3 + z) ic_1) (by decide) rfl ?_
        refine J_tv (fun v13 ev13 => ?_)
        replace h := nm_some ev13 h
        refine J_goto (tgt := 33) dX11_when_65 (by decide) ?_
        exact J_sub [1, 2, 3, 0] rfl (ih _ _ h)
      · replace h := it_some h c9
        refine J_iload_n (q := 3) dX11_when_52 rfl rfl ?_
        exact J_iret dX11_when_53 (rt_i h) rfl
set_option maxRecDepth 20000 in
set_option maxHeartbeats 4000000 in
theorem C_when_ok {E : Ec} {ad : Nat → Nat} {cy : Nat → ClassId} {rv : (Int32 × CS)} {σ : CS} {p1 : Int32} {p2 : Int32} (hi : wl_inj (ΓC ad cy)) (hL : Lv E 5) (h : C_when σ p1 p2 = some rv) : Jw E (ΓC ad cy) RX11 cX11_when 4 (some .int) (some (.int rv.1), rv.2) 0 [(0, .ref (ad 0)), (1, .int p1), (2, .int p2)] [] σ := by
  unfold C_when at h
  refine J_aload_n (q := 0) dX11_when_0 rfl rfl ?_
  refine gC_now dX11_when_1 ?_
  refine J_iload_n (q := 1) dX11_when_4 rfl rfl ?_
  obtain ⟨r1, hq15, h⟩ := bd_some h
  refine kx_X11_98 hi okT_1 dX11_when_5 hq15 hL (by decide) (Nat.le_of_ble_eq_true rfl) ?_
  refine J_if_eq (tgt := 18) dX11_when_8 (by decide) (fun c2 => ?_) (fun c2 => ?_)
  · replace h := it_some h c2
    refine J_iconst dX11_when_18 ic_m1 ?_
    exact J_iret dX11_when_19 (rt_i h) rfl
  · replace h := if_some h c2
    refine J_iload_n (q := 2) dX11_when_11 rfl rfl ?_
    obtain ⟨r3, hq16, h⟩ := bd_some h
    refine kx_X11_125 hi dX11_when_12 hq16 hL (by decide) (Nat.le_of_ble_eq_true rfl) ?_
    refine J_if_ne (tgt := 20) dX11_when_15 (by decide) (fun c4 => ?_) (fun c4 => ?_)
    · replace h := if_some h c4
      refine J_aload_n (q := 0) dX11_when_20 rfl rfl ?_
      refine gC_mind dX11_when_21 ?_
      refine J_aload_n (q := 0) dX11_when_24 rfl rfl ?_
      refine gC_now dX11_when_25 ?_
      obtain ⟨t5, hq17, h⟩ := bd_some h
      refine kx_X11_83 hi okT_3 okT_1 (by decide) dX11_when_28 hq17 hL (by decide) (Nat.le_of_ble_eq_true rfl) ?_
      refine J_tw (fun σ6 eσ6 => ?_)
      replace h := nm_some eσ6 h
      refine J_iconst dX11_when_31 ic_0 ?_
      refine J_istore_n (lv' := [(3, .int (0 : Int32)), (0, .ref (ad 0)), (1, .int p1), (2, .int p2)]) dX11_when_32 rfl (by decide) rfl ?_
      refine J_sub [1, 2, 3, 0] rfl (C_when_L33_ok hi hL FU _ _ h)
    · replace h := it_some h c4
      refine J_iconst dX11_when_18 ic_m1 ?_
      exact J_iret dX11_when_19 (rt_i h) rfl
set_option maxRecDepth 20000 in
set_option maxHeartbeats 4000000 in
theorem kX11_when {l : Launch} {D : va_G} {ad : Nat → Nat} {cy : Nat → ClassId} {rv : (Int32 × CS)} {σ : CS} {p1 : Int32} {p2 : Int32} (hi : wl_inj (ΓC ad cy)) (h : C_when σ p1 p2 = some rv) : Cn l D (ΓC ad cy) yX11_when cX11_when 4 (some .int) 5 [.ref (ad 0), .int p1, .int p2] σ (some (.int rv.1), rv.2) :=
  Cn.of hi rfl (Nat.le_of_ble_eq_true rfl) (fun _ _ _ hL => C_when_ok hi hL h)
theorem pdX11_loses : (parseMethodDescriptor yX11_loses.desc).map (fun d => d.parameters.length) = some 1 := by decide +kernel
set_option maxRecDepth 20000 in
set_option maxHeartbeats 4000000 in
theorem C_loses_L39_ok {E : Ec} {ad : Nat → Nat} {cy : Nat → ClassId} {rv : (Int32 × CS)} {a1 : Int32} (hi : wl_inj (ΓC ad cy)) (hL : Lv E 5) : ∀ (n : Nat) (σ : CS) (x2 : Int32), C_loses_L39 a1 n σ x2 = some rv → Jw E (ΓC ad cy) RX11 cX11_loses 3 (some .int) (some (.int rv.1), rv.2) 39 [(0, .ref (ad 0)), (1, .int a1), (2, .int x2)] [] σ := by
  intro n
  induction n with
  | zero =>
    intro σ x2 h
    rw [C_loses_L39] at h
    cases h
  | succ n ih =>
    intro σ x2 h
    rw [C_loses_L39] at h
    refine J_iload_n (q := 2) dX11_loses_39 rfl rfl ?_
    refine J_bipush dX11_loses_40 bp_60 ?_
    refine J_icmp_gt (tgt := 82) dX11_loses_42 (by decide) (fun c7 => ?_) (fun c7 => ?_)
    · replace h := it_some h c7
      refine J_bipush dX11_loses_82 bp_m4 ?_
      exact J_iret dX11_loses_84 (rt_i h) rfl
    · replace h := if_some h c7
      refine J_aload_n (q := 0) dX11_loses_45 rfl rfl ?_
      refine gC_mind dX11_loses_46 ?_
      refine gT_X11_owner dX11_loses_49 okT_3 rfl ?_
      refine J_iload_n (q := 1) dX11_loses_52 rfl rfl ?_
      obtain ⟨hg8, h⟩ := gd_some h
      refine aT_ld (j := 3) (n := 5) dX11_loses_53 okT_3 rfl (by decide) rfl hg8 ?_
      refine J_aload_n (q := 0) dX11_loses_54 rfl rfl ?_
      refine gC_now dX11_loses_55 ?_
      refine gT_X11_owner dX11_loses_58 okT_1 rfl ?_
      refine J_iload_n (q := 1) dX11_loses_61 rfl rfl ?_
      obtain ⟨hg9, h⟩ := gd_some h
      refine aT_ld (j := 3) (n := 5) dX11_loses_62 okT_1 rfl (by decide) rfl hg9 ?_
      refine J_icmp_eq (tgt := 68) dX11_loses_63 (by decide) (fun c10 => ?_) (fun c10 => ?_)
      · replace h := it_some h c10
        refine J_aload_n (q := 0) dX11_loses_68 rfl rfl ?_
        refine gC_mind dX11_loses_69 ?_
        obtain ⟨r11, t12, hq15, h⟩ := bd2_some h
        refine kx_X11_194 hi okT_3 dX11_loses_72 hq15 hL (by decide) (Nat.le_of_ble_eq_true rfl) ?_
        refine J_tw (fun σ13 eσ13 => ?_)
        replace h := nm_some eσ13 h
        refine J_pop dX11_loses_75 rfl ?_
        refine J_iinc (q := 2) (v := (x2 + (1 : Int32))) (lv' := [(2, .int (x2 + (1 : Int32))), (0, .ref (ad 0)), (1, .int a1)]) dX11_loses_76 rfl (congrArg (fun z => x2 + z) ic_1) (by decide) rfl ?_
        refine J_tv (fun v14 ev14 => ?_)
        replace h := nm_some ev14 h
        refine J_goto (tgt := 39) dX11_loses_79 (by decide) ?_
        exact J_sub [1, 2, 0] rfl (ih _ _ h)
      · replace h := if_some h c10
        refine J_iload_n (q := 2) dX11_loses_66 rfl rfl ?_
        exact J_iret dX11_loses_67 (rt_i h) rfl
set_option maxRecDepth 20000 in
set_option maxHeartbeats 4000000 in
theorem C_loses_ok {E : Ec} {ad : Nat → Nat} {cy : Nat → ClassId} {rv : (Int32 × CS)} {σ : CS} {p1 : Int32} (hi : wl_inj (ΓC ad cy)) (hL : Lv E 5) (h : C_loses σ p1 = some rv) : Jw E (ΓC ad cy) RX11 cX11_loses 3 (some .int) (some (.int rv.1), rv.2) 0 [(0, .ref (ad 0)), (1, .int p1)] [] σ := by
  unfold C_loses at h
  refine J_iload_n (q := 1) dX11_loses_0 rfl rfl ?_
  obtain ⟨r1, hq16, h⟩ := bd_some h
  refine kx_X11_125 hi dX11_loses_1 hq16 hL (by decide) (Nat.le_of_ble_eq_true rfl) ?_
  refine J_if_ne (tgt := 9) dX11_loses_4 (by decide) (fun c2 => ?_) (fun c2 => ?_)
  · replace h := if_some h c2
    refine J_aload_n (q := 0) dX11_loses_9 rfl rfl ?_
    refine gC_now dX11_loses_10 ?_
    refine gT_X11_owner dX11_loses_13 okT_1 rfl ?_
    refine J_iload_n (q := 1) dX11_loses_16 rfl rfl ?_
    obtain ⟨hg3, h⟩ := gd_some h
    refine aT_ld (j := 3) (n := 5) dX11_loses_17 okT_1 rfl (by decide) rfl hg3 ?_
    refine J_bipush dX11_loses_18 bp_9 ?_
    refine J_icmp_ne (tgt := 26) dX11_loses_20 (by decide) (fun c4 => ?_) (fun c4 => ?_)
    · replace h := if_some h c4
      refine J_aload_n (q := 0) dX11_loses_26 rfl rfl ?_
      refine gC_mind dX11_loses_27 ?_
      refine J_aload_n (q := 0) dX11_loses_30 rfl rfl ?_
      refine gC_now dX11_loses_31 ?_
      obtain ⟨t5, hq17, h⟩ := bd_some h
      refine kx_X11_83 hi okT_3 okT_1 (by decide) dX11_loses_34 hq17 hL (by decide) (Nat.le_of_ble_eq_true rfl) ?_
      refine J_tw (fun σ6 eσ6 => ?_)
      replace h := nm_some eσ6 h
      refine J_iconst dX11_loses_37 ic_0 ?_
      refine J_istore_n (lv' := [(2, .int (0 : Int32)), (0, .ref (ad 0)), (1, .int p1)]) dX11_loses_38 rfl (by decide) rfl ?_
      refine J_sub [1, 2, 0] rfl (C_loses_L39_ok hi hL FU _ _ h)
    · replace h := it_some h c4
      refine J_bipush dX11_loses_23 bp_m4 ?_
      exact J_iret dX11_loses_25 (rt_i h) rfl
  · replace h := it_some h c2
    refine J_iconst dX11_loses_7 ic_m1 ?_
    exact J_iret dX11_loses_8 (rt_i h) rfl
set_option maxRecDepth 20000 in
set_option maxHeartbeats 4000000 in
theorem kX11_loses {l : Launch} {D : va_G} {ad : Nat → Nat} {cy : Nat → ClassId} {rv : (Int32 × CS)} {σ : CS} {p1 : Int32} (hi : wl_inj (ΓC ad cy)) (h : C_loses σ p1 = some rv) : Cn l D (ΓC ad cy) yX11_loses cX11_loses 3 (some .int) 5 [.ref (ad 0), .int p1] σ (some (.int rv.1), rv.2) :=
  Cn.of hi rfl (Nat.le_of_ble_eq_true rfl) (fun _ _ _ hL => C_loses_ok hi hL h)
theorem pdX11_lookAfter : (parseMethodDescriptor yX11_lookAfter.desc).map (fun d => d.parameters.length) = some 3 := by decide +kernel
set_option maxRecDepth 20000 in
set_option maxHeartbeats 4000000 in
theorem C_lookAfter_L40_ok {E : Ec} {ad : Nat → Nat} {cy : Nat → ClassId} {rv : (Int32 × CS)} {k122 : Int32 → Int32 → CS → Option (Int32 × CS)} {a1 : Int32} {a2 : Int32} {a3 : Int32} (hi : wl_inj (ΓC ad cy)) (hL : Lv E 6) (hk122 : ∀ (y4 : Int32) (y5 : Int32) (yw : CS), k122 y4 y5 yw = some rv → Jw E (ΓC ad cy) RX11 cX11_lookAfter 9 (some .int) (some (.int rv.1), rv.2) 122 [(3, .int a3), (4, .int y4), (5, .int y5)] [] yw) : ∀ (n : Nat) (σ : CS) (x4 : Int32) (x5 : Int32) (x6 : Int32), C_lookAfter_L40 k122 a1 a2 a3 n σ x4 x5 x6 = some rv → Jw E (ΓC ad cy) RX11 cX11_lookAfter 9 (some .int) (some (.int rv.1), rv.2) 40 [(0, .ref (ad 0)), (1, .int a1), (2, .int a2), (3, .int a3), (4, .int x4), (5, .int x5), (6, .int x6)] [] σ := by
  intro n
  induction n with
  | zero =>
    intro σ x4 x5 x6 h
    rw [C_lookAfter_L40] at h
    cases h
  | succ n ih =>
    intro σ x4 x5 x6 h
    rw [C_lookAfter_L40] at h
    refine J_iload (q := 6) dX11_lookAfter_40 rfl ?_
    refine J_iconst dX11_lookAfter_42 ic_5 ?_
    refine J_icmp_gt (tgt := 122) dX11_lookAfter_43 (by decide) (fun c7 => ?_) (fun c7 => ?_)
    · replace h := it_some h c7
      exact J_sub [3, 4, 5] rfl (hk122 _ _ _ h)
    · replace h := if_some h c7
      refine J_iload (q := 6) dX11_lookAfter_46 rfl ?_
      refine J_iconst dX11_lookAfter_48 ic_5 ?_
      obtain ⟨s9, ha59, h⟩ := bd_some h
      have K59 : Jw E (ΓC ad cy) RX11 cX11_lookAfter 9 (some .int) (some (.int rv.1), rv.2) 59 [(0, .ref (ad 0)), (1, .int a1), (2, .int a2), (3, .int a3), (4, .int x4), (5, .int x5), (6, .int x6)] [.int s9] σ := by
        clear ha59
        refine J_istore (lv' := [(7, .int s9), (0, .ref (ad 0)), (1, .int a1), (2, .int a2), (3, .int a3), (4, .int x4), (5, .int x5), (6, .int x6)]) dX11_lookAfter_59 (by decide) rfl ?_
        refine J_aload_n (q := 1) dX11_lookAfter_61 rfl rfl ?_
        refine gC_mind dX11_lookAfter_62 ?_
        refine J_aload_n (q := 1) dX11_lookAfter_65 rfl rfl ?_
        refine gC_now dX11_lookAfter_66 ?_
        obtain ⟨t10, hq21, h⟩ := bd_some h
        refine kx_X11_83 hi okT_3 okT_1 (by decide) dX11_lookAfter_69 hq21 hL (by decide) (Nat.le_of_ble_eq_true rfl) ?_
        refine J_tw (fun σ11 eσ11 => ?_)
        replace h := nm_some eσ11 h
        refine J_aload_n (q := 1) dX11_lookAfter_72 rfl rfl ?_
        refine gC_mind dX11_lookAfter_73 ?_
        refine gT_X11_caresFor dX11_lookAfter_76 okT_3 rfl ?_
        refine J_iload_n (q := 2) dX11_lookAfter_79 rfl rfl ?_
        refine J_iload (q := 0) dX11_lookAfter_80 rfl ?_
        obtain ⟨hg12, h⟩ := gd_some h
        refine aT_st (w' := (va_up σ11 3 (pA (σ11 3) 6 a1 s9))) (j := 6) (n := 7) dX11_lookAfter_82 okT_3 rfl vu_at (fun _ h9 => vu_ne h9) (by decide) rfl hg12 ?_
        refine J_tw (fun σ13 eσ13 => ?_)
        replace h := nm_some eσ13 h
        refine J_aload_n (q := 1) dX11_lookAfter_83 rfl rfl ?_
        refine gC_mind dX11_lookAfter_84 ?_
        refine J_iload_n (q := 3) dX11_lookAfter_87 rfl rfl ?_
        obtain ⟨t14, hq22, h⟩ := bd_some h
        refine kx_X11_198 hi okT_3 dX11_lookAfter_88 hq22 hL (by decide) (Nat.le_of_ble_eq_true rfl) ?_
        refine J_tw (fun σ15 eσ15 => ?_)
        replace h := nm_some eσ15 h
        refine J_aload_n (q := 1) dX11_lookAfter_91 rfl rfl ?_
        refine gC_mind dX11_lookAfter_92 ?_
        refine J_iload_n (q := 2) dX11_lookAfter_95 rfl rfl ?_
        obtain ⟨r16, hq23, h⟩ := bd_some h
        refine kx_X11_191 hi okT_3 dX11_lookAfter_96 hq23 hL (by decide) (Nat.le_of_ble_eq_true rfl) ?_
        refine J_istore (lv' := [(8, .int r16), (7, .int s9), (0, .ref (ad 0)), (1, .int a1), (2, .int a2), (3, .int a3), (4, .int x4), (5, .int x5), (6, .int x6)]) dX11_lookAfter_99 (by decide) rfl ?_
        refine J_iload (q := 0) dX11_lookAfter_101 rfl ?_
        refine J_iload (q := 6) dX11_lookAfter_103 rfl ?_
        obtain ⟨x4_18, x5_19, ha116, h⟩ := bd2_some h
        have K116 : Jw E (ΓC ad cy) RX11 cX11_lookAfter 9 (some .int) (some (.int rv.1), rv.2) 116 [(0, .ref (ad 0)), (1, .int a1), (2, .int a2), (3, .int a3), (4, .int x4_18), (5, .int x5_19), (6, .int x6)] [] σ15 := by
          clear ha116
          refine J_iinc (q := 6) (v := (x6 + (1 : Int32))) (lv' := [(6, .int (x6 + (1 : Int32))), (0, .ref (ad 0)), (1, .int a1), (2, .int a2), (3, .int a3), (4, .int x4_18), (5, .int x5_19)]) dX11_lookAfter_116 rfl (congrArg (fun z => x6 + z) ic_1) (by decide) rfl ?_
          refine J_tv (fun v20 ev20 => ?_)
          replace h := nm_some ev20 h
          refine J_goto (tgt := 40) dX11_lookAfter_119 (by decide) ?_
          exact J_sub [1, 2, 3, 4, 5, 6, 0] rfl (ih _ _ _ _ h)
        clear h
        refine J_icmp_le (tgt := 116) dX11_lookAfter_105 (by decide) (fun c17 => ?_) (fun c17 => ?_)
        · replace ha116 := it_some ha116 c17
          cases ha116
          exact J_sub [2, 3, 4, 5, 6, 7, 8] rfl (K116)
        · replace ha116 := if_some ha116 c17
          refine J_iload (q := 0) dX11_lookAfter_108 rfl ?_
          refine J_istore (lv' := [(4, .int r16), (8, .int r16), (7, .int s9), (0, .ref (ad 0)), (1, .int a1), (2, .int a2), (3, .int a3), (5, .int x5), (6, .int x6)]) dX11_lookAfter_110 (by decide) rfl ?_
          refine J_iload (q := 2) dX11_lookAfter_112 rfl ?_
          refine J_istore (lv' := [(5, .int s9), (4, .int r16), (8, .int r16), (7, .int s9), (0, .ref (ad 0)), (1, .int a1), (2, .int a2), (3, .int a3), (6, .int x6)]) dX11_lookAfter_114 (by decide) rfl ?_
          cases ha116
          exact J_sub [4, 5, 6, 7, 1, 0, 8] rfl (K116)
      clear h
      refine J_icmp_ge (tgt := 57) dX11_lookAfter_49 (by decide) (fun c8 => ?_) (fun c8 => ?_)
      · replace ha59 := it_some ha59 c8
        refine J_bipush dX11_lookAfter_57 bp_9 ?_
        cases ha59
        exact J_sub [0, 1, 2, 3, 4, 5, 6] rfl (K59)
      · replace ha59 := if_some ha59 c8
        refine J_iload (q := 6) dX11_lookAfter_52 rfl ?_
        refine J_goto (tgt := 59) dX11_lookAfter_54 (by decide) ?_
        cases ha59
        exact J_sub [0, 1, 2, 3, 4, 5, 6] rfl (K59)
set_option maxRecDepth 20000 in
set_option maxHeartbeats 4000000 in
theorem C_lookAfter_ok {E : Ec} {ad : Nat → Nat} {cy : Nat → ClassId} {rv : (Int32 × CS)} {σ : CS} {p1 : Int32} {p2 : Int32} {p3 : Int32} (hi : wl_inj (ΓC ad cy)) (hL : Lv E 6) (h : C_lookAfter σ p1 p2 p3 = some rv) : Jw E (ΓC ad cy) RX11 cX11_lookAfter 9 (some .int) (some (.int rv.1), rv.2) 0 [(0, .ref (ad 0)), (1, .int p1), (2, .int p2), (3, .int p3)] [] σ := by
  unfold C_lookAfter at h
  refine J_aload_n (q := 0) dX11_lookAfter_0 rfl rfl ?_
  refine gC_now dX11_lookAfter_1 ?_
  refine J_iload_n (q := 1) dX11_lookAfter_4 rfl rfl ?_
  obtain ⟨r1, hq28, h⟩ := bd_some h
  refine kx_X11_98 hi okT_1 dX11_lookAfter_5 hq28 hL (by decide) (Nat.le_of_ble_eq_true rfl) ?_
  refine J_if_eq (tgt := 28) dX11_lookAfter_8 (by decide) (fun c2 => ?_) (fun c2 => ?_)
  · replace h := it_some h c2
    refine J_iconst dX11_lookAfter_28 ic_m1 ?_
    exact J_iret dX11_lookAfter_29 (rt_i h) rfl
  · replace h := if_some h c2
    refine J_iload_n (q := 2) dX11_lookAfter_11 rfl rfl ?_
    refine J_bipush dX11_lookAfter_12 bp_60 ?_
    obtain ⟨r3, hq29, h⟩ := bd_some h
    refine kx_X11_102 hi dX11_lookAfter_14 hq29 hL (by decide) (Nat.le_of_ble_eq_true rfl) ?_
    refine J_if_eq (tgt := 28) dX11_lookAfter_17 (by decide) (fun c4 => ?_) (fun c4 => ?_)
    · replace h := it_some h c4
      refine J_iconst dX11_lookAfter_28 ic_m1 ?_
      exact J_iret dX11_lookAfter_29 (rt_i h) rfl
    · replace h := if_some h c4
      refine J_iload_n (q := 3) dX11_lookAfter_20 rfl rfl ?_
      refine J_iconst dX11_lookAfter_21 ic_1 ?_
      obtain ⟨r5, hq30, h⟩ := bd_some h
      refine kx_X11_102 hi dX11_lookAfter_22 hq30 hL (by decide) (Nat.le_of_ble_eq_true rfl) ?_
      refine J_if_ne (tgt := 30) dX11_lookAfter_25 (by decide) (fun c6 => ?_) (fun c6 => ?_)
      · replace h := if_some h c6
        refine J_iconst dX11_lookAfter_30 ic_m1 ?_
        refine J_istore (lv' := [(4, .int (-1 : Int32)), (0, .ref (ad 0)), (1, .int p1), (2, .int p2), (3, .int p3)]) dX11_lookAfter_31 (by decide) rfl ?_
        refine J_bipush dX11_lookAfter_33 bp_9 ?_
        refine J_istore (lv' := [(5, .int (9 : Int32)), (4, .int (-1 : Int32)), (0, .ref (ad 0)), (1, .int p1), (2, .int p2), (3, .int p3)]) dX11_lookAfter_35 (by decide) rfl ?_
        refine J_iconst dX11_lookAfter_37 ic_0 ?_
        refine J_istore (lv' := [(6, .int (0 : Int32)), (5, .int (9 : Int32)), (4, .int (-1 : Int32)), (0, .ref (ad 0)), (1, .int p1), (2, .int p2), (3, .int p3)]) dX11_lookAfter_38 (by decide) rfl ?_
        refine J_sub [3, 4, 5, 6, 2, 1, 0] rfl (C_lookAfter_L40_ok hi hL (fun x4_24 x5_25 σ26 h => ?_) FU _ _ _ _ h)
        refine J_iload_n (q := 0) dX11_lookAfter_122 rfl rfl ?_
        refine J_if_ne (tgt := 131) dX11_lookAfter_123 (by decide) (fun c27 => ?_) (fun c27 => ?_)
        · replace h := if_some h c27
          refine J_iload (q := 1) dX11_lookAfter_131 rfl ?_
          exact J_iret dX11_lookAfter_133 (rt_i h) rfl
        · replace h := it_some h c27
          refine J_iload (q := 2) dX11_lookAfter_126 rfl ?_
          refine J_goto (tgt := 133) dX11_lookAfter_128 (by decide) ?_
          exact J_iret dX11_lookAfter_133 (rt_i h) rfl
      · replace h := it_some h c6
        refine J_iconst dX11_lookAfter_28 ic_m1 ?_
        exact J_iret dX11_lookAfter_29 (rt_i h) rfl
set_option maxRecDepth 20000 in
set_option maxHeartbeats 4000000 in
theorem kX11_lookAfter {l : Launch} {D : va_G} {ad : Nat → Nat} {cy : Nat → ClassId} {rv : (Int32 × CS)} {σ : CS} {p1 : Int32} {p2 : Int32} {p3 : Int32} (hi : wl_inj (ΓC ad cy)) (h : C_lookAfter σ p1 p2 p3 = some rv) : Cn l D (ΓC ad cy) yX11_lookAfter cX11_lookAfter 9 (some .int) 6 [.ref (ad 0), .int p1, .int p2, .int p3] σ (some (.int rv.1), rv.2) :=
  Cn.of hi rfl (Nat.le_of_ble_eq_true rfl) (fun _ _ _ hL => C_lookAfter_ok hi hL h)
theorem pdX11_win : (parseMethodDescriptor yX11_win.desc).map (fun d => d.parameters.length) = some 2 := by decide +kernel
theorem kx_X11_201 {E : Ec} {ad : Nat → Nat} {cy : Nat → ClassId} {cc : ByteArray} {nL : Nat} {rt : Option FieldType} {r : Option Value × CS} {pc : Nat} {lv : List (Nat × Value)} {st : List Value} {w : CS} {n : Nat} {x y : Int32} (hd : decode cc pc = .ok (.invokestatic 201, 3)) (hL : Lv E n) (hn : 0 + 1 ≤ n) (hW : (st.map fun v => v.category).sum ≤ 8) (k : Jw E (ΓC ad cy) RX11 cc nL rt r (pc + 3) lv (.int (max32 x y) :: st) w) : Jw E (ΓC ad cy) RX11 cc nL rt r pc lv (.int y :: .int x :: st) w :=
  J_max hd tw_3_26 tw_1_231 tw_1_15 tw_1_232 hL hn hW k
theorem kx_X11_206 {E : Ec} {ad : Nat → Nat} {cy : Nat → ClassId} {cc : ByteArray} {nL : Nat} {rt : Option FieldType} {r : Option Value × CS} {pc : Nat} {lv : List (Nat × Value)} {st : List Value} {σ : CS} {n a : Nat} {p1 : Int32} {p2 : Int32} {p3 : Int32} {v : Int32} (hi : wl_inj (ΓC ad cy)) (ha : okT a) (hd : decode cc pc = .ok (.invokevirtual 206, 3)) (hq : T_taleWith (σ a) p1 p2 p3 = some v) (hL : Lv E n) (hn : 3 + 1 ≤ n) (hW : (st.map fun v => v.category).sum ≤ 8) (k : Jw E (ΓC ad cy) RX11 cc nL rt r (pc + 3) lv (.int v :: st) σ) : Jw E (ΓC ad cy) RX11 cc nL rt r pc lv (.int p3 :: .int p2 :: .int p1 :: .ref (ad (8 * a + 2)) :: st) σ := by
  have hM := fun (l : Launch) (D : va_G) => kX10_taleWith (l := l) (D := D) (ad := ad) (cy := cy) (σ := σ) hi ha hq
  simp only [vu_self] at hM
  exact J_callV (Γ := ΓC ad cy) (h := 8 * a + 2) (ci := 9) (av := [.int p1, .int p2, .int p3]) (q := (some (.int v), σ)) (st := st) hd (hM _ _) tw_3_27 tw_2_182 tw_1_10 tw_2_184 tw_2_183 ⟨by decide, by decide, pdX10_taleWith⟩ (hT (j := 0) ha (by decide)) (cC_t0 ha rfl) rfl rfl rfl (by decide) hL hn hW k
set_option maxRecDepth 20000 in
set_option maxHeartbeats 4000000 in
theorem C_win_L25_ok {E : Ec} {ad : Nat → Nat} {cy : Nat → ClassId} {rv : Int32} {k64 : Int32 → Option Int32} {σ : CS} {a1 : Int32} {a2 : Int32} (hi : wl_inj (ΓC ad cy)) (hL : Lv E 5) (hk64 : ∀ (y3 : Int32), k64 y3 = some rv → Jw E (ΓC ad cy) RX11 cX11_win 7 (some .int) (some (.int rv), σ) 64 [(0, .ref (ad 0)), (1, .int a1), (2, .int a2), (3, .int y3)] [] σ) : ∀ (n : Nat) (x3 : Int32) (x4 : Int32), C_win_L25 k64 σ a1 a2 n x3 x4 = some rv → Jw E (ΓC ad cy) RX11 cX11_win 7 (some .int) (some (.int rv), σ) 25 [(0, .ref (ad 0)), (1, .int a1), (2, .int a2), (3, .int x3), (4, .int x4)] [] σ := by
  intro n
  induction n with
  | zero =>
    intro x3 x4 h
    rw [C_win_L25] at h
    cases h
  | succ n ih =>
    intro x3 x4 h
    rw [C_win_L25] at h
    refine J_iload (q := 4) dX11_win_25 rfl ?_
    refine J_aload_n (q := 0) dX11_win_27 rfl rfl ?_
    refine gC_now dX11_win_28 ?_
    refine gT_X11_people dX11_win_31 okT_1 rfl ?_
    refine J_icmp_ge (tgt := 64) dX11_win_34 (by decide) (fun c5 => ?_) (fun c5 => ?_)
    · replace h := it_some h c5
      exact J_sub [0, 1, 2, 3] rfl (hk64 _ h)
    · replace h := if_some h c5
      refine J_iload (q := 4) dX11_win_37 rfl ?_
      refine J_iload_n (q := 1) dX11_win_39 rfl rfl ?_
      obtain ⟨x3_9, ha58, h⟩ := bd_some h
      have K58 : Jw E (ΓC ad cy) RX11 cX11_win 7 (some .int) (some (.int rv), σ) 58 [(0, .ref (ad 0)), (1, .int a1), (2, .int a2), (3, .int x3_9), (4, .int x4)] [] σ := by
        clear ha58
        refine J_iinc (q := 4) (v := (x4 + (1 : Int32))) (lv' := [(4, .int (x4 + (1 : Int32))), (0, .ref (ad 0)), (1, .int a1), (2, .int a2), (3, .int x3_9)]) dX11_win_58 rfl (congrArg (fun z => x4 + z) ic_1) (by decide) rfl ?_
        refine J_tv (fun v10 ev10 => ?_)
        replace h := nm_some ev10 h
        refine J_goto (tgt := 25) dX11_win_61 (by decide) ?_
        exact J_sub [1, 2, 3, 4, 0] rfl (ih _ _ h)
      clear h
      refine J_icmp_eq (tgt := 58) dX11_win_40 (by decide) (fun c6 => ?_) (fun c6 => ?_)
      · replace ha58 := it_some ha58 c6
        cases ha58
        exact J_sub [0, 1, 2, 3, 4] rfl (K58)
      · replace ha58 := if_some ha58 c6
        refine J_iload_n (q := 3) dX11_win_43 rfl rfl ?_
        refine J_aload_n (q := 0) dX11_win_44 rfl rfl ?_
        refine gC_now dX11_win_45 ?_
        refine J_iload (q := 4) dX11_win_48 rfl ?_
        refine J_iload_n (q := 2) dX11_win_50 rfl rfl ?_
        obtain ⟨r7, hq11, ha58⟩ := bd_some ha58
        refine kx_X11_143 hi okT_1 dX11_win_51 hq11 hL (by decide) (Nat.le_of_ble_eq_true rfl) ?_
        refine kx_X11_201 dX11_win_54 hL (by decide) (Nat.le_of_ble_eq_true rfl) ?_
        refine J_ti (fun v8 ev8 => ?_)
        replace ha58 := nm_some ev8 ha58
        refine J_istore_n (lv' := [(3, .int v8), (0, .ref (ad 0)), (1, .int a1), (2, .int a2), (4, .int x4)]) dX11_win_57 rfl (by decide) rfl ?_
        cases ha58
        exact J_sub [1, 2, 3, 0, 4] rfl (K58)
set_option maxRecDepth 20000 in
set_option maxHeartbeats 4000000 in
theorem C_win_L82_ok {E : Ec} {ad : Nat → Nat} {cy : Nat → ClassId} {rv : Int32} {σ : CS} {a1 : Int32} {a2 : Int32} {a3 : Int32} (hi : wl_inj (ΓC ad cy)) (hL : Lv E 5) : ∀ (n : Nat) (x4 : Int32) (x5 : Int32), C_win_L82 σ a1 a2 a3 n x4 x5 = some rv → Jw E (ΓC ad cy) RX11 cX11_win 7 (some .int) (some (.int rv), σ) 82 [(0, .ref (ad 0)), (1, .int a1), (2, .int a2), (3, .int a3), (4, .int x4), (5, .int x5)] [] σ := by
  intro n
  induction n with
  | zero =>
    intro x4 x5 h
    rw [C_win_L82] at h
    cases h
  | succ n ih =>
    intro x4 x5 h
    rw [C_win_L82] at h
    refine J_iload (q := 5) dX11_win_82 rfl ?_
    refine J_bipush dX11_win_84 bp_12 ?_
    refine J_icmp_gt (tgt := 148) dX11_win_86 (by decide) (fun c15 => ?_) (fun c15 => ?_)
    · replace h := it_some h c15
      refine J_bipush dX11_win_148 bp_m4 ?_
      exact J_iret dX11_win_150 (rt_pi h) rfl
    · replace h := if_some h c15
      refine J_aload_n (q := 0) dX11_win_89 rfl rfl ?_
      refine gC_now dX11_win_90 ?_
      refine J_iload_n (q := 1) dX11_win_93 rfl rfl ?_
      refine J_iload_n (q := 2) dX11_win_94 rfl rfl ?_
      refine J_iload (q := 4) dX11_win_95 rfl ?_
      obtain ⟨r16, hq23, h⟩ := bd_some h
      refine kx_X11_206 hi okT_1 dX11_win_97 hq23 hL (by decide) (Nat.le_of_ble_eq_true rfl) ?_
      refine J_iload_n (q := 3) dX11_win_100 rfl rfl ?_
      refine J_icmp_le (tgt := 107) dX11_win_101 (by decide) (fun c17 => ?_) (fun c17 => ?_)
      · replace h := it_some h c17
        refine J_aload_n (q := 0) dX11_win_107 rfl rfl ?_
        refine gC_now dX11_win_108 ?_
        refine gT_X11_truth dX11_win_111 okT_1 rfl ?_
        refine J_iload_n (q := 2) dX11_win_114 rfl rfl ?_
        obtain ⟨hg18, h⟩ := gd_some h
        refine aT_ld (j := 1) (n := 5) dX11_win_115 okT_1 rfl (by decide) rfl hg18 ?_
        refine J_iload (q := 4) dX11_win_116 rfl ?_
        refine J_iconst dX11_win_118 ic_m1 ?_
        refine J_ixor dX11_win_119 ?_
        refine J_iand dX11_win_120 ?_
        refine J_ti (fun v19 ev19 => ?_)
        replace h := nm_some ev19 h
        refine J_istore (lv' := [(6, .int v19), (0, .ref (ad 0)), (1, .int a1), (2, .int a2), (3, .int a3), (4, .int x4), (5, .int x5)]) dX11_win_121 (by decide) rfl ?_
        refine J_iload (q := 0) dX11_win_123 rfl ?_
        refine J_if_ne (tgt := 131) dX11_win_125 (by decide) (fun c20 => ?_) (fun c20 => ?_)
        · replace h := if_some h c20
          refine J_iload (q := 5) dX11_win_131 rfl ?_
          refine J_iload (q := 0) dX11_win_133 rfl ?_
          refine J_iload (q := 0) dX11_win_135 rfl ?_
          refine J_ineg dX11_win_137 ?_
          refine J_iand dX11_win_138 ?_
          refine J_ior dX11_win_139 ?_
          refine J_ti (fun v21 ev21 => ?_)
          replace h := nm_some ev21 h
          refine J_istore (lv' := [(4, .int v21), (6, .int v19), (0, .ref (ad 0)), (1, .int a1), (2, .int a2), (3, .int a3), (5, .int x5)]) dX11_win_140 (by decide) rfl ?_
          refine J_iinc (q := 6) (v := (x5 + (1 : Int32))) (lv' := [(5, .int (x5 + (1 : Int32))), (4, .int v21), (6, .int v19), (0, .ref (ad 0)), (1, .int a1), (2, .int a2), (3, .int a3)]) dX11_win_142 rfl (congrArg (fun z => x5 + z) ic_1) (by decide) rfl ?_
          refine J_tv (fun v22 ev22 => ?_)
          replace h := nm_some ev22 h
          refine J_goto (tgt := 82) dX11_win_145 (by decide) ?_
          exact J_sub [3, 4, 5, 6, 1, 0] rfl (ih _ _ h)
        · replace h := it_some h c20
          refine J_bipush dX11_win_128 bp_m4 ?_
          exact J_iret dX11_win_130 (rt_pi h) rfl
      · replace h := if_some h c17
        refine J_iload (q := 5) dX11_win_104 rfl ?_
        exact J_iret dX11_win_106 (rt_pi h) rfl
set_option maxRecDepth 20000 in
set_option maxHeartbeats 4000000 in
theorem C_win_ok {E : Ec} {ad : Nat → Nat} {cy : Nat → ClassId} {rv : Int32} {σ : CS} {p1 : Int32} {p2 : Int32} (hi : wl_inj (ΓC ad cy)) (hL : Lv E 5) (h : C_win σ p1 p2 = some rv) : Jw E (ΓC ad cy) RX11 cX11_win 7 (some .int) (some (.int rv), σ) 0 [(0, .ref (ad 0)), (1, .int p1), (2, .int p2)] [] σ := by
  unfold C_win at h
  refine J_aload_n (q := 0) dX11_win_0 rfl rfl ?_
  refine gC_now dX11_win_1 ?_
  refine J_iload_n (q := 1) dX11_win_4 rfl rfl ?_
  obtain ⟨r1, hq24, h⟩ := bd_some h
  refine kx_X11_98 hi okT_1 dX11_win_5 hq24 hL (by decide) (Nat.le_of_ble_eq_true rfl) ?_
  refine J_if_eq (tgt := 18) dX11_win_8 (by decide) (fun c2 => ?_) (fun c2 => ?_)
  · replace h := it_some h c2
    refine J_iconst dX11_win_18 ic_m1 ?_
    exact J_iret dX11_win_19 (rt_pi h) rfl
  · replace h := if_some h c2
    refine J_iload_n (q := 2) dX11_win_11 rfl rfl ?_
    obtain ⟨r3, hq25, h⟩ := bd_some h
    refine kx_X11_125 hi dX11_win_12 hq25 hL (by decide) (Nat.le_of_ble_eq_true rfl) ?_
    refine J_if_ne (tgt := 20) dX11_win_15 (by decide) (fun c4 => ?_) (fun c4 => ?_)
    · replace h := if_some h c4
      refine J_iconst dX11_win_20 ic_0 ?_
      refine J_istore_n (lv' := [(3, .int (0 : Int32)), (0, .ref (ad 0)), (1, .int p1), (2, .int p2)]) dX11_win_21 rfl (by decide) rfl ?_
      refine J_iconst dX11_win_22 ic_0 ?_
      refine J_istore (lv' := [(4, .int (0 : Int32)), (3, .int (0 : Int32)), (0, .ref (ad 0)), (1, .int p1), (2, .int p2)]) dX11_win_23 (by decide) rfl ?_
      refine J_sub [2, 3, 4, 1, 0] rfl (C_win_L25_ok hi hL (fun x3_12 h => ?_) FU _ _ h)
      refine J_aload_n (q := 0) dX11_win_64 rfl rfl ?_
      refine gC_now dX11_win_65 ?_
      refine gT_X11_knows dX11_win_68 okT_1 rfl ?_
      refine J_iload_n (q := 1) dX11_win_71 rfl rfl ?_
      refine J_iconst dX11_win_72 ic_5 ?_
      refine J_imul dX11_win_73 ?_
      refine J_iload_n (q := 2) dX11_win_74 rfl rfl ?_
      refine J_iadd dX11_win_75 ?_
      obtain ⟨hg13, h⟩ := gd_some h
      refine aT_ld (j := 7) (n := 35) dX11_win_76 okT_1 rfl (by decide) rfl hg13 ?_
      refine J_ti (fun v14 ev14 => ?_)
      replace h := nm_some ev14 h
      refine J_istore (lv' := [(4, .int v14), (0, .ref (ad 0)), (1, .int p1), (2, .int p2), (3, .int x3_12)]) dX11_win_77 (by decide) rfl ?_
      refine J_iconst dX11_win_79 ic_0 ?_
      refine J_istore (lv' := [(5, .int (0 : Int32)), (4, .int v14), (0, .ref (ad 0)), (1, .int p1), (2, .int p2), (3, .int x3_12)]) dX11_win_80 (by decide) rfl ?_
      refine J_sub [2, 3, 4, 5, 1, 0] rfl (C_win_L82_ok hi hL FU _ _ h)
    · replace h := it_some h c4
      refine J_iconst dX11_win_18 ic_m1 ?_
      exact J_iret dX11_win_19 (rt_pi h) rfl
set_option maxRecDepth 20000 in
set_option maxHeartbeats 4000000 in
theorem kX11_win {l : Launch} {D : va_G} {ad : Nat → Nat} {cy : Nat → ClassId} {rv : Int32} {σ : CS} {p1 : Int32} {p2 : Int32} (hi : wl_inj (ΓC ad cy)) (h : C_win σ p1 p2 = some rv) : Cn l D (ΓC ad cy) yX11_win cX11_win 7 (some .int) 5 [.ref (ad 0), .int p1, .int p2] σ (some (.int rv), σ) :=
  Cn.of hi rfl (Nat.le_of_ble_eq_true rfl) (fun _ _ _ hL => C_win_ok hi hL h)
theorem pdX11_ask : (parseMethodDescriptor yX11_ask.desc).map (fun d => d.parameters.length) = some 2 := by decide +kernel
set_option maxRecDepth 20000 in
set_option maxHeartbeats 4000000 in
theorem C_ask_L37_ok {E : Ec} {ad : Nat → Nat} {cy : Nat → ClassId} {rv : Int32} {σ : CS} {a1 : Int32} {a2 : Int32} (hi : wl_inj (ΓC ad cy)) (hL : Lv E 5) : ∀ (n : Nat) (x3 : Int32) (x4 : Int32) (x5 : Int32), C_ask_L37 σ a1 a2 n x3 x4 x5 = some rv → Jw E (ΓC ad cy) RX11 cX11_ask 7 (some .int) (some (.int rv), σ) 37 [(0, .ref (ad 0)), (1, .int a1), (2, .int a2), (3, .int x3), (4, .int x4), (5, .int x5)] [] σ := by
  intro n
  induction n with
  | zero =>
    intro x3 x4 x5 h
    rw [C_ask_L37] at h
    cases h
  | succ n ih =>
    intro x3 x4 x5 h
    rw [C_ask_L37] at h
    refine J_iload (q := 5) dX11_ask_37 rfl ?_
    refine J_aload_n (q := 0) dX11_ask_39 rfl rfl ?_
    refine gC_now dX11_ask_40 ?_
    refine gT_X11_people dX11_ask_43 okT_1 rfl ?_
    refine J_icmp_ge (tgt := 107) dX11_ask_46 (by decide) (fun c6 => ?_) (fun c6 => ?_)
    · replace h := it_some h c6
      refine J_iload (q := 4) dX11_ask_107 rfl ?_
      exact J_iret dX11_ask_109 (rt_pi h) rfl
    · replace h := if_some h c6
      refine J_aload_n (q := 0) dX11_ask_49 rfl rfl ?_
      refine gC_now dX11_ask_50 ?_
      refine J_iload_n (q := 1) dX11_ask_53 rfl rfl ?_
      refine J_iload_n (q := 2) dX11_ask_54 rfl rfl ?_
      refine J_aload_n (q := 0) dX11_ask_55 rfl rfl ?_
      refine gC_now dX11_ask_56 ?_
      refine gT_X11_knows dX11_ask_59 okT_1 rfl ?_
      refine J_iload_n (q := 1) dX11_ask_62 rfl rfl ?_
      refine J_iconst dX11_ask_63 ic_5 ?_
      refine J_imul dX11_ask_64 ?_
      refine J_iload_n (q := 2) dX11_ask_65 rfl rfl ?_
      refine J_iadd dX11_ask_66 ?_
      obtain ⟨hg7, h⟩ := gd_some h
      refine aT_ld (j := 7) (n := 35) dX11_ask_67 okT_1 rfl (by decide) rfl hg7 ?_
      refine J_aload_n (q := 0) dX11_ask_68 rfl rfl ?_
      refine gC_now dX11_ask_69 ?_
      refine gT_X11_knows dX11_ask_72 okT_1 rfl ?_
      refine J_iload (q := 5) dX11_ask_75 rfl ?_
      refine J_iconst dX11_ask_77 ic_5 ?_
      refine J_imul dX11_ask_78 ?_
      refine J_iload_n (q := 2) dX11_ask_79 rfl rfl ?_
      refine J_iadd dX11_ask_80 ?_
      obtain ⟨hg8, h⟩ := gd_some h
      refine aT_ld (j := 7) (n := 35) dX11_ask_81 okT_1 rfl (by decide) rfl hg8 ?_
      refine J_ior dX11_ask_82 ?_
      obtain ⟨r9, hq14, h⟩ := bd_some h
      refine kx_X11_206 hi okT_1 dX11_ask_83 hq14 hL (by decide) (Nat.le_of_ble_eq_true rfl) ?_
      refine J_istore (lv' := [(6, .int r9), (0, .ref (ad 0)), (1, .int a1), (2, .int a2), (3, .int x3), (4, .int x4), (5, .int x5)]) dX11_ask_86 (by decide) rfl ?_
      refine J_iload (q := 0) dX11_ask_88 rfl ?_
      refine J_iload_n (q := 4) dX11_ask_90 rfl rfl ?_
      obtain ⟨x3_11, x4_12, ha101, h⟩ := bd2_some h
      have K101 : Jw E (ΓC ad cy) RX11 cX11_ask 7 (some .int) (some (.int rv), σ) 101 [(0, .ref (ad 0)), (1, .int a1), (2, .int a2), (3, .int x3_11), (4, .int x4_12), (5, .int x5)] [] σ := by
        clear ha101
        refine J_iinc (q := 5) (v := (x5 + (1 : Int32))) (lv' := [(5, .int (x5 + (1 : Int32))), (0, .ref (ad 0)), (1, .int a1), (2, .int a2), (3, .int x3_11), (4, .int x4_12)]) dX11_ask_101 rfl (congrArg (fun z => x5 + z) ic_1) (by decide) rfl ?_
        refine J_tv (fun v13 ev13 => ?_)
        replace h := nm_some ev13 h
        refine J_goto (tgt := 37) dX11_ask_104 (by decide) ?_
        exact J_sub [1, 2, 3, 4, 5, 0] rfl (ih _ _ _ h)
      clear h
      refine J_icmp_le (tgt := 101) dX11_ask_91 (by decide) (fun c10 => ?_) (fun c10 => ?_)
      · replace ha101 := it_some ha101 c10
        cases ha101
        exact J_sub [1, 2, 3, 4, 5, 6] rfl (K101)
      · replace ha101 := if_some ha101 c10
        refine J_iload (q := 0) dX11_ask_94 rfl ?_
        refine J_istore_n (lv' := [(3, .int r9), (6, .int r9), (0, .ref (ad 0)), (1, .int a1), (2, .int a2), (4, .int x4), (5, .int x5)]) dX11_ask_96 rfl (by decide) rfl ?_
        refine J_iload (q := 6) dX11_ask_97 rfl ?_
        refine J_istore (lv' := [(4, .int x5), (3, .int r9), (6, .int r9), (0, .ref (ad 0)), (1, .int a1), (2, .int a2), (5, .int x5)]) dX11_ask_99 (by decide) rfl ?_
        cases ha101
        exact J_sub [3, 4, 5, 1, 0, 6] rfl (K101)
set_option maxRecDepth 20000 in
set_option maxHeartbeats 4000000 in
theorem C_ask_ok {E : Ec} {ad : Nat → Nat} {cy : Nat → ClassId} {rv : Int32} {σ : CS} {p1 : Int32} {p2 : Int32} (hi : wl_inj (ΓC ad cy)) (hL : Lv E 5) (h : C_ask σ p1 p2 = some rv) : Jw E (ΓC ad cy) RX11 cX11_ask 7 (some .int) (some (.int rv), σ) 0 [(0, .ref (ad 0)), (1, .int p1), (2, .int p2)] [] σ := by
  unfold C_ask at h
  refine J_aload_n (q := 0) dX11_ask_0 rfl rfl ?_
  refine gC_now dX11_ask_1 ?_
  refine J_iload_n (q := 1) dX11_ask_4 rfl rfl ?_
  obtain ⟨r1, hq15, h⟩ := bd_some h
  refine kx_X11_98 hi okT_1 dX11_ask_5 hq15 hL (by decide) (Nat.le_of_ble_eq_true rfl) ?_
  refine J_if_eq (tgt := 18) dX11_ask_8 (by decide) (fun c2 => ?_) (fun c2 => ?_)
  · replace h := it_some h c2
    refine J_iconst dX11_ask_18 ic_m1 ?_
    exact J_iret dX11_ask_19 (rt_pi h) rfl
  · replace h := if_some h c2
    refine J_iload_n (q := 2) dX11_ask_11 rfl rfl ?_
    obtain ⟨r3, hq16, h⟩ := bd_some h
    refine kx_X11_125 hi dX11_ask_12 hq16 hL (by decide) (Nat.le_of_ble_eq_true rfl) ?_
    refine J_if_ne (tgt := 20) dX11_ask_15 (by decide) (fun c4 => ?_) (fun c4 => ?_)
    · replace h := if_some h c4
      refine J_aload_n (q := 0) dX11_ask_20 rfl rfl ?_
      refine gC_now dX11_ask_21 ?_
      refine J_iload_n (q := 1) dX11_ask_24 rfl rfl ?_
      refine J_iload_n (q := 2) dX11_ask_25 rfl rfl ?_
      obtain ⟨r5, hq17, h⟩ := bd_some h
      refine kx_X11_143 hi okT_1 dX11_ask_26 hq17 hL (by decide) (Nat.le_of_ble_eq_true rfl) ?_
      refine J_istore_n (lv' := [(3, .int r5), (0, .ref (ad 0)), (1, .int p1), (2, .int p2)]) dX11_ask_29 rfl (by decide) rfl ?_
      refine J_bipush dX11_ask_30 bp_m4 ?_
      refine J_istore (lv' := [(4, .int (-4 : Int32)), (3, .int r5), (0, .ref (ad 0)), (1, .int p1), (2, .int p2)]) dX11_ask_32 (by decide) rfl ?_
      refine J_iconst dX11_ask_34 ic_0 ?_
      refine J_istore (lv' := [(5, .int (0 : Int32)), (4, .int (-4 : Int32)), (3, .int r5), (0, .ref (ad 0)), (1, .int p1), (2, .int p2)]) dX11_ask_35 (by decide) rfl ?_
      refine J_sub [3, 4, 5, 2, 1, 0] rfl (C_ask_L37_ok hi hL FU _ _ _ h)
    · replace h := it_some h c4
      refine J_iconst dX11_ask_18 ic_m1 ?_
      exact J_iret dX11_ask_19 (rt_pi h) rfl
set_option maxRecDepth 20000 in
set_option maxHeartbeats 4000000 in
theorem kX11_ask {l : Launch} {D : va_G} {ad : Nat → Nat} {cy : Nat → ClassId} {rv : Int32} {σ : CS} {p1 : Int32} {p2 : Int32} (hi : wl_inj (ΓC ad cy)) (h : C_ask σ p1 p2 = some rv) : Cn l D (ΓC ad cy) yX11_ask cX11_ask 7 (some .int) 5 [.ref (ad 0), .int p1, .int p2] σ (some (.int rv), σ) :=
  Cn.of hi rfl (Nat.le_of_ble_eq_true rfl) (fun _ _ _ hL => C_ask_ok hi hL h)
theorem pdX11_noteStories : (parseMethodDescriptor yX11_noteStories.desc).map (fun d => d.parameters.length) = some 0 := by decide +kernel
set_option maxRecDepth 20000 in
set_option maxHeartbeats 4000000 in
theorem C_noteStories_L15_ok {E : Ec} {ad : Nat → Nat} {cy : Nat → ClassId} {rv : CS} {k45 : CS → Option CS} {a1 : Int32} (hi : wl_inj (ΓC ad cy)) (hL : Lv E 5) (hk45 : ∀ (yw : CS), k45 yw = some rv → Jw E (ΓC ad cy) RX11 cX11_noteStories 3 none (none, rv) 45 [(0, .ref (ad 0)), (1, .int a1)] [] yw) : ∀ (n : Nat) (σ : CS) (x2 : Int32), C_noteStories_L15 k45 a1 n σ x2 = some rv → Jw E (ΓC ad cy) RX11 cX11_noteStories 3 none (none, rv) 15 [(0, .ref (ad 0)), (1, .int a1), (2, .int x2)] [] σ := by
  intro n
  induction n with
  | zero =>
    intro σ x2 h
    rw [C_noteStories_L15] at h
    cases h
  | succ n ih =>
    intro σ x2 h
    rw [C_noteStories_L15] at h
    refine J_iload_n (q := 2) dX11_noteStories_15 rfl rfl ?_
    refine J_iconst dX11_noteStories_16 ic_5 ?_
    refine J_icmp_ge (tgt := 45) dX11_noteStories_17 (by decide) (fun c2 => ?_) (fun c2 => ?_)
    · replace h := it_some h c2
      exact J_sub [0, 1] rfl (hk45 _ h)
    · replace h := if_some h c2
      refine J_aload_n (q := 0) dX11_noteStories_20 rfl rfl ?_
      refine gC_stories dX11_noteStories_21 ?_
      refine J_iload_n (q := 1) dX11_noteStories_24 rfl rfl ?_
      refine J_iconst dX11_noteStories_25 ic_5 ?_
      refine J_imul dX11_noteStories_26 ?_
      refine J_iload_n (q := 2) dX11_noteStories_27 rfl rfl ?_
      refine J_iadd dX11_noteStories_28 ?_
      refine J_aload_n (q := 0) dX11_noteStories_29 rfl rfl ?_
      refine gC_now dX11_noteStories_30 ?_
      refine J_iload_n (q := 1) dX11_noteStories_33 rfl rfl ?_
      refine J_iload_n (q := 2) dX11_noteStories_34 rfl rfl ?_
      obtain ⟨r3, hq7, h⟩ := bd_some h
      refine kx_X11_143 hi okT_1 dX11_noteStories_35 hq7 hL (by decide) (Nat.le_of_ble_eq_true rfl) ?_
      obtain ⟨hg4, h⟩ := gd_some h
      refine aC_st (j := 2) (n := 35) dX11_noteStories_38 rfl (by decide) rfl hg4 ?_
      refine J_tw (fun σ5 eσ5 => ?_)
      replace h := nm_some eσ5 h
      refine J_iinc (q := 2) (v := (x2 + (1 : Int32))) (lv' := [(2, .int (x2 + (1 : Int32))), (0, .ref (ad 0)), (1, .int a1)]) dX11_noteStories_39 rfl (congrArg (fun z => x2 + z) ic_1) (by decide) rfl ?_
      refine J_tv (fun v6 ev6 => ?_)
      replace h := nm_some ev6 h
      refine J_goto (tgt := 15) dX11_noteStories_42 (by decide) ?_
      exact J_sub [1, 2, 0] rfl (ih _ _ h)
set_option maxRecDepth 20000 in
set_option maxHeartbeats 4000000 in
theorem C_noteStories_L2_ok {E : Ec} {ad : Nat → Nat} {cy : Nat → ClassId} {rv : CS} (hi : wl_inj (ΓC ad cy)) (hL : Lv E 5) : ∀ (n : Nat) (σ : CS) (x1 : Int32), C_noteStories_L2 n σ x1 = some rv → Jw E (ΓC ad cy) RX11 cX11_noteStories 3 none (none, rv) 2 [(0, .ref (ad 0)), (1, .int x1)] [] σ := by
  intro n
  induction n with
  | zero =>
    intro σ x1 h
    rw [C_noteStories_L2] at h
    cases h
  | succ n ih =>
    intro σ x1 h
    rw [C_noteStories_L2] at h
    refine J_iload_n (q := 1) dX11_noteStories_2 rfl rfl ?_
    refine J_aload_n (q := 0) dX11_noteStories_3 rfl rfl ?_
    refine gC_now dX11_noteStories_4 ?_
    refine gT_X11_people dX11_noteStories_7 okT_1 rfl ?_
    refine J_icmp_ge (tgt := 51) dX11_noteStories_10 (by decide) (fun c1 => ?_) (fun c1 => ?_)
    · replace h := it_some h c1
      exact J_vret dX11_noteStories_51 (rt_v h) rfl
    · replace h := if_some h c1
      refine J_iconst dX11_noteStories_13 ic_0 ?_
      refine J_istore_n (lv' := [(2, .int (0 : Int32)), (0, .ref (ad 0)), (1, .int x1)]) dX11_noteStories_14 rfl (by decide) rfl ?_
      refine J_sub [1, 2, 0] rfl (C_noteStories_L15_ok hi hL (fun σ8 h => ?_) FU _ _ h)
      refine J_iinc (q := 1) (v := (x1 + (1 : Int32))) (lv' := [(1, .int (x1 + (1 : Int32))), (0, .ref (ad 0))]) dX11_noteStories_45 rfl (congrArg (fun z => x1 + z) ic_1) (by decide) rfl ?_
      refine J_tv (fun v9 ev9 => ?_)
      replace h := nm_some ev9 h
      refine J_goto (tgt := 2) dX11_noteStories_48 (by decide) ?_
      exact J_sub [1, 0] rfl (ih _ _ h)
set_option maxRecDepth 20000 in
set_option maxHeartbeats 4000000 in
theorem C_noteStories_ok {E : Ec} {ad : Nat → Nat} {cy : Nat → ClassId} {rv : CS} {σ : CS} (hi : wl_inj (ΓC ad cy)) (hL : Lv E 5) (h : C_noteStories σ = some rv) : Jw E (ΓC ad cy) RX11 cX11_noteStories 3 none (none, rv) 0 [(0, .ref (ad 0))] [] σ := by
  unfold C_noteStories at h
  refine J_iconst dX11_noteStories_0 ic_0 ?_
  refine J_istore_n (lv' := [(1, .int (0 : Int32)), (0, .ref (ad 0))]) dX11_noteStories_1 rfl (by decide) rfl ?_
  refine J_sub [1, 0] rfl (C_noteStories_L2_ok hi hL FU _ _ h)
set_option maxRecDepth 20000 in
set_option maxHeartbeats 4000000 in
theorem kX11_noteStories {l : Launch} {D : va_G} {ad : Nat → Nat} {cy : Nat → ClassId} {rv : CS} {σ : CS} (hi : wl_inj (ΓC ad cy)) (h : C_noteStories σ = some rv) : Cn l D (ΓC ad cy) yX11_noteStories cX11_noteStories 3 none 5 [.ref (ad 0)] σ (none, rv) :=
  Cn.of hi rfl (Nat.le_of_ble_eq_true rfl) (fun _ _ _ hL => C_noteStories_ok hi hL h)
theorem pdX11_mostWith : (parseMethodDescriptor yX11_mostWith.desc).map (fun d => d.parameters.length) = some 3 := by decide +kernel
set_option maxRecDepth 20000 in
set_option maxHeartbeats 4000000 in
theorem C_mostWith_ok {E : Ec} {ad : Nat → Nat} {cy : Nat → ClassId} {rv : Int32} {σ : CS} {p1 : Int32} {p2 : Int32} {p3 : Int32} (hi : wl_inj (ΓC ad cy)) (hL : Lv E 0) (h : C_mostWith σ p1 p2 p3 = some rv) : Jw E (ΓC ad cy) RX11 cX11_mostWith 4 (some .int) (some (.int rv), σ) 0 [(0, .ref (ad 0)), (1, .int p1), (2, .int p2), (3, .int p3)] [] σ := by
  unfold C_mostWith at h
  refine J_aload_n (q := 0) dX11_mostWith_0 rfl rfl ?_
  refine gC_stories dX11_mostWith_1 ?_
  refine J_iload_n (q := 1) dX11_mostWith_4 rfl rfl ?_
  refine J_iconst dX11_mostWith_5 ic_5 ?_
  refine J_imul dX11_mostWith_6 ?_
  refine J_iload_n (q := 2) dX11_mostWith_7 rfl rfl ?_
  refine J_iadd dX11_mostWith_8 ?_
  obtain ⟨hg1, h⟩ := gd_some h
  refine aC_ld (j := 2) (n := 35) dX11_mostWith_9 rfl (by decide) rfl hg1 ?_
  refine J_aload_n (q := 0) dX11_mostWith_10 rfl rfl ?_
  refine gC_most dX11_mostWith_11 ?_
  refine J_iload_n (q := 2) dX11_mostWith_14 rfl rfl ?_
  refine J_iconst dX11_mostWith_15 ic_1 ?_
  refine J_iadd dX11_mostWith_16 ?_
  refine J_sipush dX11_mostWith_17 sp_128 ?_
  refine J_imul dX11_mostWith_20 ?_
  refine J_iload_n (q := 3) dX11_mostWith_21 rfl rfl ?_
  refine J_iconst dX11_mostWith_22 ic_1 ?_
  refine J_iload_n (q := 1) dX11_mostWith_23 rfl rfl ?_
  refine J_ishl dX11_mostWith_24 ?_
  refine J_ior dX11_mostWith_25 ?_
  refine J_iadd dX11_mostWith_26 ?_
  obtain ⟨hg2, h⟩ := gd_some h
  refine aC_ld (j := 1) (n := 768) dX11_mostWith_27 rfl (by decide) rfl hg2 ?_
  refine J_iadd dX11_mostWith_28 ?_
  exact J_iret dX11_mostWith_29 (rt_pi h) rfl
set_option maxRecDepth 20000 in
set_option maxHeartbeats 4000000 in
theorem kX11_mostWith {l : Launch} {D : va_G} {ad : Nat → Nat} {cy : Nat → ClassId} {rv : Int32} {σ : CS} {p1 : Int32} {p2 : Int32} {p3 : Int32} (hi : wl_inj (ΓC ad cy)) (h : C_mostWith σ p1 p2 p3 = some rv) : Cn l D (ΓC ad cy) yX11_mostWith cX11_mostWith 4 (some .int) 0 [.ref (ad 0), .int p1, .int p2, .int p3] σ (some (.int rv), σ) :=
  Cn.of hi rfl (Nat.le_of_ble_eq_true rfl) (fun _ _ _ hL => C_mostWith_ok hi hL h)
theorem pdX11_weighCrowds : (parseMethodDescriptor yX11_weighCrowds.desc).map (fun d => d.parameters.length) = some 0 := by decide +kernel
theorem kx_X11_321 {E : Ec} {ad : Nat → Nat} {cy : Nat → ClassId} {cc : ByteArray} {nL : Nat} {rt : Option FieldType} {r : Option Value × CS} {pc : Nat} {lv : List (Nat × Value)} {st : List Value} {σ : CS} {n : Nat} {p1 : Int32} {p2 : Int32} {p3 : Int32} {v : Int32} (hi : wl_inj (ΓC ad cy)) (hd : decode cc pc = .ok (.invokevirtual 321, 3)) (hq : C_mostWith σ p1 p2 p3 = some v) (hL : Lv E n) (hn : 0 + 1 ≤ n) (hW : (st.map fun v => v.category).sum ≤ 8) (k : Jw E (ΓC ad cy) RX11 cc nL rt r (pc + 3) lv (.int v :: st) σ) : Jw E (ΓC ad cy) RX11 cc nL rt r pc lv (.int p3 :: .int p2 :: .int p1 :: .ref (ad 0) :: st) σ :=
  J_callV (Γ := ΓC ad cy) (h := 0) (ci := 10) (av := [.int p1, .int p2, .int p3]) (q := (some (.int v), σ)) (st := st) hd (kX11_mostWith hi hq) tw_3_44 tw_3_46 tw_1_1 tw_3_47 sl_1_9 ⟨by decide, by decide, pdX11_mostWith⟩ (by show 0 < 111; decide) rfl rfl rfl rfl (by decide) hL hn hW k
set_option maxRecDepth 20000 in
set_option maxHeartbeats 4000000 in
theorem C_weighCrowds_L12_ok {E : Ec} {ad : Nat → Nat} {cy : Nat → ClassId} {rv : CS} {k34 : CS → Option CS} {a1 : Int32} (hi : wl_inj (ΓC ad cy)) (hL : Lv E 1) (hk34 : ∀ (yw : CS), k34 yw = some rv → Jw E (ΓC ad cy) RX11 cX11_weighCrowds 6 none (none, rv) 34 [(0, .ref (ad 0)), (1, .int a1)] [] yw) : ∀ (n : Nat) (σ : CS) (x2 : Int32), C_weighCrowds_L12 k34 a1 n σ x2 = some rv → Jw E (ΓC ad cy) RX11 cX11_weighCrowds 6 none (none, rv) 12 [(0, .ref (ad 0)), (1, .int a1), (2, .int x2)] [] σ := by
  intro n
  induction n with
  | zero =>
    intro σ x2 h
    rw [C_weighCrowds_L12] at h
    cases h
  | succ n ih =>
    intro σ x2 h
    rw [C_weighCrowds_L12] at h
    refine J_iload_n (q := 2) dX11_weighCrowds_12 rfl rfl ?_
    refine J_iload_n (q := 1) dX11_weighCrowds_13 rfl rfl ?_
    refine J_icmp_ge (tgt := 34) dX11_weighCrowds_14 (by decide) (fun c2 => ?_) (fun c2 => ?_)
    · replace h := it_some h c2
      exact J_sub [0, 1] rfl (hk34 _ h)
    · replace h := if_some h c2
      refine J_aload_n (q := 0) dX11_weighCrowds_17 rfl rfl ?_
      refine gC_most dX11_weighCrowds_18 ?_
      refine J_sipush dX11_weighCrowds_21 sp_640 ?_
      refine J_iload_n (q := 2) dX11_weighCrowds_24 rfl rfl ?_
      refine J_iadd dX11_weighCrowds_25 ?_
      refine J_iconst dX11_weighCrowds_26 ic_0 ?_
      obtain ⟨hg3, h⟩ := gd_some h
      refine aC_st (j := 1) (n := 768) dX11_weighCrowds_27 rfl (by decide) rfl hg3 ?_
      refine J_tw (fun σ4 eσ4 => ?_)
      replace h := nm_some eσ4 h
      refine J_iinc (q := 2) (v := (x2 + (1 : Int32))) (lv' := [(2, .int (x2 + (1 : Int32))), (0, .ref (ad 0)), (1, .int a1)]) dX11_weighCrowds_28 rfl (congrArg (fun z => x2 + z) ic_1) (by decide) rfl ?_
      refine J_tv (fun v5 ev5 => ?_)
      replace h := nm_some ev5 h
      refine J_goto (tgt := 12) dX11_weighCrowds_31 (by decide) ?_
      exact J_sub [1, 2, 0] rfl (ih _ _ h)
set_option maxRecDepth 20000 in
set_option maxHeartbeats 4000000 in
theorem C_weighCrowds_L66_ok {E : Ec} {ad : Nat → Nat} {cy : Nat → ClassId} {rv : CS} {k108 : Int32 → Option CS} {σ : CS} {a1 : Int32} {a2 : Int32} {a3 : Int32} (hi : wl_inj (ΓC ad cy)) (hL : Lv E 1) (hk108 : ∀ (y4 : Int32), k108 y4 = some rv → Jw E (ΓC ad cy) RX11 cX11_weighCrowds 6 none (none, rv) 108 [(0, .ref (ad 0)), (1, .int a1), (2, .int a2), (3, .int a3), (4, .int y4)] [] σ) : ∀ (n : Nat) (x4 : Int32) (x5 : Int32), C_weighCrowds_L66 k108 σ a1 a2 a3 n x4 x5 = some rv → Jw E (ΓC ad cy) RX11 cX11_weighCrowds 6 none (none, rv) 66 [(0, .ref (ad 0)), (1, .int a1), (2, .int a2), (3, .int a3), (4, .int x4), (5, .int x5)] [] σ := by
  intro n
  induction n with
  | zero =>
    intro x4 x5 h
    rw [C_weighCrowds_L66] at h
    cases h
  | succ n ih =>
    intro x4 x5 h
    rw [C_weighCrowds_L66] at h
    refine J_iload (q := 5) dX11_weighCrowds_66 rfl ?_
    refine J_aload_n (q := 0) dX11_weighCrowds_68 rfl rfl ?_
    refine gC_now dX11_weighCrowds_69 ?_
    refine gT_X11_people dX11_weighCrowds_72 okT_1 rfl ?_
    refine J_icmp_ge (tgt := 108) dX11_weighCrowds_75 (by decide) (fun c11 => ?_) (fun c11 => ?_)
    · replace h := it_some h c11
      exact J_sub [0, 1, 2, 3, 4] rfl (hk108 _ h)
    · replace h := if_some h c11
      refine J_iload_n (q := 3) dX11_weighCrowds_78 rfl rfl ?_
      refine J_iload (q := 5) dX11_weighCrowds_79 rfl ?_
      refine J_ishr dX11_weighCrowds_81 ?_
      refine J_iconst dX11_weighCrowds_82 ic_1 ?_
      refine J_iand dX11_weighCrowds_83 ?_
      obtain ⟨x4_15, ha102, h⟩ := bd_some h
      have K102 : Jw E (ΓC ad cy) RX11 cX11_weighCrowds 6 none (none, rv) 102 [(0, .ref (ad 0)), (1, .int a1), (2, .int a2), (3, .int a3), (4, .int x4_15), (5, .int x5)] [] σ := by
        clear ha102
        refine J_iinc (q := 5) (v := (x5 + (1 : Int32))) (lv' := [(5, .int (x5 + (1 : Int32))), (0, .ref (ad 0)), (1, .int a1), (2, .int a2), (3, .int a3), (4, .int x4_15)]) dX11_weighCrowds_102 rfl (congrArg (fun z => x5 + z) ic_1) (by decide) rfl ?_
        refine J_tv (fun v16 ev16 => ?_)
        replace h := nm_some ev16 h
        refine J_goto (tgt := 66) dX11_weighCrowds_105 (by decide) ?_
        exact J_sub [1, 2, 3, 4, 5, 0] rfl (ih _ _ h)
      clear h
      refine J_if_ne (tgt := 102) dX11_weighCrowds_84 (by decide) (fun c12 => ?_) (fun c12 => ?_)
      · replace ha102 := if_some ha102 c12
        cases ha102
        exact J_sub [0, 1, 2, 3, 4, 5] rfl (K102)
      · replace ha102 := it_some ha102 c12
        refine J_iload (q := 4) dX11_weighCrowds_87 rfl ?_
        refine J_aload_n (q := 0) dX11_weighCrowds_89 rfl rfl ?_
        refine J_iload (q := 5) dX11_weighCrowds_90 rfl ?_
        refine J_iload_n (q := 2) dX11_weighCrowds_92 rfl rfl ?_
        refine J_iload_n (q := 3) dX11_weighCrowds_93 rfl rfl ?_
        obtain ⟨r13, hq17, ha102⟩ := bd_some ha102
        refine kx_X11_321 hi dX11_weighCrowds_94 hq17 hL (by decide) (Nat.le_of_ble_eq_true rfl) ?_
        refine kx_X11_201 dX11_weighCrowds_97 hL (by decide) (Nat.le_of_ble_eq_true rfl) ?_
        refine J_ti (fun v14 ev14 => ?_)
        replace ha102 := nm_some ev14 ha102
        refine J_istore (lv' := [(4, .int v14), (0, .ref (ad 0)), (1, .int a1), (2, .int a2), (3, .int a3), (5, .int x5)]) dX11_weighCrowds_100 (by decide) rfl ?_
        cases ha102
        exact J_sub [1, 2, 3, 4, 0, 5] rfl (K102)
set_option maxRecDepth 20000 in
set_option maxHeartbeats 4000000 in
theorem C_weighCrowds_L42_ok {E : Ec} {ad : Nat → Nat} {cy : Nat → ClassId} {rv : CS} {k128 : CS → Option CS} {a1 : Int32} {a2 : Int32} (hi : wl_inj (ΓC ad cy)) (hL : Lv E 1) (hk128 : ∀ (yw : CS), k128 yw = some rv → Jw E (ΓC ad cy) RX11 cX11_weighCrowds 6 none (none, rv) 128 [(0, .ref (ad 0)), (1, .int a1), (2, .int a2)] [] yw) : ∀ (n : Nat) (σ : CS) (x3 : Int32), C_weighCrowds_L42 k128 a1 a2 n σ x3 = some rv → Jw E (ΓC ad cy) RX11 cX11_weighCrowds 6 none (none, rv) 42 [(0, .ref (ad 0)), (1, .int a1), (2, .int a2), (3, .int x3)] [] σ := by
  intro n
  induction n with
  | zero =>
    intro σ x3 h
    rw [C_weighCrowds_L42] at h
    cases h
  | succ n ih =>
    intro σ x3 h
    rw [C_weighCrowds_L42] at h
    refine J_iload_n (q := 3) dX11_weighCrowds_42 rfl rfl ?_
    refine J_iload_n (q := 1) dX11_weighCrowds_43 rfl rfl ?_
    refine J_icmp_ge (tgt := 128) dX11_weighCrowds_44 (by decide) (fun c8 => ?_) (fun c8 => ?_)
    · replace h := it_some h c8
      exact J_sub [0, 1, 2] rfl (hk128 _ h)
    · replace h := if_some h c8
      refine J_aload_n (q := 0) dX11_weighCrowds_47 rfl rfl ?_
      refine gC_most dX11_weighCrowds_48 ?_
      refine J_iload_n (q := 2) dX11_weighCrowds_51 rfl rfl ?_
      refine J_iconst dX11_weighCrowds_52 ic_1 ?_
      refine J_iadd dX11_weighCrowds_53 ?_
      refine J_sipush dX11_weighCrowds_54 sp_128 ?_
      refine J_imul dX11_weighCrowds_57 ?_
      refine J_iload_n (q := 3) dX11_weighCrowds_58 rfl rfl ?_
      refine J_iadd dX11_weighCrowds_59 ?_
      obtain ⟨hg9, h⟩ := gd_some h
      refine aC_ld (j := 1) (n := 768) dX11_weighCrowds_60 rfl (by decide) rfl hg9 ?_
      refine J_ti (fun v10 ev10 => ?_)
      replace h := nm_some ev10 h
      refine J_istore (lv' := [(4, .int v10), (0, .ref (ad 0)), (1, .int a1), (2, .int a2), (3, .int x3)]) dX11_weighCrowds_61 (by decide) rfl ?_
      refine J_iconst dX11_weighCrowds_63 ic_0 ?_
      refine J_istore (lv' := [(5, .int (0 : Int32)), (4, .int v10), (0, .ref (ad 0)), (1, .int a1), (2, .int a2), (3, .int x3)]) dX11_weighCrowds_64 (by decide) rfl ?_
      refine J_sub [2, 3, 4, 5, 1, 0] rfl (C_weighCrowds_L66_ok hi hL (fun x4_18 h => ?_) FU _ _ h)
      refine J_aload_n (q := 0) dX11_weighCrowds_108 rfl rfl ?_
      refine gC_most dX11_weighCrowds_109 ?_
      refine J_iload_n (q := 2) dX11_weighCrowds_112 rfl rfl ?_
      refine J_sipush dX11_weighCrowds_113 sp_128 ?_
      refine J_imul dX11_weighCrowds_116 ?_
      refine J_iload_n (q := 3) dX11_weighCrowds_117 rfl rfl ?_
      refine J_iadd dX11_weighCrowds_118 ?_
      refine J_iload (q := 4) dX11_weighCrowds_119 rfl ?_
      obtain ⟨hg19, h⟩ := gd_some h
      refine aC_st (j := 1) (n := 768) dX11_weighCrowds_121 rfl (by decide) rfl hg19 ?_
      refine J_tw (fun σ20 eσ20 => ?_)
      replace h := nm_some eσ20 h
      refine J_iinc (q := 3) (v := (x3 + (1 : Int32))) (lv' := [(3, .int (x3 + (1 : Int32))), (0, .ref (ad 0)), (1, .int a1), (2, .int a2), (4, .int x4_18)]) dX11_weighCrowds_122 rfl (congrArg (fun z => x3 + z) ic_1) (by decide) rfl ?_
      refine J_tv (fun v21 ev21 => ?_)
      replace h := nm_some ev21 h
      refine J_goto (tgt := 42) dX11_weighCrowds_125 (by decide) ?_
      exact J_sub [1, 2, 3, 0] rfl (ih _ _ h)
set_option maxRecDepth 20000 in
set_option maxHeartbeats 4000000 in
theorem C_weighCrowds_L36_ok {E : Ec} {ad : Nat → Nat} {cy : Nat → ClassId} {rv : CS} {a1 : Int32} (hi : wl_inj (ΓC ad cy)) (hL : Lv E 1) : ∀ (n : Nat) (σ : CS) (x2 : Int32), C_weighCrowds_L36 a1 n σ x2 = some rv → Jw E (ΓC ad cy) RX11 cX11_weighCrowds 6 none (none, rv) 36 [(0, .ref (ad 0)), (1, .int a1), (2, .int x2)] [] σ := by
  intro n
  induction n with
  | zero =>
    intro σ x2 h
    rw [C_weighCrowds_L36] at h
    cases h
  | succ n ih =>
    intro σ x2 h
    rw [C_weighCrowds_L36] at h
    refine J_iload_n (q := 2) dX11_weighCrowds_36 rfl rfl ?_
    refine J_if_lt (tgt := 134) dX11_weighCrowds_37 (by decide) (fun c7 => ?_) (fun c7 => ?_)
    · replace h := it_some h c7
      exact J_vret dX11_weighCrowds_134 (rt_v h) rfl
    · replace h := if_some h c7
      refine J_iconst dX11_weighCrowds_40 ic_0 ?_
      refine J_istore_n (lv' := [(3, .int (0 : Int32)), (0, .ref (ad 0)), (1, .int a1), (2, .int x2)]) dX11_weighCrowds_41 rfl (by decide) rfl ?_
      refine J_sub [1, 2, 3, 0] rfl (C_weighCrowds_L42_ok hi hL (fun σ22 h => ?_) FU _ _ h)
      refine J_iinc (q := 2) (v := (x2 + (-1 : Int32))) (lv' := [(2, .int (x2 + (-1 : Int32))), (0, .ref (ad 0)), (1, .int a1)]) dX11_weighCrowds_128 rfl (congrArg (fun z => x2 + z) ic_m1) (by decide) rfl ?_
      refine J_tv (fun v23 ev23 => ?_)
      replace h := nm_some ev23 h
      refine J_goto (tgt := 36) dX11_weighCrowds_131 (by decide) ?_
      exact J_sub [1, 2, 0] rfl (ih _ _ h)
set_option maxRecDepth 20000 in
set_option maxHeartbeats 4000000 in
theorem C_weighCrowds_ok {E : Ec} {ad : Nat → Nat} {cy : Nat → ClassId} {rv : CS} {σ : CS} (hi : wl_inj (ΓC ad cy)) (hL : Lv E 1) (h : C_weighCrowds σ = some rv) : Jw E (ΓC ad cy) RX11 cX11_weighCrowds 6 none (none, rv) 0 [(0, .ref (ad 0))] [] σ := by
  unfold C_weighCrowds at h
  refine J_iconst dX11_weighCrowds_0 ic_1 ?_
  refine J_aload_n (q := 0) dX11_weighCrowds_1 rfl rfl ?_
  refine gC_now dX11_weighCrowds_2 ?_
  refine gT_X11_people dX11_weighCrowds_5 okT_1 rfl ?_
  refine J_ishl dX11_weighCrowds_8 ?_
  refine J_ti (fun v1 ev1 => ?_)
  replace h := nm_some ev1 h
  refine J_istore_n (lv' := [(1, .int v1), (0, .ref (ad 0))]) dX11_weighCrowds_9 rfl (by decide) rfl ?_
  refine J_iconst dX11_weighCrowds_10 ic_0 ?_
  refine J_istore_n (lv' := [(2, .int (0 : Int32)), (1, .int v1), (0, .ref (ad 0))]) dX11_weighCrowds_11 rfl (by decide) rfl ?_
  refine J_sub [2, 1, 0] rfl (C_weighCrowds_L12_ok hi hL (fun σ6 h => ?_) FU _ _ h)
  refine J_iconst dX11_weighCrowds_34 ic_4 ?_
  refine J_istore_n (lv' := [(2, .int (4 : Int32)), (0, .ref (ad 0)), (1, .int v1)]) dX11_weighCrowds_35 rfl (by decide) rfl ?_
  refine J_sub [1, 2, 0] rfl (C_weighCrowds_L36_ok hi hL FU _ _ h)
set_option maxRecDepth 20000 in
set_option maxHeartbeats 4000000 in
theorem kX11_weighCrowds {l : Launch} {D : va_G} {ad : Nat → Nat} {cy : Nat → ClassId} {rv : CS} {σ : CS} (hi : wl_inj (ΓC ad cy)) (h : C_weighCrowds σ = some rv) : Cn l D (ΓC ad cy) yX11_weighCrowds cX11_weighCrowds 6 none 1 [.ref (ad 0)] σ (none, rv) :=
  Cn.of hi rfl (Nat.le_of_ble_eq_true rfl) (fun _ _ _ hL => C_weighCrowds_ok hi hL h)
theorem pdX11_firstCarer : (parseMethodDescriptor yX11_firstCarer.desc).map (fun d => d.parameters.length) = some 2 := by decide +kernel
set_option maxRecDepth 20000 in
set_option maxHeartbeats 4000000 in
theorem C_firstCarer_L2_ok {E : Ec} {ad : Nat → Nat} {cy : Nat → ClassId} {rv : Int32} {σ : CS} {a1 : Int32} {a2 : Int32} (hi : wl_inj (ΓC ad cy)) (hL : Lv E 1) : ∀ (n : Nat) (x3 : Int32), C_firstCarer_L2 σ a1 a2 n x3 = some rv → Jw E (ΓC ad cy) RX11 cX11_firstCarer 4 (some .int) (some (.int rv), σ) 2 [(0, .ref (ad 0)), (1, .int a1), (2, .int a2), (3, .int x3)] [] σ := by
  intro n
  induction n with
  | zero =>
    intro x3 h
    rw [C_firstCarer_L2] at h
    cases h
  | succ n ih =>
    intro x3 h
    rw [C_firstCarer_L2] at h
    refine J_iload_n (q := 3) dX11_firstCarer_2 rfl rfl ?_
    refine J_aload_n (q := 0) dX11_firstCarer_3 rfl rfl ?_
    refine gC_now dX11_firstCarer_4 ?_
    refine gT_X11_people dX11_firstCarer_7 okT_1 rfl ?_
    refine J_icmp_ge (tgt := 51) dX11_firstCarer_10 (by decide) (fun c1 => ?_) (fun c1 => ?_)
    · replace h := it_some h c1
      refine J_bipush dX11_firstCarer_51 bp_9 ?_
      exact J_iret dX11_firstCarer_53 (rt_pi h) rfl
    · replace h := if_some h c1
      refine J_iload_n (q := 2) dX11_firstCarer_13 rfl rfl ?_
      refine J_iload_n (q := 3) dX11_firstCarer_14 rfl rfl ?_
      refine J_ishr dX11_firstCarer_15 ?_
      refine J_iconst dX11_firstCarer_16 ic_1 ?_
      refine J_iand dX11_firstCarer_17 ?_
      obtain ⟨kk45, ekk45, h⟩ := jn_some h
      have K45 : kk45 = some rv → Jw E (ΓC ad cy) RX11 cX11_firstCarer 4 (some .int) (some (.int rv), σ) 45 [(0, .ref (ad 0)), (1, .int a1), (2, .int a2), (3, .int x3)] [] σ := by
        subst ekk45
        clear h
        intro h
        refine J_iinc (q := 3) (v := (x3 + (1 : Int32))) (lv' := [(3, .int (x3 + (1 : Int32))), (0, .ref (ad 0)), (1, .int a1), (2, .int a2)]) dX11_firstCarer_45 rfl (congrArg (fun z => x3 + z) ic_1) (by decide) rfl ?_
        refine J_tv (fun v6 ev6 => ?_)
        replace h := nm_some ev6 h
        refine J_goto (tgt := 2) dX11_firstCarer_48 (by decide) ?_
        exact J_sub [1, 2, 3, 0] rfl (ih _ h)
      clear ekk45
      refine J_if_ne (tgt := 45) dX11_firstCarer_18 (by decide) (fun c2 => ?_) (fun c2 => ?_)
      · replace h := if_some h c2
        exact J_sub [0, 1, 2, 3] rfl (K45 h)
      · replace h := it_some h c2
        refine J_aload_n (q := 0) dX11_firstCarer_21 rfl rfl ?_
        refine J_iload_n (q := 3) dX11_firstCarer_22 rfl rfl ?_
        refine J_iload_n (q := 1) dX11_firstCarer_23 rfl rfl ?_
        refine J_iload_n (q := 2) dX11_firstCarer_24 rfl rfl ?_
        obtain ⟨r3, hq7, h⟩ := bd_some h
        refine kx_X11_321 hi dX11_firstCarer_25 hq7 hL (by decide) (Nat.le_of_ble_eq_true rfl) ?_
        refine J_aload_n (q := 0) dX11_firstCarer_28 rfl rfl ?_
        refine gC_most dX11_firstCarer_29 ?_
        refine J_iload_n (q := 1) dX11_firstCarer_32 rfl rfl ?_
        refine J_sipush dX11_firstCarer_33 sp_128 ?_
        refine J_imul dX11_firstCarer_36 ?_
        refine J_iload_n (q := 2) dX11_firstCarer_37 rfl rfl ?_
        refine J_iadd dX11_firstCarer_38 ?_
        obtain ⟨hg4, h⟩ := gd_some h
        refine aC_ld (j := 1) (n := 768) dX11_firstCarer_39 rfl (by decide) rfl hg4 ?_
        refine J_icmp_ne (tgt := 45) dX11_firstCarer_40 (by decide) (fun c5 => ?_) (fun c5 => ?_)
        · replace h := if_some h c5
          exact J_sub [0, 1, 2, 3] rfl (K45 h)
        · replace h := it_some h c5
          refine J_iload_n (q := 3) dX11_firstCarer_43 rfl rfl ?_
          exact J_iret dX11_firstCarer_44 (rt_pi h) rfl
set_option maxRecDepth 20000 in
set_option maxHeartbeats 4000000 in
theorem C_firstCarer_ok {E : Ec} {ad : Nat → Nat} {cy : Nat → ClassId} {rv : Int32} {σ : CS} {p1 : Int32} {p2 : Int32} (hi : wl_inj (ΓC ad cy)) (hL : Lv E 1) (h : C_firstCarer σ p1 p2 = some rv) : Jw E (ΓC ad cy) RX11 cX11_firstCarer 4 (some .int) (some (.int rv), σ) 0 [(0, .ref (ad 0)), (1, .int p1), (2, .int p2)] [] σ := by
  unfold C_firstCarer at h
  refine J_iconst dX11_firstCarer_0 ic_0 ?_
  refine J_istore_n (lv' := [(3, .int (0 : Int32)), (0, .ref (ad 0)), (1, .int p1), (2, .int p2)]) dX11_firstCarer_1 rfl (by decide) rfl ?_
  refine J_sub [1, 2, 3, 0] rfl (C_firstCarer_L2_ok hi hL FU _ h)
set_option maxRecDepth 20000 in
set_option maxHeartbeats 4000000 in
theorem kX11_firstCarer {l : Launch} {D : va_G} {ad : Nat → Nat} {cy : Nat → ClassId} {rv : Int32} {σ : CS} {p1 : Int32} {p2 : Int32} (hi : wl_inj (ΓC ad cy)) (h : C_firstCarer σ p1 p2 = some rv) : Cn l D (ΓC ad cy) yX11_firstCarer cX11_firstCarer 4 (some .int) 1 [.ref (ad 0), .int p1, .int p2] σ (some (.int rv), σ) :=
  Cn.of hi rfl (Nat.le_of_ble_eq_true rfl) (fun _ _ _ hL => C_firstCarer_ok hi hL h)
theorem pdX11_care : (parseMethodDescriptor yX11_care.desc).map (fun d => d.parameters.length) = some 1 := by decide +kernel
theorem kx_X11_210 {E : Ec} {ad : Nat → Nat} {cy : Nat → ClassId} {cc : ByteArray} {nL : Nat} {rt : Option FieldType} {r : Option Value × CS} {pc : Nat} {lv : List (Nat × Value)} {st : List Value} {σ : CS} {n : Nat} {σ' : CS} (hi : wl_inj (ΓC ad cy)) (hd : decode cc pc = .ok (.invokevirtual 210, 3)) (hq : C_noteStories σ = some σ') (hL : Lv E n) (hn : 5 + 1 ≤ n) (hW : (st.map fun v => v.category).sum ≤ 8) (k : Jw E (ΓC ad cy) RX11 cc nL rt r (pc + 3) lv (st) σ') : Jw E (ΓC ad cy) RX11 cc nL rt r pc lv (.ref (ad 0) :: st) σ :=
  J_callV (Γ := ΓC ad cy) (h := 0) (ci := 10) (av := []) (q := (none, σ')) (st := st) hd (kX11_noteStories hi hq) tw_3_36 tw_3_38 tw_1_1 tw_3_39 sl_1_7 ⟨by decide, by decide, pdX11_noteStories⟩ (by show 0 < 111; decide) rfl rfl rfl rfl (by decide) hL hn hW k
theorem kx_X11_213 {E : Ec} {ad : Nat → Nat} {cy : Nat → ClassId} {cc : ByteArray} {nL : Nat} {rt : Option FieldType} {r : Option Value × CS} {pc : Nat} {lv : List (Nat × Value)} {st : List Value} {σ : CS} {n : Nat} {σ' : CS} (hi : wl_inj (ΓC ad cy)) (hd : decode cc pc = .ok (.invokevirtual 213, 3)) (hq : C_weighCrowds σ = some σ') (hL : Lv E n) (hn : 1 + 1 ≤ n) (hW : (st.map fun v => v.category).sum ≤ 8) (k : Jw E (ΓC ad cy) RX11 cc nL rt r (pc + 3) lv (st) σ') : Jw E (ΓC ad cy) RX11 cc nL rt r pc lv (.ref (ad 0) :: st) σ :=
  J_callV (Γ := ΓC ad cy) (h := 0) (ci := 10) (av := []) (q := (none, σ')) (st := st) hd (kX11_weighCrowds hi hq) tw_3_40 tw_3_42 tw_1_1 tw_3_43 sl_1_8 ⟨by decide, by decide, pdX11_weighCrowds⟩ (by show 0 < 111; decide) rfl rfl rfl rfl (by decide) hL hn hW k
theorem kx_X11_216 {E : Ec} {ad : Nat → Nat} {cy : Nat → ClassId} {cc : ByteArray} {nL : Nat} {rt : Option FieldType} {r : Option Value × CS} {pc : Nat} {lv : List (Nat × Value)} {st : List Value} {σ : CS} {n : Nat} {p1 : Int32} {p2 : Int32} {v : Int32} (hi : wl_inj (ΓC ad cy)) (hd : decode cc pc = .ok (.invokevirtual 216, 3)) (hq : C_firstCarer σ p1 p2 = some v) (hL : Lv E n) (hn : 1 + 1 ≤ n) (hW : (st.map fun v => v.category).sum ≤ 8) (k : Jw E (ΓC ad cy) RX11 cc nL rt r (pc + 3) lv (.int v :: st) σ) : Jw E (ΓC ad cy) RX11 cc nL rt r pc lv (.int p2 :: .int p1 :: .ref (ad 0) :: st) σ :=
  J_callV (Γ := ΓC ad cy) (h := 0) (ci := 10) (av := [.int p1, .int p2]) (q := (some (.int v), σ)) (st := st) hd (kX11_firstCarer hi hq) tw_3_48 tw_3_50 tw_1_1 tw_3_51 sl_1_10 ⟨by decide, by decide, pdX11_firstCarer⟩ (by show 0 < 111; decide) rfl rfl rfl rfl (by decide) hL hn hW k
set_option maxRecDepth 20000 in
set_option maxHeartbeats 4000000 in
theorem C_care_L39_ok {E : Ec} {ad : Nat → Nat} {cy : Nat → ClassId} {rv : (Int32 × CS)} {k71 : Int32 → Option (Int32 × CS)} {σ : CS} {a1 : Int32} (hi : wl_inj (ΓC ad cy)) (hL : Lv E 6) (hk71 : ∀ (y3 : Int32), k71 y3 = some rv → Jw E (ΓC ad cy) RX11 cX11_care 5 (some .int) (some (.int rv.1), rv.2) 71 [(3, .int y3)] [] σ) : ∀ (n : Nat) (x2 : Int32) (x3 : Int32) (x4 : Int32), C_care_L39 k71 σ a1 n x2 x3 x4 = some rv → Jw E (ΓC ad cy) RX11 cX11_care 5 (some .int) (some (.int rv.1), rv.2) 39 [(0, .ref (ad 0)), (1, .int a1), (2, .int x2), (3, .int x3), (4, .int x4)] [] σ := by
  intro n
  induction n with
  | zero =>
    intro x2 x3 x4 h
    rw [C_care_L39] at h
    cases h
  | succ n ih =>
    intro x2 x3 x4 h
    rw [C_care_L39] at h
    refine J_iload (q := 4) dX11_care_39 rfl ?_
    refine J_iload_n (q := 1) dX11_care_41 rfl rfl ?_
    refine J_icmp_gt (tgt := 71) dX11_care_42 (by decide) (fun c6 => ?_) (fun c6 => ?_)
    · replace h := it_some h c6
      exact J_sub [3] rfl (hk71 _ h)
    · replace h := if_some h c6
      refine J_aload_n (q := 0) dX11_care_45 rfl rfl ?_
      refine J_iload (q := 4) dX11_care_46 rfl ?_
      refine J_iload_n (q := 2) dX11_care_48 rfl rfl ?_
      obtain ⟨r7, hq12, h⟩ := bd_some h
      refine kx_X11_216 hi dX11_care_49 hq12 hL (by decide) (Nat.le_of_ble_eq_true rfl) ?_
      refine J_istore_n (lv' := [(3, .int r7), (0, .ref (ad 0)), (1, .int a1), (2, .int x2), (4, .int x4)]) dX11_care_52 rfl (by decide) rfl ?_
      refine J_iload_n (q := 0) dX11_care_53 rfl rfl ?_
      refine J_bipush dX11_care_54 bp_9 ?_
      obtain ⟨x2_10, ha65, h⟩ := bd_some h
      have K65 : Jw E (ΓC ad cy) RX11 cX11_care 5 (some .int) (some (.int rv.1), rv.2) 65 [(0, .ref (ad 0)), (1, .int a1), (2, .int x2_10), (3, .int r7), (4, .int x4)] [] σ := by
        clear ha65
        refine J_iinc (q := 4) (v := (x4 + (1 : Int32))) (lv' := [(4, .int (x4 + (1 : Int32))), (0, .ref (ad 0)), (1, .int a1), (2, .int x2_10), (3, .int r7)]) dX11_care_65 rfl (congrArg (fun z => x4 + z) ic_1) (by decide) rfl ?_
        refine J_tv (fun v11 ev11 => ?_)
        replace h := nm_some ev11 h
        refine J_goto (tgt := 39) dX11_care_68 (by decide) ?_
        exact J_sub [1, 2, 3, 4, 0] rfl (ih _ _ _ h)
      clear h
      refine J_icmp_eq (tgt := 65) dX11_care_56 (by decide) (fun c8 => ?_) (fun c8 => ?_)
      · replace ha65 := it_some ha65 c8
        cases ha65
        exact J_sub [1, 2, 3, 0, 4] rfl (K65)
      · replace ha65 := if_some ha65 c8
        refine J_iload_n (q := 3) dX11_care_59 rfl rfl ?_
        refine J_iconst dX11_care_60 ic_1 ?_
        refine J_iload_n (q := 0) dX11_care_61 rfl rfl ?_
        refine J_ishl dX11_care_62 ?_
        refine J_ior dX11_care_63 ?_
        refine J_ti (fun v9 ev9 => ?_)
        replace ha65 := nm_some ev9 ha65
        refine J_istore_n (lv' := [(2, .int v9), (3, .int r7), (0, .ref (ad 0)), (1, .int a1), (4, .int x4)]) dX11_care_64 rfl (by decide) rfl ?_
        cases ha65
        exact J_sub [2, 3, 0, 1, 4] rfl (K65)
set_option maxRecDepth 20000 in
set_option maxHeartbeats 4000000 in
theorem C_care_ok {E : Ec} {ad : Nat → Nat} {cy : Nat → ClassId} {rv : (Int32 × CS)} {σ : CS} {p1 : Int32} (hi : wl_inj (ΓC ad cy)) (hL : Lv E 6) (h : C_care σ p1 = some rv) : Jw E (ΓC ad cy) RX11 cX11_care 5 (some .int) (some (.int rv.1), rv.2) 0 [(0, .ref (ad 0)), (1, .int p1)] [] σ := by
  unfold C_care at h
  refine J_iload_n (q := 1) dX11_care_0 rfl rfl ?_
  refine J_iconst dX11_care_1 ic_m1 ?_
  refine J_icmp_lt (tgt := 10) dX11_care_2 (by decide) (fun c1 => ?_) (fun c1 => ?_)
  · replace h := it_some h c1
    refine J_iconst dX11_care_10 ic_m1 ?_
    exact J_iret dX11_care_11 (rt_i h) rfl
  · replace h := if_some h c1
    refine J_iload_n (q := 1) dX11_care_5 rfl rfl ?_
    refine J_iconst dX11_care_6 ic_5 ?_
    refine J_icmp_lt (tgt := 12) dX11_care_7 (by decide) (fun c2 => ?_) (fun c2 => ?_)
    · replace h := it_some h c2
      refine J_aload_n (q := 0) dX11_care_12 rfl rfl ?_
      obtain ⟨σ3, hq16, h⟩ := bd_some h
      refine kx_X11_210 hi dX11_care_13 hq16 hL (by decide) (Nat.le_of_ble_eq_true rfl) ?_
      refine J_aload_n (q := 0) dX11_care_16 rfl rfl ?_
      obtain ⟨σ4, hq17, h⟩ := bd_some h
      refine kx_X11_213 hi dX11_care_17 hq17 hL (by decide) (Nat.le_of_ble_eq_true rfl) ?_
      refine J_iload_n (q := 1) dX11_care_20 rfl rfl ?_
      refine J_if_ge (tgt := 31) dX11_care_21 (by decide) (fun c5 => ?_) (fun c5 => ?_)
      · replace h := it_some h c5
        refine J_iconst dX11_care_31 ic_0 ?_
        refine J_istore_n (lv' := [(2, .int (0 : Int32)), (0, .ref (ad 0)), (1, .int p1)]) dX11_care_32 rfl (by decide) rfl ?_
        refine J_bipush dX11_care_33 bp_9 ?_
        refine J_istore_n (lv' := [(3, .int (9 : Int32)), (2, .int (0 : Int32)), (0, .ref (ad 0)), (1, .int p1)]) dX11_care_35 rfl (by decide) rfl ?_
        refine J_iconst dX11_care_36 ic_0 ?_
        refine J_istore (lv' := [(4, .int (0 : Int32)), (3, .int (9 : Int32)), (2, .int (0 : Int32)), (0, .ref (ad 0)), (1, .int p1)]) dX11_care_37 (by decide) rfl ?_
        refine J_sub [3, 4, 2, 1, 0] rfl (C_care_L39_ok hi hL (fun x3_13 h => ?_) FU _ _ _ h)
        refine J_iload_n (q := 0) dX11_care_71 rfl rfl ?_
        obtain ⟨r14, hq18, h⟩ := bd_some h
        refine kx_X11_137 hi dX11_care_72 hq18 hL (by decide) (Nat.le_of_ble_eq_true rfl) ?_
        exact J_iret dX11_care_75 (rt_i h) rfl
      · replace h := if_some h c5
        refine J_aload_n (q := 0) dX11_care_24 rfl rfl ?_
        refine gC_most dX11_care_25 ?_
        refine J_iconst dX11_care_28 ic_0 ?_
        obtain ⟨hg15, h⟩ := gd_some h
        refine aC_ld (j := 1) (n := 768) dX11_care_29 rfl (by decide) rfl hg15 ?_
        exact J_iret dX11_care_30 (rt_i h) rfl
    · replace h := if_some h c2
      refine J_iconst dX11_care_10 ic_m1 ?_
      exact J_iret dX11_care_11 (rt_i h) rfl
set_option maxRecDepth 20000 in
set_option maxHeartbeats 4000000 in
theorem kX11_care {l : Launch} {D : va_G} {ad : Nat → Nat} {cy : Nat → ClassId} {rv : (Int32 × CS)} {σ : CS} {p1 : Int32} (hi : wl_inj (ΓC ad cy)) (h : C_care σ p1 = some rv) : Cn l D (ΓC ad cy) yX11_care cX11_care 5 (some .int) 6 [.ref (ad 0), .int p1] σ (some (.int rv.1), rv.2) :=
  Cn.of hi rfl (Nat.le_of_ble_eq_true rfl) (fun _ _ _ hL => C_care_ok hi hL h)
theorem pdX11_richestOne : (parseMethodDescriptor yX11_richestOne.desc).map (fun d => d.parameters.length) = some 0 := by decide +kernel
set_option maxRecDepth 20000 in
set_option maxHeartbeats 4000000 in
theorem C_richestOne_L7_ok {E : Ec} {ad : Nat → Nat} {cy : Nat → ClassId} {rv : Int32} {σ : CS} (hi : wl_inj (ΓC ad cy)) (hL : Lv E 1) : ∀ (n : Nat) (x1 : Int32) (x2 : Int32) (x3 : Int32), C_richestOne_L7 σ n x1 x2 x3 = some rv → Jw E (ΓC ad cy) RX11 cX11_richestOne 5 (some .int) (some (.int rv), σ) 7 [(0, .ref (ad 0)), (1, .int x1), (2, .int x2), (3, .int x3)] [] σ := by
  intro n
  induction n with
  | zero =>
    intro x1 x2 x3 h
    rw [C_richestOne_L7] at h
    cases h
  | succ n ih =>
    intro x1 x2 x3 h
    rw [C_richestOne_L7] at h
    refine J_iload_n (q := 3) dX11_richestOne_7 rfl rfl ?_
    refine J_aload_n (q := 0) dX11_richestOne_8 rfl rfl ?_
    refine gC_now dX11_richestOne_9 ?_
    refine gT_X11_people dX11_richestOne_12 okT_1 rfl ?_
    refine J_icmp_ge (tgt := 45) dX11_richestOne_15 (by decide) (fun c1 => ?_) (fun c1 => ?_)
    · replace h := it_some h c1
      refine J_iload_n (q := 2) dX11_richestOne_45 rfl rfl ?_
      exact J_iret dX11_richestOne_46 (rt_pi h) rfl
    · replace h := if_some h c1
      refine J_aload_n (q := 0) dX11_richestOne_18 rfl rfl ?_
      refine gC_now dX11_richestOne_19 ?_
      refine J_iload_n (q := 3) dX11_richestOne_22 rfl rfl ?_
      obtain ⟨r2, hq7, h⟩ := bd_some h
      refine kx_X11_191 hi okT_1 dX11_richestOne_23 hq7 hL (by decide) (Nat.le_of_ble_eq_true rfl) ?_
      refine J_istore (lv' := [(4, .int r2), (0, .ref (ad 0)), (1, .int x1), (2, .int x2), (3, .int x3)]) dX11_richestOne_26 (by decide) rfl ?_
      refine J_iload (q := 0) dX11_richestOne_28 rfl ?_
      refine J_iload_n (q := 2) dX11_richestOne_30 rfl rfl ?_
      obtain ⟨x1_4, x2_5, ha39, h⟩ := bd2_some h
      have K39 : Jw E (ΓC ad cy) RX11 cX11_richestOne 5 (some .int) (some (.int rv), σ) 39 [(0, .ref (ad 0)), (1, .int x1_4), (2, .int x2_5), (3, .int x3)] [] σ := by
        clear ha39
        refine J_iinc (q := 3) (v := (x3 + (1 : Int32))) (lv' := [(3, .int (x3 + (1 : Int32))), (0, .ref (ad 0)), (1, .int x1_4), (2, .int x2_5)]) dX11_richestOne_39 rfl (congrArg (fun z => x3 + z) ic_1) (by decide) rfl ?_
        refine J_tv (fun v6 ev6 => ?_)
        replace h := nm_some ev6 h
        refine J_goto (tgt := 7) dX11_richestOne_42 (by decide) ?_
        exact J_sub [1, 2, 3, 0] rfl (ih _ _ _ h)
      clear h
      refine J_icmp_le (tgt := 39) dX11_richestOne_31 (by decide) (fun c3 => ?_) (fun c3 => ?_)
      · replace ha39 := it_some ha39 c3
        cases ha39
        exact J_sub [1, 2, 3, 4] rfl (K39)
      · replace ha39 := if_some ha39 c3
        refine J_iload (q := 0) dX11_richestOne_34 rfl ?_
        refine J_istore_n (lv' := [(1, .int r2), (4, .int r2), (0, .ref (ad 0)), (2, .int x2), (3, .int x3)]) dX11_richestOne_36 rfl (by decide) rfl ?_
        refine J_iload_n (q := 4) dX11_richestOne_37 rfl rfl ?_
        refine J_istore_n (lv' := [(2, .int x3), (1, .int r2), (4, .int r2), (0, .ref (ad 0)), (3, .int x3)]) dX11_richestOne_38 rfl (by decide) rfl ?_
        cases ha39
        exact J_sub [3, 1, 0, 4] rfl (K39)
set_option maxRecDepth 20000 in
set_option maxHeartbeats 4000000 in
theorem C_richestOne_ok {E : Ec} {ad : Nat → Nat} {cy : Nat → ClassId} {rv : Int32} {σ : CS} (hi : wl_inj (ΓC ad cy)) (hL : Lv E 1) (h : C_richestOne σ = some rv) : Jw E (ΓC ad cy) RX11 cX11_richestOne 5 (some .int) (some (.int rv), σ) 0 [(0, .ref (ad 0))] [] σ := by
  unfold C_richestOne at h
  refine J_iconst dX11_richestOne_0 ic_m1 ?_
  refine J_istore_n (lv' := [(1, .int (-1 : Int32)), (0, .ref (ad 0))]) dX11_richestOne_1 rfl (by decide) rfl ?_
  refine J_bipush dX11_richestOne_2 bp_m4 ?_
  refine J_istore_n (lv' := [(2, .int (-4 : Int32)), (1, .int (-1 : Int32)), (0, .ref (ad 0))]) dX11_richestOne_4 rfl (by decide) rfl ?_
  refine J_iconst dX11_richestOne_5 ic_0 ?_
  refine J_istore_n (lv' := [(3, .int (0 : Int32)), (2, .int (-4 : Int32)), (1, .int (-1 : Int32)), (0, .ref (ad 0))]) dX11_richestOne_6 rfl (by decide) rfl ?_
  refine J_sub [3, 2, 1, 0] rfl (C_richestOne_L7_ok hi hL FU _ _ _ h)
set_option maxRecDepth 20000 in
set_option maxHeartbeats 4000000 in
theorem kX11_richestOne {l : Launch} {D : va_G} {ad : Nat → Nat} {cy : Nat → ClassId} {rv : Int32} {σ : CS} (hi : wl_inj (ΓC ad cy)) (h : C_richestOne σ = some rv) : Cn l D (ΓC ad cy) yX11_richestOne cX11_richestOne 5 (some .int) 1 [.ref (ad 0)] σ (some (.int rv), σ) :=
  Cn.of hi rfl (Nat.le_of_ble_eq_true rfl) (fun _ _ _ hL => C_richestOne_ok hi hL h)
theorem pdX11_longestTale : (parseMethodDescriptor yX11_longestTale.desc).map (fun d => d.parameters.length) = some 0 := by decide +kernel
set_option maxRecDepth 20000 in
set_option maxHeartbeats 4000000 in
theorem C_longestTale_L21_ok {E : Ec} {ad : Nat → Nat} {cy : Nat → ClassId} {rv : Int32} {k62 : Int32 → Int32 → Option Int32} {σ : CS} {a3 : Int32} (hi : wl_inj (ΓC ad cy)) (hL : Lv E 5) (hk62 : ∀ (y1 : Int32) (y2 : Int32), k62 y1 y2 = some rv → Jw E (ΓC ad cy) RX11 cX11_longestTale 6 (some .int) (some (.int rv), σ) 62 [(0, .ref (ad 0)), (1, .int y1), (2, .int y2), (3, .int a3)] [] σ) : ∀ (n : Nat) (x1 : Int32) (x2 : Int32) (x4 : Int32), C_longestTale_L21 k62 σ a3 n x1 x2 x4 = some rv → Jw E (ΓC ad cy) RX11 cX11_longestTale 6 (some .int) (some (.int rv), σ) 21 [(0, .ref (ad 0)), (1, .int x1), (2, .int x2), (3, .int a3), (4, .int x4)] [] σ := by
  intro n
  induction n with
  | zero =>
    intro x1 x2 x4 h
    rw [C_longestTale_L21] at h
    cases h
  | succ n ih =>
    intro x1 x2 x4 h
    rw [C_longestTale_L21] at h
    refine J_iload (q := 4) dX11_longestTale_21 rfl ?_
    refine J_iconst dX11_longestTale_23 ic_5 ?_
    refine J_icmp_ge (tgt := 62) dX11_longestTale_24 (by decide) (fun c2 => ?_) (fun c2 => ?_)
    · replace h := it_some h c2
      exact J_sub [0, 1, 2, 3] rfl (hk62 _ _ h)
    · replace h := if_some h c2
      refine J_aload_n (q := 0) dX11_longestTale_27 rfl rfl ?_
      refine gC_now dX11_longestTale_28 ?_
      refine J_iload_n (q := 3) dX11_longestTale_31 rfl rfl ?_
      refine J_iload (q := 4) dX11_longestTale_32 rfl ?_
      obtain ⟨r3, hq9, h⟩ := bd_some h
      refine kx_X11_143 hi okT_1 dX11_longestTale_34 hq9 hL (by decide) (Nat.le_of_ble_eq_true rfl) ?_
      refine J_istore (lv' := [(5, .int r3), (0, .ref (ad 0)), (1, .int x1), (2, .int x2), (3, .int a3), (4, .int x4)]) dX11_longestTale_37 (by decide) rfl ?_
      refine J_iload (q := 0) dX11_longestTale_39 rfl ?_
      refine J_iload_n (q := 2) dX11_longestTale_41 rfl rfl ?_
      obtain ⟨x1_6, x2_7, ha56, h⟩ := bd2_some h
      have K56 : Jw E (ΓC ad cy) RX11 cX11_longestTale 6 (some .int) (some (.int rv), σ) 56 [(0, .ref (ad 0)), (1, .int x1_6), (2, .int x2_7), (3, .int a3), (4, .int x4)] [] σ := by
        clear ha56
        refine J_iinc (q := 4) (v := (x4 + (1 : Int32))) (lv' := [(4, .int (x4 + (1 : Int32))), (0, .ref (ad 0)), (1, .int x1_6), (2, .int x2_7), (3, .int a3)]) dX11_longestTale_56 rfl (congrArg (fun z => x4 + z) ic_1) (by decide) rfl ?_
        refine J_tv (fun v8 ev8 => ?_)
        replace h := nm_some ev8 h
        refine J_goto (tgt := 21) dX11_longestTale_59 (by decide) ?_
        exact J_sub [1, 2, 3, 4, 0] rfl (ih _ _ _ h)
      clear h
      refine J_icmp_le (tgt := 56) dX11_longestTale_42 (by decide) (fun c4 => ?_) (fun c4 => ?_)
      · replace ha56 := it_some ha56 c4
        cases ha56
        exact J_sub [1, 2, 3, 4, 5] rfl (K56)
      · replace ha56 := if_some ha56 c4
        refine J_iload (q := 0) dX11_longestTale_45 rfl ?_
        refine J_istore_n (lv' := [(1, .int r3), (5, .int r3), (0, .ref (ad 0)), (2, .int x2), (3, .int a3), (4, .int x4)]) dX11_longestTale_47 rfl (by decide) rfl ?_
        refine J_bipush dX11_longestTale_48 bp_10 ?_
        refine J_iload_n (q := 4) dX11_longestTale_50 rfl rfl ?_
        refine J_imul dX11_longestTale_51 ?_
        refine J_iload (q := 5) dX11_longestTale_52 rfl ?_
        refine J_iadd dX11_longestTale_54 ?_
        refine J_ti (fun v5 ev5 => ?_)
        replace ha56 := nm_some ev5 ha56
        refine J_istore_n (lv' := [(2, .int v5), (1, .int r3), (5, .int r3), (0, .ref (ad 0)), (3, .int a3), (4, .int x4)]) dX11_longestTale_55 rfl (by decide) rfl ?_
        cases ha56
        exact J_sub [3, 1, 0, 4, 5] rfl (K56)
set_option maxRecDepth 20000 in
set_option maxHeartbeats 4000000 in
theorem C_longestTale_L7_ok {E : Ec} {ad : Nat → Nat} {cy : Nat → ClassId} {rv : Int32} {σ : CS} (hi : wl_inj (ΓC ad cy)) (hL : Lv E 5) : ∀ (n : Nat) (x1 : Int32) (x2 : Int32) (x3 : Int32), C_longestTale_L7 σ n x1 x2 x3 = some rv → Jw E (ΓC ad cy) RX11 cX11_longestTale 6 (some .int) (some (.int rv), σ) 7 [(0, .ref (ad 0)), (1, .int x1), (2, .int x2), (3, .int x3)] [] σ := by
  intro n
  induction n with
  | zero =>
    intro x1 x2 x3 h
    rw [C_longestTale_L7] at h
    cases h
  | succ n ih =>
    intro x1 x2 x3 h
    rw [C_longestTale_L7] at h
    refine J_iload_n (q := 3) dX11_longestTale_7 rfl rfl ?_
    refine J_aload_n (q := 0) dX11_longestTale_8 rfl rfl ?_
    refine gC_now dX11_longestTale_9 ?_
    refine gT_X11_people dX11_longestTale_12 okT_1 rfl ?_
    refine J_icmp_ge (tgt := 68) dX11_longestTale_15 (by decide) (fun c1 => ?_) (fun c1 => ?_)
    · replace h := it_some h c1
      refine J_iload_n (q := 2) dX11_longestTale_68 rfl rfl ?_
      exact J_iret dX11_longestTale_69 (rt_pi h) rfl
    · replace h := if_some h c1
      refine J_iconst dX11_longestTale_18 ic_0 ?_
      refine J_istore (lv' := [(4, .int (0 : Int32)), (0, .ref (ad 0)), (1, .int x1), (2, .int x2), (3, .int x3)]) dX11_longestTale_19 (by decide) rfl ?_
      refine J_sub [1, 2, 3, 4, 0] rfl (C_longestTale_L21_ok hi hL (fun x1_10 x2_11 h => ?_) FU _ _ _ h)
      refine J_iinc (q := 3) (v := (x3 + (1 : Int32))) (lv' := [(3, .int (x3 + (1 : Int32))), (0, .ref (ad 0)), (1, .int x1_10), (2, .int x2_11)]) dX11_longestTale_62 rfl (congrArg (fun z => x3 + z) ic_1) (by decide) rfl ?_
      refine J_tv (fun v12 ev12 => ?_)
      replace h := nm_some ev12 h
      refine J_goto (tgt := 7) dX11_longestTale_65 (by decide) ?_
      exact J_sub [1, 2, 3, 0] rfl (ih _ _ _ h)
set_option maxRecDepth 20000 in
set_option maxHeartbeats 4000000 in
theorem C_longestTale_ok {E : Ec} {ad : Nat → Nat} {cy : Nat → ClassId} {rv : Int32} {σ : CS} (hi : wl_inj (ΓC ad cy)) (hL : Lv E 5) (h : C_longestTale σ = some rv) : Jw E (ΓC ad cy) RX11 cX11_longestTale 6 (some .int) (some (.int rv), σ) 0 [(0, .ref (ad 0))] [] σ := by
  unfold C_longestTale at h
  refine J_iconst dX11_longestTale_0 ic_0 ?_
  refine J_istore_n (lv' := [(1, .int (0 : Int32)), (0, .ref (ad 0))]) dX11_longestTale_1 rfl (by decide) rfl ?_
  refine J_bipush dX11_longestTale_2 bp_m4 ?_
  refine J_istore_n (lv' := [(2, .int (-4 : Int32)), (1, .int (0 : Int32)), (0, .ref (ad 0))]) dX11_longestTale_4 rfl (by decide) rfl ?_
  refine J_iconst dX11_longestTale_5 ic_0 ?_
  refine J_istore_n (lv' := [(3, .int (0 : Int32)), (2, .int (-4 : Int32)), (1, .int (0 : Int32)), (0, .ref (ad 0))]) dX11_longestTale_6 rfl (by decide) rfl ?_
  refine J_sub [3, 2, 1, 0] rfl (C_longestTale_L7_ok hi hL FU _ _ _ h)
set_option maxRecDepth 20000 in
set_option maxHeartbeats 4000000 in
theorem kX11_longestTale {l : Launch} {D : va_G} {ad : Nat → Nat} {cy : Nat → ClassId} {rv : Int32} {σ : CS} (hi : wl_inj (ΓC ad cy)) (h : C_longestTale σ = some rv) : Cn l D (ΓC ad cy) yX11_longestTale cX11_longestTale 6 (some .int) 5 [.ref (ad 0)] σ (some (.int rv), σ) :=
  Cn.of hi rfl (Nat.le_of_ble_eq_true rfl) (fun _ _ _ hL => C_longestTale_ok hi hL h)
theorem pdX11_stillness : (parseMethodDescriptor yX11_stillness.desc).map (fun d => d.parameters.length) = some 0 := by decide +kernel
set_option maxRecDepth 20000 in
set_option maxHeartbeats 4000000 in
theorem C_stillness_L15_ok {E : Ec} {ad : Nat → Nat} {cy : Nat → ClassId} {rv : (Int32 × CS)} (hi : wl_inj (ΓC ad cy)) (hL : Lv E 5) : ∀ (n : Nat) (σ : CS) (x1 : Int32) (x2 : Int32), C_stillness_L15 n σ x1 x2 = some rv → Jw E (ΓC ad cy) RX11 cX11_stillness 3 (some .int) (some (.int rv.1), rv.2) 15 [(0, .ref (ad 0)), (1, .int x1), (2, .int x2)] [] σ := by
  intro n
  induction n with
  | zero =>
    intro σ x1 x2 h
    rw [C_stillness_L15] at h
    cases h
  | succ n ih =>
    intro σ x1 x2 h
    rw [C_stillness_L15] at h
    refine J_iload_n (q := 2) dX11_stillness_15 rfl rfl ?_
    refine J_bipush dX11_stillness_16 bp_60 ?_
    refine J_icmp_gt (tgt := 52) dX11_stillness_18 (by decide) (fun c3 => ?_) (fun c3 => ?_)
    · replace h := it_some h c3
      refine J_bipush dX11_stillness_52 bp_m4 ?_
      exact J_iret dX11_stillness_54 (rt_i h) rfl
    · replace h := if_some h c3
      refine J_aload_n (q := 0) dX11_stillness_21 rfl rfl ?_
      refine gC_mind dX11_stillness_22 ?_
      obtain ⟨r4, t5, hq11, h⟩ := bd2_some h
      refine kx_X11_194 hi okT_3 dX11_stillness_25 hq11 hL (by decide) (Nat.le_of_ble_eq_true rfl) ?_
      refine J_tw (fun σ6 eσ6 => ?_)
      replace h := nm_some eσ6 h
      obtain ⟨kk46, ekk46, h⟩ := jn_some h
      have K46 : ∀ (x1_9 : Int32), kk46 x1_9 = some rv → Jw E (ΓC ad cy) RX11 cX11_stillness 3 (some .int) (some (.int rv.1), rv.2) 46 [(0, .ref (ad 0)), (1, .int x1_9), (2, .int x2)] [] σ6 := by
        subst ekk46
        clear h
        intro x1_9 h
        refine J_iinc (q := 2) (v := (x2 + (1 : Int32))) (lv' := [(2, .int (x2 + (1 : Int32))), (0, .ref (ad 0)), (1, .int x1_9)]) dX11_stillness_46 rfl (congrArg (fun z => x2 + z) ic_1) (by decide) rfl ?_
        refine J_tv (fun v10 ev10 => ?_)
        replace h := nm_some ev10 h
        refine J_goto (tgt := 15) dX11_stillness_49 (by decide) ?_
        exact J_sub [1, 2, 0] rfl (ih _ _ _ h)
      clear ekk46
      refine J_if_eq (tgt := 36) dX11_stillness_28 (by decide) (fun c7 => ?_) (fun c7 => ?_)
      · replace h := it_some h c7
        refine J_iload_n (q := 2) dX11_stillness_36 rfl rfl ?_
        refine J_iload_n (q := 1) dX11_stillness_37 rfl rfl ?_
        refine J_isub dX11_stillness_38 ?_
        refine J_bipush dX11_stillness_39 bp_10 ?_
        refine J_icmp_ne (tgt := 46) dX11_stillness_41 (by decide) (fun c8 => ?_) (fun c8 => ?_)
        · replace h := if_some h c8
          exact J_sub [0, 1, 2] rfl (K46 _ h)
        · replace h := it_some h c8
          refine J_iload_n (q := 1) dX11_stillness_44 rfl rfl ?_
          exact J_iret dX11_stillness_45 (rt_i h) rfl
      · replace h := if_some h c7
        refine J_iload_n (q := 2) dX11_stillness_31 rfl rfl ?_
        refine J_istore_n (lv' := [(1, .int x2), (0, .ref (ad 0)), (2, .int x2)]) dX11_stillness_32 rfl (by decide) rfl ?_
        refine J_goto (tgt := 46) dX11_stillness_33 (by decide) ?_
        exact J_sub [1, 0, 2] rfl (K46 _ h)
set_option maxRecDepth 20000 in
set_option maxHeartbeats 4000000 in
theorem C_stillness_ok {E : Ec} {ad : Nat → Nat} {cy : Nat → ClassId} {rv : (Int32 × CS)} {σ : CS} (hi : wl_inj (ΓC ad cy)) (hL : Lv E 5) (h : C_stillness σ = some rv) : Jw E (ΓC ad cy) RX11 cX11_stillness 3 (some .int) (some (.int rv.1), rv.2) 0 [(0, .ref (ad 0))] [] σ := by
  unfold C_stillness at h
  refine J_aload_n (q := 0) dX11_stillness_0 rfl rfl ?_
  refine gC_mind dX11_stillness_1 ?_
  refine J_aload_n (q := 0) dX11_stillness_4 rfl rfl ?_
  refine gC_now dX11_stillness_5 ?_
  obtain ⟨t1, hq12, h⟩ := bd_some h
  refine kx_X11_83 hi okT_3 okT_1 (by decide) dX11_stillness_8 hq12 hL (by decide) (Nat.le_of_ble_eq_true rfl) ?_
  refine J_tw (fun σ2 eσ2 => ?_)
  replace h := nm_some eσ2 h
  refine J_iconst dX11_stillness_11 ic_0 ?_
  refine J_istore_n (lv' := [(1, .int (0 : Int32)), (0, .ref (ad 0))]) dX11_stillness_12 rfl (by decide) rfl ?_
  refine J_iconst dX11_stillness_13 ic_1 ?_
  refine J_istore_n (lv' := [(2, .int (1 : Int32)), (1, .int (0 : Int32)), (0, .ref (ad 0))]) dX11_stillness_14 rfl (by decide) rfl ?_
  refine J_sub [2, 1, 0] rfl (C_stillness_L15_ok hi hL FU _ _ _ h)
set_option maxRecDepth 20000 in
set_option maxHeartbeats 4000000 in
theorem kX11_stillness {l : Launch} {D : va_G} {ad : Nat → Nat} {cy : Nat → ClassId} {rv : (Int32 × CS)} {σ : CS} (hi : wl_inj (ΓC ad cy)) (h : C_stillness σ = some rv) : Cn l D (ΓC ad cy) yX11_stillness cX11_stillness 3 (some .int) 5 [.ref (ad 0)] σ (some (.int rv.1), rv.2) :=
  Cn.of hi rfl (Nat.le_of_ble_eq_true rfl) (fun _ _ _ hL => C_stillness_ok hi hL h)
theorem pdX11_richest : (parseMethodDescriptor yX11_richest.desc).map (fun d => d.parameters.length) = some 1 := by decide +kernel
theorem kx_X11_219 {E : Ec} {ad : Nat → Nat} {cy : Nat → ClassId} {cc : ByteArray} {nL : Nat} {rt : Option FieldType} {r : Option Value × CS} {pc : Nat} {lv : List (Nat × Value)} {st : List Value} {σ : CS} {n : Nat} {v : Int32} (hi : wl_inj (ΓC ad cy)) (hd : decode cc pc = .ok (.invokevirtual 219, 3)) (hq : C_richestOne σ = some v) (hL : Lv E n) (hn : 1 + 1 ≤ n) (hW : (st.map fun v => v.category).sum ≤ 8) (k : Jw E (ΓC ad cy) RX11 cc nL rt r (pc + 3) lv (.int v :: st) σ) : Jw E (ΓC ad cy) RX11 cc nL rt r pc lv (.ref (ad 0) :: st) σ :=
  J_callV (Γ := ΓC ad cy) (h := 0) (ci := 10) (av := []) (q := (some (.int v), σ)) (st := st) hd (kX11_richestOne hi hq) tw_3_56 tw_3_58 tw_1_1 tw_3_59 sl_1_11 ⟨by decide, by decide, pdX11_richestOne⟩ (by show 0 < 111; decide) rfl rfl rfl rfl (by decide) hL hn hW k
theorem kx_X11_222 {E : Ec} {ad : Nat → Nat} {cy : Nat → ClassId} {cc : ByteArray} {nL : Nat} {rt : Option FieldType} {r : Option Value × CS} {pc : Nat} {lv : List (Nat × Value)} {st : List Value} {σ : CS} {n : Nat} {v : Int32} (hi : wl_inj (ΓC ad cy)) (hd : decode cc pc = .ok (.invokevirtual 222, 3)) (hq : C_longestTale σ = some v) (hL : Lv E n) (hn : 5 + 1 ≤ n) (hW : (st.map fun v => v.category).sum ≤ 8) (k : Jw E (ΓC ad cy) RX11 cc nL rt r (pc + 3) lv (.int v :: st) σ) : Jw E (ΓC ad cy) RX11 cc nL rt r pc lv (.ref (ad 0) :: st) σ :=
  J_callV (Γ := ΓC ad cy) (h := 0) (ci := 10) (av := []) (q := (some (.int v), σ)) (st := st) hd (kX11_longestTale hi hq) tw_3_60 tw_3_62 tw_1_1 tw_3_63 sl_1_12 ⟨by decide, by decide, pdX11_longestTale⟩ (by show 0 < 111; decide) rfl rfl rfl rfl (by decide) hL hn hW k
theorem kx_X11_225 {E : Ec} {ad : Nat → Nat} {cy : Nat → ClassId} {cc : ByteArray} {nL : Nat} {rt : Option FieldType} {r : Option Value × CS} {pc : Nat} {lv : List (Nat × Value)} {st : List Value} {σ : CS} {n : Nat} {v : Int32} {σ' : CS} (hi : wl_inj (ΓC ad cy)) (hd : decode cc pc = .ok (.invokevirtual 225, 3)) (hq : C_stillness σ = some (v, σ')) (hL : Lv E n) (hn : 5 + 1 ≤ n) (hW : (st.map fun v => v.category).sum ≤ 8) (k : Jw E (ΓC ad cy) RX11 cc nL rt r (pc + 3) lv (.int v :: st) σ') : Jw E (ΓC ad cy) RX11 cc nL rt r pc lv (.ref (ad 0) :: st) σ :=
  J_callV (Γ := ΓC ad cy) (h := 0) (ci := 10) (av := []) (q := (some (.int v), σ')) (st := st) hd (kX11_stillness hi hq) tw_3_64 tw_3_66 tw_1_1 tw_3_67 sl_1_13 ⟨by decide, by decide, pdX11_stillness⟩ (by show 0 < 111; decide) rfl rfl rfl rfl (by decide) hL hn hW k
set_option maxRecDepth 20000 in
set_option maxHeartbeats 4000000 in
theorem C_richest_ok {E : Ec} {ad : Nat → Nat} {cy : Nat → ClassId} {rv : (Int32 × CS)} {σ : CS} {p1 : Int32} (hi : wl_inj (ΓC ad cy)) (hL : Lv E 6) (h : C_richest σ p1 = some rv) : Jw E (ΓC ad cy) RX11 cX11_richest 2 (some .int) (some (.int rv.1), rv.2) 0 [(0, .ref (ad 0)), (1, .int p1)] [] σ := by
  unfold C_richest at h
  refine J_iload_n (q := 1) dX11_richest_0 rfl rfl ?_
  by_cases c1 : p1 = (0 : Int32)
  · replace h := it_some h c1
    refine J_tin (tgt := 32) dX11_richest_1 (by rw [c1]; decide) (by rw [c1]; decide) (by rw [c1]; rfl) (by decide) ?_
    refine J_aload_n (q := 0) dX11_richest_32 rfl rfl ?_
    obtain ⟨r2, hq10, h⟩ := bd_some h
    refine kx_X11_219 hi dX11_richest_33 hq10 hL (by decide) (Nat.le_of_ble_eq_true rfl) ?_
    exact J_iret dX11_richest_36 (rt_i h) rfl
  · replace h := if_some h c1
    by_cases c3 : p1 = (1 : Int32)
    · replace h := it_some h c3
      refine J_tin (tgt := 37) dX11_richest_1 (by rw [c3]; decide) (by rw [c3]; decide) (by rw [c3]; rfl) (by decide) ?_
      refine J_bipush dX11_richest_37 bp_31 ?_
      refine J_aload_n (q := 0) dX11_richest_39 rfl rfl ?_
      refine gC_now dX11_richest_40 ?_
      obtain ⟨r4, hq11, h⟩ := bd_some h
      refine kx_X11_178 hi okT_1 dX11_richest_43 hq11 hL (by decide) (Nat.le_of_ble_eq_true rfl) ?_
      refine J_iconst dX11_richest_46 ic_m1 ?_
      refine J_ixor dX11_richest_47 ?_
      refine J_iand dX11_richest_48 ?_
      exact J_iret dX11_richest_49 (rt_i h) rfl
    · replace h := if_some h c3
      by_cases c5 : p1 = (2 : Int32)
      · replace h := it_some h c5
        refine J_tin (tgt := 50) dX11_richest_1 (by rw [c5]; decide) (by rw [c5]; decide) (by rw [c5]; rfl) (by decide) ?_
        refine J_aload_n (q := 0) dX11_richest_50 rfl rfl ?_
        obtain ⟨r6, hq12, h⟩ := bd_some h
        refine kx_X11_222 hi dX11_richest_51 hq12 hL (by decide) (Nat.le_of_ble_eq_true rfl) ?_
        exact J_iret dX11_richest_54 (rt_i h) rfl
      · replace h := if_some h c5
        by_cases c7 : p1 = (3 : Int32)
        · replace h := it_some h c7
          refine J_tin (tgt := 55) dX11_richest_1 (by rw [c7]; decide) (by rw [c7]; decide) (by rw [c7]; rfl) (by decide) ?_
          refine J_aload_n (q := 0) dX11_richest_55 rfl rfl ?_
          obtain ⟨r8, σ9, hq13, h⟩ := bd2_some h
          refine kx_X11_225 hi dX11_richest_56 hq13 hL (by decide) (Nat.le_of_ble_eq_true rfl) ?_
          exact J_iret dX11_richest_59 (rt_i h) rfl
        · replace h := if_some h c7
          refine J_tout (tgt := 60) dX11_richest_1 (sw_out0_3 c1 c3 c5 c7) (by decide) ?_
          refine J_iconst dX11_richest_60 ic_m1 ?_
          exact J_iret dX11_richest_61 (rt_i h) rfl
set_option maxRecDepth 20000 in
set_option maxHeartbeats 4000000 in
theorem kX11_richest {l : Launch} {D : va_G} {ad : Nat → Nat} {cy : Nat → ClassId} {rv : (Int32 × CS)} {σ : CS} {p1 : Int32} (hi : wl_inj (ΓC ad cy)) (h : C_richest σ p1 = some rv) : Cn l D (ΓC ad cy) yX11_richest cX11_richest 2 (some .int) 6 [.ref (ad 0), .int p1] σ (some (.int rv.1), rv.2) :=
  Cn.of hi rfl (Nat.le_of_ble_eq_true rfl) (fun _ _ _ hL => C_richest_ok hi hL h)
theorem pdX11_rivals : (parseMethodDescriptor yX11_rivals.desc).map (fun d => d.parameters.length) = some 1 := by decide +kernel
set_option maxRecDepth 20000 in
set_option maxHeartbeats 4000000 in
theorem C_rivals_L31_ok {E : Ec} {ad : Nat → Nat} {cy : Nat → ClassId} {rv : Int32} {k72 : Int32 → Option Int32} {σ : CS} {a1 : Int32} {a3 : Int32} {a4 : Int32} (hi : wl_inj (ΓC ad cy)) (hL : Lv E 5) (hk72 : ∀ (y2 : Int32), k72 y2 = some rv → Jw E (ΓC ad cy) RX11 cX11_rivals 6 (some .int) (some (.int rv), σ) 72 [(0, .ref (ad 0)), (1, .int a1), (2, .int y2), (3, .int a3)] [] σ) : ∀ (n : Nat) (x2 : Int32) (x5 : Int32), C_rivals_L31 k72 σ a1 a3 a4 n x2 x5 = some rv → Jw E (ΓC ad cy) RX11 cX11_rivals 6 (some .int) (some (.int rv), σ) 31 [(0, .ref (ad 0)), (1, .int a1), (2, .int x2), (3, .int a3), (4, .int a4), (5, .int x5)] [] σ := by
  intro n
  induction n with
  | zero =>
    intro x2 x5 h
    rw [C_rivals_L31] at h
    cases h
  | succ n ih =>
    intro x2 x5 h
    rw [C_rivals_L31] at h
    refine J_iload (q := 5) dX11_rivals_31 rfl ?_
    refine J_aload_n (q := 0) dX11_rivals_33 rfl rfl ?_
    refine gC_now dX11_rivals_34 ?_
    refine gT_X11_people dX11_rivals_37 okT_1 rfl ?_
    refine J_icmp_ge (tgt := 72) dX11_rivals_40 (by decide) (fun c4 => ?_) (fun c4 => ?_)
    · replace h := it_some h c4
      exact J_sub [0, 1, 2, 3] rfl (hk72 _ h)
    · replace h := if_some h c4
      refine J_iload (q := 4) dX11_rivals_43 rfl ?_
      obtain ⟨x2_9, ha66, h⟩ := bd_some h
      have K66 : Jw E (ΓC ad cy) RX11 cX11_rivals 6 (some .int) (some (.int rv), σ) 66 [(0, .ref (ad 0)), (1, .int a1), (2, .int x2_9), (3, .int a3), (4, .int a4), (5, .int x5)] [] σ := by
        clear ha66
        refine J_iinc (q := 5) (v := (x5 + (1 : Int32))) (lv' := [(5, .int (x5 + (1 : Int32))), (0, .ref (ad 0)), (1, .int a1), (2, .int x2_9), (3, .int a3), (4, .int a4)]) dX11_rivals_66 rfl (congrArg (fun z => x5 + z) ic_1) (by decide) rfl ?_
        refine J_tv (fun v10 ev10 => ?_)
        replace h := nm_some ev10 h
        refine J_goto (tgt := 31) dX11_rivals_69 (by decide) ?_
        exact J_sub [1, 2, 3, 4, 5, 0] rfl (ih _ _ h)
      clear h
      refine J_if_le (tgt := 66) dX11_rivals_45 (by decide) (fun c5 => ?_) (fun c5 => ?_)
      · replace ha66 := it_some ha66 c5
        cases ha66
        exact J_sub [0, 1, 2, 3, 4, 5] rfl (K66)
      · replace ha66 := if_some ha66 c5
        refine J_aload_n (q := 0) dX11_rivals_48 rfl rfl ?_
        refine gC_now dX11_rivals_49 ?_
        refine J_iload (q := 5) dX11_rivals_52 rfl ?_
        refine J_iload_n (q := 1) dX11_rivals_54 rfl rfl ?_
        obtain ⟨r6, hq11, ha66⟩ := bd_some ha66
        refine kx_X11_143 hi okT_1 dX11_rivals_55 hq11 hL (by decide) (Nat.le_of_ble_eq_true rfl) ?_
        refine J_iload (q := 4) dX11_rivals_58 rfl ?_
        refine J_icmp_ne (tgt := 66) dX11_rivals_60 (by decide) (fun c7 => ?_) (fun c7 => ?_)
        · replace ha66 := if_some ha66 c7
          cases ha66
          exact J_sub [0, 1, 2, 3, 4, 5] rfl (K66)
        · replace ha66 := it_some ha66 c7
          refine J_iinc (q := 2) (v := (x2 + (1 : Int32))) (lv' := [(2, .int (x2 + (1 : Int32))), (0, .ref (ad 0)), (1, .int a1), (3, .int a3), (4, .int a4), (5, .int x5)]) dX11_rivals_63 rfl (congrArg (fun z => x2 + z) ic_1) (by decide) rfl ?_
          refine J_tv (fun v8 ev8 => ?_)
          replace ha66 := nm_some ev8 ha66
          cases ha66
          exact J_sub [1, 2, 0, 3, 4, 5] rfl (K66)
set_option maxRecDepth 20000 in
set_option maxHeartbeats 4000000 in
theorem C_rivals_L4_ok {E : Ec} {ad : Nat → Nat} {cy : Nat → ClassId} {rv : Int32} {σ : CS} {a1 : Int32} (hi : wl_inj (ΓC ad cy)) (hL : Lv E 5) : ∀ (n : Nat) (x2 : Int32) (x3 : Int32), C_rivals_L4 σ a1 n x2 x3 = some rv → Jw E (ΓC ad cy) RX11 cX11_rivals 6 (some .int) (some (.int rv), σ) 4 [(0, .ref (ad 0)), (1, .int a1), (2, .int x2), (3, .int x3)] [] σ := by
  intro n
  induction n with
  | zero =>
    intro x2 x3 h
    rw [C_rivals_L4] at h
    cases h
  | succ n ih =>
    intro x2 x3 h
    rw [C_rivals_L4] at h
    refine J_iload_n (q := 3) dX11_rivals_4 rfl rfl ?_
    refine J_aload_n (q := 0) dX11_rivals_5 rfl rfl ?_
    refine gC_now dX11_rivals_6 ?_
    refine gT_X11_people dX11_rivals_9 okT_1 rfl ?_
    refine J_icmp_ge (tgt := 78) dX11_rivals_12 (by decide) (fun c1 => ?_) (fun c1 => ?_)
    · replace h := it_some h c1
      refine J_iload_n (q := 2) dX11_rivals_78 rfl rfl ?_
      exact J_iret dX11_rivals_79 (rt_pi h) rfl
    · replace h := if_some h c1
      refine J_aload_n (q := 0) dX11_rivals_15 rfl rfl ?_
      refine gC_now dX11_rivals_16 ?_
      refine J_iload_n (q := 3) dX11_rivals_19 rfl rfl ?_
      refine J_iload_n (q := 1) dX11_rivals_20 rfl rfl ?_
      obtain ⟨r2, hq14, h⟩ := bd_some h
      refine kx_X11_143 hi okT_1 dX11_rivals_21 hq14 hL (by decide) (Nat.le_of_ble_eq_true rfl) ?_
      refine J_istore (lv' := [(4, .int r2), (0, .ref (ad 0)), (1, .int a1), (2, .int x2), (3, .int x3)]) dX11_rivals_24 (by decide) rfl ?_
      refine J_iload_n (q := 4) dX11_rivals_26 rfl rfl ?_
      refine J_iconst dX11_rivals_27 ic_1 ?_
      refine J_iadd dX11_rivals_28 ?_
      refine J_ti (fun v3 ev3 => ?_)
      replace h := nm_some ev3 h
      refine J_istore (lv' := [(5, .int v3), (4, .int r2), (0, .ref (ad 0)), (1, .int a1), (2, .int x2), (3, .int x3)]) dX11_rivals_29 (by decide) rfl ?_
      refine J_sub [2, 3, 4, 5, 1, 0] rfl (C_rivals_L31_ok hi hL (fun x2_12 h => ?_) FU _ _ h)
      refine J_iinc (q := 3) (v := (x3 + (1 : Int32))) (lv' := [(3, .int (x3 + (1 : Int32))), (0, .ref (ad 0)), (1, .int a1), (2, .int x2_12)]) dX11_rivals_72 rfl (congrArg (fun z => x3 + z) ic_1) (by decide) rfl ?_
      refine J_tv (fun v13 ev13 => ?_)
      replace h := nm_some ev13 h
      refine J_goto (tgt := 4) dX11_rivals_75 (by decide) ?_
      exact J_sub [1, 2, 3, 0] rfl (ih _ _ h)
set_option maxRecDepth 20000 in
set_option maxHeartbeats 4000000 in
theorem C_rivals_ok {E : Ec} {ad : Nat → Nat} {cy : Nat → ClassId} {rv : Int32} {σ : CS} {p1 : Int32} (hi : wl_inj (ΓC ad cy)) (hL : Lv E 5) (h : C_rivals σ p1 = some rv) : Jw E (ΓC ad cy) RX11 cX11_rivals 6 (some .int) (some (.int rv), σ) 0 [(0, .ref (ad 0)), (1, .int p1)] [] σ := by
  unfold C_rivals at h
  refine J_iconst dX11_rivals_0 ic_0 ?_
  refine J_istore_n (lv' := [(2, .int (0 : Int32)), (0, .ref (ad 0)), (1, .int p1)]) dX11_rivals_1 rfl (by decide) rfl ?_
  refine J_iconst dX11_rivals_2 ic_0 ?_
  refine J_istore_n (lv' := [(3, .int (0 : Int32)), (2, .int (0 : Int32)), (0, .ref (ad 0)), (1, .int p1)]) dX11_rivals_3 rfl (by decide) rfl ?_
  refine J_sub [2, 3, 1, 0] rfl (C_rivals_L4_ok hi hL FU _ _ h)
set_option maxRecDepth 20000 in
set_option maxHeartbeats 4000000 in
theorem kX11_rivals {l : Launch} {D : va_G} {ad : Nat → Nat} {cy : Nat → ClassId} {rv : Int32} {σ : CS} {p1 : Int32} (hi : wl_inj (ΓC ad cy)) (h : C_rivals σ p1 = some rv) : Cn l D (ΓC ad cy) yX11_rivals cX11_rivals 6 (some .int) 5 [.ref (ad 0), .int p1] σ (some (.int rv), σ) :=
  Cn.of hi rfl (Nat.le_of_ble_eq_true rfl) (fun _ _ _ hL => C_rivals_ok hi hL h)
theorem pdX11_common : (parseMethodDescriptor yX11_common.desc).map (fun d => d.parameters.length) = some 2 := by decide +kernel
theorem kx_X11_228 {E : Ec} {ad : Nat → Nat} {cy : Nat → ClassId} {cc : ByteArray} {nL : Nat} {rt : Option FieldType} {r : Option Value × CS} {pc : Nat} {lv : List (Nat × Value)} {st : List Value} {σ : CS} {n : Nat} {p1 : Int32} {v : Int32} (hi : wl_inj (ΓC ad cy)) (hd : decode cc pc = .ok (.invokevirtual 228, 3)) (hq : C_rivals σ p1 = some v) (hL : Lv E n) (hn : 5 + 1 ≤ n) (hW : (st.map fun v => v.category).sum ≤ 8) (k : Jw E (ΓC ad cy) RX11 cc nL rt r (pc + 3) lv (.int v :: st) σ) : Jw E (ΓC ad cy) RX11 cc nL rt r pc lv (.int p1 :: .ref (ad 0) :: st) σ :=
  J_callV (Γ := ΓC ad cy) (h := 0) (ci := 10) (av := [.int p1]) (q := (some (.int v), σ)) (st := st) hd (kX11_rivals hi hq) tw_3_72 tw_3_74 tw_1_1 tw_3_75 sl_1_14 ⟨by decide, by decide, pdX11_rivals⟩ (by show 0 < 111; decide) rfl rfl rfl rfl (by decide) hL hn hW k
set_option maxRecDepth 20000 in
set_option maxHeartbeats 4000000 in
theorem C_common_L55_ok {E : Ec} {ad : Nat → Nat} {cy : Nat → ClassId} {rv : Int32} {k111 : Int32 → Int32 → Int32 → Option Int32} {σ : CS} {a1 : Int32} {a2 : Int32} (hi : wl_inj (ΓC ad cy)) (hL : Lv E 6) (hk111 : ∀ (y3 : Int32) (y4 : Int32) (y5 : Int32), k111 y3 y4 y5 = some rv → Jw E (ΓC ad cy) RX11 cX11_common 8 (some .int) (some (.int rv), σ) 111 [(0, .ref (ad 0)), (1, .int a1), (2, .int a2), (3, .int y3), (4, .int y4), (5, .int y5)] [] σ) : ∀ (n : Nat) (x3 : Int32) (x4 : Int32) (x5 : Int32) (x6 : Int32), C_common_L55 k111 σ a1 a2 n x3 x4 x5 x6 = some rv → Jw E (ΓC ad cy) RX11 cX11_common 8 (some .int) (some (.int rv), σ) 55 [(0, .ref (ad 0)), (1, .int a1), (2, .int a2), (3, .int x3), (4, .int x4), (5, .int x5), (6, .int x6)] [] σ := by
  intro n
  induction n with
  | zero =>
    intro x3 x4 x5 x6 h
    rw [C_common_L55] at h
    cases h
  | succ n ih =>
    intro x3 x4 x5 x6 h
    rw [C_common_L55] at h
    refine J_iload (q := 6) dX11_common_55 rfl ?_
    refine J_aload_n (q := 0) dX11_common_57 rfl rfl ?_
    refine gC_now dX11_common_58 ?_
    refine gT_X11_people dX11_common_61 okT_1 rfl ?_
    refine J_icmp_ge (tgt := 111) dX11_common_64 (by decide) (fun c8 => ?_) (fun c8 => ?_)
    · replace h := it_some h c8
      exact J_sub [0, 1, 2, 3, 4, 5] rfl (hk111 _ _ _ h)
    · replace h := if_some h c8
      refine J_aload_n (q := 0) dX11_common_67 rfl rfl ?_
      refine gC_now dX11_common_68 ?_
      refine gT_X11_knows dX11_common_71 okT_1 rfl ?_
      refine J_iload (q := 6) dX11_common_74 rfl ?_
      refine J_iconst dX11_common_76 ic_5 ?_
      refine J_imul dX11_common_77 ?_
      refine J_iload_n (q := 1) dX11_common_78 rfl rfl ?_
      refine J_iadd dX11_common_79 ?_
      obtain ⟨hg9, h⟩ := gd_some h
      refine aT_ld (j := 7) (n := 35) dX11_common_80 okT_1 rfl (by decide) rfl hg9 ?_
      refine J_ti (fun v10 ev10 => ?_)
      replace h := nm_some ev10 h
      refine J_istore (lv' := [(7, .int v10), (0, .ref (ad 0)), (1, .int a1), (2, .int a2), (3, .int x3), (4, .int x4), (5, .int x5), (6, .int x6)]) dX11_common_81 (by decide) rfl ?_
      refine J_iload_n (q := 4) dX11_common_83 rfl rfl ?_
      refine J_iload (q := 0) dX11_common_84 rfl ?_
      refine J_iand dX11_common_86 ?_
      refine J_ti (fun v11 ev11 => ?_)
      replace h := nm_some ev11 h
      refine J_istore_n (lv' := [(3, .int v11), (7, .int v10), (0, .ref (ad 0)), (1, .int a1), (2, .int a2), (4, .int x4), (5, .int x5), (6, .int x6)]) dX11_common_87 rfl (by decide) rfl ?_
      refine J_iload (q := 6) dX11_common_88 rfl ?_
      refine J_iload (q := 5) dX11_common_90 rfl ?_
      refine J_iload (q := 1) dX11_common_92 rfl ?_
      refine J_iand dX11_common_94 ?_
      refine J_ior dX11_common_95 ?_
      refine J_ti (fun v12 ev12 => ?_)
      replace h := nm_some ev12 h
      refine J_istore (lv' := [(5, .int v12), (3, .int v11), (7, .int v10), (0, .ref (ad 0)), (1, .int a1), (2, .int a2), (4, .int x4), (6, .int x6)]) dX11_common_96 (by decide) rfl ?_
      refine J_iload (q := 6) dX11_common_98 rfl ?_
      refine J_iload (q := 2) dX11_common_100 rfl ?_
      refine J_ior dX11_common_102 ?_
      refine J_ti (fun v13 ev13 => ?_)
      replace h := nm_some ev13 h
      refine J_istore (lv' := [(4, .int v13), (5, .int v12), (3, .int v11), (7, .int v10), (0, .ref (ad 0)), (1, .int a1), (2, .int a2), (6, .int x6)]) dX11_common_103 (by decide) rfl ?_
      refine J_iinc (q := 7) (v := (x6 + (1 : Int32))) (lv' := [(6, .int (x6 + (1 : Int32))), (4, .int v13), (5, .int v12), (3, .int v11), (7, .int v10), (0, .ref (ad 0)), (1, .int a1), (2, .int a2)]) dX11_common_105 rfl (congrArg (fun z => x6 + z) ic_1) (by decide) rfl ?_
      refine J_tv (fun v14 ev14 => ?_)
      replace h := nm_some ev14 h
      refine J_goto (tgt := 55) dX11_common_108 (by decide) ?_
      exact J_sub [5, 6, 7, 3, 1, 2, 0] rfl (ih _ _ _ _ h)
set_option maxRecDepth 20000 in
set_option maxHeartbeats 4000000 in
theorem C_common_ok {E : Ec} {ad : Nat → Nat} {cy : Nat → ClassId} {rv : Int32} {σ : CS} {p1 : Int32} {p2 : Int32} (hi : wl_inj (ΓC ad cy)) (hL : Lv E 6) (h : C_common σ p1 p2 = some rv) : Jw E (ΓC ad cy) RX11 cX11_common 8 (some .int) (some (.int rv), σ) 0 [(0, .ref (ad 0)), (1, .int p1), (2, .int p2)] [] σ := by
  unfold C_common at h
  refine J_iload_n (q := 1) dX11_common_0 rfl rfl ?_
  obtain ⟨r1, hq22, h⟩ := bd_some h
  refine kx_X11_125 hi dX11_common_1 hq22 hL (by decide) (Nat.le_of_ble_eq_true rfl) ?_
  refine J_if_eq (tgt := 15) dX11_common_4 (by decide) (fun c2 => ?_) (fun c2 => ?_)
  · replace h := it_some h c2
    refine J_iconst dX11_common_15 ic_m1 ?_
    exact J_iret dX11_common_16 (rt_pi h) rfl
  · replace h := if_some h c2
    refine J_iload_n (q := 2) dX11_common_7 rfl rfl ?_
    refine J_iconst dX11_common_8 ic_3 ?_
    obtain ⟨r3, hq23, h⟩ := bd_some h
    refine kx_X11_102 hi dX11_common_9 hq23 hL (by decide) (Nat.le_of_ble_eq_true rfl) ?_
    refine J_if_ne (tgt := 17) dX11_common_12 (by decide) (fun c4 => ?_) (fun c4 => ?_)
    · replace h := if_some h c4
      refine J_iload_n (q := 2) dX11_common_17 rfl rfl ?_
      refine J_iconst dX11_common_18 ic_3 ?_
      refine J_icmp_ne (tgt := 28) dX11_common_19 (by decide) (fun c5 => ?_) (fun c5 => ?_)
      · replace h := if_some h c5
        refine J_aload_n (q := 0) dX11_common_28 rfl rfl ?_
        refine gC_now dX11_common_29 ?_
        refine gT_X11_people dX11_common_32 okT_1 rfl ?_
        obtain ⟨s7, ha45, h⟩ := bd_some h
        have K45 : Jw E (ΓC ad cy) RX11 cX11_common 8 (some .int) (some (.int rv), σ) 45 [(0, .ref (ad 0)), (1, .int p1), (2, .int p2)] [.int s7] σ := by
          clear ha45
          refine J_istore_n (lv' := [(3, .int s7), (0, .ref (ad 0)), (1, .int p1), (2, .int p2)]) dX11_common_45 rfl (by decide) rfl ?_
          refine J_iconst dX11_common_46 ic_0 ?_
          refine J_istore (lv' := [(4, .int (0 : Int32)), (3, .int s7), (0, .ref (ad 0)), (1, .int p1), (2, .int p2)]) dX11_common_47 (by decide) rfl ?_
          refine J_iconst dX11_common_49 ic_0 ?_
          refine J_istore (lv' := [(5, .int (0 : Int32)), (4, .int (0 : Int32)), (3, .int s7), (0, .ref (ad 0)), (1, .int p1), (2, .int p2)]) dX11_common_50 (by decide) rfl ?_
          refine J_iconst dX11_common_52 ic_0 ?_
          refine J_istore (lv' := [(6, .int (0 : Int32)), (5, .int (0 : Int32)), (4, .int (0 : Int32)), (3, .int s7), (0, .ref (ad 0)), (1, .int p1), (2, .int p2)]) dX11_common_53 (by decide) rfl ?_
          refine J_sub [4, 5, 6, 3, 2, 1, 0] rfl (C_common_L55_ok hi hL (fun x3_15 x4_16 x5_17 h => ?_) FU _ _ _ _ h)
          refine J_iload_n (q := 2) dX11_common_111 rfl rfl ?_
          refine J_if_ne (tgt := 117) dX11_common_112 (by decide) (fun c18 => ?_) (fun c18 => ?_)
          · replace h := if_some h c18
            refine J_iload_n (q := 2) dX11_common_117 rfl rfl ?_
            refine J_iconst dX11_common_118 ic_1 ?_
            refine J_icmp_ne (tgt := 132) dX11_common_119 (by decide) (fun c19 => ?_) (fun c19 => ?_)
            · replace h := if_some h c19
              refine J_aload_n (q := 0) dX11_common_132 rfl rfl ?_
              refine gC_now dX11_common_133 ?_
              refine gT_X11_truth dX11_common_136 okT_1 rfl ?_
              refine J_iload_n (q := 1) dX11_common_139 rfl rfl ?_
              obtain ⟨hg20, h⟩ := gd_some h
              refine aT_ld (j := 1) (n := 5) dX11_common_140 okT_1 rfl (by decide) rfl hg20 ?_
              refine J_iload (q := 4) dX11_common_141 rfl ?_
              refine J_iconst dX11_common_143 ic_m1 ?_
              refine J_ixor dX11_common_144 ?_
              refine J_iand dX11_common_145 ?_
              exact J_iret dX11_common_146 (rt_pi h) rfl
            · replace h := it_some h c19
              refine J_iload (q := 4) dX11_common_122 rfl ?_
              refine J_iload (q := 5) dX11_common_124 rfl ?_
              refine J_iconst dX11_common_126 ic_m1 ?_
              refine J_ixor dX11_common_127 ?_
              refine J_iand dX11_common_128 ?_
              refine J_goto (tgt := 146) dX11_common_129 (by decide) ?_
              exact J_iret dX11_common_146 (rt_pi h) rfl
          · replace h := it_some h c18
            refine J_iload_n (q := 3) dX11_common_115 rfl rfl ?_
            exact J_iret dX11_common_116 (rt_pi h) rfl
        clear h
        refine J_if_ne (tgt := 42) dX11_common_35 (by decide) (fun c6 => ?_) (fun c6 => ?_)
        · replace ha45 := if_some ha45 c6
          refine J_sipush dX11_common_42 sp_4095 ?_
          cases ha45
          exact J_sub [0, 1, 2] rfl (K45)
        · replace ha45 := it_some ha45 c6
          refine J_iconst dX11_common_38 ic_0 ?_
          refine J_goto (tgt := 45) dX11_common_39 (by decide) ?_
          cases ha45
          exact J_sub [0, 1, 2] rfl (K45)
      · replace h := it_some h c5
        refine J_aload_n (q := 0) dX11_common_22 rfl rfl ?_
        refine J_iload_n (q := 1) dX11_common_23 rfl rfl ?_
        obtain ⟨r21, hq24, h⟩ := bd_some h
        refine kx_X11_228 hi dX11_common_24 hq24 hL (by decide) (Nat.le_of_ble_eq_true rfl) ?_
        exact J_iret dX11_common_27 (rt_pi h) rfl
    · replace h := it_some h c4
      refine J_iconst dX11_common_15 ic_m1 ?_
      exact J_iret dX11_common_16 (rt_pi h) rfl
set_option maxRecDepth 20000 in
set_option maxHeartbeats 4000000 in
theorem kX11_common {l : Launch} {D : va_G} {ad : Nat → Nat} {cy : Nat → ClassId} {rv : Int32} {σ : CS} {p1 : Int32} {p2 : Int32} (hi : wl_inj (ΓC ad cy)) (h : C_common σ p1 p2 = some rv) : Cn l D (ΓC ad cy) yX11_common cX11_common 8 (some .int) 6 [.ref (ad 0), .int p1, .int p2] σ (some (.int rv), σ) :=
  Cn.of hi rfl (Nat.le_of_ble_eq_true rfl) (fun _ _ _ hL => C_common_ok hi hL h)
theorem pdX11_mindTells : (parseMethodDescriptor yX11_mindTells.desc).map (fun d => d.parameters.length) = some 2 := by decide +kernel
theorem kx_X11_254 {E : Ec} {ad : Nat → Nat} {cy : Nat → ClassId} {cc : ByteArray} {nL : Nat} {rt : Option FieldType} {r : Option Value × CS} {pc : Nat} {lv : List (Nat × Value)} {st : List Value} {σ : CS} {n b : Nat} {p1 : Int32} {p2 : Int32} {v : Int32} (hi : wl_inj (ΓC ad cy)) (hb : okS b) (hd : decode cc pc = .ok (.invokevirtual 254, 3)) (hq : S_agrees (σ b) p1 p2 = some v) (hL : Lv E n) (hn : 1 + 1 ≤ n) (hW : (st.map fun v => v.category).sum ≤ 8) (k : Jw E (ΓC ad cy) RX11 cc nL rt r (pc + 3) lv (.int v :: st) σ) : Jw E (ΓC ad cy) RX11 cc nL rt r pc lv (.int p2 :: .int p1 :: .ref (ad (2 * b + 70)) :: st) σ := by
  have hM := fun (l : Launch) (D : va_G) => kX7_agrees (l := l) (D := D) (ad := ad) (cy := cy) (σ := σ) hi hb hq
  simp only [vu_self] at hM
  exact J_callV (Γ := ΓC ad cy) (h := 2 * b + 70) (ci := 7) (av := [.int p1, .int p2]) (q := (some (.int v), σ)) (st := st) hd (hM _ _) tw_3_84 tw_3_85 tw_1_12 tw_3_87 tw_3_86 ⟨by decide, by decide, pdX7_agrees⟩ (hS (j := 0) hb (by decide)) (cC_s0 hb rfl) rfl rfl rfl (by decide) hL hn hW k
set_option maxRecDepth 20000 in
set_option maxHeartbeats 4000000 in
theorem C_mindTells_L13_ok {E : Ec} {ad : Nat → Nat} {cy : Nat → ClassId} {rv : (Int32 × CS)} {b1 : Nat} {a2 : Int32} {a3 : Int32} (hi : wl_inj (ΓC ad cy)) (hL : Lv E 5) (hb1 : okS b1) : ∀ (n : Nat) (σ : CS) (x4 : Int32), C_mindTells_L13 b1 a2 a3 n σ x4 = some rv → Jw E (ΓC ad cy) RX11 cX11_mindTells 5 (some .boolean) (some (.int rv.1), rv.2) 13 [(0, .ref (ad 0)), (1, .ref (ad (2 * b1 + 70))), (2, .int a2), (3, .int a3), (4, .int x4)] [] σ := by
  intro n
  induction n with
  | zero =>
    intro σ x4 h
    rw [C_mindTells_L13] at h
    cases h
  | succ n ih =>
    intro σ x4 h
    rw [C_mindTells_L13] at h
    refine J_iload (q := 4) dX11_mindTells_13 rfl ?_
    refine J_aload_n (q := 1) dX11_mindTells_15 rfl rfl ?_
    refine gS_X11_size dX11_mindTells_16 hb1 rfl ?_
    refine J_icmp_ge (tgt := 67) dX11_mindTells_19 (by decide) (fun c3 => ?_) (fun c3 => ?_)
    · replace h := it_some h c3
      refine J_iconst dX11_mindTells_67 ic_1 ?_
      exact J_zret dX11_mindTells_68 (rt_i h) rfl rfl
    · replace h := if_some h c3
      refine J_aload_n (q := 1) dX11_mindTells_22 rfl rfl ?_
      refine J_iload (q := 4) dX11_mindTells_23 rfl ?_
      refine J_iload_n (q := 3) dX11_mindTells_25 rfl rfl ?_
      obtain ⟨r4, hq14, h⟩ := bd_some h
      refine kx_X11_125 hi dX11_mindTells_26 hq14 hL (by decide) (Nat.le_of_ble_eq_true rfl) ?_
      obtain ⟨s7, ha45, h⟩ := bd_some h
      have K45 : Jw E (ΓC ad cy) RX11 cX11_mindTells 5 (some .boolean) (some (.int rv.1), rv.2) 45 [(0, .ref (ad 0)), (1, .ref (ad (2 * b1 + 70))), (2, .int a2), (3, .int a3), (4, .int x4)] [.int s7, .int x4, .ref (ad (2 * b1 + 70))] σ := by
        clear ha45
        obtain ⟨r8, hq15, h⟩ := bd_some h
        refine kx_X11_254 hi hb1 dX11_mindTells_45 hq15 hL (by decide) (Nat.le_of_ble_eq_true rfl) ?_
        refine J_if_ne (tgt := 53) dX11_mindTells_48 (by decide) (fun c9 => ?_) (fun c9 => ?_)
        · replace h := if_some h c9
          refine J_aload_n (q := 0) dX11_mindTells_53 rfl rfl ?_
          refine gC_mind dX11_mindTells_54 ?_
          obtain ⟨r10, t11, hq16, h⟩ := bd2_some h
          refine kx_X11_194 hi okT_3 dX11_mindTells_57 hq16 hL (by decide) (Nat.le_of_ble_eq_true rfl) ?_
          refine J_tw (fun σ12 eσ12 => ?_)
          replace h := nm_some eσ12 h
          refine J_pop dX11_mindTells_60 rfl ?_
          refine J_iinc (q := 4) (v := (x4 + (1 : Int32))) (lv' := [(4, .int (x4 + (1 : Int32))), (0, .ref (ad 0)), (1, .ref (ad (2 * b1 + 70))), (2, .int a2), (3, .int a3)]) dX11_mindTells_61 rfl (congrArg (fun z => x4 + z) ic_1) (by decide) rfl ?_
          refine J_tv (fun v13 ev13 => ?_)
          replace h := nm_some ev13 h
          refine J_goto (tgt := 13) dX11_mindTells_64 (by decide) ?_
          exact J_sub [1, 2, 3, 4, 0] rfl (ih _ _ h)
        · replace h := it_some h c9
          refine J_iconst dX11_mindTells_51 ic_0 ?_
          exact J_zret dX11_mindTells_52 (rt_i h) rfl rfl
      clear h
      refine J_if_eq (tgt := 44) dX11_mindTells_29 (by decide) (fun c5 => ?_) (fun c5 => ?_)
      · replace ha45 := it_some ha45 c5
        refine J_iconst dX11_mindTells_44 ic_0 ?_
        cases ha45
        exact J_sub [0, 1, 2, 3, 4] rfl (K45)
      · replace ha45 := if_some ha45 c5
        refine J_aload_n (q := 0) dX11_mindTells_32 rfl rfl ?_
        refine gC_mind dX11_mindTells_33 ?_
        refine J_iload_n (q := 2) dX11_mindTells_36 rfl rfl ?_
        refine J_iload_n (q := 3) dX11_mindTells_37 rfl rfl ?_
        obtain ⟨r6, hq17, ha45⟩ := bd_some ha45
        refine kx_X11_143 hi okT_3 dX11_mindTells_38 hq17 hL (by decide) (Nat.le_of_ble_eq_true rfl) ?_
        refine J_goto (tgt := 45) dX11_mindTells_41 (by decide) ?_
        cases ha45
        exact J_sub [0, 1, 2, 3, 4] rfl (K45)
set_option maxRecDepth 20000 in
set_option maxHeartbeats 4000000 in
theorem C_mindTells_ok {E : Ec} {ad : Nat → Nat} {cy : Nat → ClassId} {rv : (Int32 × CS)} {σ : CS} {p1 : Nat} {p2 : Int32} (hi : wl_inj (ΓC ad cy)) (hL : Lv E 5) (hp1 : okS p1) (h : C_mindTells σ p1 p2 = some rv) : Jw E (ΓC ad cy) RX11 cX11_mindTells 5 (some .boolean) (some (.int rv.1), rv.2) 0 [(0, .ref (ad 0)), (1, .ref (ad (2 * p1 + 70))), (2, .int p2)] [] σ := by
  unfold C_mindTells at h
  refine J_aload_n (q := 0) dX11_mindTells_0 rfl rfl ?_
  refine gC_mind dX11_mindTells_1 ?_
  refine gT_X11_caresFor dX11_mindTells_4 okT_3 rfl ?_
  refine J_iload_n (q := 2) dX11_mindTells_7 rfl rfl ?_
  obtain ⟨hg1, h⟩ := gd_some h
  refine aT_ld (j := 6) (n := 7) dX11_mindTells_8 okT_3 rfl (by decide) rfl hg1 ?_
  refine J_ti (fun v2 ev2 => ?_)
  replace h := nm_some ev2 h
  refine J_istore_n (lv' := [(3, .int v2), (0, .ref (ad 0)), (1, .ref (ad (2 * p1 + 70))), (2, .int p2)]) dX11_mindTells_9 rfl (by decide) rfl ?_
  refine J_iconst dX11_mindTells_10 ic_0 ?_
  refine J_istore (lv' := [(4, .int (0 : Int32)), (3, .int v2), (0, .ref (ad 0)), (1, .ref (ad (2 * p1 + 70))), (2, .int p2)]) dX11_mindTells_11 (by decide) rfl ?_
  refine J_sub [2, 3, 4, 1, 0] rfl (C_mindTells_L13_ok hi hL hp1 FU _ _ h)
set_option maxRecDepth 20000 in
set_option maxHeartbeats 4000000 in
theorem kX11_mindTells {l : Launch} {D : va_G} {ad : Nat → Nat} {cy : Nat → ClassId} {rv : (Int32 × CS)} {σ : CS} {p1 : Nat} {p2 : Int32} (hi : wl_inj (ΓC ad cy)) (hp1 : okS p1) (h : C_mindTells σ p1 p2 = some rv) : Cn l D (ΓC ad cy) yX11_mindTells cX11_mindTells 5 (some .boolean) 5 [.ref (ad 0), .ref (ad (2 * p1 + 70)), .int p2] σ (some (.int rv.1), rv.2) :=
  Cn.of hi rfl (Nat.le_of_ble_eq_true rfl) (fun _ _ _ hL => C_mindTells_ok hi hL hp1 h)
theorem pdX11_whatIs : (parseMethodDescriptor yX11_whatIs.desc).map (fun d => d.parameters.length) = some 3 := by decide +kernel
theorem kx_X11_231 {E : Ec} {ad : Nat → Nat} {cy : Nat → ClassId} {cc : ByteArray} {nL : Nat} {rt : Option FieldType} {r : Option Value × CS} {pc : Nat} {lv : List (Nat × Value)} {st : List Value} {σ : CS} {n : Nat} {p1 : Nat} {p2 : Int32} {v : Int32} {σ' : CS} (hi : wl_inj (ΓC ad cy)) (hp1 : okS p1) (hd : decode cc pc = .ok (.invokevirtual 231, 3)) (hq : C_mindTells σ p1 p2 = some (v, σ')) (hL : Lv E n) (hn : 5 + 1 ≤ n) (hW : (st.map fun v => v.category).sum ≤ 8) (k : Jw E (ΓC ad cy) RX11 cc nL rt r (pc + 3) lv (.int v :: st) σ') : Jw E (ΓC ad cy) RX11 cc nL rt r pc lv (.int p2 :: .ref (ad (2 * p1 + 70)) :: .ref (ad 0) :: st) σ :=
  J_callV (Γ := ΓC ad cy) (h := 0) (ci := 10) (av := [.ref (ad (2 * p1 + 70)), .int p2]) (q := (some (.int v), σ')) (st := st) hd (kX11_mindTells hi hp1 hq) tw_3_80 tw_3_82 tw_1_1 tw_3_83 sl_1_15 ⟨by decide, by decide, pdX11_mindTells⟩ (by show 0 < 111; decide) rfl rfl rfl rfl (by decide) hL hn hW k
set_option maxRecDepth 20000 in
set_option maxHeartbeats 4000000 in
theorem C_whatIs_L62_ok {E : Ec} {ad : Nat → Nat} {cy : Nat → ClassId} {rv : (Int32 × CS)} {a1 : Int32} {a2 : Int32} {a3 : Int32} {a5 : Int32} (hi : wl_inj (ΓC ad cy)) (hL : Lv E 6) : ∀ (n : Nat) (σ : CS) (x6 : Int32) (x7 : Int32), C_whatIs_L62 a1 a2 a3 a5 n σ x6 x7 = some rv → Jw E (ΓC ad cy) RX11 cX11_whatIs 8 (some .int) (some (.int rv.1), rv.2) 62 [(0, .ref (ad 0)), (1, .int a1), (2, .int a2), (3, .int a3), (5, .int a5), (6, .int x6), (7, .int x7)] [] σ := by
  intro n
  induction n with
  | zero =>
    intro σ x6 x7 h
    rw [C_whatIs_L62] at h
    cases h
  | succ n ih =>
    intro σ x6 x7 h
    rw [C_whatIs_L62] at h
    refine J_iload (q := 6) dX11_whatIs_62 rfl ?_
    refine J_iload (q := 4) dX11_whatIs_64 rfl ?_
    refine J_icmp_ge (tgt := 138) dX11_whatIs_66 (by decide) (fun c11 => ?_) (fun c11 => ?_)
    · replace h := it_some h c11
      refine J_iload (q := 5) dX11_whatIs_138 rfl ?_
      exact J_iret dX11_whatIs_140 (rt_i h) rfl
    · replace h := if_some h c11
      refine J_aload_n (q := 0) dX11_whatIs_69 rfl rfl ?_
      refine gC_mind dX11_whatIs_70 ?_
      refine J_aload_n (q := 0) dX11_whatIs_73 rfl rfl ?_
      refine gC_now dX11_whatIs_74 ?_
      obtain ⟨t12, hq27, h⟩ := bd_some h
      refine kx_X11_83 hi okT_3 okT_1 (by decide) dX11_whatIs_77 hq27 hL (by decide) (Nat.le_of_ble_eq_true rfl) ?_
      refine J_tw (fun σ13 eσ13 => ?_)
      replace h := nm_some eσ13 h
      refine J_iload_n (q := 3) dX11_whatIs_80 rfl rfl ?_
      obtain ⟨σ19, ha109, h⟩ := bd_some h
      have K109 : Jw E (ΓC ad cy) RX11 cX11_whatIs 8 (some .int) (some (.int rv.1), rv.2) 109 [(0, .ref (ad 0)), (1, .int a1), (2, .int a2), (3, .int a3), (5, .int a5), (6, .int x6), (7, .int x7)] [] σ19 := by
        clear ha109
        refine J_aload_n (q := 0) dX11_whatIs_109 rfl rfl ?_
        refine J_aload_n (q := 0) dX11_whatIs_110 rfl rfl ?_
        refine gC_shelves dX11_whatIs_111 ?_
        refine J_iload_n (q := 1) dX11_whatIs_114 rfl rfl ?_
        obtain ⟨hg20, h⟩ := gd_some h
        refine aM_shelf dX11_whatIs_115 hg20 ?_
        refine J_iload_n (q := 2) dX11_whatIs_116 rfl rfl ?_
        obtain ⟨r21, σ22, hq28, h⟩ := bd2_some h
        refine kx_X11_231 hi (okS_m hg20) dX11_whatIs_117 hq28 hL (by decide) (Nat.le_of_ble_eq_true rfl) ?_
        obtain ⟨x6_25, ha132, h⟩ := bd_some h
        have K132 : Jw E (ΓC ad cy) RX11 cX11_whatIs 8 (some .int) (some (.int rv.1), rv.2) 132 [(0, .ref (ad 0)), (1, .int a1), (2, .int a2), (3, .int a3), (5, .int a5), (6, .int x6_25), (7, .int x7)] [] σ22 := by
          clear ha132
          refine J_iinc (q := 6) (v := (x7 + (1 : Int32))) (lv' := [(7, .int (x7 + (1 : Int32))), (0, .ref (ad 0)), (1, .int a1), (2, .int a2), (3, .int a3), (5, .int a5), (6, .int x6_25)]) dX11_whatIs_132 rfl (congrArg (fun z => x7 + z) ic_1) (by decide) rfl ?_
          refine J_tv (fun v26 ev26 => ?_)
          replace h := nm_some ev26 h
          refine J_goto (tgt := 62) dX11_whatIs_135 (by decide) ?_
          exact J_sub [1, 2, 3, 4, 5, 6, 0] rfl (ih _ _ _ h)
        clear h
        refine J_if_eq (tgt := 132) dX11_whatIs_120 (by decide) (fun c23 => ?_) (fun c23 => ?_)
        · replace ha132 := it_some ha132 c23
          cases ha132
          exact J_sub [0, 1, 2, 3, 4, 5, 6] rfl (K132)
        · replace ha132 := if_some ha132 c23
          refine J_iload (q := 5) dX11_whatIs_123 rfl ?_
          refine J_iconst dX11_whatIs_125 ic_1 ?_
          refine J_iload (q := 6) dX11_whatIs_126 rfl ?_
          refine J_ishl dX11_whatIs_128 ?_
          refine J_ior dX11_whatIs_129 ?_
          refine J_ti (fun v24 ev24 => ?_)
          replace ha132 := nm_some ev24 ha132
          refine J_istore (lv' := [(6, .int v24), (0, .ref (ad 0)), (1, .int a1), (2, .int a2), (3, .int a3), (5, .int a5), (7, .int x7)]) dX11_whatIs_130 (by decide) rfl ?_
          cases ha132
          exact J_sub [1, 2, 3, 4, 5, 0, 6] rfl (K132)
      clear h
      refine J_if_ne (tgt := 98) dX11_whatIs_81 (by decide) (fun c14 => ?_) (fun c14 => ?_)
      · replace ha109 := if_some ha109 c14
        refine J_aload_n (q := 0) dX11_whatIs_98 rfl rfl ?_
        refine gC_mind dX11_whatIs_99 ?_
        refine gT_X11_figure dX11_whatIs_102 okT_3 rfl ?_
        refine J_iload_n (q := 2) dX11_whatIs_105 rfl rfl ?_
        refine J_iload (q := 6) dX11_whatIs_106 rfl ?_
        obtain ⟨hg15, ha109⟩ := gd_some ha109
        refine aT_st (w' := (va_up σ13 3 (pA (σ13 3) 5 a2 x7))) (j := 5) (n := 7) dX11_whatIs_108 okT_3 rfl vu_at (fun _ h9 => vu_ne h9) (by decide) rfl hg15 ?_
        refine J_tw (fun σ16 eσ16 => ?_)
        replace ha109 := nm_some eσ16 ha109
        cases ha109
        exact J_sub [0, 1, 2, 3, 4, 5, 6] rfl (K109)
      · replace ha109 := it_some ha109 c14
        refine J_aload_n (q := 0) dX11_whatIs_84 rfl rfl ?_
        refine gC_mind dX11_whatIs_85 ?_
        refine gT_X11_kind dX11_whatIs_88 okT_3 rfl ?_
        refine J_iload_n (q := 2) dX11_whatIs_91 rfl rfl ?_
        refine J_iload (q := 6) dX11_whatIs_92 rfl ?_
        obtain ⟨hg17, ha109⟩ := gd_some ha109
        refine aT_st (w' := (va_up σ13 3 (pA (σ13 3) 4 a2 x7))) (j := 4) (n := 7) dX11_whatIs_94 okT_3 rfl vu_at (fun _ h9 => vu_ne h9) (by decide) rfl hg17 ?_
        refine J_tw (fun σ18 eσ18 => ?_)
        replace ha109 := nm_some eσ18 ha109
        refine J_goto (tgt := 109) dX11_whatIs_95 (by decide) ?_
        cases ha109
        exact J_sub [0, 1, 2, 3, 4, 5, 6] rfl (K109)
set_option maxRecDepth 20000 in
set_option maxHeartbeats 4000000 in
theorem C_whatIs_ok {E : Ec} {ad : Nat → Nat} {cy : Nat → ClassId} {rv : (Int32 × CS)} {σ : CS} {p1 : Int32} {p2 : Int32} {p3 : Int32} (hi : wl_inj (ΓC ad cy)) (hL : Lv E 6) (h : C_whatIs σ p1 p2 p3 = some rv) : Jw E (ΓC ad cy) RX11 cX11_whatIs 8 (some .int) (some (.int rv.1), rv.2) 0 [(0, .ref (ad 0)), (1, .int p1), (2, .int p2), (3, .int p3)] [] σ := by
  unfold C_whatIs at h
  refine J_iload_n (q := 1) dX11_whatIs_0 rfl rfl ?_
  obtain ⟨r1, hq29, h⟩ := bd_some h
  refine kx_X11_146 hi dX11_whatIs_1 hq29 hL (by decide) (Nat.le_of_ble_eq_true rfl) ?_
  refine J_if_eq (tgt := 26) dX11_whatIs_4 (by decide) (fun c2 => ?_) (fun c2 => ?_)
  · replace h := it_some h c2
    refine J_iconst dX11_whatIs_26 ic_m1 ?_
    exact J_iret dX11_whatIs_27 (rt_i h) rfl
  · replace h := if_some h c2
    refine J_aload_n (q := 0) dX11_whatIs_7 rfl rfl ?_
    refine gC_now dX11_whatIs_8 ?_
    refine J_iload_n (q := 2) dX11_whatIs_11 rfl rfl ?_
    obtain ⟨r3, hq30, h⟩ := bd_some h
    refine kx_X11_98 hi okT_1 dX11_whatIs_12 hq30 hL (by decide) (Nat.le_of_ble_eq_true rfl) ?_
    refine J_if_eq (tgt := 26) dX11_whatIs_15 (by decide) (fun c4 => ?_) (fun c4 => ?_)
    · replace h := it_some h c4
      refine J_iconst dX11_whatIs_26 ic_m1 ?_
      exact J_iret dX11_whatIs_27 (rt_i h) rfl
    · replace h := if_some h c4
      refine J_iload_n (q := 3) dX11_whatIs_18 rfl rfl ?_
      refine J_iconst dX11_whatIs_19 ic_1 ?_
      obtain ⟨r5, hq31, h⟩ := bd_some h
      refine kx_X11_102 hi dX11_whatIs_20 hq31 hL (by decide) (Nat.le_of_ble_eq_true rfl) ?_
      refine J_if_ne (tgt := 28) dX11_whatIs_23 (by decide) (fun c6 => ?_) (fun c6 => ?_)
      · replace h := if_some h c6
        refine J_aload_n (q := 0) dX11_whatIs_28 rfl rfl ?_
        refine J_iload_n (q := 1) dX11_whatIs_29 rfl rfl ?_
        obtain ⟨r7, hq32, h⟩ := bd_some h
        refine kx_X11_69 hi dX11_whatIs_30 hq32 hL (by decide) (Nat.le_of_ble_eq_true rfl) ?_
        refine J_istore (lv' := [(4, .int r7), (0, .ref (ad 0)), (1, .int p1), (2, .int p2), (3, .int p3)]) dX11_whatIs_33 (by decide) rfl ?_
        refine J_iload (q := 0) dX11_whatIs_35 rfl ?_
        refine J_if_eq (tgt := 43) dX11_whatIs_37 (by decide) (fun c8 => ?_) (fun c8 => ?_)
        · replace h := it_some h c8
          refine J_iload_n (q := 4) dX11_whatIs_43 rfl rfl ?_
          obtain ⟨s10, ha54, h⟩ := bd_some h
          have K54 : Jw E (ΓC ad cy) RX11 cX11_whatIs 8 (some .int) (some (.int rv.1), rv.2) 54 [(0, .ref (ad 0)), (1, .int p1), (2, .int p2), (3, .int p3)] [.int s10] σ := by
            clear ha54
            refine J_istore (lv' := [(5, .int s10), (0, .ref (ad 0)), (1, .int p1), (2, .int p2), (3, .int p3)]) dX11_whatIs_54 (by decide) rfl ?_
            refine J_iconst dX11_whatIs_56 ic_0 ?_
            refine J_istore (lv' := [(6, .int (0 : Int32)), (5, .int s10), (0, .ref (ad 0)), (1, .int p1), (2, .int p2), (3, .int p3)]) dX11_whatIs_57 (by decide) rfl ?_
            refine J_iconst dX11_whatIs_59 ic_0 ?_
            refine J_istore (lv' := [(7, .int (0 : Int32)), (6, .int (0 : Int32)), (5, .int s10), (0, .ref (ad 0)), (1, .int p1), (2, .int p2), (3, .int p3)]) dX11_whatIs_60 (by decide) rfl ?_
            refine J_sub [3, 4, 5, 6, 2, 1, 0] rfl (C_whatIs_L62_ok hi hL FU _ _ _ h)
          clear h
          refine J_if_ne (tgt := 52) dX11_whatIs_44 (by decide) (fun c9 => ?_) (fun c9 => ?_)
          · replace ha54 := if_some ha54 c9
            refine J_bipush dX11_whatIs_52 bp_10 ?_
            cases ha54
            exact J_sub [1, 2, 3, 4] rfl (K54)
          · replace ha54 := it_some ha54 c9
            refine J_bipush dX11_whatIs_47 bp_8 ?_
            refine J_goto (tgt := 54) dX11_whatIs_49 (by decide) ?_
            cases ha54
            exact J_sub [1, 2, 3, 4] rfl (K54)
        · replace h := if_some h c8
          refine J_iload (q := 0) dX11_whatIs_40 rfl ?_
          exact J_iret dX11_whatIs_42 (rt_i h) rfl
      · replace h := it_some h c6
        refine J_iconst dX11_whatIs_26 ic_m1 ?_
        exact J_iret dX11_whatIs_27 (rt_i h) rfl
set_option maxRecDepth 20000 in
set_option maxHeartbeats 4000000 in
theorem kX11_whatIs {l : Launch} {D : va_G} {ad : Nat → Nat} {cy : Nat → ClassId} {rv : (Int32 × CS)} {σ : CS} {p1 : Int32} {p2 : Int32} {p3 : Int32} (hi : wl_inj (ΓC ad cy)) (h : C_whatIs σ p1 p2 p3 = some rv) : Cn l D (ΓC ad cy) yX11_whatIs cX11_whatIs 8 (some .int) 6 [.ref (ad 0), .int p1, .int p2, .int p3] σ (some (.int rv.1), rv.2) :=
  Cn.of hi rfl (Nat.le_of_ble_eq_true rfl) (fun _ _ _ hL => C_whatIs_ok hi hL h)
theorem pdX11_mindHasStories : (parseMethodDescriptor yX11_mindHasStories.desc).map (fun d => d.parameters.length) = some 2 := by decide +kernel
set_option maxRecDepth 20000 in
set_option maxHeartbeats 4000000 in
theorem C_mindHasStories_L18_ok {E : Ec} {ad : Nat → Nat} {cy : Nat → ClassId} {rv : Int32} {σ : CS} {b1 : Nat} {a2 : Int32} (hi : wl_inj (ΓC ad cy)) (hL : Lv E 5) (hb1 : okS b1) : ∀ (n : Nat) (x3 : Int32), C_mindHasStories_L18 σ b1 a2 n x3 = some rv → Jw E (ΓC ad cy) RX11 cX11_mindHasStories 4 (some .boolean) (some (.int rv), σ) 18 [(0, .ref (ad 0)), (1, .ref (ad (2 * b1 + 70))), (2, .int a2), (3, .int x3)] [] σ := by
  intro n
  induction n with
  | zero =>
    intro x3 h
    rw [C_mindHasStories_L18] at h
    cases h
  | succ n ih =>
    intro x3 h
    rw [C_mindHasStories_L18] at h
    refine J_iload_n (q := 3) dX11_mindHasStories_18 rfl rfl ?_
    refine J_aload_n (q := 1) dX11_mindHasStories_19 rfl rfl ?_
    refine gS_X11_size dX11_mindHasStories_20 hb1 rfl ?_
    refine J_icmp_ge (tgt := 51) dX11_mindHasStories_23 (by decide) (fun c2 => ?_) (fun c2 => ?_)
    · replace h := it_some h c2
      refine J_iconst dX11_mindHasStories_51 ic_1 ?_
      exact J_zret dX11_mindHasStories_52 (rt_pi h) rfl rfl
    · replace h := if_some h c2
      refine J_aload_n (q := 1) dX11_mindHasStories_26 rfl rfl ?_
      refine J_iload_n (q := 3) dX11_mindHasStories_27 rfl rfl ?_
      refine J_aload_n (q := 0) dX11_mindHasStories_28 rfl rfl ?_
      refine gC_mind dX11_mindHasStories_29 ?_
      refine J_iload_n (q := 3) dX11_mindHasStories_32 rfl rfl ?_
      refine J_iload_n (q := 2) dX11_mindHasStories_33 rfl rfl ?_
      obtain ⟨r3, hq7, h⟩ := bd_some h
      refine kx_X11_143 hi okT_3 dX11_mindHasStories_34 hq7 hL (by decide) (Nat.le_of_ble_eq_true rfl) ?_
      obtain ⟨r4, hq8, h⟩ := bd_some h
      refine kx_X11_254 hi hb1 dX11_mindHasStories_37 hq8 hL (by decide) (Nat.le_of_ble_eq_true rfl) ?_
      refine J_if_ne (tgt := 45) dX11_mindHasStories_40 (by decide) (fun c5 => ?_) (fun c5 => ?_)
      · replace h := if_some h c5
        refine J_iinc (q := 3) (v := (x3 + (1 : Int32))) (lv' := [(3, .int (x3 + (1 : Int32))), (0, .ref (ad 0)), (1, .ref (ad (2 * b1 + 70))), (2, .int a2)]) dX11_mindHasStories_45 rfl (congrArg (fun z => x3 + z) ic_1) (by decide) rfl ?_
        refine J_tv (fun v6 ev6 => ?_)
        replace h := nm_some ev6 h
        refine J_goto (tgt := 18) dX11_mindHasStories_48 (by decide) ?_
        exact J_sub [1, 2, 3, 0] rfl (ih _ h)
      · replace h := it_some h c5
        refine J_iconst dX11_mindHasStories_43 ic_0 ?_
        exact J_zret dX11_mindHasStories_44 (rt_pi h) rfl rfl
set_option maxRecDepth 20000 in
set_option maxHeartbeats 4000000 in
theorem C_mindHasStories_ok {E : Ec} {ad : Nat → Nat} {cy : Nat → ClassId} {rv : Int32} {σ : CS} {p1 : Nat} {p2 : Int32} (hi : wl_inj (ΓC ad cy)) (hL : Lv E 5) (hp1 : okS p1) (h : C_mindHasStories σ p1 p2 = some rv) : Jw E (ΓC ad cy) RX11 cX11_mindHasStories 4 (some .boolean) (some (.int rv), σ) 0 [(0, .ref (ad 0)), (1, .ref (ad (2 * p1 + 70))), (2, .int p2)] [] σ := by
  unfold C_mindHasStories at h
  refine J_aload_n (q := 1) dX11_mindHasStories_0 rfl rfl ?_
  refine gS_X11_size dX11_mindHasStories_1 hp1 rfl ?_
  refine J_aload_n (q := 0) dX11_mindHasStories_4 rfl rfl ?_
  refine gC_mind dX11_mindHasStories_5 ?_
  refine gT_X11_people dX11_mindHasStories_8 okT_3 rfl ?_
  refine J_icmp_le (tgt := 16) dX11_mindHasStories_11 (by decide) (fun c1 => ?_) (fun c1 => ?_)
  · replace h := it_some h c1
    refine J_iconst dX11_mindHasStories_16 ic_0 ?_
    refine J_istore_n (lv' := [(3, .int (0 : Int32)), (0, .ref (ad 0)), (1, .ref (ad (2 * p1 + 70))), (2, .int p2)]) dX11_mindHasStories_17 rfl (by decide) rfl ?_
    refine J_sub [1, 2, 3, 0] rfl (C_mindHasStories_L18_ok hi hL hp1 FU _ h)
  · replace h := if_some h c1
    refine J_iconst dX11_mindHasStories_14 ic_0 ?_
    exact J_zret dX11_mindHasStories_15 (rt_pi h) rfl rfl
set_option maxRecDepth 20000 in
set_option maxHeartbeats 4000000 in
theorem kX11_mindHasStories {l : Launch} {D : va_G} {ad : Nat → Nat} {cy : Nat → ClassId} {rv : Int32} {σ : CS} {p1 : Nat} {p2 : Int32} (hi : wl_inj (ΓC ad cy)) (hp1 : okS p1) (h : C_mindHasStories σ p1 p2 = some rv) : Cn l D (ΓC ad cy) yX11_mindHasStories cX11_mindHasStories 4 (some .boolean) 5 [.ref (ad 0), .ref (ad (2 * p1 + 70)), .int p2] σ (some (.int rv), σ) :=
  Cn.of hi rfl (Nat.le_of_ble_eq_true rfl) (fun _ _ _ hL => C_mindHasStories_ok hi hL hp1 h)
theorem pdX11_whichPast : (parseMethodDescriptor yX11_whichPast.desc).map (fun d => d.parameters.length) = some 3 := by decide +kernel
theorem kx_X11_235 {E : Ec} {ad : Nat → Nat} {cy : Nat → ClassId} {cc : ByteArray} {nL : Nat} {rt : Option FieldType} {r : Option Value × CS} {pc : Nat} {lv : List (Nat × Value)} {st : List Value} {σ : CS} {n : Nat} {p1 : Nat} {p2 : Int32} {v : Int32} (hi : wl_inj (ΓC ad cy)) (hp1 : okS p1) (hd : decode cc pc = .ok (.invokevirtual 235, 3)) (hq : C_mindHasStories σ p1 p2 = some v) (hL : Lv E n) (hn : 5 + 1 ≤ n) (hW : (st.map fun v => v.category).sum ≤ 8) (k : Jw E (ΓC ad cy) RX11 cc nL rt r (pc + 3) lv (.int v :: st) σ) : Jw E (ΓC ad cy) RX11 cc nL rt r pc lv (.int p2 :: .ref (ad (2 * p1 + 70)) :: .ref (ad 0) :: st) σ :=
  J_callV (Γ := ΓC ad cy) (h := 0) (ci := 10) (av := [.ref (ad (2 * p1 + 70)), .int p2]) (q := (some (.int v), σ)) (st := st) hd (kX11_mindHasStories hi hp1 hq) tw_3_97 tw_3_99 tw_1_1 tw_3_100 sl_2_1 ⟨by decide, by decide, pdX11_mindHasStories⟩ (by show 0 < 111; decide) rfl rfl rfl rfl (by decide) hL hn hW k
set_option maxRecDepth 20000 in
set_option maxHeartbeats 4000000 in
theorem C_whichPast_L64_ok {E : Ec} {ad : Nat → Nat} {cy : Nat → ClassId} {rv : (Int32 × CS)} {k121 : Int32 → Int32 → Int32 → CS → Option (Int32 × CS)} {a1 : Int32} {a2 : Int32} {a3 : Int32} (hi : wl_inj (ΓC ad cy)) (hL : Lv E 6) (hk121 : ∀ (y5 : Int32) (y6 : Int32) (y7 : Int32) (yw : CS), k121 y5 y6 y7 yw = some rv → Jw E (ΓC ad cy) RX11 cX11_whichPast 9 (some .int) (some (.int rv.1), rv.2) 121 [(3, .int a3), (5, .int y5), (6, .int y6), (7, .int y7)] [] yw) : ∀ (n : Nat) (σ : CS) (x5 : Int32) (x6 : Int32) (x7 : Int32) (x8 : Int32), C_whichPast_L64 k121 a1 a2 a3 n σ x5 x6 x7 x8 = some rv → Jw E (ΓC ad cy) RX11 cX11_whichPast 9 (some .int) (some (.int rv.1), rv.2) 64 [(0, .ref (ad 0)), (1, .int a1), (2, .int a2), (3, .int a3), (5, .int x5), (6, .int x6), (7, .int x7), (8, .int x8)] [] σ := by
  intro n
  induction n with
  | zero =>
    intro σ x5 x6 x7 x8 h
    rw [C_whichPast_L64] at h
    cases h
  | succ n ih =>
    intro σ x5 x6 x7 x8 h
    rw [C_whichPast_L64] at h
    refine J_iload (q := 7) dX11_whichPast_64 rfl ?_
    refine J_sipush dX11_whichPast_66 sp_4095 ?_
    refine J_icmp_gt (tgt := 121) dX11_whichPast_69 (by decide) (fun c11 => ?_) (fun c11 => ?_)
    · replace h := it_some h c11
      exact J_sub [3, 4, 5, 6] rfl (hk121 _ _ _ _ h)
    · replace h := if_some h c11
      refine J_aload_n (q := 0) dX11_whichPast_72 rfl rfl ?_
      refine gC_mind dX11_whichPast_73 ?_
      refine gT_X11_truth dX11_whichPast_76 okT_3 rfl ?_
      refine J_iload_n (q := 2) dX11_whichPast_79 rfl rfl ?_
      refine J_iload (q := 7) dX11_whichPast_80 rfl ?_
      obtain ⟨hg12, h⟩ := gd_some h
      refine aT_st (w' := (va_up σ 3 (pA (σ 3) 1 a2 x8))) (j := 1) (n := 5) dX11_whichPast_82 okT_3 rfl vu_at (fun _ h9 => vu_ne h9) (by decide) rfl hg12 ?_
      refine J_tw (fun σ13 eσ13 => ?_)
      replace h := nm_some eσ13 h
      refine J_aload_n (q := 0) dX11_whichPast_83 rfl rfl ?_
      refine J_aload_n (q := 0) dX11_whichPast_84 rfl rfl ?_
      refine gC_shelves dX11_whichPast_85 ?_
      refine J_iload_n (q := 1) dX11_whichPast_88 rfl rfl ?_
      obtain ⟨hg14, h⟩ := gd_some h
      refine aM_shelf dX11_whichPast_89 hg14 ?_
      refine J_iload_n (q := 2) dX11_whichPast_90 rfl rfl ?_
      obtain ⟨r15, hq23, h⟩ := bd_some h
      refine kx_X11_235 hi (okS_m hg14) dX11_whichPast_91 hq23 hL (by decide) (Nat.le_of_ble_eq_true rfl) ?_
      obtain ⟨x5_19, x6_20, x7_21, ha115, h⟩ := bd3_some h
      have K115 : Jw E (ΓC ad cy) RX11 cX11_whichPast 9 (some .int) (some (.int rv.1), rv.2) 115 [(0, .ref (ad 0)), (1, .int a1), (2, .int a2), (3, .int a3), (5, .int x5_19), (6, .int x6_20), (7, .int x7_21), (8, .int x8)] [] σ13 := by
        clear ha115
        refine J_iinc (q := 7) (v := (x8 + (1 : Int32))) (lv' := [(8, .int (x8 + (1 : Int32))), (0, .ref (ad 0)), (1, .int a1), (2, .int a2), (3, .int a3), (5, .int x5_19), (6, .int x6_20), (7, .int x7_21)]) dX11_whichPast_115 rfl (congrArg (fun z => x8 + z) ic_1) (by decide) rfl ?_
        refine J_tv (fun v22 ev22 => ?_)
        replace h := nm_some ev22 h
        refine J_goto (tgt := 64) dX11_whichPast_118 (by decide) ?_
        exact J_sub [1, 2, 3, 4, 5, 6, 7, 0] rfl (ih _ _ _ _ _ h)
      clear h
      refine J_if_eq (tgt := 115) dX11_whichPast_94 (by decide) (fun c16 => ?_) (fun c16 => ?_)
      · replace ha115 := it_some ha115 c16
        cases ha115
        exact J_sub [0, 1, 2, 3, 4, 5, 6, 7] rfl (K115)
      · replace ha115 := if_some ha115 c16
        refine J_iinc (q := 4) (v := (x5 + (1 : Int32))) (lv' := [(5, .int (x5 + (1 : Int32))), (0, .ref (ad 0)), (1, .int a1), (2, .int a2), (3, .int a3), (6, .int x6), (7, .int x7), (8, .int x8)]) dX11_whichPast_97 rfl (congrArg (fun z => x5 + z) ic_1) (by decide) rfl ?_
        refine J_tv (fun v17 ev17 => ?_)
        replace ha115 := nm_some ev17 ha115
        refine J_iload (q := 7) dX11_whichPast_100 rfl ?_
        refine J_istore (lv' := [(7, .int x8), (5, .int v17), (0, .ref (ad 0)), (1, .int a1), (2, .int a2), (3, .int a3), (6, .int x6), (8, .int x8)]) dX11_whichPast_102 (by decide) rfl ?_
        refine J_iload (q := 6) dX11_whichPast_104 rfl ?_
        refine J_bipush dX11_whichPast_106 bp_m4 ?_
        refine J_icmp_ne (tgt := 115) dX11_whichPast_108 (by decide) (fun c18 => ?_) (fun c18 => ?_)
        · replace ha115 := if_some ha115 c18
          cases ha115
          exact J_sub [2, 3, 4, 5, 1, 6, 0, 7] rfl (K115)
        · replace ha115 := it_some ha115 c18
          refine J_iload (q := 7) dX11_whichPast_111 rfl ?_
          refine J_istore (lv' := [(6, .int x8), (7, .int x8), (5, .int v17), (0, .ref (ad 0)), (1, .int a1), (2, .int a2), (3, .int a3), (8, .int x8)]) dX11_whichPast_113 (by decide) rfl ?_
          cases ha115
          exact J_sub [3, 4, 5, 6, 2, 0, 1, 7] rfl (K115)
set_option maxRecDepth 20000 in
set_option maxHeartbeats 4000000 in
theorem C_whichPast_ok {E : Ec} {ad : Nat → Nat} {cy : Nat → ClassId} {rv : (Int32 × CS)} {σ : CS} {p1 : Int32} {p2 : Int32} {p3 : Int32} (hi : wl_inj (ΓC ad cy)) (hL : Lv E 6) (h : C_whichPast σ p1 p2 p3 = some rv) : Jw E (ΓC ad cy) RX11 cX11_whichPast 9 (some .int) (some (.int rv.1), rv.2) 0 [(0, .ref (ad 0)), (1, .int p1), (2, .int p2), (3, .int p3)] [] σ := by
  unfold C_whichPast at h
  refine J_iload_n (q := 1) dX11_whichPast_0 rfl rfl ?_
  obtain ⟨r1, hq30, h⟩ := bd_some h
  refine kx_X11_146 hi dX11_whichPast_1 hq30 hL (by decide) (Nat.le_of_ble_eq_true rfl) ?_
  refine J_if_eq (tgt := 22) dX11_whichPast_4 (by decide) (fun c2 => ?_) (fun c2 => ?_)
  · replace h := it_some h c2
    refine J_iconst dX11_whichPast_22 ic_m1 ?_
    exact J_iret dX11_whichPast_23 (rt_i h) rfl
  · replace h := if_some h c2
    refine J_iload_n (q := 2) dX11_whichPast_7 rfl rfl ?_
    obtain ⟨r3, hq31, h⟩ := bd_some h
    refine kx_X11_125 hi dX11_whichPast_8 hq31 hL (by decide) (Nat.le_of_ble_eq_true rfl) ?_
    refine J_if_eq (tgt := 22) dX11_whichPast_11 (by decide) (fun c4 => ?_) (fun c4 => ?_)
    · replace h := it_some h c4
      refine J_iconst dX11_whichPast_22 ic_m1 ?_
      exact J_iret dX11_whichPast_23 (rt_i h) rfl
    · replace h := if_some h c4
      refine J_iload_n (q := 3) dX11_whichPast_14 rfl rfl ?_
      refine J_iconst dX11_whichPast_15 ic_2 ?_
      obtain ⟨r5, hq32, h⟩ := bd_some h
      refine kx_X11_102 hi dX11_whichPast_16 hq32 hL (by decide) (Nat.le_of_ble_eq_true rfl) ?_
      refine J_if_ne (tgt := 24) dX11_whichPast_19 (by decide) (fun c6 => ?_) (fun c6 => ?_)
      · replace h := if_some h c6
        refine J_aload_n (q := 0) dX11_whichPast_24 rfl rfl ?_
        refine J_iload_n (q := 1) dX11_whichPast_25 rfl rfl ?_
        obtain ⟨r7, hq33, h⟩ := bd_some h
        refine kx_X11_69 hi dX11_whichPast_26 hq33 hL (by decide) (Nat.le_of_ble_eq_true rfl) ?_
        refine J_istore (lv' := [(4, .int r7), (0, .ref (ad 0)), (1, .int p1), (2, .int p2), (3, .int p3)]) dX11_whichPast_29 (by decide) rfl ?_
        refine J_iload (q := 0) dX11_whichPast_31 rfl ?_
        refine J_if_eq (tgt := 39) dX11_whichPast_33 (by decide) (fun c8 => ?_) (fun c8 => ?_)
        · replace h := it_some h c8
          refine J_iconst dX11_whichPast_39 ic_0 ?_
          refine J_istore (lv' := [(5, .int (0 : Int32)), (4, .int r7), (0, .ref (ad 0)), (1, .int p1), (2, .int p2), (3, .int p3)]) dX11_whichPast_40 (by decide) rfl ?_
          refine J_bipush dX11_whichPast_42 bp_m4 ?_
          refine J_istore (lv' := [(6, .int (-4 : Int32)), (5, .int (0 : Int32)), (4, .int r7), (0, .ref (ad 0)), (1, .int p1), (2, .int p2), (3, .int p3)]) dX11_whichPast_44 (by decide) rfl ?_
          refine J_bipush dX11_whichPast_46 bp_m4 ?_
          refine J_istore (lv' := [(7, .int (-4 : Int32)), (6, .int (-4 : Int32)), (5, .int (0 : Int32)), (4, .int r7), (0, .ref (ad 0)), (1, .int p1), (2, .int p2), (3, .int p3)]) dX11_whichPast_48 (by decide) rfl ?_
          refine J_aload_n (q := 4) dX11_whichPast_50 rfl rfl ?_
          refine gC_mind dX11_whichPast_51 ?_
          refine J_aload_n (q := 4) dX11_whichPast_54 rfl rfl ?_
          refine gC_now dX11_whichPast_55 ?_
          obtain ⟨t9, hq34, h⟩ := bd_some h
          refine kx_X11_83 hi okT_3 okT_1 (by decide) dX11_whichPast_58 hq34 hL (by decide) (Nat.le_of_ble_eq_true rfl) ?_
          refine J_tw (fun σ10 eσ10 => ?_)
          replace h := nm_some eσ10 h
          refine J_iconst dX11_whichPast_61 ic_0 ?_
          refine J_istore (lv' := [(8, .int (0 : Int32)), (7, .int (-4 : Int32)), (6, .int (-4 : Int32)), (5, .int (0 : Int32)), (4, .int r7), (0, .ref (ad 0)), (1, .int p1), (2, .int p2), (3, .int p3)]) dX11_whichPast_62 (by decide) rfl ?_
          refine J_sub [5, 6, 7, 8, 3, 2, 1, 0] rfl (C_whichPast_L64_ok hi hL (fun x5_24 x6_25 x7_26 σ27 h => ?_) FU _ _ _ _ _ h)
          refine J_iload_n (q := 0) dX11_whichPast_121 rfl rfl ?_
          refine J_if_ne (tgt := 128) dX11_whichPast_122 (by decide) (fun c28 => ?_) (fun c28 => ?_)
          · replace h := if_some h c28
            refine J_iload_n (q := 0) dX11_whichPast_128 rfl rfl ?_
            refine J_iconst dX11_whichPast_129 ic_1 ?_
            refine J_icmp_ne (tgt := 138) dX11_whichPast_130 (by decide) (fun c29 => ?_) (fun c29 => ?_)
            · replace h := if_some h c29
              refine J_iload (q := 3) dX11_whichPast_138 rfl ?_
              exact J_iret dX11_whichPast_140 (rt_i h) rfl
            · replace h := it_some h c29
              refine J_iload (q := 2) dX11_whichPast_133 rfl ?_
              refine J_goto (tgt := 140) dX11_whichPast_135 (by decide) ?_
              exact J_iret dX11_whichPast_140 (rt_i h) rfl
          · replace h := it_some h c28
            refine J_iload (q := 1) dX11_whichPast_125 rfl ?_
            exact J_iret dX11_whichPast_127 (rt_i h) rfl
        · replace h := if_some h c8
          refine J_iload (q := 0) dX11_whichPast_36 rfl ?_
          exact J_iret dX11_whichPast_38 (rt_i h) rfl
      · replace h := it_some h c6
        refine J_iconst dX11_whichPast_22 ic_m1 ?_
        exact J_iret dX11_whichPast_23 (rt_i h) rfl
set_option maxRecDepth 20000 in
set_option maxHeartbeats 4000000 in
theorem kX11_whichPast {l : Launch} {D : va_G} {ad : Nat → Nat} {cy : Nat → ClassId} {rv : (Int32 × CS)} {σ : CS} {p1 : Int32} {p2 : Int32} {p3 : Int32} (hi : wl_inj (ΓC ad cy)) (h : C_whichPast σ p1 p2 p3 = some rv) : Cn l D (ΓC ad cy) yX11_whichPast cX11_whichPast 9 (some .int) 6 [.ref (ad 0), .int p1, .int p2, .int p3] σ (some (.int rv.1), rv.2) :=
  Cn.of hi rfl (Nat.le_of_ble_eq_true rfl) (fun _ _ _ hL => C_whichPast_ok hi hL h)
theorem pdX11_two : (parseMethodDescriptor yX11_two.desc).map (fun d => d.parameters.length) = some 4 := by decide +kernel
set_option maxRecDepth 20000 in
set_option maxHeartbeats 4000000 in
theorem C_two_L52_ok {E : Ec} {ad : Nat → Nat} {cy : Nat → ClassId} {rv : (Int32 × CS)} {k166 : CS → Option (Int32 × CS)} {a1 : Int32} {a2 : Int32} {a3 : Int32} {a4 : Int32} (hi : wl_inj (ΓC ad cy)) (hL : Lv E 6) (hk166 : ∀ (yw : CS), k166 yw = some rv → Jw E (ΓC ad cy) RX11 cX11_two 8 (some .int) (some (.int rv.1), rv.2) 166 [(0, .ref (ad 0))] [] yw) : ∀ (n : Nat) (σ : CS) (x5 : Int32), C_two_L52 k166 a1 a2 a3 a4 n σ x5 = some rv → Jw E (ΓC ad cy) RX11 cX11_two 8 (some .int) (some (.int rv.1), rv.2) 52 [(0, .ref (ad 0)), (1, .int a1), (2, .int a2), (3, .int a3), (4, .int a4), (5, .int x5)] [] σ := by
  intro n
  induction n with
  | zero =>
    intro σ x5 h
    rw [C_two_L52] at h
    cases h
  | succ n ih =>
    intro σ x5 h
    rw [C_two_L52] at h
    refine J_iload (q := 5) dX11_two_52 rfl ?_
    refine J_iconst dX11_two_54 ic_4 ?_
    refine J_icmp_ge (tgt := 166) dX11_two_55 (by decide) (fun c10 => ?_) (fun c10 => ?_)
    · replace h := it_some h c10
      exact J_sub [0] rfl (hk166 _ h)
    · replace h := if_some h c10
      refine J_iload (q := 5) dX11_two_58 rfl ?_
      refine J_iconst dX11_two_60 ic_1 ?_
      refine J_ishr dX11_two_61 ?_
      refine J_ti (fun v11 ev11 => ?_)
      replace h := nm_some ev11 h
      refine J_istore (lv' := [(6, .int v11), (0, .ref (ad 0)), (1, .int a1), (2, .int a2), (3, .int a3), (4, .int a4), (5, .int x5)]) dX11_two_62 (by decide) rfl ?_
      refine J_iload (q := 6) dX11_two_64 rfl ?_
      refine J_iconst dX11_two_66 ic_1 ?_
      refine J_iand dX11_two_67 ?_
      refine J_ti (fun v12 ev12 => ?_)
      replace h := nm_some ev12 h
      refine J_istore (lv' := [(7, .int v12), (6, .int v11), (0, .ref (ad 0)), (1, .int a1), (2, .int a2), (3, .int a3), (4, .int a4), (5, .int x5)]) dX11_two_68 (by decide) rfl ?_
      refine J_aload_n (q := 2) dX11_two_70 rfl rfl ?_
      refine gC_mind dX11_two_71 ?_
      refine J_aload_n (q := 2) dX11_two_74 rfl rfl ?_
      refine gC_now dX11_two_75 ?_
      obtain ⟨t13, hq32, h⟩ := bd_some h
      refine kx_X11_83 hi okT_3 okT_1 (by decide) dX11_two_78 hq32 hL (by decide) (Nat.le_of_ble_eq_true rfl) ?_
      refine J_tw (fun σ14 eσ14 => ?_)
      replace h := nm_some eσ14 h
      refine J_iload (q := 1) dX11_two_81 rfl ?_
      refine J_iconst dX11_two_83 ic_1 ?_
      obtain ⟨σ18, ha97, h⟩ := bd_some h
      have K97 : Jw E (ΓC ad cy) RX11 cX11_two 8 (some .int) (some (.int rv.1), rv.2) 97 [(0, .ref (ad 0)), (1, .int a1), (2, .int a2), (3, .int a3), (4, .int a4), (5, .int x5), (6, .int v11), (7, .int v12)] [] σ18 := by
        clear ha97
        refine J_iload (q := 7) dX11_two_97 rfl ?_
        refine J_iconst dX11_two_99 ic_1 ?_
        obtain ⟨σ22, ha113, h⟩ := bd_some h
        have K113 : Jw E (ΓC ad cy) RX11 cX11_two 8 (some .int) (some (.int rv.1), rv.2) 113 [(0, .ref (ad 0)), (1, .int a1), (2, .int a2), (3, .int a3), (4, .int a4), (5, .int x5), (6, .int v11), (7, .int v12)] [] σ22 := by
          clear ha113
          refine J_aload_n (q := 0) dX11_two_113 rfl rfl ?_
          refine gC_mind dX11_two_114 ?_
          refine J_iload (q := 4) dX11_two_117 rfl ?_
          obtain ⟨t23, hq33, h⟩ := bd_some h
          refine kx_X11_198 hi okT_3 dX11_two_119 hq33 hL (by decide) (Nat.le_of_ble_eq_true rfl) ?_
          refine J_tw (fun σ24 eσ24 => ?_)
          replace h := nm_some eσ24 h
          refine J_aload_n (q := 0) dX11_two_122 rfl rfl ?_
          refine gC_gains dX11_two_123 ?_
          refine J_iload (q := 5) dX11_two_126 rfl ?_
          refine J_aload_n (q := 0) dX11_two_128 rfl rfl ?_
          refine gC_mind dX11_two_129 ?_
          refine J_iload_n (q := 1) dX11_two_132 rfl rfl ?_
          obtain ⟨r25, hq34, h⟩ := bd_some h
          refine kx_X11_191 hi okT_3 dX11_two_133 hq34 hL (by decide) (Nat.le_of_ble_eq_true rfl) ?_
          refine J_iload (q := 6) dX11_two_136 rfl ?_
          refine J_isub dX11_two_138 ?_
          obtain ⟨hg26, h⟩ := gd_some h
          refine aC_st (j := 3) (n := 8) dX11_two_139 rfl (by decide) rfl hg26 ?_
          refine J_tw (fun σ27 eσ27 => ?_)
          replace h := nm_some eσ27 h
          refine J_aload_n (q := 0) dX11_two_140 rfl rfl ?_
          refine gC_gains dX11_two_141 ?_
          refine J_iconst dX11_two_144 ic_4 ?_
          refine J_iload (q := 5) dX11_two_145 rfl ?_
          refine J_iadd dX11_two_147 ?_
          refine J_aload_n (q := 0) dX11_two_148 rfl rfl ?_
          refine gC_mind dX11_two_149 ?_
          refine J_iload_n (q := 2) dX11_two_152 rfl rfl ?_
          obtain ⟨r28, hq35, h⟩ := bd_some h
          refine kx_X11_191 hi okT_3 dX11_two_153 hq35 hL (by decide) (Nat.le_of_ble_eq_true rfl) ?_
          refine J_iload (q := 7) dX11_two_156 rfl ?_
          refine J_isub dX11_two_158 ?_
          obtain ⟨hg29, h⟩ := gd_some h
          refine aC_st (j := 3) (n := 8) dX11_two_159 rfl (by decide) rfl hg29 ?_
          refine J_tw (fun σ30 eσ30 => ?_)
          replace h := nm_some eσ30 h
          refine J_iinc (q := 5) (v := (x5 + (1 : Int32))) (lv' := [(5, .int (x5 + (1 : Int32))), (0, .ref (ad 0)), (1, .int a1), (2, .int a2), (3, .int a3), (4, .int a4), (6, .int v11), (7, .int v12)]) dX11_two_160 rfl (congrArg (fun z => x5 + z) ic_1) (by decide) rfl ?_
          refine J_tv (fun v31 ev31 => ?_)
          replace h := nm_some ev31 h
          refine J_goto (tgt := 52) dX11_two_163 (by decide) ?_
          exact J_sub [1, 2, 3, 4, 5, 0] rfl (ih _ _ h)
        clear h
        refine J_icmp_ne (tgt := 113) dX11_two_100 (by decide) (fun c19 => ?_) (fun c19 => ?_)
        · replace ha113 := if_some ha113 c19
          cases ha113
          exact J_sub [0, 1, 2, 3, 4, 5, 6, 7] rfl (K113)
        · replace ha113 := it_some ha113 c19
          refine J_aload_n (q := 0) dX11_two_103 rfl rfl ?_
          refine gC_mind dX11_two_104 ?_
          refine gT_X11_caresFor dX11_two_107 okT_3 rfl ?_
          refine J_iload_n (q := 2) dX11_two_110 rfl rfl ?_
          refine J_iload_n (q := 3) dX11_two_111 rfl rfl ?_
          obtain ⟨hg20, ha113⟩ := gd_some ha113
          refine aT_st (w' := (va_up σ18 3 (pA (σ18 3) 6 a2 a3))) (j := 6) (n := 7) dX11_two_112 okT_3 rfl vu_at (fun _ h9 => vu_ne h9) (by decide) rfl hg20 ?_
          refine J_tw (fun σ21 eσ21 => ?_)
          replace ha113 := nm_some eσ21 ha113
          cases ha113
          exact J_sub [0, 1, 2, 3, 4, 5, 6, 7] rfl (K113)
      clear h
      refine J_icmp_ne (tgt := 97) dX11_two_84 (by decide) (fun c15 => ?_) (fun c15 => ?_)
      · replace ha97 := if_some ha97 c15
        cases ha97
        exact J_sub [2, 3, 4, 5, 6, 7, 1, 0] rfl (K97)
      · replace ha97 := it_some ha97 c15
        refine J_aload_n (q := 2) dX11_two_87 rfl rfl ?_
        refine gC_mind dX11_two_88 ?_
        refine gT_X11_caresFor dX11_two_91 okT_3 rfl ?_
        refine J_iload_n (q := 3) dX11_two_94 rfl rfl ?_
        refine J_iload_n (q := 5) dX11_two_95 rfl rfl ?_
        obtain ⟨hg16, ha97⟩ := gd_some ha97
        refine aT_st (w' := (va_up σ14 3 (pA (σ14 3) 6 a1 a3))) (j := 6) (n := 7) dX11_two_96 okT_3 rfl vu_at (fun _ h9 => vu_ne h9) (by decide) rfl hg16 ?_
        refine J_tw (fun σ17 eσ17 => ?_)
        replace ha97 := nm_some eσ17 ha97
        cases ha97
        exact J_sub [2, 3, 4, 5, 6, 7, 1, 0] rfl (K97)
set_option maxRecDepth 20000 in
set_option maxHeartbeats 4000000 in
theorem C_two_L169_ok {E : Ec} {ad : Nat → Nat} {cy : Nat → ClassId} {rv : (Int32 × CS)} {k217 : Int32 → Option (Int32 × CS)} {σ : CS} (hi : wl_inj (ΓC ad cy)) (hL : Lv E 6) (hk217 : ∀ (y5 : Int32), k217 y5 = some rv → Jw E (ΓC ad cy) RX11 cX11_two 8 (some .int) (some (.int rv.1), rv.2) 217 [(5, .int y5)] [] σ) : ∀ (n : Nat) (x5 : Int32), C_two_L169 k217 σ n x5 = some rv → Jw E (ΓC ad cy) RX11 cX11_two 8 (some .int) (some (.int rv.1), rv.2) 169 [(0, .ref (ad 0)), (5, .int x5)] [] σ := by
  intro n
  induction n with
  | zero =>
    intro x5 h
    rw [C_two_L169] at h
    cases h
  | succ n ih =>
    intro x5 h
    rw [C_two_L169] at h
    refine J_iload (q := 1) dX11_two_169 rfl ?_
    refine J_iconst dX11_two_171 ic_4 ?_
    refine J_icmp_ge (tgt := 236) dX11_two_172 (by decide) (fun c37 => ?_) (fun c37 => ?_)
    · replace h := it_some h c37
      refine J_bipush dX11_two_236 bp_m4 ?_
      exact J_iret dX11_two_238 (rt_i h) rfl
    · replace h := if_some h c37
      refine J_aload_n (q := 0) dX11_two_175 rfl rfl ?_
      refine gC_gains dX11_two_176 ?_
      refine J_iload (q := 1) dX11_two_179 rfl ?_
      obtain ⟨hg38, h⟩ := gd_some h
      refine aC_ld (j := 3) (n := 8) dX11_two_181 rfl (by decide) rfl hg38 ?_
      refine J_aload_n (q := 0) dX11_two_182 rfl rfl ?_
      refine gC_gains dX11_two_183 ?_
      refine J_iload (q := 1) dX11_two_186 rfl ?_
      refine J_iconst dX11_two_188 ic_2 ?_
      refine J_ixor dX11_two_189 ?_
      obtain ⟨hg39, h⟩ := gd_some h
      refine aC_ld (j := 3) (n := 8) dX11_two_190 rfl (by decide) rfl hg39 ?_
      obtain ⟨kk230, ekk230, h⟩ := jn_some h
      have K230 : kk230 = some rv → Jw E (ΓC ad cy) RX11 cX11_two 8 (some .int) (some (.int rv.1), rv.2) 230 [(0, .ref (ad 0)), (5, .int x5)] [] σ := by
        subst ekk230
        clear h
        intro h
        refine J_iinc (q := 1) (v := (x5 + (1 : Int32))) (lv' := [(5, .int (x5 + (1 : Int32))), (0, .ref (ad 0))]) dX11_two_230 rfl (congrArg (fun z => x5 + z) ic_1) (by decide) rfl ?_
        refine J_tv (fun v44 ev44 => ?_)
        replace h := nm_some ev44 h
        refine J_goto (tgt := 169) dX11_two_233 (by decide) ?_
        exact J_sub [1, 0] rfl (ih _ h)
      clear ekk230
      refine J_icmp_lt (tgt := 230) dX11_two_191 (by decide) (fun c40 => ?_) (fun c40 => ?_)
      · replace h := it_some h c40
        exact J_sub [0, 1] rfl (K230 h)
      · replace h := if_some h c40
        refine J_aload_n (q := 0) dX11_two_194 rfl rfl ?_
        refine gC_gains dX11_two_195 ?_
        refine J_iconst dX11_two_198 ic_4 ?_
        refine J_iload (q := 1) dX11_two_199 rfl ?_
        refine J_iadd dX11_two_201 ?_
        obtain ⟨hg41, h⟩ := gd_some h
        refine aC_ld (j := 3) (n := 8) dX11_two_202 rfl (by decide) rfl hg41 ?_
        refine J_aload_n (q := 0) dX11_two_203 rfl rfl ?_
        refine gC_gains dX11_two_204 ?_
        refine J_iconst dX11_two_207 ic_4 ?_
        refine J_iload (q := 1) dX11_two_208 rfl ?_
        refine J_iconst dX11_two_210 ic_1 ?_
        refine J_ixor dX11_two_211 ?_
        refine J_iadd dX11_two_212 ?_
        obtain ⟨hg42, h⟩ := gd_some h
        refine aC_ld (j := 3) (n := 8) dX11_two_213 rfl (by decide) rfl hg42 ?_
        refine J_icmp_lt (tgt := 230) dX11_two_214 (by decide) (fun c43 => ?_) (fun c43 => ?_)
        · replace h := it_some h c43
          exact J_sub [0, 1] rfl (K230 h)
        · replace h := if_some h c43
          exact J_sub [1] rfl (hk217 _ h)
set_option maxRecDepth 20000 in
set_option maxHeartbeats 4000000 in
theorem C_two_ok {E : Ec} {ad : Nat → Nat} {cy : Nat → ClassId} {rv : (Int32 × CS)} {σ : CS} {p1 : Int32} {p2 : Int32} {p3 : Int32} {p4 : Int32} (hi : wl_inj (ΓC ad cy)) (hL : Lv E 6) (h : C_two σ p1 p2 p3 p4 = some rv) : Jw E (ΓC ad cy) RX11 cX11_two 8 (some .int) (some (.int rv.1), rv.2) 0 [(0, .ref (ad 0)), (1, .int p1), (2, .int p2), (3, .int p3), (4, .int p4)] [] σ := by
  unfold C_two at h
  refine J_aload_n (q := 0) dX11_two_0 rfl rfl ?_
  refine gC_now dX11_two_1 ?_
  refine J_iload_n (q := 1) dX11_two_4 rfl rfl ?_
  obtain ⟨r1, hq46, h⟩ := bd_some h
  refine kx_X11_98 hi okT_1 dX11_two_5 hq46 hL (by decide) (Nat.le_of_ble_eq_true rfl) ?_
  refine J_if_eq (tgt := 47) dX11_two_8 (by decide) (fun c2 => ?_) (fun c2 => ?_)
  · replace h := it_some h c2
    refine J_iconst dX11_two_47 ic_m1 ?_
    exact J_iret dX11_two_48 (rt_i h) rfl
  · replace h := if_some h c2
    refine J_aload_n (q := 0) dX11_two_11 rfl rfl ?_
    refine gC_now dX11_two_12 ?_
    refine J_iload_n (q := 2) dX11_two_15 rfl rfl ?_
    obtain ⟨r3, hq47, h⟩ := bd_some h
    refine kx_X11_98 hi okT_1 dX11_two_16 hq47 hL (by decide) (Nat.le_of_ble_eq_true rfl) ?_
    refine J_if_eq (tgt := 47) dX11_two_19 (by decide) (fun c4 => ?_) (fun c4 => ?_)
    · replace h := it_some h c4
      refine J_iconst dX11_two_47 ic_m1 ?_
      exact J_iret dX11_two_48 (rt_i h) rfl
    · replace h := if_some h c4
      refine J_iload_n (q := 1) dX11_two_22 rfl rfl ?_
      refine J_iload_n (q := 2) dX11_two_23 rfl rfl ?_
      refine J_icmp_eq (tgt := 47) dX11_two_24 (by decide) (fun c5 => ?_) (fun c5 => ?_)
      · replace h := it_some h c5
        refine J_iconst dX11_two_47 ic_m1 ?_
        exact J_iret dX11_two_48 (rt_i h) rfl
      · replace h := if_some h c5
        refine J_iload_n (q := 3) dX11_two_27 rfl rfl ?_
        obtain ⟨r6, hq48, h⟩ := bd_some h
        refine kx_X11_125 hi dX11_two_28 hq48 hL (by decide) (Nat.le_of_ble_eq_true rfl) ?_
        refine J_if_eq (tgt := 47) dX11_two_31 (by decide) (fun c7 => ?_) (fun c7 => ?_)
        · replace h := it_some h c7
          refine J_iconst dX11_two_47 ic_m1 ?_
          exact J_iret dX11_two_48 (rt_i h) rfl
        · replace h := if_some h c7
          refine J_iload (q := 4) dX11_two_34 rfl ?_
          refine J_iconst dX11_two_36 ic_1 ?_
          refine J_icmp_lt (tgt := 47) dX11_two_37 (by decide) (fun c8 => ?_) (fun c8 => ?_)
          · replace h := it_some h c8
            refine J_iconst dX11_two_47 ic_m1 ?_
            exact J_iret dX11_two_48 (rt_i h) rfl
          · replace h := if_some h c8
            refine J_iload (q := 4) dX11_two_40 rfl ?_
            refine J_bipush dX11_two_42 bp_30 ?_
            refine J_icmp_le (tgt := 49) dX11_two_44 (by decide) (fun c9 => ?_) (fun c9 => ?_)
            · replace h := it_some h c9
              refine J_iconst dX11_two_49 ic_0 ?_
              refine J_istore (lv' := [(5, .int (0 : Int32)), (0, .ref (ad 0)), (1, .int p1), (2, .int p2), (3, .int p3), (4, .int p4)]) dX11_two_50 (by decide) rfl ?_
              refine J_sub [1, 2, 3, 4, 5, 0] rfl (C_two_L52_ok hi hL (fun σ36 h => ?_) FU _ _ h)
              refine J_iconst dX11_two_166 ic_0 ?_
              refine J_istore (lv' := [(5, .int (0 : Int32)), (0, .ref (ad 0))]) dX11_two_167 (by decide) rfl ?_
              refine J_sub [1, 0] rfl (C_two_L169_ok hi hL (fun x5_45 h => ?_) FU _ h)
              refine J_bipush dX11_two_217 bp_10 ?_
              refine J_iload (q := 0) dX11_two_219 rfl ?_
              refine J_iconst dX11_two_221 ic_1 ?_
              refine J_ishr dX11_two_222 ?_
              refine J_imul dX11_two_223 ?_
              refine J_iload (q := 0) dX11_two_224 rfl ?_
              refine J_iconst dX11_two_226 ic_1 ?_
              refine J_iand dX11_two_227 ?_
              refine J_iadd dX11_two_228 ?_
              exact J_iret dX11_two_229 (rt_i h) rfl
            · replace h := if_some h c9
              refine J_iconst dX11_two_47 ic_m1 ?_
              exact J_iret dX11_two_48 (rt_i h) rfl
set_option maxRecDepth 20000 in
set_option maxHeartbeats 4000000 in
theorem kX11_two {l : Launch} {D : va_G} {ad : Nat → Nat} {cy : Nat → ClassId} {rv : (Int32 × CS)} {σ : CS} {p1 : Int32} {p2 : Int32} {p3 : Int32} {p4 : Int32} (hi : wl_inj (ΓC ad cy)) (h : C_two σ p1 p2 p3 p4 = some rv) : Cn l D (ΓC ad cy) yX11_two cX11_two 8 (some .int) 6 [.ref (ad 0), .int p1, .int p2, .int p3, .int p4] σ (some (.int rv.1), rv.2) :=
  Cn.of hi rfl (Nat.le_of_ble_eq_true rfl) (fun _ _ _ hL => C_two_ok hi hL h)
theorem pdX11_partOf : (parseMethodDescriptor yX11_partOf.desc).map (fun d => d.parameters.length) = some 3 := by decide +kernel
set_option maxRecDepth 20000 in
set_option maxHeartbeats 4000000 in
theorem C_partOf_L9_ok {E : Ec} {ad : Nat → Nat} {cy : Nat → ClassId} {rv : Int64} {w : CS} {k45 : Int64 → Option Int64} {a0 : Int64} {a2 : Int64} {a4 : Int32} (hi : wl_inj (ΓC ad cy)) (hL : Lv E 0) (hk45 : ∀ (y5 : Int64), k45 y5 = some rv → Jw E (ΓC ad cy) RX11 cX11_partOf 12 (some .long) (some (.long rv), w) 45 [(0, .long a0), (2, .long a2), (4, .int a4), (5, .long y5)] [] w) : ∀ (n : Nat) (x5 : Int64) (x7 : Int64) (x9 : Int32), C_partOf_L9 k45 a0 a2 a4 n x5 x7 x9 = some rv → Jw E (ΓC ad cy) RX11 cX11_partOf 12 (some .long) (some (.long rv), w) 9 [(0, .long a0), (2, .long a2), (4, .int a4), (5, .long x5), (7, .long x7), (9, .int x9)] [] w := by
  intro n
  induction n with
  | zero =>
    intro x5 x7 x9 h
    rw [C_partOf_L9] at h
    cases h
  | succ n ih =>
    intro x5 x7 x9 h
    rw [C_partOf_L9] at h
    refine J_iload (q := 5) dX11_partOf_9 rfl ?_
    refine J_sipush dX11_partOf_11 sp_200 ?_
    refine J_icmp_ge (tgt := 45) dX11_partOf_14 (by decide) (fun c1 => ?_) (fun c1 => ?_)
    · replace h := it_some h c1
      exact J_sub [0, 1, 2, 3] rfl (hk45 _ h)
    · replace h := if_some h c1
      refine J_lload (q := 4) dX11_partOf_17 rfl ?_
      refine J_lconst dX11_partOf_19 lc_0 ?_
      refine J_lcmp dX11_partOf_20 ?_
      refine J_if_le (tgt := 45) dX11_partOf_21 (by decide) (fun c2 => ?_) (fun c2 => ?_)
      · replace h := it_some h c2
        exact J_sub [0, 1, 2, 3] rfl (hk45 _ h)
      · replace h := if_some h c2
        refine J_lload (q := 3) dX11_partOf_24 rfl ?_
        refine J_lload (q := 4) dX11_partOf_26 rfl ?_
        obtain ⟨hg3, h⟩ := gd_some h
        refine J_lrem dX11_partOf_28 (nz_J hg3) ?_
        refine J_tl (fun v4 ev4 => ?_)
        replace h := nm_some ev4 h
        refine J_lstore (lv' := [(10, .long v4), (0, .long a0), (2, .long a2), (4, .int a4), (5, .long x5), (7, .long x7), (9, .int x9)]) dX11_partOf_29 (by decide) rfl ?_
        refine J_lload (q := 5) dX11_partOf_31 rfl ?_
        refine J_lstore (lv' := [(5, .long x7), (10, .long v4), (0, .long a0), (2, .long a2), (4, .int a4), (7, .long x7), (9, .int x9)]) dX11_partOf_33 (by decide) rfl ?_
        refine J_lload (q := 1) dX11_partOf_35 rfl ?_
        refine J_lstore (lv' := [(7, .long v4), (5, .long x7), (10, .long v4), (0, .long a0), (2, .long a2), (4, .int a4), (9, .int x9)]) dX11_partOf_37 (by decide) rfl ?_
        refine J_iinc (q := 6) (v := (x9 + (1 : Int32))) (lv' := [(9, .int (x9 + (1 : Int32))), (7, .long v4), (5, .long x7), (10, .long v4), (0, .long a0), (2, .long a2), (4, .int a4)]) dX11_partOf_39 rfl (congrArg (fun z => x9 + z) ic_1) (by decide) rfl ?_
        refine J_tv (fun v5 ev5 => ?_)
        replace h := nm_some ev5 h
        refine J_goto (tgt := 9) dX11_partOf_42 (by decide) ?_
        exact J_sub [4, 5, 6, 2, 1, 0] rfl (ih _ _ _ h)
set_option maxRecDepth 20000 in
set_option maxHeartbeats 4000000 in
theorem C_partOf_ok {E : Ec} {ad : Nat → Nat} {cy : Nat → ClassId} {rv : Int64} {w : CS} {p0 : Int64} {p2 : Int64} {p4 : Int32} (hi : wl_inj (ΓC ad cy)) (hL : Lv E 0) (h : C_partOf p0 p2 p4 = some rv) : Jw E (ΓC ad cy) RX11 cX11_partOf 12 (some .long) (some (.long rv), w) 0 [(0, .long p0), (2, .long p2), (4, .int p4)] [] w := by
  unfold C_partOf at h
  refine J_lload_n (q := 0) dX11_partOf_0 rfl rfl ?_
  refine J_lstore (lv' := [(5, .long p0), (0, .long p0), (2, .long p2), (4, .int p4)]) dX11_partOf_1 (by decide) rfl ?_
  refine J_lload_n (q := 2) dX11_partOf_3 rfl rfl ?_
  refine J_lstore (lv' := [(7, .long p2), (5, .long p0), (0, .long p0), (2, .long p2), (4, .int p4)]) dX11_partOf_4 (by decide) rfl ?_
  refine J_iconst dX11_partOf_6 ic_0 ?_
  refine J_istore (lv' := [(9, .int (0 : Int32)), (7, .long p2), (5, .long p0), (0, .long p0), (2, .long p2), (4, .int p4)]) dX11_partOf_7 (by decide) rfl ?_
  refine J_sub [3, 4, 5, 2, 1, 0] rfl (C_partOf_L9_ok hi hL (fun x5_6 h => ?_) FU _ _ _ h)
  refine J_lload (q := 3) dX11_partOf_45 rfl ?_
  refine J_lconst dX11_partOf_47 lc_0 ?_
  refine J_lcmp dX11_partOf_48 ?_
  refine J_if_gt (tgt := 63) dX11_partOf_49 (by decide) (fun c7 => ?_) (fun c7 => ?_)
  · replace h := it_some h c7
    refine J_iload (q := 2) dX11_partOf_63 rfl ?_
    refine J_if_ne (tgt := 75) dX11_partOf_65 (by decide) (fun c8 => ?_) (fun c8 => ?_)
    · replace h := if_some h c8
      refine J_lload_n (q := 1) dX11_partOf_75 rfl rfl ?_
      refine J_lload (q := 3) dX11_partOf_76 rfl ?_
      obtain ⟨hg9, h⟩ := gd_some h
      refine J_ldiv dX11_partOf_78 (nz_J hg9) ?_
      exact J_lret dX11_partOf_79 (rt_pl h) rfl
    · replace h := it_some h c8
      refine J_lload_n (q := 0) dX11_partOf_68 rfl rfl ?_
      refine J_lload (q := 3) dX11_partOf_69 rfl ?_
      obtain ⟨hg10, h⟩ := gd_some h
      refine J_ldiv dX11_partOf_71 (nz_J hg10) ?_
      refine J_goto (tgt := 79) dX11_partOf_72 (by decide) ?_
      exact J_lret dX11_partOf_79 (rt_pl h) rfl
  · replace h := if_some h c7
    refine J_iload (q := 2) dX11_partOf_52 rfl ?_
    refine J_if_ne (tgt := 61) dX11_partOf_54 (by decide) (fun c11 => ?_) (fun c11 => ?_)
    · replace h := if_some h c11
      refine J_lconst dX11_partOf_61 lc_1 ?_
      exact J_lret dX11_partOf_62 (rt_pl h) rfl
    · replace h := it_some h c11
      refine J_lconst dX11_partOf_57 lc_0 ?_
      refine J_goto (tgt := 62) dX11_partOf_58 (by decide) ?_
      exact J_lret dX11_partOf_62 (rt_pl h) rfl
set_option maxRecDepth 20000 in
set_option maxHeartbeats 4000000 in
theorem kX11_partOf {l : Launch} {D : va_G} {ad : Nat → Nat} {cy : Nat → ClassId} {rv : Int64} {w : CS} {p0 : Int64} {p2 : Int64} {p4 : Int32} (hi : wl_inj (ΓC ad cy)) (h : C_partOf p0 p2 p4 = some rv) : Cn l D (ΓC ad cy) yX11_partOf cX11_partOf 12 (some .long) 0 [.long p0, .long p2, .int p4] w (some (.long rv), w) :=
  Cn.of hi rfl (Nat.le_of_ble_eq_true rfl) (fun _ _ _ hL => C_partOf_ok hi hL h)
theorem pdX11_share : (parseMethodDescriptor yX11_share.desc).map (fun d => d.parameters.length) = some 2 := by decide +kernel
theorem kx_X11_244 {E : Ec} {ad : Nat → Nat} {cy : Nat → ClassId} {cc : ByteArray} {nL : Nat} {rt : Option FieldType} {r : Option Value × CS} {pc : Nat} {lv : List (Nat × Value)} {st : List Value} {w : CS} {n : Nat} {p0 : Int64} {p2 : Int64} {p4 : Int32} {v : Int64} (hi : wl_inj (ΓC ad cy)) (hd : decode cc pc = .ok (.invokestatic 244, 3)) (hq : C_partOf p0 p2 p4 = some v) (hL : Lv E n) (hn : 0 + 1 ≤ n) (hW : (st.map fun v => v.category).sum ≤ 8) (k : Jw E (ΓC ad cy) RX11 cc nL rt r (pc + 3) lv (.long v :: st) w) : Jw E (ΓC ad cy) RX11 cc nL rt r pc lv (.int p4 :: .long p2 :: .long p0 :: st) w :=
  J_callS (Γ := ΓC ad cy) (av := [.long p0, .long p2, .int p4]) (q := (some (.long v), w)) (st := st) hd (kX11_partOf hi hq) tw_3_117 tw_3_118 tw_1_1 tw_3_119 ⟨by decide, by decide, pdX11_partOf⟩ rfl (by decide) hL hn hW k
theorem kx_X11_248 {E : Ec} {ad : Nat → Nat} {cy : Nat → ClassId} {cc : ByteArray} {nL : Nat} {rt : Option FieldType} {r : Option Value × CS} {pc : Nat} {lv : List (Nat × Value)} {st : List Value} {σ : CS} {n a : Nat} {v : Int32} (hi : wl_inj (ΓC ad cy)) (ha : okT a) (hd : decode cc pc = .ok (.invokevirtual 248, 3)) (hq : T_allWorth (σ a) = some v) (hL : Lv E n) (hn : 0 + 1 ≤ n) (hW : (st.map fun v => v.category).sum ≤ 8) (k : Jw E (ΓC ad cy) RX11 cc nL rt r (pc + 3) lv (.int v :: st) σ) : Jw E (ΓC ad cy) RX11 cc nL rt r pc lv (.ref (ad (8 * a + 2)) :: st) σ := by
  have hM := fun (l : Launch) (D : va_G) => kX10_allWorth (l := l) (D := D) (ad := ad) (cy := cy) (σ := σ) hi ha hq
  simp only [vu_self] at hM
  exact J_callV (Γ := ΓC ad cy) (h := 8 * a + 2) (ci := 9) (av := []) (q := (some (.int v), σ)) (st := st) hd (hM _ _) tw_3_124 tw_3_125 tw_1_10 tw_3_127 tw_3_126 ⟨by decide, by decide, pdX10_allWorth⟩ (hT (j := 0) ha (by decide)) (cC_t0 ha rfl) rfl rfl rfl (by decide) hL hn hW k
set_option maxRecDepth 20000 in
set_option maxHeartbeats 4000000 in
theorem C_share_ok {E : Ec} {ad : Nat → Nat} {cy : Nat → ClassId} {rv : Int64} {σ : CS} {p1 : Int32} {p2 : Int32} (hi : wl_inj (ΓC ad cy)) (hL : Lv E 1) (h : C_share σ p1 p2 = some rv) : Jw E (ΓC ad cy) RX11 cX11_share 3 (some .long) (some (.long rv), σ) 0 [(0, .ref (ad 0)), (1, .int p1), (2, .int p2)] [] σ := by
  unfold C_share at h
  refine J_aload_n (q := 0) dX11_share_0 rfl rfl ?_
  refine gC_now dX11_share_1 ?_
  refine J_iload_n (q := 1) dX11_share_4 rfl rfl ?_
  obtain ⟨r1, hq8, h⟩ := bd_some h
  refine kx_X11_98 hi okT_1 dX11_share_5 hq8 hL (by decide) (Nat.le_of_ble_eq_true rfl) ?_
  refine J_if_eq (tgt := 19) dX11_share_8 (by decide) (fun c2 => ?_) (fun c2 => ?_)
  · replace h := it_some h c2
    refine J_ldc2 dX11_share_19 tw_3_109 ?_
    exact J_lret dX11_share_22 (rt_pl h) rfl
  · replace h := if_some h c2
    refine J_iload_n (q := 2) dX11_share_11 rfl rfl ?_
    refine J_iconst dX11_share_12 ic_1 ?_
    obtain ⟨r3, hq9, h⟩ := bd_some h
    refine kx_X11_102 hi dX11_share_13 hq9 hL (by decide) (Nat.le_of_ble_eq_true rfl) ?_
    refine J_if_ne (tgt := 23) dX11_share_16 (by decide) (fun c4 => ?_) (fun c4 => ?_)
    · replace h := if_some h c4
      refine J_aload_n (q := 0) dX11_share_23 rfl rfl ?_
      refine gC_now dX11_share_24 ?_
      refine J_iload_n (q := 1) dX11_share_27 rfl rfl ?_
      obtain ⟨r5, hq10, h⟩ := bd_some h
      refine kx_X11_191 hi okT_1 dX11_share_28 hq10 hL (by decide) (Nat.le_of_ble_eq_true rfl) ?_
      refine J_i2l dX11_share_31 ?_
      refine J_aload_n (q := 0) dX11_share_32 rfl rfl ?_
      refine gC_now dX11_share_33 ?_
      obtain ⟨r6, hq11, h⟩ := bd_some h
      refine kx_X11_248 hi okT_1 dX11_share_36 hq11 hL (by decide) (Nat.le_of_ble_eq_true rfl) ?_
      refine J_i2l dX11_share_39 ?_
      refine J_iload_n (q := 2) dX11_share_40 rfl rfl ?_
      obtain ⟨r7, hq12, h⟩ := bd_some h
      refine kx_X11_244 hi dX11_share_41 hq12 hL (by decide) (Nat.le_of_ble_eq_true rfl) ?_
      exact J_lret dX11_share_44 (rt_pl h) rfl
    · replace h := it_some h c4
      refine J_ldc2 dX11_share_19 tw_3_109 ?_
      exact J_lret dX11_share_22 (rt_pl h) rfl
set_option maxRecDepth 20000 in
set_option maxHeartbeats 4000000 in
theorem kX11_share {l : Launch} {D : va_G} {ad : Nat → Nat} {cy : Nat → ClassId} {rv : Int64} {σ : CS} {p1 : Int32} {p2 : Int32} (hi : wl_inj (ΓC ad cy)) (h : C_share σ p1 p2 = some rv) : Cn l D (ΓC ad cy) yX11_share cX11_share 3 (some .long) 1 [.ref (ad 0), .int p1, .int p2] σ (some (.long rv), σ) :=
  Cn.of hi rfl (Nat.le_of_ble_eq_true rfl) (fun _ _ _ hL => C_share_ok hi hL h)
theorem pdX11_forged : (parseMethodDescriptor yX11_forged.desc).map (fun d => d.parameters.length) = some 1 := by decide +kernel
set_option maxRecDepth 20000 in
set_option maxHeartbeats 4000000 in
theorem C_forged_L22_ok {E : Ec} {ad : Nat → Nat} {cy : Nat → ClassId} {rv : Int32} {σ : CS} {b3 : Nat} (hi : wl_inj (ΓC ad cy)) (hL : Lv E 3) (hb3 : okS b3) : ∀ (n : Nat) (x4 : Int32), C_forged_L22 σ b3 n x4 = some rv → Jw E (ΓC ad cy) RX11 cX11_forged 5 (some .int) (some (.int rv), σ) 22 [(0, .ref (ad 0)), (3, .ref (ad (2 * b3 + 70))), (4, .int x4)] [] σ := by
  intro n
  induction n with
  | zero =>
    intro x4 h
    rw [C_forged_L22] at h
    cases h
  | succ n ih =>
    intro x4 h
    rw [C_forged_L22] at h
    refine J_iload (q := 2) dX11_forged_22 rfl ?_
    refine J_aload_n (q := 1) dX11_forged_24 rfl rfl ?_
    refine gS_X11_size dX11_forged_25 hb3 rfl ?_
    refine J_icmp_ge (tgt := 66) dX11_forged_28 (by decide) (fun c4 => ?_) (fun c4 => ?_)
    · replace h := it_some h c4
      refine J_bipush dX11_forged_66 bp_m4 ?_
      exact J_iret dX11_forged_68 (rt_pi h) rfl
    · replace h := if_some h c4
      refine J_iload (q := 2) dX11_forged_31 rfl ?_
      refine J_iconst dX11_forged_33 ic_5 ?_
      refine J_icmp_ge (tgt := 57) dX11_forged_34 (by decide) (fun c5 => ?_) (fun c5 => ?_)
      · replace h := it_some h c5
        refine J_iload (q := 2) dX11_forged_57 rfl ?_
        exact J_iret dX11_forged_59 (rt_pi h) rfl
      · replace h := if_some h c5
        refine J_aload_n (q := 1) dX11_forged_37 rfl rfl ?_
        refine gS_X11_cells dX11_forged_38 hb3 rfl ?_
        refine J_iload (q := 2) dX11_forged_41 rfl ?_
        obtain ⟨hg6, h⟩ := gd_some h
        refine aS_ld dX11_forged_43 hb3 rfl hg6 ?_
        refine J_aload_n (q := 0) dX11_forged_44 rfl rfl ?_
        refine gC_now dX11_forged_45 ?_
        refine gT_X11_owner dX11_forged_48 okT_1 rfl ?_
        refine J_iload (q := 2) dX11_forged_51 rfl ?_
        obtain ⟨hg7, h⟩ := gd_some h
        refine aT_ld (j := 3) (n := 5) dX11_forged_53 okT_1 rfl (by decide) rfl hg7 ?_
        refine J_icmp_eq (tgt := 60) dX11_forged_54 (by decide) (fun c8 => ?_) (fun c8 => ?_)
        · replace h := it_some h c8
          refine J_iinc (q := 2) (v := (x4 + (1 : Int32))) (lv' := [(4, .int (x4 + (1 : Int32))), (0, .ref (ad 0)), (3, .ref (ad (2 * b3 + 70)))]) dX11_forged_60 rfl (congrArg (fun z => x4 + z) ic_1) (by decide) rfl ?_
          refine J_tv (fun v9 ev9 => ?_)
          replace h := nm_some ev9 h
          refine J_goto (tgt := 22) dX11_forged_63 (by decide) ?_
          exact J_sub [1, 2, 0] rfl (ih _ h)
        · replace h := if_some h c8
          refine J_iload (q := 2) dX11_forged_57 rfl ?_
          exact J_iret dX11_forged_59 (rt_pi h) rfl
set_option maxRecDepth 20000 in
set_option maxHeartbeats 4000000 in
theorem C_forged_ok {E : Ec} {ad : Nat → Nat} {cy : Nat → ClassId} {rv : Int32} {σ : CS} {p1 : Int32} (hi : wl_inj (ΓC ad cy)) (hL : Lv E 3) (h : C_forged σ p1 = some rv) : Jw E (ΓC ad cy) RX11 cX11_forged 5 (some .int) (some (.int rv), σ) 0 [(0, .ref (ad 0)), (1, .int p1)] [] σ := by
  unfold C_forged at h
  refine J_aload_n (q := 0) dX11_forged_0 rfl rfl ?_
  refine J_iload_n (q := 1) dX11_forged_1 rfl rfl ?_
  obtain ⟨r1, hq10, h⟩ := bd_some h
  refine kx_X11_69 hi dX11_forged_2 hq10 hL (by decide) (Nat.le_of_ble_eq_true rfl) ?_
  refine J_istore_n (lv' := [(2, .int r1), (0, .ref (ad 0)), (1, .int p1)]) dX11_forged_5 rfl (by decide) rfl ?_
  refine J_iload_n (q := 0) dX11_forged_6 rfl rfl ?_
  refine J_if_eq (tgt := 12) dX11_forged_7 (by decide) (fun c2 => ?_) (fun c2 => ?_)
  · replace h := it_some h c2
    refine J_aload_n (q := 1) dX11_forged_12 rfl rfl ?_
    refine gC_shelves dX11_forged_13 ?_
    refine J_iload_n (q := 2) dX11_forged_16 rfl rfl ?_
    obtain ⟨hg3, h⟩ := gd_some h
    refine aM_shelf dX11_forged_17 hg3 ?_
    refine J_astore_n (lv' := [(3, .ref (ad (2 * (11 + p1.toNatClampNeg) + 70))), (2, .int r1), (0, .ref (ad 0)), (1, .int p1)]) dX11_forged_18 rfl (by decide) rfl ?_
    refine J_iconst dX11_forged_19 ic_0 ?_
    refine J_istore (lv' := [(4, .int (0 : Int32)), (3, .ref (ad (2 * (11 + p1.toNatClampNeg) + 70))), (2, .int r1), (0, .ref (ad 0)), (1, .int p1)]) dX11_forged_20 (by decide) rfl ?_
    refine J_sub [3, 1, 0] rfl (C_forged_L22_ok hi hL (okS_m hg3) FU _ h)
  · replace h := if_some h c2
    refine J_iload_n (q := 0) dX11_forged_10 rfl rfl ?_
    exact J_iret dX11_forged_11 (rt_pi h) rfl
set_option maxRecDepth 20000 in
set_option maxHeartbeats 4000000 in
theorem kX11_forged {l : Launch} {D : va_G} {ad : Nat → Nat} {cy : Nat → ClassId} {rv : Int32} {σ : CS} {p1 : Int32} (hi : wl_inj (ΓC ad cy)) (h : C_forged σ p1 = some rv) : Cn l D (ΓC ad cy) yX11_forged cX11_forged 5 (some .int) 3 [.ref (ad 0), .int p1] σ (some (.int rv), σ) :=
  Cn.of hi rfl (Nat.le_of_ble_eq_true rfl) (fun _ _ _ hL => C_forged_ok hi hL h)
theorem pdX11_judge : (parseMethodDescriptor yX11_judge.desc).map (fun d => d.parameters.length) = some 2 := by decide +kernel
set_option maxRecDepth 20000 in
set_option maxHeartbeats 4000000 in
theorem C_judge_L54_ok {E : Ec} {ad : Nat → Nat} {cy : Nat → ClassId} {rv : (Int32 × CS)} {a2 : Int32} {b4 : Nat} (hi : wl_inj (ΓC ad cy)) (hL : Lv E 5) (hb4 : okS b4) : ∀ (n : Nat) (σ : CS) (x5 : Int32), C_judge_L54 a2 b4 n σ x5 = some rv → Jw E (ΓC ad cy) RX11 cX11_judge 6 (some .int) (some (.int rv.1), rv.2) 54 [(0, .ref (ad 0)), (2, .int a2), (4, .ref (ad (2 * b4 + 70))), (5, .int x5)] [] σ := by
  intro n
  induction n with
  | zero =>
    intro σ x5 h
    rw [C_judge_L54] at h
    cases h
  | succ n ih =>
    intro σ x5 h
    rw [C_judge_L54] at h
    refine J_iload (q := 3) dX11_judge_54 rfl ?_
    refine J_aload (q := 2) dX11_judge_56 rfl ?_
    refine gS_X11_size dX11_judge_58 hb4 rfl ?_
    refine J_icmp_ge (tgt := 102) dX11_judge_61 (by decide) (fun c10 => ?_) (fun c10 => ?_)
    · replace h := it_some h c10
      refine J_bipush dX11_judge_102 bp_m4 ?_
      exact J_iret dX11_judge_104 (rt_i h) rfl
    · replace h := if_some h c10
      refine J_aload (q := 2) dX11_judge_64 rfl ?_
      refine J_iload (q := 3) dX11_judge_66 rfl ?_
      refine J_aload_n (q := 0) dX11_judge_68 rfl rfl ?_
      refine gC_mind dX11_judge_69 ?_
      refine J_iload_n (q := 1) dX11_judge_72 rfl rfl ?_
      obtain ⟨r11, hq19, h⟩ := bd_some h
      refine kx_X11_115 hi okT_3 dX11_judge_73 hq19 hL (by decide) (Nat.le_of_ble_eq_true rfl) ?_
      obtain ⟨r12, hq20, h⟩ := bd_some h
      refine kx_X11_182 hi dX11_judge_76 hq20 hL (by decide) (Nat.le_of_ble_eq_true rfl) ?_
      obtain ⟨r13, hq21, h⟩ := bd_some h
      refine kx_X11_254 hi hb4 dX11_judge_79 hq21 hL (by decide) (Nat.le_of_ble_eq_true rfl) ?_
      refine J_if_ne (tgt := 88) dX11_judge_82 (by decide) (fun c14 => ?_) (fun c14 => ?_)
      · replace h := if_some h c14
        refine J_aload_n (q := 0) dX11_judge_88 rfl rfl ?_
        refine gC_mind dX11_judge_89 ?_
        obtain ⟨r15, t16, hq22, h⟩ := bd2_some h
        refine kx_X11_194 hi okT_3 dX11_judge_92 hq22 hL (by decide) (Nat.le_of_ble_eq_true rfl) ?_
        refine J_tw (fun σ17 eσ17 => ?_)
        replace h := nm_some eσ17 h
        refine J_pop dX11_judge_95 rfl ?_
        refine J_iinc (q := 3) (v := (x5 + (1 : Int32))) (lv' := [(5, .int (x5 + (1 : Int32))), (0, .ref (ad 0)), (2, .int a2), (4, .ref (ad (2 * b4 + 70)))]) dX11_judge_96 rfl (congrArg (fun z => x5 + z) ic_1) (by decide) rfl ?_
        refine J_tv (fun v18 ev18 => ?_)
        replace h := nm_some ev18 h
        refine J_goto (tgt := 54) dX11_judge_99 (by decide) ?_
        exact J_sub [1, 2, 3, 0] rfl (ih _ _ h)
      · replace h := it_some h c14
        refine J_iload (q := 3) dX11_judge_85 rfl ?_
        exact J_iret dX11_judge_87 (rt_i h) rfl
set_option maxRecDepth 20000 in
set_option maxHeartbeats 4000000 in
theorem C_judge_ok {E : Ec} {ad : Nat → Nat} {cy : Nat → ClassId} {rv : (Int32 × CS)} {σ : CS} {p1 : Int32} {p2 : Int32} (hi : wl_inj (ΓC ad cy)) (hL : Lv E 5) (h : C_judge σ p1 p2 = some rv) : Jw E (ΓC ad cy) RX11 cX11_judge 6 (some .int) (some (.int rv.1), rv.2) 0 [(0, .ref (ad 0)), (1, .int p1), (2, .int p2)] [] σ := by
  unfold C_judge at h
  refine J_iload_n (q := 1) dX11_judge_0 rfl rfl ?_
  obtain ⟨r1, hq23, h⟩ := bd_some h
  refine kx_X11_146 hi dX11_judge_1 hq23 hL (by decide) (Nat.le_of_ble_eq_true rfl) ?_
  refine J_if_eq (tgt := 18) dX11_judge_4 (by decide) (fun c2 => ?_) (fun c2 => ?_)
  · replace h := it_some h c2
    refine J_iconst dX11_judge_18 ic_m1 ?_
    exact J_iret dX11_judge_19 (rt_i h) rfl
  · replace h := if_some h c2
    refine J_aload_n (q := 0) dX11_judge_7 rfl rfl ?_
    refine gC_now dX11_judge_8 ?_
    refine J_iload_n (q := 2) dX11_judge_11 rfl rfl ?_
    obtain ⟨r3, hq24, h⟩ := bd_some h
    refine kx_X11_98 hi okT_1 dX11_judge_12 hq24 hL (by decide) (Nat.le_of_ble_eq_true rfl) ?_
    refine J_if_ne (tgt := 20) dX11_judge_15 (by decide) (fun c4 => ?_) (fun c4 => ?_)
    · replace h := if_some h c4
      refine J_aload_n (q := 0) dX11_judge_20 rfl rfl ?_
      refine J_iload_n (q := 1) dX11_judge_21 rfl rfl ?_
      obtain ⟨r5, hq25, h⟩ := bd_some h
      refine kx_X11_69 hi dX11_judge_22 hq25 hL (by decide) (Nat.le_of_ble_eq_true rfl) ?_
      refine J_istore_n (lv' := [(3, .int r5), (0, .ref (ad 0)), (1, .int p1), (2, .int p2)]) dX11_judge_25 rfl (by decide) rfl ?_
      refine J_iload_n (q := 0) dX11_judge_26 rfl rfl ?_
      refine J_if_eq (tgt := 32) dX11_judge_27 (by decide) (fun c6 => ?_) (fun c6 => ?_)
      · replace h := it_some h c6
        refine J_aload_n (q := 1) dX11_judge_32 rfl rfl ?_
        refine gC_shelves dX11_judge_33 ?_
        refine J_iload_n (q := 2) dX11_judge_36 rfl rfl ?_
        obtain ⟨hg7, h⟩ := gd_some h
        refine aM_shelf dX11_judge_37 hg7 ?_
        refine J_astore (lv' := [(4, .ref (ad (2 * (11 + p1.toNatClampNeg) + 70))), (3, .int r5), (0, .ref (ad 0)), (1, .int p1), (2, .int p2)]) dX11_judge_38 (by decide) rfl ?_
        refine J_aload_n (q := 2) dX11_judge_40 rfl rfl ?_
        refine gC_mind dX11_judge_41 ?_
        refine J_aload_n (q := 2) dX11_judge_44 rfl rfl ?_
        refine gC_now dX11_judge_45 ?_
        obtain ⟨t8, hq26, h⟩ := bd_some h
        refine kx_X11_83 hi okT_3 okT_1 (by decide) dX11_judge_48 hq26 hL (by decide) (Nat.le_of_ble_eq_true rfl) ?_
        refine J_tw (fun σ9 eσ9 => ?_)
        replace h := nm_some eσ9 h
        refine J_iconst dX11_judge_51 ic_0 ?_
        refine J_istore (lv' := [(5, .int (0 : Int32)), (4, .ref (ad (2 * (11 + p1.toNatClampNeg) + 70))), (3, .int r5), (0, .ref (ad 0)), (1, .int p1), (2, .int p2)]) dX11_judge_52 (by decide) rfl ?_
        refine J_sub [3, 5, 1, 0] rfl (C_judge_L54_ok hi hL (okS_m hg7) FU _ _ h)
      · replace h := if_some h c6
        refine J_iload_n (q := 0) dX11_judge_30 rfl rfl ?_
        exact J_iret dX11_judge_31 (rt_i h) rfl
    · replace h := it_some h c4
      refine J_iconst dX11_judge_18 ic_m1 ?_
      exact J_iret dX11_judge_19 (rt_i h) rfl
set_option maxRecDepth 20000 in
set_option maxHeartbeats 4000000 in
theorem kX11_judge {l : Launch} {D : va_G} {ad : Nat → Nat} {cy : Nat → ClassId} {rv : (Int32 × CS)} {σ : CS} {p1 : Int32} {p2 : Int32} (hi : wl_inj (ΓC ad cy)) (h : C_judge σ p1 p2 = some rv) : Cn l D (ΓC ad cy) yX11_judge cX11_judge 6 (some .int) 5 [.ref (ad 0), .int p1, .int p2] σ (some (.int rv.1), rv.2) :=
  Cn.of hi rfl (Nat.le_of_ble_eq_true rfl) (fun _ _ _ hL => C_judge_ok hi hL h)
theorem pdX11_nextSeed : (parseMethodDescriptor yX11_nextSeed.desc).map (fun d => d.parameters.length) = some 1 := by decide +kernel
set_option maxRecDepth 20000 in
set_option maxHeartbeats 4000000 in
theorem C_nextSeed_ok {E : Ec} {ad : Nat → Nat} {cy : Nat → ClassId} {rv : Int32} {w : CS} {p0 : Int32} (hi : wl_inj (ΓC ad cy)) (hL : Lv E 0) (h : C_nextSeed p0 = some rv) : Jw E (ΓC ad cy) RX11 cX11_nextSeed 1 (some .int) (some (.int rv), w) 0 [(0, .int p0)] [] w := by
  unfold C_nextSeed at h
  refine J_iload_n (q := 0) dX11_nextSeed_0 rfl rfl ?_
  refine J_ldcw dX11_nextSeed_1 tw_3_147 ?_
  refine J_imul dX11_nextSeed_4 ?_
  refine J_sipush dX11_nextSeed_5 sp_12345 ?_
  refine J_iadd dX11_nextSeed_8 ?_
  exact J_iret dX11_nextSeed_9 (rt_pi h) rfl
set_option maxRecDepth 20000 in
set_option maxHeartbeats 4000000 in
theorem kX11_nextSeed {l : Launch} {D : va_G} {ad : Nat → Nat} {cy : Nat → ClassId} {rv : Int32} {w : CS} {p0 : Int32} (hi : wl_inj (ΓC ad cy)) (h : C_nextSeed p0 = some rv) : Cn l D (ΓC ad cy) yX11_nextSeed cX11_nextSeed 1 (some .int) 0 [.int p0] w (some (.int rv), w) :=
  Cn.of hi rfl (Nat.le_of_ble_eq_true rfl) (fun _ _ _ hL => C_nextSeed_ok hi hL h)
theorem pdX11_draw : (parseMethodDescriptor yX11_draw.desc).map (fun d => d.parameters.length) = some 1 := by decide +kernel
set_option maxRecDepth 20000 in
set_option maxHeartbeats 4000000 in
theorem C_draw_ok {E : Ec} {ad : Nat → Nat} {cy : Nat → ClassId} {rv : Int32} {w : CS} {p0 : Int32} (hi : wl_inj (ΓC ad cy)) (hL : Lv E 0) (h : C_draw p0 = some rv) : Jw E (ΓC ad cy) RX11 cX11_draw 1 (some .int) (some (.int rv), w) 0 [(0, .int p0)] [] w := by
  unfold C_draw at h
  refine J_iload_n (q := 0) dX11_draw_0 rfl rfl ?_
  refine J_ldcw dX11_draw_1 tw_3_151 ?_
  refine J_iand dX11_draw_4 ?_
  refine J_ldcw dX11_draw_5 tw_3_152 ?_
  refine J_idiv dX11_draw_8 (by decide) ?_
  exact J_iret dX11_draw_9 (rt_pi h) rfl
set_option maxRecDepth 20000 in
set_option maxHeartbeats 4000000 in
theorem kX11_draw {l : Launch} {D : va_G} {ad : Nat → Nat} {cy : Nat → ClassId} {rv : Int32} {w : CS} {p0 : Int32} (hi : wl_inj (ΓC ad cy)) (h : C_draw p0 = some rv) : Cn l D (ΓC ad cy) yX11_draw cX11_draw 1 (some .int) 0 [.int p0] w (some (.int rv), w) :=
  Cn.of hi rfl (Nat.le_of_ble_eq_true rfl) (fun _ _ _ hL => C_draw_ok hi hL h)
theorem pdX11_drawYear : (parseMethodDescriptor yX11_drawYear.desc).map (fun d => d.parameters.length) = some 1 := by decide +kernel
theorem kx_X11_327 {E : Ec} {ad : Nat → Nat} {cy : Nat → ClassId} {cc : ByteArray} {nL : Nat} {rt : Option FieldType} {r : Option Value × CS} {pc : Nat} {lv : List (Nat × Value)} {st : List Value} {w : CS} {n : Nat} {p0 : Int32} {v : Int32} (hi : wl_inj (ΓC ad cy)) (hd : decode cc pc = .ok (.invokestatic 327, 3)) (hq : C_nextSeed p0 = some v) (hL : Lv E n) (hn : 0 + 1 ≤ n) (hW : (st.map fun v => v.category).sum ≤ 8) (k : Jw E (ΓC ad cy) RX11 cc nL rt r (pc + 3) lv (.int v :: st) w) : Jw E (ΓC ad cy) RX11 cc nL rt r pc lv (.int p0 :: st) w :=
  J_callS (Γ := ΓC ad cy) (av := [.int p0]) (q := (some (.int v), w)) (st := st) hd (kX11_nextSeed hi hq) tw_3_144 tw_3_145 tw_1_1 tw_3_146 ⟨by decide, by decide, pdX11_nextSeed⟩ rfl (by decide) hL hn hW k
theorem kx_X11_330 {E : Ec} {ad : Nat → Nat} {cy : Nat → ClassId} {cc : ByteArray} {nL : Nat} {rt : Option FieldType} {r : Option Value × CS} {pc : Nat} {lv : List (Nat × Value)} {st : List Value} {w : CS} {n : Nat} {p0 : Int32} {v : Int32} (hi : wl_inj (ΓC ad cy)) (hd : decode cc pc = .ok (.invokestatic 330, 3)) (hq : C_draw p0 = some v) (hL : Lv E n) (hn : 0 + 1 ≤ n) (hW : (st.map fun v => v.category).sum ≤ 8) (k : Jw E (ΓC ad cy) RX11 cc nL rt r (pc + 3) lv (.int v :: st) w) : Jw E (ΓC ad cy) RX11 cc nL rt r pc lv (.int p0 :: st) w :=
  J_callS (Γ := ΓC ad cy) (av := [.int p0]) (q := (some (.int v), w)) (st := st) hd (kX11_draw hi hq) tw_3_148 tw_3_149 tw_1_1 tw_3_150 ⟨by decide, by decide, pdX11_draw⟩ rfl (by decide) hL hn hW k
set_option maxRecDepth 20000 in
set_option maxHeartbeats 4000000 in
theorem C_drawYear_L15_ok {E : Ec} {ad : Nat → Nat} {cy : Nat → ClassId} {rv : (Int32 × CS)} {k48 : Int32 → CS → Option (Int32 × CS)} (hi : wl_inj (ΓC ad cy)) (hL : Lv E 2) (hk48 : ∀ (y2 : Int32) (yw : CS), k48 y2 yw = some rv → Jw E (ΓC ad cy) RX11 cX11_drawYear 4 (some .int) (some (.int rv.1), rv.2) 48 [(0, .ref (ad 0)), (2, .int y2)] [] yw) : ∀ (n : Nat) (σ : CS) (x2 : Int32) (x3 : Int32), C_drawYear_L15 k48 n σ x2 x3 = some rv → Jw E (ΓC ad cy) RX11 cX11_drawYear 4 (some .int) (some (.int rv.1), rv.2) 15 [(0, .ref (ad 0)), (2, .int x2), (3, .int x3)] [] σ := by
  intro n
  induction n with
  | zero =>
    intro σ x2 x3 h
    rw [C_drawYear_L15] at h
    cases h
  | succ n ih =>
    intro σ x2 x3 h
    rw [C_drawYear_L15] at h
    refine J_iload_n (q := 2) dX11_drawYear_15 rfl rfl ?_
    refine J_iconst dX11_drawYear_16 ic_5 ?_
    refine J_icmp_ge (tgt := 48) dX11_drawYear_17 (by decide) (fun c3 => ?_) (fun c3 => ?_)
    · replace h := it_some h c3
      exact J_sub [0, 1] rfl (hk48 _ _ h)
    · replace h := if_some h c3
      refine J_iload_n (q := 1) dX11_drawYear_20 rfl rfl ?_
      obtain ⟨r4, hq9, h⟩ := bd_some h
      refine kx_X11_327 hi dX11_drawYear_21 hq9 hL (by decide) (Nat.le_of_ble_eq_true rfl) ?_
      refine J_istore_n (lv' := [(2, .int r4), (0, .ref (ad 0)), (3, .int x3)]) dX11_drawYear_24 rfl (by decide) rfl ?_
      refine J_aload_n (q := 1) dX11_drawYear_25 rfl rfl ?_
      refine gC_mind dX11_drawYear_26 ?_
      refine gT_X11_truth dX11_drawYear_29 okT_3 rfl ?_
      refine J_iload_n (q := 2) dX11_drawYear_32 rfl rfl ?_
      refine J_iload_n (q := 0) dX11_drawYear_33 rfl rfl ?_
      obtain ⟨r5, hq10, h⟩ := bd_some h
      refine kx_X11_330 hi dX11_drawYear_34 hq10 hL (by decide) (Nat.le_of_ble_eq_true rfl) ?_
      refine J_sipush dX11_drawYear_37 sp_4096 ?_
      refine J_irem dX11_drawYear_40 (by decide) ?_
      obtain ⟨hg6, h⟩ := gd_some h
      refine aT_st (w' := (va_up σ 3 (pA (σ 3) 1 x3 (rem32 r5 (4096 : Int32))))) (j := 1) (n := 5) dX11_drawYear_41 okT_3 rfl vu_at (fun _ h9 => vu_ne h9) (by decide) rfl hg6 ?_
      refine J_tw (fun σ7 eσ7 => ?_)
      replace h := nm_some eσ7 h
      refine J_iinc (q := 2) (v := (x3 + (1 : Int32))) (lv' := [(3, .int (x3 + (1 : Int32))), (2, .int r4), (0, .ref (ad 0))]) dX11_drawYear_42 rfl (congrArg (fun z => x3 + z) ic_1) (by decide) rfl ?_
      refine J_tv (fun v8 ev8 => ?_)
      replace h := nm_some ev8 h
      refine J_goto (tgt := 15) dX11_drawYear_45 (by decide) ?_
      exact J_sub [2, 1, 0] rfl (ih _ _ _ h)
set_option maxRecDepth 20000 in
set_option maxHeartbeats 4000000 in
theorem C_drawYear_L50_ok {E : Ec} {ad : Nat → Nat} {cy : Nat → ClassId} {rv : (Int32 × CS)} (hi : wl_inj (ΓC ad cy)) (hL : Lv E 2) : ∀ (n : Nat) (σ : CS) (x2 : Int32) (x3 : Int32), C_drawYear_L50 n σ x2 x3 = some rv → Jw E (ΓC ad cy) RX11 cX11_drawYear 4 (some .int) (some (.int rv.1), rv.2) 50 [(0, .ref (ad 0)), (2, .int x2), (3, .int x3)] [] σ := by
  intro n
  induction n with
  | zero =>
    intro σ x2 x3 h
    rw [C_drawYear_L50] at h
    cases h
  | succ n ih =>
    intro σ x2 x3 h
    rw [C_drawYear_L50] at h
    refine J_iload_n (q := 2) dX11_drawYear_50 rfl rfl ?_
    refine J_aload_n (q := 0) dX11_drawYear_51 rfl rfl ?_
    refine gC_mind dX11_drawYear_52 ?_
    refine gT_X11_people dX11_drawYear_55 okT_3 rfl ?_
    refine J_icmp_ge (tgt := 87) dX11_drawYear_58 (by decide) (fun c13 => ?_) (fun c13 => ?_)
    · replace h := it_some h c13
      refine J_iload_n (q := 1) dX11_drawYear_87 rfl rfl ?_
      exact J_iret dX11_drawYear_88 (rt_i h) rfl
    · replace h := if_some h c13
      refine J_iload_n (q := 1) dX11_drawYear_61 rfl rfl ?_
      obtain ⟨r14, hq19, h⟩ := bd_some h
      refine kx_X11_327 hi dX11_drawYear_62 hq19 hL (by decide) (Nat.le_of_ble_eq_true rfl) ?_
      refine J_istore_n (lv' := [(2, .int r14), (0, .ref (ad 0)), (3, .int x3)]) dX11_drawYear_65 rfl (by decide) rfl ?_
      refine J_aload_n (q := 1) dX11_drawYear_66 rfl rfl ?_
      refine gC_mind dX11_drawYear_67 ?_
      refine gT_X11_caresFor dX11_drawYear_70 okT_3 rfl ?_
      refine J_iload_n (q := 2) dX11_drawYear_73 rfl rfl ?_
      refine J_iload_n (q := 0) dX11_drawYear_74 rfl rfl ?_
      obtain ⟨r15, hq20, h⟩ := bd_some h
      refine kx_X11_330 hi dX11_drawYear_75 hq20 hL (by decide) (Nat.le_of_ble_eq_true rfl) ?_
      refine J_iconst dX11_drawYear_78 ic_5 ?_
      refine J_irem dX11_drawYear_79 (by decide) ?_
      obtain ⟨hg16, h⟩ := gd_some h
      refine aT_st (w' := (va_up σ 3 (pA (σ 3) 6 x3 (rem32 r15 (5 : Int32))))) (j := 6) (n := 7) dX11_drawYear_80 okT_3 rfl vu_at (fun _ h9 => vu_ne h9) (by decide) rfl hg16 ?_
      refine J_tw (fun σ17 eσ17 => ?_)
      replace h := nm_some eσ17 h
      refine J_iinc (q := 2) (v := (x3 + (1 : Int32))) (lv' := [(3, .int (x3 + (1 : Int32))), (2, .int r14), (0, .ref (ad 0))]) dX11_drawYear_81 rfl (congrArg (fun z => x3 + z) ic_1) (by decide) rfl ?_
      refine J_tv (fun v18 ev18 => ?_)
      replace h := nm_some ev18 h
      refine J_goto (tgt := 50) dX11_drawYear_84 (by decide) ?_
      exact J_sub [2, 1, 0] rfl (ih _ _ _ h)
set_option maxRecDepth 20000 in
set_option maxHeartbeats 4000000 in
theorem C_drawYear_ok {E : Ec} {ad : Nat → Nat} {cy : Nat → ClassId} {rv : (Int32 × CS)} {σ : CS} {p1 : Int32} (hi : wl_inj (ΓC ad cy)) (hL : Lv E 2) (h : C_drawYear σ p1 = some rv) : Jw E (ΓC ad cy) RX11 cX11_drawYear 4 (some .int) (some (.int rv.1), rv.2) 0 [(0, .ref (ad 0)), (1, .int p1)] [] σ := by
  unfold C_drawYear at h
  refine J_aload_n (q := 0) dX11_drawYear_0 rfl rfl ?_
  refine gC_mind dX11_drawYear_1 ?_
  refine J_aload_n (q := 0) dX11_drawYear_4 rfl rfl ?_
  refine gC_now dX11_drawYear_5 ?_
  obtain ⟨t1, hq21, h⟩ := bd_some h
  refine kx_X11_83 hi okT_3 okT_1 (by decide) dX11_drawYear_8 hq21 hL (by decide) (Nat.le_of_ble_eq_true rfl) ?_
  refine J_tw (fun σ2 eσ2 => ?_)
  replace h := nm_some eσ2 h
  refine J_iload_n (q := 1) dX11_drawYear_11 rfl rfl ?_
  refine J_istore_n (lv' := [(2, .int p1), (0, .ref (ad 0)), (1, .int p1)]) dX11_drawYear_12 rfl (by decide) rfl ?_
  refine J_iconst dX11_drawYear_13 ic_0 ?_
  refine J_istore_n (lv' := [(3, .int (0 : Int32)), (2, .int p1), (0, .ref (ad 0)), (1, .int p1)]) dX11_drawYear_14 rfl (by decide) rfl ?_
  refine J_sub [2, 1, 0] rfl (C_drawYear_L15_ok hi hL (fun x2_11 σ12 h => ?_) FU _ _ _ h)
  refine J_iconst dX11_drawYear_48 ic_0 ?_
  refine J_istore_n (lv' := [(3, .int (0 : Int32)), (0, .ref (ad 0)), (2, .int x2_11)]) dX11_drawYear_49 rfl (by decide) rfl ?_
  refine J_sub [1, 2, 0] rfl (C_drawYear_L50_ok hi hL FU _ _ _ h)
set_option maxRecDepth 20000 in
set_option maxHeartbeats 4000000 in
theorem kX11_drawYear {l : Launch} {D : va_G} {ad : Nat → Nat} {cy : Nat → ClassId} {rv : (Int32 × CS)} {σ : CS} {p1 : Int32} (hi : wl_inj (ΓC ad cy)) (h : C_drawYear σ p1 = some rv) : Cn l D (ΓC ad cy) yX11_drawYear cX11_drawYear 4 (some .int) 2 [.ref (ad 0), .int p1] σ (some (.int rv.1), rv.2) :=
  Cn.of hi rfl (Nat.le_of_ble_eq_true rfl) (fun _ _ _ hL => C_drawYear_ok hi hL h)
theorem pdX11_otherOwners : (parseMethodDescriptor yX11_otherOwners.desc).map (fun d => d.parameters.length) = some 0 := by decide +kernel
set_option maxRecDepth 20000 in
set_option maxHeartbeats 4000000 in
theorem C_otherOwners_L4_ok {E : Ec} {ad : Nat → Nat} {cy : Nat → ClassId} {rv : Int32} {σ : CS} (hi : wl_inj (ΓC ad cy)) (hL : Lv E 0) : ∀ (n : Nat) (x1 : Int32) (x2 : Int32), C_otherOwners_L4 σ n x1 x2 = some rv → Jw E (ΓC ad cy) RX11 cX11_otherOwners 3 (some .int) (some (.int rv), σ) 4 [(0, .ref (ad 0)), (1, .int x1), (2, .int x2)] [] σ := by
  intro n
  induction n with
  | zero =>
    intro x1 x2 h
    rw [C_otherOwners_L4] at h
    cases h
  | succ n ih =>
    intro x1 x2 h
    rw [C_otherOwners_L4] at h
    refine J_iload_n (q := 2) dX11_otherOwners_4 rfl rfl ?_
    refine J_iconst dX11_otherOwners_5 ic_5 ?_
    refine J_icmp_ge (tgt := 53) dX11_otherOwners_6 (by decide) (fun c1 => ?_) (fun c1 => ?_)
    · replace h := it_some h c1
      refine J_iload_n (q := 1) dX11_otherOwners_53 rfl rfl ?_
      exact J_iret dX11_otherOwners_54 (rt_pi h) rfl
    · replace h := if_some h c1
      refine J_aload_n (q := 0) dX11_otherOwners_9 rfl rfl ?_
      refine gC_mind dX11_otherOwners_10 ?_
      refine gT_X11_owner dX11_otherOwners_13 okT_3 rfl ?_
      refine J_iload_n (q := 2) dX11_otherOwners_16 rfl rfl ?_
      obtain ⟨hg2, h⟩ := gd_some h
      refine aT_ld (j := 3) (n := 5) dX11_otherOwners_17 okT_3 rfl (by decide) rfl hg2 ?_
      refine J_bipush dX11_otherOwners_18 bp_9 ?_
      obtain ⟨x1_8, ha47, h⟩ := bd_some h
      have K47 : Jw E (ΓC ad cy) RX11 cX11_otherOwners 3 (some .int) (some (.int rv), σ) 47 [(0, .ref (ad 0)), (1, .int x1_8), (2, .int x2)] [] σ := by
        clear ha47
        refine J_iinc (q := 2) (v := (x2 + (1 : Int32))) (lv' := [(2, .int (x2 + (1 : Int32))), (0, .ref (ad 0)), (1, .int x1_8)]) dX11_otherOwners_47 rfl (congrArg (fun z => x2 + z) ic_1) (by decide) rfl ?_
        refine J_tv (fun v9 ev9 => ?_)
        replace h := nm_some ev9 h
        refine J_goto (tgt := 4) dX11_otherOwners_50 (by decide) ?_
        exact J_sub [1, 2, 0] rfl (ih _ _ h)
      clear h
      refine J_icmp_eq (tgt := 47) dX11_otherOwners_20 (by decide) (fun c3 => ?_) (fun c3 => ?_)
      · replace ha47 := it_some ha47 c3
        cases ha47
        exact J_sub [0, 1, 2] rfl (K47)
      · replace ha47 := if_some ha47 c3
        refine J_aload_n (q := 0) dX11_otherOwners_23 rfl rfl ?_
        refine gC_mind dX11_otherOwners_24 ?_
        refine gT_X11_owner dX11_otherOwners_27 okT_3 rfl ?_
        refine J_iload_n (q := 2) dX11_otherOwners_30 rfl rfl ?_
        obtain ⟨hg4, ha47⟩ := gd_some ha47
        refine aT_ld (j := 3) (n := 5) dX11_otherOwners_31 okT_3 rfl (by decide) rfl hg4 ?_
        refine J_aload_n (q := 0) dX11_otherOwners_32 rfl rfl ?_
        refine gC_now dX11_otherOwners_33 ?_
        refine gT_X11_owner dX11_otherOwners_36 okT_1 rfl ?_
        refine J_iload_n (q := 2) dX11_otherOwners_39 rfl rfl ?_
        obtain ⟨hg5, ha47⟩ := gd_some ha47
        refine aT_ld (j := 3) (n := 5) dX11_otherOwners_40 okT_1 rfl (by decide) rfl hg5 ?_
        refine J_icmp_eq (tgt := 47) dX11_otherOwners_41 (by decide) (fun c6 => ?_) (fun c6 => ?_)
        · replace ha47 := it_some ha47 c6
          cases ha47
          exact J_sub [0, 1, 2] rfl (K47)
        · replace ha47 := if_some ha47 c6
          refine J_iinc (q := 1) (v := (x1 + (1 : Int32))) (lv' := [(1, .int (x1 + (1 : Int32))), (0, .ref (ad 0)), (2, .int x2)]) dX11_otherOwners_44 rfl (congrArg (fun z => x1 + z) ic_1) (by decide) rfl ?_
          refine J_tv (fun v7 ev7 => ?_)
          replace ha47 := nm_some ev7 ha47
          cases ha47
          exact J_sub [1, 0, 2] rfl (K47)
set_option maxRecDepth 20000 in
set_option maxHeartbeats 4000000 in
theorem C_otherOwners_ok {E : Ec} {ad : Nat → Nat} {cy : Nat → ClassId} {rv : Int32} {σ : CS} (hi : wl_inj (ΓC ad cy)) (hL : Lv E 0) (h : C_otherOwners σ = some rv) : Jw E (ΓC ad cy) RX11 cX11_otherOwners 3 (some .int) (some (.int rv), σ) 0 [(0, .ref (ad 0))] [] σ := by
  unfold C_otherOwners at h
  refine J_iconst dX11_otherOwners_0 ic_0 ?_
  refine J_istore_n (lv' := [(1, .int (0 : Int32)), (0, .ref (ad 0))]) dX11_otherOwners_1 rfl (by decide) rfl ?_
  refine J_iconst dX11_otherOwners_2 ic_0 ?_
  refine J_istore_n (lv' := [(2, .int (0 : Int32)), (1, .int (0 : Int32)), (0, .ref (ad 0))]) dX11_otherOwners_3 rfl (by decide) rfl ?_
  refine J_sub [2, 1, 0] rfl (C_otherOwners_L4_ok hi hL FU _ _ h)
set_option maxRecDepth 20000 in
set_option maxHeartbeats 4000000 in
theorem kX11_otherOwners {l : Launch} {D : va_G} {ad : Nat → Nat} {cy : Nat → ClassId} {rv : Int32} {σ : CS} (hi : wl_inj (ΓC ad cy)) (h : C_otherOwners σ = some rv) : Cn l D (ΓC ad cy) yX11_otherOwners cX11_otherOwners 3 (some .int) 0 [.ref (ad 0)] σ (some (.int rv), σ) :=
  Cn.of hi rfl (Nat.le_of_ble_eq_true rfl) (fun _ _ _ hL => C_otherOwners_ok hi hL h)
theorem pdX11_years : (parseMethodDescriptor yX11_years.desc).map (fun d => d.parameters.length) = some 3 := by decide +kernel
theorem kx_X11_257 {E : Ec} {ad : Nat → Nat} {cy : Nat → ClassId} {cc : ByteArray} {nL : Nat} {rt : Option FieldType} {r : Option Value × CS} {pc : Nat} {lv : List (Nat × Value)} {st : List Value} {σ : CS} {n : Nat} {p1 : Int32} {v : Int32} {σ' : CS} (hi : wl_inj (ΓC ad cy)) (hd : decode cc pc = .ok (.invokevirtual 257, 3)) (hq : C_drawYear σ p1 = some (v, σ')) (hL : Lv E n) (hn : 2 + 1 ≤ n) (hW : (st.map fun v => v.category).sum ≤ 8) (k : Jw E (ΓC ad cy) RX11 cc nL rt r (pc + 3) lv (.int v :: st) σ') : Jw E (ΓC ad cy) RX11 cc nL rt r pc lv (.int p1 :: .ref (ad 0) :: st) σ :=
  J_callV (Γ := ΓC ad cy) (h := 0) (ci := 10) (av := [.int p1]) (q := (some (.int v), σ')) (st := st) hd (kX11_drawYear hi hq) tw_3_140 tw_3_142 tw_1_1 tw_3_143 sl_2_2 ⟨by decide, by decide, pdX11_drawYear⟩ (by show 0 < 111; decide) rfl rfl rfl rfl (by decide) hL hn hW k
theorem kx_X11_260 {E : Ec} {ad : Nat → Nat} {cy : Nat → ClassId} {cc : ByteArray} {nL : Nat} {rt : Option FieldType} {r : Option Value × CS} {pc : Nat} {lv : List (Nat × Value)} {st : List Value} {σ : CS} {n : Nat} {v : Int32} (hi : wl_inj (ΓC ad cy)) (hd : decode cc pc = .ok (.invokevirtual 260, 3)) (hq : C_otherOwners σ = some v) (hL : Lv E n) (hn : 0 + 1 ≤ n) (hW : (st.map fun v => v.category).sum ≤ 8) (k : Jw E (ΓC ad cy) RX11 cc nL rt r (pc + 3) lv (.int v :: st) σ) : Jw E (ΓC ad cy) RX11 cc nL rt r pc lv (.ref (ad 0) :: st) σ :=
  J_callV (Γ := ΓC ad cy) (h := 0) (ci := 10) (av := []) (q := (some (.int v), σ)) (st := st) hd (kX11_otherOwners hi hq) tw_3_153 tw_3_155 tw_1_1 tw_3_156 sl_2_3 ⟨by decide, by decide, pdX11_otherOwners⟩ (by show 0 < 111; decide) rfl rfl rfl rfl (by decide) hL hn hW k
set_option maxRecDepth 20000 in
set_option maxHeartbeats 4000000 in
theorem C_years_L33_ok {E : Ec} {ad : Nat → Nat} {cy : Nat → ClassId} {rv : (Int32 × CS)} {k86 : Int32 → Int32 → CS → Option (Int32 × CS)} {a1 : Int32} {a3 : Int32} (hi : wl_inj (ΓC ad cy)) (hL : Lv E 6) (hk86 : ∀ (y5 : Int32) (y6 : Int32) (yw : CS), k86 y5 y6 yw = some rv → Jw E (ΓC ad cy) RX11 cX11_years 8 (some .int) (some (.int rv.1), rv.2) 86 [(3, .int a3), (5, .int y5), (6, .int y6)] [] yw) : ∀ (n : Nat) (σ : CS) (x4 : Int32) (x5 : Int32) (x6 : Int32) (x7 : Int32), C_years_L33 k86 a1 a3 n σ x4 x5 x6 x7 = some rv → Jw E (ΓC ad cy) RX11 cX11_years 8 (some .int) (some (.int rv.1), rv.2) 33 [(0, .ref (ad 0)), (1, .int a1), (3, .int a3), (4, .int x4), (5, .int x5), (6, .int x6), (7, .int x7)] [] σ := by
  intro n
  induction n with
  | zero =>
    intro σ x4 x5 x6 x7 h
    rw [C_years_L33] at h
    cases h
  | succ n ih =>
    intro σ x4 x5 x6 x7 h
    rw [C_years_L33] at h
    refine J_iload (q := 6) dX11_years_33 rfl ?_
    refine J_iload_n (q := 1) dX11_years_35 rfl rfl ?_
    refine J_icmp_ge (tgt := 86) dX11_years_36 (by decide) (fun c5 => ?_) (fun c5 => ?_)
    · replace h := it_some h c5
      exact J_sub [2, 4, 5] rfl (hk86 _ _ _ h)
    · replace h := if_some h c5
      refine J_aload_n (q := 0) dX11_years_39 rfl rfl ?_
      refine J_iload (q := 3) dX11_years_40 rfl ?_
      obtain ⟨r6, σ7, hq16, h⟩ := bd2_some h
      refine kx_X11_257 hi dX11_years_42 hq16 hL (by decide) (Nat.le_of_ble_eq_true rfl) ?_
      refine J_istore (lv' := [(4, .int r6), (0, .ref (ad 0)), (1, .int a1), (3, .int a3), (5, .int x5), (6, .int x6), (7, .int x7)]) dX11_years_45 (by decide) rfl ?_
      refine J_aload_n (q := 1) dX11_years_47 rfl rfl ?_
      refine gC_mind dX11_years_48 ?_
      refine J_bipush dX11_years_51 bp_8 ?_
      obtain ⟨t8, hq17, h⟩ := bd_some h
      refine kx_X11_198 hi okT_3 dX11_years_53 hq17 hL (by decide) (Nat.le_of_ble_eq_true rfl) ?_
      refine J_tw (fun σ9 eσ9 => ?_)
      replace h := nm_some eσ9 h
      refine J_iload (q := 4) dX11_years_56 rfl ?_
      refine J_aload_n (q := 1) dX11_years_58 rfl rfl ?_
      refine gC_mind dX11_years_59 ?_
      obtain ⟨r10, hq18, h⟩ := bd_some h
      refine kx_X11_178 hi okT_3 dX11_years_62 hq18 hL (by decide) (Nat.le_of_ble_eq_true rfl) ?_
      obtain ⟨r11, hq19, h⟩ := bd_some h
      refine kx_X11_182 hi dX11_years_65 hq19 hL (by decide) (Nat.le_of_ble_eq_true rfl) ?_
      refine J_iadd dX11_years_68 ?_
      refine J_ti (fun v12 ev12 => ?_)
      replace h := nm_some ev12 h
      refine J_istore (lv' := [(5, .int v12), (4, .int r6), (0, .ref (ad 0)), (1, .int a1), (3, .int a3), (6, .int x6), (7, .int x7)]) dX11_years_69 (by decide) rfl ?_
      refine J_iload (q := 5) dX11_years_71 rfl ?_
      refine J_aload_n (q := 2) dX11_years_73 rfl rfl ?_
      obtain ⟨r13, hq20, h⟩ := bd_some h
      refine kx_X11_260 hi dX11_years_74 hq20 hL (by decide) (Nat.le_of_ble_eq_true rfl) ?_
      refine J_iadd dX11_years_77 ?_
      refine J_ti (fun v14 ev14 => ?_)
      replace h := nm_some ev14 h
      refine J_istore (lv' := [(6, .int v14), (5, .int v12), (4, .int r6), (0, .ref (ad 0)), (1, .int a1), (3, .int a3), (7, .int x7)]) dX11_years_78 (by decide) rfl ?_
      refine J_iinc (q := 6) (v := (x7 + (1 : Int32))) (lv' := [(7, .int (x7 + (1 : Int32))), (6, .int v14), (5, .int v12), (4, .int r6), (0, .ref (ad 0)), (1, .int a1), (3, .int a3)]) dX11_years_80 rfl (congrArg (fun z => x7 + z) ic_1) (by decide) rfl ?_
      refine J_tv (fun v15 ev15 => ?_)
      replace h := nm_some ev15 h
      refine J_goto (tgt := 33) dX11_years_83 (by decide) ?_
      exact J_sub [4, 5, 6, 3, 2, 1, 0] rfl (ih _ _ _ _ _ h)
set_option maxRecDepth 20000 in
set_option maxHeartbeats 4000000 in
theorem C_years_ok {E : Ec} {ad : Nat → Nat} {cy : Nat → ClassId} {rv : (Int32 × CS)} {σ : CS} {p1 : Int32} {p2 : Int32} {p3 : Int32} (hi : wl_inj (ΓC ad cy)) (hL : Lv E 6) (h : C_years σ p1 p2 p3 = some rv) : Jw E (ΓC ad cy) RX11 cX11_years 8 (some .int) (some (.int rv.1), rv.2) 0 [(0, .ref (ad 0)), (1, .int p1), (2, .int p2), (3, .int p3)] [] σ := by
  unfold C_years at h
  refine J_iload_n (q := 1) dX11_years_0 rfl rfl ?_
  refine J_iconst dX11_years_1 ic_1 ?_
  refine J_icmp_lt (tgt := 19) dX11_years_2 (by decide) (fun c1 => ?_) (fun c1 => ?_)
  · replace h := it_some h c1
    refine J_iconst dX11_years_19 ic_m1 ?_
    exact J_iret dX11_years_20 (rt_i h) rfl
  · replace h := if_some h c1
    refine J_iload_n (q := 1) dX11_years_5 rfl rfl ?_
    refine J_bipush dX11_years_6 bp_20 ?_
    refine J_icmp_gt (tgt := 19) dX11_years_8 (by decide) (fun c2 => ?_) (fun c2 => ?_)
    · replace h := it_some h c2
      refine J_iconst dX11_years_19 ic_m1 ?_
      exact J_iret dX11_years_20 (rt_i h) rfl
    · replace h := if_some h c2
      refine J_iload_n (q := 3) dX11_years_11 rfl rfl ?_
      refine J_iconst dX11_years_12 ic_1 ?_
      obtain ⟨r3, hq25, h⟩ := bd_some h
      refine kx_X11_102 hi dX11_years_13 hq25 hL (by decide) (Nat.le_of_ble_eq_true rfl) ?_
      refine J_if_ne (tgt := 21) dX11_years_16 (by decide) (fun c4 => ?_) (fun c4 => ?_)
      · replace h := if_some h c4
        refine J_iload_n (q := 2) dX11_years_21 rfl rfl ?_
        refine J_istore (lv' := [(4, .int p2), (0, .ref (ad 0)), (1, .int p1), (2, .int p2), (3, .int p3)]) dX11_years_22 (by decide) rfl ?_
        refine J_iconst dX11_years_24 ic_0 ?_
        refine J_istore (lv' := [(5, .int (0 : Int32)), (4, .int p2), (0, .ref (ad 0)), (1, .int p1), (2, .int p2), (3, .int p3)]) dX11_years_25 (by decide) rfl ?_
        refine J_iconst dX11_years_27 ic_0 ?_
        refine J_istore (lv' := [(6, .int (0 : Int32)), (5, .int (0 : Int32)), (4, .int p2), (0, .ref (ad 0)), (1, .int p1), (2, .int p2), (3, .int p3)]) dX11_years_28 (by decide) rfl ?_
        refine J_iconst dX11_years_30 ic_0 ?_
        refine J_istore (lv' := [(7, .int (0 : Int32)), (6, .int (0 : Int32)), (5, .int (0 : Int32)), (4, .int p2), (0, .ref (ad 0)), (1, .int p1), (2, .int p2), (3, .int p3)]) dX11_years_31 (by decide) rfl ?_
        refine J_sub [4, 5, 7, 3, 2, 1, 0] rfl (C_years_L33_ok hi hL (fun x5_21 x6_22 σ23 h => ?_) FU _ _ _ _ _ h)
        refine J_iload_n (q := 0) dX11_years_86 rfl rfl ?_
        refine J_if_ne (tgt := 95) dX11_years_87 (by decide) (fun c24 => ?_) (fun c24 => ?_)
        · replace h := if_some h c24
          refine J_iload (q := 2) dX11_years_95 rfl ?_
          exact J_iret dX11_years_97 (rt_i h) rfl
        · replace h := it_some h c24
          refine J_iload (q := 1) dX11_years_90 rfl ?_
          refine J_goto (tgt := 97) dX11_years_92 (by decide) ?_
          exact J_iret dX11_years_97 (rt_i h) rfl
      · replace h := it_some h c4
        refine J_iconst dX11_years_19 ic_m1 ?_
        exact J_iret dX11_years_20 (rt_i h) rfl
set_option maxRecDepth 20000 in
set_option maxHeartbeats 4000000 in
theorem kX11_years {l : Launch} {D : va_G} {ad : Nat → Nat} {cy : Nat → ClassId} {rv : (Int32 × CS)} {σ : CS} {p1 : Int32} {p2 : Int32} {p3 : Int32} (hi : wl_inj (ΓC ad cy)) (h : C_years σ p1 p2 p3 = some rv) : Cn l D (ΓC ad cy) yX11_years cX11_years 8 (some .int) 6 [.ref (ad 0), .int p1, .int p2, .int p3] σ (some (.int rv.1), rv.2) :=
  Cn.of hi rfl (Nat.le_of_ble_eq_true rfl) (fun _ _ _ hL => C_years_ok hi hL h)
theorem pdX11_image : (parseMethodDescriptor yX11_image.desc).map (fun d => d.parameters.length) = some 0 := by decide +kernel
set_option maxRecDepth 20000 in
set_option maxHeartbeats 4000000 in
theorem C_image_ok {E : Ec} {ad : Nat → Nat} {cy : Nat → ClassId} {rv : (Int32 × CS)} {σ : CS} (hi : wl_inj (ΓC ad cy)) (hL : Lv E 2) (h : C_image σ = some rv) : Jw E (ΓC ad cy) RX11 cX11_image 1 (some .int) (some (.int rv.1), rv.2) 0 [(0, .ref (ad 0))] [] σ := by
  unfold C_image at h
  refine J_aload_n (q := 0) dX11_image_0 rfl rfl ?_
  refine gC_saved dX11_image_1 ?_
  refine J_aload_n (q := 0) dX11_image_4 rfl rfl ?_
  refine gC_now dX11_image_5 ?_
  obtain ⟨t1, hq4, h⟩ := bd_some h
  refine kx_X11_83 hi okT_2 okT_1 (by decide) dX11_image_8 hq4 hL (by decide) (Nat.le_of_ble_eq_true rfl) ?_
  refine J_tw (fun σ2 eσ2 => ?_)
  replace h := nm_some eσ2 h
  refine J_aload_n (q := 0) dX11_image_11 rfl rfl ?_
  refine J_iconst dX11_image_12 ic_1 ?_
  refine pC_isSaved dX11_image_13 rfl ?_
  refine J_tw (fun σ3 eσ3 => ?_)
  replace h := nm_some eσ3 h
  refine J_aload_n (q := 0) dX11_image_16 rfl rfl ?_
  refine gC_now dX11_image_17 ?_
  refine gT_X11_day dX11_image_20 okT_1 rfl ?_
  exact J_iret dX11_image_23 (rt_i h) rfl
set_option maxRecDepth 20000 in
set_option maxHeartbeats 4000000 in
theorem kX11_image {l : Launch} {D : va_G} {ad : Nat → Nat} {cy : Nat → ClassId} {rv : (Int32 × CS)} {σ : CS} (hi : wl_inj (ΓC ad cy)) (h : C_image σ = some rv) : Cn l D (ΓC ad cy) yX11_image cX11_image 1 (some .int) 2 [.ref (ad 0)] σ (some (.int rv.1), rv.2) :=
  Cn.of hi rfl (Nat.le_of_ble_eq_true rfl) (fun _ _ _ hL => C_image_ok hi hL h)
theorem pdX11_restore : (parseMethodDescriptor yX11_restore.desc).map (fun d => d.parameters.length) = some 0 := by decide +kernel
set_option maxRecDepth 20000 in
set_option maxHeartbeats 4000000 in
theorem C_restore_ok {E : Ec} {ad : Nat → Nat} {cy : Nat → ClassId} {rv : (Int32 × CS)} {σ : CS} (hi : wl_inj (ΓC ad cy)) (hL : Lv E 2) (h : C_restore σ = some rv) : Jw E (ΓC ad cy) RX11 cX11_restore 1 (some .int) (some (.int rv.1), rv.2) 0 [(0, .ref (ad 0))] [] σ := by
  unfold C_restore at h
  refine J_aload_n (q := 0) dX11_restore_0 rfl rfl ?_
  refine gC_isSaved dX11_restore_1 ?_
  refine J_if_ne (tgt := 10) dX11_restore_4 (by decide) (fun c1 => ?_) (fun c1 => ?_)
  · replace h := if_some h c1
    refine J_aload_n (q := 0) dX11_restore_10 rfl rfl ?_
    refine gC_now dX11_restore_11 ?_
    refine J_aload_n (q := 0) dX11_restore_14 rfl rfl ?_
    refine gC_saved dX11_restore_15 ?_
    obtain ⟨t2, hq4, h⟩ := bd_some h
    refine kx_X11_83 hi okT_1 okT_2 (by decide) dX11_restore_18 hq4 hL (by decide) (Nat.le_of_ble_eq_true rfl) ?_
    refine J_tw (fun σ3 eσ3 => ?_)
    replace h := nm_some eσ3 h
    refine J_aload_n (q := 0) dX11_restore_21 rfl rfl ?_
    refine gC_now dX11_restore_22 ?_
    refine gT_X11_day dX11_restore_25 okT_1 rfl ?_
    exact J_iret dX11_restore_28 (rt_i h) rfl
  · replace h := it_some h c1
    refine J_bipush dX11_restore_7 bp_m3 ?_
    exact J_iret dX11_restore_9 (rt_i h) rfl
set_option maxRecDepth 20000 in
set_option maxHeartbeats 4000000 in
theorem kX11_restore {l : Launch} {D : va_G} {ad : Nat → Nat} {cy : Nat → ClassId} {rv : (Int32 × CS)} {σ : CS} (hi : wl_inj (ΓC ad cy)) (h : C_restore σ = some rv) : Cn l D (ΓC ad cy) yX11_restore cX11_restore 1 (some .int) 2 [.ref (ad 0)] σ (some (.int rv.1), rv.2) :=
  Cn.of hi rfl (Nat.le_of_ble_eq_true rfl) (fun _ _ _ hL => C_restore_ok hi hL h)
theorem pdX11_count : (parseMethodDescriptor yX11_count.desc).map (fun d => d.parameters.length) = some 1 := by decide +kernel
theorem kx_X11_267 {E : Ec} {ad : Nat → Nat} {cy : Nat → ClassId} {cc : ByteArray} {nL : Nat} {rt : Option FieldType} {r : Option Value × CS} {pc : Nat} {lv : List (Nat × Value)} {st : List Value} {σ : CS} {n a : Nat} {v : Int32} (hi : wl_inj (ΓC ad cy)) (ha : okT a) (hd : decode cc pc = .ok (.invokevirtual 267, 3)) (hq : T_allKnown (σ a) = some v) (hL : Lv E n) (hn : 1 + 1 ≤ n) (hW : (st.map fun v => v.category).sum ≤ 8) (k : Jw E (ΓC ad cy) RX11 cc nL rt r (pc + 3) lv (.int v :: st) σ) : Jw E (ΓC ad cy) RX11 cc nL rt r pc lv (.ref (ad (8 * a + 2)) :: st) σ := by
  have hM := fun (l : Launch) (D : va_G) => kX10_allKnown (l := l) (D := D) (ad := ad) (cy := cy) (σ := σ) hi ha hq
  simp only [vu_self] at hM
  exact J_callV (Γ := ΓC ad cy) (h := 8 * a + 2) (ci := 9) (av := []) (q := (some (.int v), σ)) (st := st) hd (hM _ _) tw_3_169 tw_3_170 tw_1_10 tw_3_172 tw_3_171 ⟨by decide, by decide, pdX10_allKnown⟩ (hT (j := 0) ha (by decide)) (cC_t0 ha rfl) rfl rfl rfl (by decide) hL hn hW k
set_option maxRecDepth 20000 in
set_option maxHeartbeats 4000000 in
theorem C_count_ok {E : Ec} {ad : Nat → Nat} {cy : Nat → ClassId} {rv : Int32} {σ : CS} {p1 : Int32} (hi : wl_inj (ΓC ad cy)) (hL : Lv E 2) (h : C_count σ p1 = some rv) : Jw E (ΓC ad cy) RX11 cX11_count 2 (some .int) (some (.int rv), σ) 0 [(0, .ref (ad 0)), (1, .int p1)] [] σ := by
  unfold C_count at h
  refine J_iload_n (q := 1) dX11_count_0 rfl rfl ?_
  by_cases c1 : p1 = (0 : Int32)
  · replace h := it_some h c1
    refine J_tin (tgt := 36) dX11_count_1 (by rw [c1]; decide) (by rw [c1]; decide) (by rw [c1]; rfl) (by decide) ?_
    refine J_aload_n (q := 0) dX11_count_36 rfl rfl ?_
    refine gC_now dX11_count_37 ?_
    refine gT_X11_people dX11_count_40 okT_1 rfl ?_
    exact J_iret dX11_count_43 (rt_pi h) rfl
  · replace h := if_some h c1
    by_cases c2 : p1 = (1 : Int32)
    · replace h := it_some h c2
      refine J_tin (tgt := 44) dX11_count_1 (by rw [c2]; decide) (by rw [c2]; decide) (by rw [c2]; rfl) (by decide) ?_
      refine J_aload_n (q := 0) dX11_count_44 rfl rfl ?_
      refine gC_now dX11_count_45 ?_
      refine gT_X11_day dX11_count_48 okT_1 rfl ?_
      exact J_iret dX11_count_51 (rt_pi h) rfl
    · replace h := if_some h c2
      by_cases c3 : p1 = (2 : Int32)
      · replace h := it_some h c3
        refine J_tin (tgt := 52) dX11_count_1 (by rw [c3]; decide) (by rw [c3]; decide) (by rw [c3]; rfl) (by decide) ?_
        refine J_aload_n (q := 0) dX11_count_52 rfl rfl ?_
        refine gC_now dX11_count_53 ?_
        obtain ⟨r4, hq9, h⟩ := bd_some h
        refine kx_X11_178 hi okT_1 dX11_count_56 hq9 hL (by decide) (Nat.le_of_ble_eq_true rfl) ?_
        exact J_iret dX11_count_59 (rt_pi h) rfl
      · replace h := if_some h c3
        by_cases c5 : p1 = (3 : Int32)
        · replace h := it_some h c5
          refine J_tin (tgt := 60) dX11_count_1 (by rw [c5]; decide) (by rw [c5]; decide) (by rw [c5]; rfl) (by decide) ?_
          refine J_aload_n (q := 0) dX11_count_60 rfl rfl ?_
          refine gC_now dX11_count_61 ?_
          obtain ⟨r6, hq10, h⟩ := bd_some h
          refine kx_X11_248 hi okT_1 dX11_count_64 hq10 hL (by decide) (Nat.le_of_ble_eq_true rfl) ?_
          exact J_iret dX11_count_67 (rt_pi h) rfl
        · replace h := if_some h c5
          by_cases c7 : p1 = (4 : Int32)
          · replace h := it_some h c7
            refine J_tin (tgt := 68) dX11_count_1 (by rw [c7]; decide) (by rw [c7]; decide) (by rw [c7]; rfl) (by decide) ?_
            refine J_aload_n (q := 0) dX11_count_68 rfl rfl ?_
            refine gC_now dX11_count_69 ?_
            obtain ⟨r8, hq11, h⟩ := bd_some h
            refine kx_X11_267 hi okT_1 dX11_count_72 hq11 hL (by decide) (Nat.le_of_ble_eq_true rfl) ?_
            exact J_iret dX11_count_75 (rt_pi h) rfl
          · replace h := if_some h c7
            refine J_tout (tgt := 76) dX11_count_1 (sw_out0_4 c1 c2 c3 c5 c7) (by decide) ?_
            refine J_iconst dX11_count_76 ic_m1 ?_
            exact J_iret dX11_count_77 (rt_pi h) rfl
set_option maxRecDepth 20000 in
set_option maxHeartbeats 4000000 in
theorem kX11_count {l : Launch} {D : va_G} {ad : Nat → Nat} {cy : Nat → ClassId} {rv : Int32} {σ : CS} {p1 : Int32} (hi : wl_inj (ΓC ad cy)) (h : C_count σ p1 = some rv) : Cn l D (ΓC ad cy) yX11_count cX11_count 2 (some .int) 2 [.ref (ad 0), .int p1] σ (some (.int rv), σ) :=
  Cn.of hi rfl (Nat.le_of_ble_eq_true rfl) (fun _ _ _ hL => C_count_ok hi hL h)
theorem pdX11_keep : (parseMethodDescriptor yX11_keep.desc).map (fun d => d.parameters.length) = some 4 := by decide +kernel
theorem kx_X11_273 {E : Ec} {ad : Nat → Nat} {cy : Nat → ClassId} {cc : ByteArray} {nL : Nat} {rt : Option FieldType} {r : Option Value × CS} {pc : Nat} {lv : List (Nat × Value)} {st : List Value} {σ : CS} {n b : Nat} {p1 : Int32} {p2 : Int32} {s' : Ob} (hi : wl_inj (ΓC ad cy)) (hb : okS b) (hd : decode cc pc = .ok (.invokevirtual 273, 3)) (hq : S_holdOne (σ b) p1 p2 = some s') (hL : Lv E n) (hn : 0 + 1 ≤ n) (hW : (st.map fun v => v.category).sum ≤ 8) (k : Jw E (ΓC ad cy) RX11 cc nL rt r (pc + 3) lv (st) (va_up σ b s')) : Jw E (ΓC ad cy) RX11 cc nL rt r pc lv (.int p2 :: .int p1 :: .ref (ad (2 * b + 70)) :: st) σ := by
  have hM := fun (l : Launch) (D : va_G) => kX7_holdOne (l := l) (D := D) (ad := ad) (cy := cy) (σ := σ) hi hb hq
  simp only [vu_self] at hM
  exact J_callV (Γ := ΓC ad cy) (h := 2 * b + 70) (ci := 7) (av := [.int p1, .int p2]) (q := (none, va_up σ b s')) (st := st) hd (hM _ _) tw_3_178 tw_3_179 tw_1_12 tw_3_181 tw_3_180 ⟨by decide, by decide, pdX7_holdOne⟩ (hS (j := 0) hb (by decide)) (cC_s0 hb rfl) rfl rfl rfl (by decide) hL hn hW k
set_option maxRecDepth 20000 in
set_option maxHeartbeats 4000000 in
theorem C_keep_ok {E : Ec} {ad : Nat → Nat} {cy : Nat → ClassId} {rv : (Int32 × CS)} {σ : CS} {p1 : Int32} {p2 : Int32} {p3 : Int32} {p4 : Int32} (hi : wl_inj (ΓC ad cy)) (hL : Lv E 1) (h : C_keep σ p1 p2 p3 p4 = some rv) : Jw E (ΓC ad cy) RX11 cX11_keep 5 (some .int) (some (.int rv.1), rv.2) 0 [(0, .ref (ad 0)), (1, .int p1), (2, .int p2), (3, .int p3), (4, .int p4)] [] σ := by
  unfold C_keep at h
  refine J_iload_n (q := 1) dX11_keep_0 rfl rfl ?_
  obtain ⟨r1, hq15, h⟩ := bd_some h
  refine kx_X11_146 hi dX11_keep_1 hq15 hL (by decide) (Nat.le_of_ble_eq_true rfl) ?_
  refine J_if_eq (tgt := 15) dX11_keep_4 (by decide) (fun c2 => ?_) (fun c2 => ?_)
  · replace h := it_some h c2
    refine J_iconst dX11_keep_15 ic_m1 ?_
    exact J_iret dX11_keep_16 (rt_i h) rfl
  · replace h := if_some h c2
    refine J_iload_n (q := 2) dX11_keep_7 rfl rfl ?_
    refine J_iconst dX11_keep_8 ic_1 ?_
    obtain ⟨r3, hq16, h⟩ := bd_some h
    refine kx_X11_102 hi dX11_keep_9 hq16 hL (by decide) (Nat.le_of_ble_eq_true rfl) ?_
    refine J_if_ne (tgt := 17) dX11_keep_12 (by decide) (fun c4 => ?_) (fun c4 => ?_)
    · replace h := if_some h c4
      refine J_iload_n (q := 2) dX11_keep_17 rfl rfl ?_
      refine J_if_ne (tgt := 33) dX11_keep_18 (by decide) (fun c5 => ?_) (fun c5 => ?_)
      · replace h := if_some h c5
        refine J_iload_n (q := 3) dX11_keep_33 rfl rfl ?_
        refine J_bipush dX11_keep_34 bp_7 ?_
        obtain ⟨r6, hq17, h⟩ := bd_some h
        refine kx_X11_102 hi dX11_keep_36 hq17 hL (by decide) (Nat.le_of_ble_eq_true rfl) ?_
        refine J_if_eq (tgt := 52) dX11_keep_39 (by decide) (fun c7 => ?_) (fun c7 => ?_)
        · replace h := it_some h c7
          refine J_iconst dX11_keep_52 ic_m1 ?_
          exact J_iret dX11_keep_53 (rt_i h) rfl
        · replace h := if_some h c7
          refine J_iload (q := 4) dX11_keep_42 rfl ?_
          refine J_bipush dX11_keep_44 bp_9 ?_
          obtain ⟨r8, hq18, h⟩ := bd_some h
          refine kx_X11_102 hi dX11_keep_46 hq18 hL (by decide) (Nat.le_of_ble_eq_true rfl) ?_
          refine J_if_ne (tgt := 54) dX11_keep_49 (by decide) (fun c9 => ?_) (fun c9 => ?_)
          · replace h := if_some h c9
            refine J_aload_n (q := 0) dX11_keep_54 rfl rfl ?_
            refine gC_shelves dX11_keep_55 ?_
            refine J_iload_n (q := 1) dX11_keep_58 rfl rfl ?_
            obtain ⟨hg10, h⟩ := gd_some h
            refine aM_shelf dX11_keep_59 hg10 ?_
            refine J_iload_n (q := 3) dX11_keep_60 rfl rfl ?_
            refine J_iload (q := 4) dX11_keep_61 rfl ?_
            obtain ⟨s11, hq19, h⟩ := bd_some h
            refine kx_X11_273 hi (okS_m hg10) dX11_keep_63 hq19 hL (by decide) (Nat.le_of_ble_eq_true rfl) ?_
            refine J_tw (fun σ12 eσ12 => ?_)
            replace h := nm_some eσ12 h
            refine J_iconst dX11_keep_66 ic_0 ?_
            exact J_iret dX11_keep_67 (rt_i h) rfl
          · replace h := it_some h c9
            refine J_iconst dX11_keep_52 ic_m1 ?_
            exact J_iret dX11_keep_53 (rt_i h) rfl
      · replace h := it_some h c5
        refine J_aload_n (q := 0) dX11_keep_21 rfl rfl ?_
        refine gC_shelves dX11_keep_22 ?_
        refine J_iload_n (q := 1) dX11_keep_25 rfl rfl ?_
        obtain ⟨hg13, h⟩ := gd_some h
        refine aM_shelf dX11_keep_26 hg13 ?_
        refine J_iconst dX11_keep_27 ic_0 ?_
        refine pS_X11_holds (w' := va_up σ (11 + p1.toNatClampNeg) (pS (σ (11 + p1.toNatClampNeg)) 0 (0 : Int32))) dX11_keep_28 (okS_m hg13) rfl vu_at (fun _ h9 => vu_ne h9) ?_
        refine J_tw (fun σ14 eσ14 => ?_)
        replace h := nm_some eσ14 h
        refine J_iconst dX11_keep_31 ic_0 ?_
        exact J_iret dX11_keep_32 (rt_i h) rfl
    · replace h := it_some h c4
      refine J_iconst dX11_keep_15 ic_m1 ?_
      exact J_iret dX11_keep_16 (rt_i h) rfl
set_option maxRecDepth 20000 in
set_option maxHeartbeats 4000000 in
theorem kX11_keep {l : Launch} {D : va_G} {ad : Nat → Nat} {cy : Nat → ClassId} {rv : (Int32 × CS)} {σ : CS} {p1 : Int32} {p2 : Int32} {p3 : Int32} {p4 : Int32} (hi : wl_inj (ΓC ad cy)) (h : C_keep σ p1 p2 p3 p4 = some rv) : Cn l D (ΓC ad cy) yX11_keep cX11_keep 5 (some .int) 1 [.ref (ad 0), .int p1, .int p2, .int p3, .int p4] σ (some (.int rv.1), rv.2) :=
  Cn.of hi rfl (Nat.le_of_ble_eq_true rfl) (fun _ _ _ hL => C_keep_ok hi hL h)
theorem pdX11_row : (parseMethodDescriptor yX11_row.desc).map (fun d => d.parameters.length) = some 3 := by decide +kernel
theorem kx_X11_277 {E : Ec} {ad : Nat → Nat} {cy : Nat → ClassId} {cc : ByteArray} {nL : Nat} {rt : Option FieldType} {r : Option Value × CS} {pc : Nat} {lv : List (Nat × Value)} {st : List Value} {σ : CS} {n b : Nat} {p1 : Int32} {p2 : Int32} {s' : Ob} (hi : wl_inj (ΓC ad cy)) (hb : okS b) (hd : decode cc pc = .ok (.invokevirtual 277, 3)) (hq : S_holdRow (σ b) p1 p2 = some s') (hL : Lv E n) (hn : 1 + 1 ≤ n) (hW : (st.map fun v => v.category).sum ≤ 8) (k : Jw E (ΓC ad cy) RX11 cc nL rt r (pc + 3) lv (st) (va_up σ b s')) : Jw E (ΓC ad cy) RX11 cc nL rt r pc lv (.int p2 :: .int p1 :: .ref (ad (2 * b + 70)) :: st) σ := by
  have hM := fun (l : Launch) (D : va_G) => kX7_holdRow (l := l) (D := D) (ad := ad) (cy := cy) (σ := σ) hi hb hq
  simp only [vu_self] at hM
  exact J_callV (Γ := ΓC ad cy) (h := 2 * b + 70) (ci := 7) (av := [.int p1, .int p2]) (q := (none, va_up σ b s')) (st := st) hd (hM _ _) tw_3_186 tw_3_187 tw_1_12 tw_3_189 tw_3_188 ⟨by decide, by decide, pdX7_holdRow⟩ (hS (j := 0) hb (by decide)) (cC_s0 hb rfl) rfl rfl rfl (by decide) hL hn hW k
set_option maxRecDepth 20000 in
set_option maxHeartbeats 4000000 in
theorem C_row_ok {E : Ec} {ad : Nat → Nat} {cy : Nat → ClassId} {rv : (Int32 × CS)} {σ : CS} {p1 : Int32} {p2 : Int32} {p3 : Int32} (hi : wl_inj (ΓC ad cy)) (hL : Lv E 2) (h : C_row σ p1 p2 p3 = some rv) : Jw E (ΓC ad cy) RX11 cX11_row 4 (some .int) (some (.int rv.1), rv.2) 0 [(0, .ref (ad 0)), (1, .int p1), (2, .int p2), (3, .int p3)] [] σ := by
  unfold C_row at h
  refine J_iload_n (q := 1) dX11_row_0 rfl rfl ?_
  obtain ⟨r1, hq10, h⟩ := bd_some h
  refine kx_X11_146 hi dX11_row_1 hq10 hL (by decide) (Nat.le_of_ble_eq_true rfl) ?_
  refine J_if_eq (tgt := 21) dX11_row_4 (by decide) (fun c2 => ?_) (fun c2 => ?_)
  · replace h := it_some h c2
    refine J_iconst dX11_row_21 ic_m1 ?_
    exact J_iret dX11_row_22 (rt_i h) rfl
  · replace h := if_some h c2
    refine J_iload_n (q := 2) dX11_row_7 rfl rfl ?_
    refine J_iconst dX11_row_8 ic_2 ?_
    obtain ⟨r3, hq11, h⟩ := bd_some h
    refine kx_X11_102 hi dX11_row_9 hq11 hL (by decide) (Nat.le_of_ble_eq_true rfl) ?_
    refine J_if_eq (tgt := 21) dX11_row_12 (by decide) (fun c4 => ?_) (fun c4 => ?_)
    · replace h := it_some h c4
      refine J_iconst dX11_row_21 ic_m1 ?_
      exact J_iret dX11_row_22 (rt_i h) rfl
    · replace h := if_some h c4
      refine J_iload_n (q := 3) dX11_row_15 rfl rfl ?_
      refine J_bipush dX11_row_16 bp_100 ?_
      refine J_icmp_le (tgt := 23) dX11_row_18 (by decide) (fun c5 => ?_) (fun c5 => ?_)
      · replace h := it_some h c5
        refine J_iload_n (q := 3) dX11_row_23 rfl rfl ?_
        refine J_if_ge (tgt := 30) dX11_row_24 (by decide) (fun c6 => ?_) (fun c6 => ?_)
        · replace h := it_some h c6
          refine J_aload_n (q := 0) dX11_row_30 rfl rfl ?_
          refine gC_shelves dX11_row_31 ?_
          refine J_iload_n (q := 1) dX11_row_34 rfl rfl ?_
          obtain ⟨hg7, h⟩ := gd_some h
          refine aM_shelf dX11_row_35 hg7 ?_
          refine J_iload_n (q := 2) dX11_row_36 rfl rfl ?_
          refine J_iload_n (q := 3) dX11_row_37 rfl rfl ?_
          obtain ⟨s8, hq12, h⟩ := bd_some h
          refine kx_X11_277 hi (okS_m hg7) dX11_row_38 hq12 hL (by decide) (Nat.le_of_ble_eq_true rfl) ?_
          refine J_tw (fun σ9 eσ9 => ?_)
          replace h := nm_some eσ9 h
          refine J_iconst dX11_row_41 ic_0 ?_
          exact J_iret dX11_row_42 (rt_i h) rfl
        · replace h := if_some h c6
          refine J_bipush dX11_row_27 bp_m14 ?_
          exact J_iret dX11_row_29 (rt_i h) rfl
      · replace h := if_some h c5
        refine J_iconst dX11_row_21 ic_m1 ?_
        exact J_iret dX11_row_22 (rt_i h) rfl
set_option maxRecDepth 20000 in
set_option maxHeartbeats 4000000 in
theorem kX11_row {l : Launch} {D : va_G} {ad : Nat → Nat} {cy : Nat → ClassId} {rv : (Int32 × CS)} {σ : CS} {p1 : Int32} {p2 : Int32} {p3 : Int32} (hi : wl_inj (ΓC ad cy)) (h : C_row σ p1 p2 p3 = some rv) : Cn l D (ΓC ad cy) yX11_row cX11_row 4 (some .int) 2 [.ref (ad 0), .int p1, .int p2, .int p3] σ (some (.int rv.1), rv.2) :=
  Cn.of hi rfl (Nat.le_of_ble_eq_true rfl) (fun _ _ _ hL => C_row_ok hi hL h)
theorem pdX11_put : (parseMethodDescriptor yX11_put.desc).map (fun d => d.parameters.length) = some 3 := by decide +kernel
theorem kx_X11_280 {E : Ec} {ad : Nat → Nat} {cy : Nat → ClassId} {cc : ByteArray} {nL : Nat} {rt : Option FieldType} {r : Option Value × CS} {pc : Nat} {lv : List (Nat × Value)} {st : List Value} {σ : CS} {n b : Nat} {p1 : Int32} {p2 : Int32} {v : Int32} (hi : wl_inj (ΓC ad cy)) (hb : okS b) (hd : decode cc pc = .ok (.invokevirtual 280, 3)) (hq : S_hasPlaces (σ b) p1 p2 = some v) (hL : Lv E n) (hn : 0 + 1 ≤ n) (hW : (st.map fun v => v.category).sum ≤ 8) (k : Jw E (ΓC ad cy) RX11 cc nL rt r (pc + 3) lv (.int v :: st) σ) : Jw E (ΓC ad cy) RX11 cc nL rt r pc lv (.int p2 :: .int p1 :: .ref (ad (2 * b + 70)) :: st) σ := by
  have hM := fun (l : Launch) (D : va_G) => kX7_hasPlaces (l := l) (D := D) (ad := ad) (cy := cy) (σ := σ) hi hb hq
  simp only [vu_self] at hM
  exact J_callV (Γ := ΓC ad cy) (h := 2 * b + 70) (ci := 7) (av := [.int p1, .int p2]) (q := (some (.int v), σ)) (st := st) hd (hM _ _) tw_3_195 tw_3_196 tw_1_12 tw_3_198 tw_3_197 ⟨by decide, by decide, pdX7_hasPlaces⟩ (hS (j := 0) hb (by decide)) (cC_s0 hb rfl) rfl rfl rfl (by decide) hL hn hW k
theorem kx_X11_283 {E : Ec} {ad : Nat → Nat} {cy : Nat → ClassId} {cc : ByteArray} {nL : Nat} {rt : Option FieldType} {r : Option Value × CS} {pc : Nat} {lv : List (Nat × Value)} {st : List Value} {σ : CS} {n b : Nat} {p1 : Int32} {v : Int32} (hi : wl_inj (ΓC ad cy)) (hb : okS b) (hd : decode cc pc = .ok (.invokevirtual 283, 3)) (hq : S_cut (σ b) p1 = some v) (hL : Lv E n) (hn : 0 + 1 ≤ n) (hW : (st.map fun v => v.category).sum ≤ 8) (k : Jw E (ΓC ad cy) RX11 cc nL rt r (pc + 3) lv (.int v :: st) σ) : Jw E (ΓC ad cy) RX11 cc nL rt r pc lv (.int p1 :: .ref (ad (2 * b + 70)) :: st) σ := by
  have hM := fun (l : Launch) (D : va_G) => kX7_cut (l := l) (D := D) (ad := ad) (cy := cy) (σ := σ) hi hb hq
  simp only [vu_self] at hM
  exact J_callV (Γ := ΓC ad cy) (h := 2 * b + 70) (ci := 7) (av := [.int p1]) (q := (some (.int v), σ)) (st := st) hd (hM _ _) tw_3_199 tw_3_200 tw_1_12 tw_3_202 tw_3_201 ⟨by decide, by decide, pdX7_cut⟩ (hS (j := 0) hb (by decide)) (cC_s0 hb rfl) rfl rfl rfl (by decide) hL hn hW k
set_option maxRecDepth 20000 in
set_option maxHeartbeats 4000000 in
theorem C_put_ok {E : Ec} {ad : Nat → Nat} {cy : Nat → ClassId} {rv : (Int32 × CS)} {σ : CS} {p1 : Int32} {p2 : Int32} {p3 : Int32} (hi : wl_inj (ΓC ad cy)) (hL : Lv E 3) (h : C_put σ p1 p2 p3 = some rv) : Jw E (ΓC ad cy) RX11 cX11_put 6 (some .int) (some (.int rv.1), rv.2) 0 [(0, .ref (ad 0)), (1, .int p1), (2, .int p2), (3, .int p3)] [] σ := by
  unfold C_put at h
  refine J_aload_n (q := 0) dX11_put_0 rfl rfl ?_
  refine J_iload_n (q := 1) dX11_put_1 rfl rfl ?_
  obtain ⟨r1, hq9, h⟩ := bd_some h
  refine kx_X11_69 hi dX11_put_2 hq9 hL (by decide) (Nat.le_of_ble_eq_true rfl) ?_
  refine J_istore (lv' := [(4, .int r1), (0, .ref (ad 0)), (1, .int p1), (2, .int p2), (3, .int p3)]) dX11_put_5 (by decide) rfl ?_
  refine J_iload (q := 0) dX11_put_7 rfl ?_
  refine J_if_eq (tgt := 15) dX11_put_9 (by decide) (fun c2 => ?_) (fun c2 => ?_)
  · replace h := it_some h c2
    refine J_aload_n (q := 1) dX11_put_15 rfl rfl ?_
    refine gC_shelves dX11_put_16 ?_
    refine J_iload_n (q := 2) dX11_put_19 rfl rfl ?_
    obtain ⟨hg3, h⟩ := gd_some h
    refine aM_shelf dX11_put_20 hg3 ?_
    refine J_astore (lv' := [(5, .ref (ad (2 * (11 + p1.toNatClampNeg) + 70))), (4, .int r1), (0, .ref (ad 0)), (1, .int p1), (2, .int p2), (3, .int p3)]) dX11_put_21 (by decide) rfl ?_
    refine J_aload (q := 0) dX11_put_23 rfl ?_
    refine J_iload_n (q := 4) dX11_put_25 rfl rfl ?_
    refine J_iconst dX11_put_26 ic_1 ?_
    obtain ⟨r4, hq10, h⟩ := bd_some h
    refine kx_X11_280 hi (okS_m hg3) dX11_put_27 hq10 hL (by decide) (Nat.le_of_ble_eq_true rfl) ?_
    refine J_if_ne (tgt := 36) dX11_put_30 (by decide) (fun c5 => ?_) (fun c5 => ?_)
    · replace h := if_some h c5
      refine J_aload (q := 0) dX11_put_36 rfl ?_
      refine gS_X11_cells dX11_put_38 (okS_m hg3) rfl ?_
      refine J_iload_n (q := 4) dX11_put_41 rfl rfl ?_
      refine J_aload (q := 0) dX11_put_42 rfl ?_
      refine J_iload_n (q := 5) dX11_put_44 rfl rfl ?_
      obtain ⟨r6, hq11, h⟩ := bd_some h
      refine kx_X11_283 hi (okS_m hg3) dX11_put_45 hq11 hL (by decide) (Nat.le_of_ble_eq_true rfl) ?_
      obtain ⟨hg7, h⟩ := gd_some h
      refine aS_st (w' := (va_up σ (11 + p1.toNatClampNeg) (pA (σ (11 + p1.toNatClampNeg)) 1 p2 r6))) dX11_put_48 (okS_m hg3) rfl vu_at (fun _ h9 => vu_ne h9) hg7 ?_
      refine J_tw (fun σ8 eσ8 => ?_)
      replace h := nm_some eσ8 h
      refine J_iconst dX11_put_49 ic_0 ?_
      exact J_iret dX11_put_50 (rt_i h) rfl
    · replace h := it_some h c5
      refine J_bipush dX11_put_33 bp_m13 ?_
      exact J_iret dX11_put_35 (rt_i h) rfl
  · replace h := if_some h c2
    refine J_iload (q := 0) dX11_put_12 rfl ?_
    exact J_iret dX11_put_14 (rt_i h) rfl
set_option maxRecDepth 20000 in
set_option maxHeartbeats 4000000 in
theorem kX11_put {l : Launch} {D : va_G} {ad : Nat → Nat} {cy : Nat → ClassId} {rv : (Int32 × CS)} {σ : CS} {p1 : Int32} {p2 : Int32} {p3 : Int32} (hi : wl_inj (ΓC ad cy)) (h : C_put σ p1 p2 p3 = some rv) : Cn l D (ΓC ad cy) yX11_put cX11_put 6 (some .int) 3 [.ref (ad 0), .int p1, .int p2, .int p3] σ (some (.int rv.1), rv.2) :=
  Cn.of hi rfl (Nat.le_of_ble_eq_true rfl) (fun _ _ _ hL => C_put_ok hi hL h)
theorem pdX11_copy : (parseMethodDescriptor yX11_copy.desc).map (fun d => d.parameters.length) = some 5 := by decide +kernel
set_option maxRecDepth 20000 in
set_option maxHeartbeats 4000000 in
theorem C_copy_ok {E : Ec} {ad : Nat → Nat} {cy : Nat → ClassId} {rv : (Int32 × CS)} {σ : CS} {p1 : Int32} {p2 : Int32} {p3 : Int32} {p4 : Int32} {p5 : Int32} (hi : wl_inj (ΓC ad cy)) (hL : Lv E 1) (h : C_copy σ p1 p2 p3 p4 p5 = some rv) : Jw E (ΓC ad cy) RX11 cX11_copy 8 (some .int) (some (.int rv.1), rv.2) 0 [(0, .ref (ad 0)), (1, .int p1), (2, .int p2), (3, .int p3), (4, .int p4), (5, .int p5)] [] σ := by
  unfold C_copy at h
  refine J_iload_n (q := 1) dX11_copy_0 rfl rfl ?_
  obtain ⟨r1, hq18, h⟩ := bd_some h
  refine kx_X11_146 hi dX11_copy_1 hq18 hL (by decide) (Nat.le_of_ble_eq_true rfl) ?_
  refine J_if_eq (tgt := 14) dX11_copy_4 (by decide) (fun c2 => ?_) (fun c2 => ?_)
  · replace h := it_some h c2
    refine J_iconst dX11_copy_14 ic_m1 ?_
    exact J_iret dX11_copy_15 (rt_i h) rfl
  · replace h := if_some h c2
    refine J_iload_n (q := 3) dX11_copy_7 rfl rfl ?_
    obtain ⟨r3, hq19, h⟩ := bd_some h
    refine kx_X11_146 hi dX11_copy_8 hq19 hL (by decide) (Nat.le_of_ble_eq_true rfl) ?_
    refine J_if_ne (tgt := 16) dX11_copy_11 (by decide) (fun c4 => ?_) (fun c4 => ?_)
    · replace h := if_some h c4
      refine J_aload_n (q := 0) dX11_copy_16 rfl rfl ?_
      refine gC_shelves dX11_copy_17 ?_
      refine J_iload_n (q := 1) dX11_copy_20 rfl rfl ?_
      obtain ⟨hg5, h⟩ := gd_some h
      refine aM_shelf dX11_copy_21 hg5 ?_
      refine J_astore (lv' := [(6, .ref (ad (2 * (11 + p1.toNatClampNeg) + 70))), (0, .ref (ad 0)), (1, .int p1), (2, .int p2), (3, .int p3), (4, .int p4), (5, .int p5)]) dX11_copy_22 (by decide) rfl ?_
      refine J_aload_n (q := 1) dX11_copy_24 rfl rfl ?_
      refine gC_shelves dX11_copy_25 ?_
      refine J_iload_n (q := 4) dX11_copy_28 rfl rfl ?_
      obtain ⟨hg6, h⟩ := gd_some h
      refine aM_shelf dX11_copy_29 hg6 ?_
      refine J_astore (lv' := [(7, .ref (ad (2 * (11 + p3.toNatClampNeg) + 70))), (6, .ref (ad (2 * (11 + p1.toNatClampNeg) + 70))), (0, .ref (ad 0)), (1, .int p1), (2, .int p2), (3, .int p3), (4, .int p4), (5, .int p5)]) dX11_copy_30 (by decide) rfl ?_
      refine J_aload (q := 1) dX11_copy_32 rfl ?_
      refine gS_X11_holds dX11_copy_34 (okS_m hg5) rfl ?_
      refine J_if_eq (tgt := 48) dX11_copy_37 (by decide) (fun c7 => ?_) (fun c7 => ?_)
      · replace h := it_some h c7
        refine J_bipush dX11_copy_48 bp_m11 ?_
        exact J_iret dX11_copy_50 (rt_i h) rfl
      · replace h := if_some h c7
        refine J_aload (q := 0) dX11_copy_40 rfl ?_
        refine gS_X11_holds dX11_copy_42 (okS_m hg6) rfl ?_
        refine J_if_ne (tgt := 51) dX11_copy_45 (by decide) (fun c8 => ?_) (fun c8 => ?_)
        · replace h := if_some h c8
          refine J_aload (q := 1) dX11_copy_51 rfl ?_
          refine gS_X11_holds dX11_copy_53 (okS_m hg5) rfl ?_
          refine J_iconst dX11_copy_56 ic_2 ?_
          refine J_icmp_ne (tgt := 82) dX11_copy_57 (by decide) (fun c9 => ?_) (fun c9 => ?_)
          · replace h := if_some h c9
            refine J_bipush dX11_copy_82 bp_m12 ?_
            exact J_iret dX11_copy_84 (rt_i h) rfl
          · replace h := it_some h c9
            refine J_aload (q := 0) dX11_copy_60 rfl ?_
            refine gS_X11_holds dX11_copy_62 (okS_m hg6) rfl ?_
            refine J_iconst dX11_copy_65 ic_2 ?_
            refine J_icmp_ne (tgt := 82) dX11_copy_66 (by decide) (fun c10 => ?_) (fun c10 => ?_)
            · replace h := if_some h c10
              refine J_bipush dX11_copy_82 bp_m12 ?_
              exact J_iret dX11_copy_84 (rt_i h) rfl
            · replace h := it_some h c10
              refine J_aload (q := 1) dX11_copy_69 rfl ?_
              refine gS_X11_sort dX11_copy_71 (okS_m hg5) rfl ?_
              refine J_aload (q := 0) dX11_copy_74 rfl ?_
              refine gS_X11_sort dX11_copy_76 (okS_m hg6) rfl ?_
              refine J_icmp_eq (tgt := 85) dX11_copy_79 (by decide) (fun c11 => ?_) (fun c11 => ?_)
              · replace h := it_some h c11
                refine J_aload (q := 1) dX11_copy_85 rfl ?_
                refine J_iload_n (q := 4) dX11_copy_87 rfl rfl ?_
                refine J_iload (q := 7) dX11_copy_88 rfl ?_
                obtain ⟨r12, hq20, h⟩ := bd_some h
                refine kx_X11_280 hi (okS_m hg5) dX11_copy_90 hq20 hL (by decide) (Nat.le_of_ble_eq_true rfl) ?_
                refine J_if_eq (tgt := 108) dX11_copy_93 (by decide) (fun c13 => ?_) (fun c13 => ?_)
                · replace h := it_some h c13
                  refine J_bipush dX11_copy_108 bp_m13 ?_
                  exact J_iret dX11_copy_110 (rt_i h) rfl
                · replace h := if_some h c13
                  refine J_aload (q := 0) dX11_copy_96 rfl ?_
                  refine J_iload (q := 6) dX11_copy_98 rfl ?_
                  refine J_iload (q := 7) dX11_copy_100 rfl ?_
                  obtain ⟨r14, hq21, h⟩ := bd_some h
                  refine kx_X11_280 hi (okS_m hg6) dX11_copy_102 hq21 hL (by decide) (Nat.le_of_ble_eq_true rfl) ?_
                  refine J_if_ne (tgt := 111) dX11_copy_105 (by decide) (fun c15 => ?_) (fun c15 => ?_)
                  · replace h := if_some h c15
                    refine J_aload (q := 1) dX11_copy_111 rfl ?_
                    refine gS_X11_cells dX11_copy_113 (okS_m hg5) rfl ?_
                    refine J_iload_n (q := 4) dX11_copy_116 rfl rfl ?_
                    refine J_aload (q := 0) dX11_copy_117 rfl ?_
                    refine gS_X11_cells dX11_copy_119 (okS_m hg6) rfl ?_
                    refine J_iload (q := 6) dX11_copy_122 rfl ?_
                    refine J_iload (q := 7) dX11_copy_124 rfl ?_
                    obtain ⟨hg16, h⟩ := gd_some h
                    refine kcp_C dX11_copy_126 (okS_m hg5) (okS_m hg6) hg16 hL (by decide) (Nat.le_of_ble_eq_true rfl) ?_
                    refine J_tw (fun σ17 eσ17 => ?_)
                    replace h := nm_some eσ17 h
                    refine J_iload (q := 7) dX11_copy_129 rfl ?_
                    exact J_iret dX11_copy_131 (rt_i h) rfl
                  · replace h := it_some h c15
                    refine J_bipush dX11_copy_108 bp_m13 ?_
                    exact J_iret dX11_copy_110 (rt_i h) rfl
              · replace h := if_some h c11
                refine J_bipush dX11_copy_82 bp_m12 ?_
                exact J_iret dX11_copy_84 (rt_i h) rfl
        · replace h := it_some h c8
          refine J_bipush dX11_copy_48 bp_m11 ?_
          exact J_iret dX11_copy_50 (rt_i h) rfl
    · replace h := it_some h c4
      refine J_iconst dX11_copy_14 ic_m1 ?_
      exact J_iret dX11_copy_15 (rt_i h) rfl
set_option maxRecDepth 20000 in
set_option maxHeartbeats 4000000 in
theorem kX11_copy {l : Launch} {D : va_G} {ad : Nat → Nat} {cy : Nat → ClassId} {rv : (Int32 × CS)} {σ : CS} {p1 : Int32} {p2 : Int32} {p3 : Int32} {p4 : Int32} {p5 : Int32} (hi : wl_inj (ΓC ad cy)) (h : C_copy σ p1 p2 p3 p4 p5 = some rv) : Cn l D (ΓC ad cy) yX11_copy cX11_copy 8 (some .int) 1 [.ref (ad 0), .int p1, .int p2, .int p3, .int p4, .int p5] σ (some (.int rv.1), rv.2) :=
  Cn.of hi rfl (Nat.le_of_ble_eq_true rfl) (fun _ _ _ hL => C_copy_ok hi hL h)
theorem pdX11_cost : (parseMethodDescriptor yX11_cost.desc).map (fun d => d.parameters.length) = some 1 := by decide +kernel
theorem kx_X11_310 {E : Ec} {ad : Nat → Nat} {cy : Nat → ClassId} {cc : ByteArray} {nL : Nat} {rt : Option FieldType} {r : Option Value × CS} {pc : Nat} {lv : List (Nat × Value)} {st : List Value} {w : CS} {n : Nat} {kd : Int32} {p1 : Int32} {v : Int32} (hi : wl_inj (ΓC ad cy)) (hk : inb kd 8 = true) (hd : decode cc pc = .ok (.invokevirtual 310, 3)) (hq : KD_price kd p1 = some v) (hL : Lv E n) (hn : 2 + 1 ≤ n) (hW : (st.map fun v => v.category).sum ≤ 8) (k : Jw E (ΓC ad cy) RX11 cc nL rt r (pc + 3) lv (.int v :: st) w) : Jw E (ΓC ad cy) RX11 cc nL rt r pc lv (.int p1 :: .ref (ad (2 + kd.toNatClampNeg)) :: st) w := by
  rcases k8 hk with rfl | rfl | rfl | rfl | rfl | rfl | rfl | rfl
  · exact J_callU (Γ := ΓC ad cy) (h := 2 + 0) (ci := 3) (C := RX3) (x := yX3_price) (av := [.int p1]) (q := (some (.int v), w)) (st := st) hd (kX3_price (kx := 0) hi (by decide) hq) tw_3_212 tw_3_215 tw_3_213 tw_3_238 tw_3_213 tw_1_2 tw_3_238 tw_3_214 ⟨by decide, by decide, pdX3_price⟩ (by show 2 + 0 < 111; decide) rfl rfl rfl rfl (by decide) hL (Nat.le_trans (by decide) hn) hW k
  · exact J_callU (Γ := ΓC ad cy) (h := 2 + 1) (ci := 4) (C := RX4) (x := yX3_price) (av := [.int p1]) (q := (some (.int v), w)) (st := st) hd (kX4_price (kx := 1) hi (by decide) hq) tw_3_212 tw_3_215 tw_3_213 tw_3_238 tw_3_223 tw_1_3 tw_3_224 tw_3_229 ⟨by decide, by decide, pdX3_price⟩ (by show 2 + 1 < 111; decide) rfl rfl rfl rfl (by decide) hL (Nat.le_trans (by decide) hn) hW k
  · exact J_callU (Γ := ΓC ad cy) (h := 2 + 2) (ci := 2) (C := RX2) (x := yX3_price) (av := [.int p1]) (q := (some (.int v), w)) (st := st) hd (kX2_price (kx := 2) hi (by decide) hq) tw_3_212 tw_3_215 tw_3_213 tw_3_238 tw_3_226 tw_1_4 tw_3_227 tw_3_225 ⟨by decide, by decide, pdX3_price⟩ (by show 2 + 2 < 111; decide) rfl rfl rfl rfl (by decide) hL (Nat.le_trans (by decide) hn) hW k
  · exact J_callU (Γ := ΓC ad cy) (h := 2 + 3) (ci := 6) (C := RX6) (x := yX3_price) (av := [.int p1]) (q := (some (.int v), w)) (st := st) hd (kX6_price (kx := 3) hi (by decide) hq) tw_3_212 tw_3_215 tw_3_213 tw_3_238 tw_3_235 tw_1_5 tw_3_236 tw_3_234 ⟨by decide, by decide, pdX3_price⟩ (by show 2 + 3 < 111; decide) rfl rfl rfl rfl (by decide) hL (Nat.le_trans (by decide) hn) hW k
  · exact J_callU (Γ := ΓC ad cy) (h := 2 + 4) (ci := 1) (C := RX1) (x := yX3_price) (av := [.int p1]) (q := (some (.int v), w)) (st := st) hd (kX1_price (kx := 4) hi (by decide) hq) tw_3_212 tw_3_215 tw_3_213 tw_3_238 tw_3_220 tw_1_6 tw_3_221 tw_3_219 ⟨by decide, by decide, pdX3_price⟩ (by show 2 + 4 < 111; decide) rfl rfl rfl rfl (by decide) hL (Nat.le_trans (by decide) hn) hW k
  · exact J_callU (Γ := ΓC ad cy) (h := 2 + 5) (ci := 5) (C := RX5) (x := yX3_price) (av := [.int p1]) (q := (some (.int v), w)) (st := st) hd (kX5_price (kx := 5) hi (by decide) hq) tw_3_212 tw_3_215 tw_3_213 tw_3_238 tw_3_231 tw_1_7 tw_3_232 tw_3_230 ⟨by decide, by decide, pdX3_price⟩ (by show 2 + 5 < 111; decide) rfl rfl rfl rfl (by decide) hL (Nat.le_trans (by decide) hn) hW k
  · exact J_callU (Γ := ΓC ad cy) (h := 2 + 6) (ci := 0) (C := RX0) (x := yX3_price) (av := [.int p1]) (q := (some (.int v), w)) (st := st) hd (kX0_price (kx := 6) hi (by decide) hq) tw_3_212 tw_3_215 tw_3_213 tw_3_238 tw_3_217 tw_1_8 tw_3_218 tw_3_216 ⟨by decide, by decide, pdX3_price⟩ (by show 2 + 6 < 111; decide) rfl rfl rfl rfl (by decide) hL (Nat.le_trans (by decide) hn) hW k
  · exact J_callU (Γ := ΓC ad cy) (h := 2 + 7) (ci := 8) (C := RX8) (x := yX3_price) (av := [.int p1]) (q := (some (.int v), w)) (st := st) hd (kX4_price (kx := 7) hi (by decide) hq) tw_3_212 tw_3_215 tw_3_213 tw_3_238 tw_3_223 tw_1_3 tw_3_224 tw_3_237 ⟨by decide, by decide, pdX3_price⟩ (by show 2 + 7 < 111; decide) rfl rfl rfl rfl (by decide) hL (Nat.le_trans (by decide) hn) hW k
set_option maxRecDepth 20000 in
set_option maxHeartbeats 4000000 in
theorem C_cost_ok {E : Ec} {ad : Nat → Nat} {cy : Nat → ClassId} {rv : Int32} {σ : CS} {p1 : Int32} (hi : wl_inj (ΓC ad cy)) (hL : Lv E 3) (h : C_cost σ p1 = some rv) : Jw E (ΓC ad cy) RX11 cX11_cost 4 (some .int) (some (.int rv), σ) 0 [(0, .ref (ad 0)), (1, .int p1)] [] σ := by
  unfold C_cost at h
  refine J_aload_n (q := 0) dX11_cost_0 rfl rfl ?_
  refine J_iload_n (q := 1) dX11_cost_1 rfl rfl ?_
  obtain ⟨r1, hq6, h⟩ := bd_some h
  refine kx_X11_152 hi dX11_cost_2 hq6 hL (by decide) (Nat.le_of_ble_eq_true rfl) ?_
  refine J_istore_n (lv' := [(2, .int r1), (0, .ref (ad 0)), (1, .int p1)]) dX11_cost_5 rfl (by decide) rfl ?_
  refine J_iload_n (q := 0) dX11_cost_6 rfl rfl ?_
  refine J_if_eq (tgt := 12) dX11_cost_7 (by decide) (fun c2 => ?_) (fun c2 => ?_)
  · replace h := it_some h c2
    refine J_aload_n (q := 1) dX11_cost_12 rfl rfl ?_
    refine gC_shelves dX11_cost_13 ?_
    refine J_iload_n (q := 2) dX11_cost_16 rfl rfl ?_
    obtain ⟨hg3, h⟩ := gd_some h
    refine aM_shelf dX11_cost_17 hg3 ?_
    refine J_astore_n (lv' := [(3, .ref (ad (2 * (11 + p1.toNatClampNeg) + 70))), (2, .int r1), (0, .ref (ad 0)), (1, .int p1)]) dX11_cost_18 rfl (by decide) rfl ?_
    refine J_aload_n (q := 2) dX11_cost_19 rfl rfl ?_
    refine gC_now dX11_cost_20 ?_
    refine gT_X11_kinds dX11_cost_23 okT_1 rfl ?_
    refine J_aload_n (q := 0) dX11_cost_26 rfl rfl ?_
    refine gS_X11_kind dX11_cost_27 (okS_m hg3) rfl ?_
    obtain ⟨hg4, h⟩ := gd_some h
    refine aK_ld dX11_cost_30 hg4 ?_
    refine J_aload_n (q := 0) dX11_cost_31 rfl rfl ?_
    refine gS_X11_figure dX11_cost_32 (okS_m hg3) rfl ?_
    obtain ⟨r5, hq7, h⟩ := bd_some h
    refine kx_X11_310 hi hg4 dX11_cost_35 hq7 hL (by decide) (Nat.le_of_ble_eq_true rfl) ?_
    exact J_iret dX11_cost_38 (rt_pi h) rfl
  · replace h := if_some h c2
    refine J_iload_n (q := 0) dX11_cost_10 rfl rfl ?_
    exact J_iret dX11_cost_11 (rt_pi h) rfl
set_option maxRecDepth 20000 in
set_option maxHeartbeats 4000000 in
theorem kX11_cost {l : Launch} {D : va_G} {ad : Nat → Nat} {cy : Nat → ClassId} {rv : Int32} {σ : CS} {p1 : Int32} (hi : wl_inj (ΓC ad cy)) (h : C_cost σ p1 = some rv) : Cn l D (ΓC ad cy) yX11_cost cX11_cost 4 (some .int) 3 [.ref (ad 0), .int p1] σ (some (.int rv), σ) :=
  Cn.of hi rfl (Nat.le_of_ble_eq_true rfl) (fun _ _ _ hL => C_cost_ok hi hL h)

theorem mne {p : Int32} (h : inb p 8 = true) : 3 + p.toNatClampNeg ≠ 3 + (p + 1).toNatClampNeg := by
  obtain ⟨j, hj, rfl⟩ := vp_in_of (inb_vp h) (by decide)
  rw [nI_1, nI_clamp (by omega), nI_clamp (by omega)]
  omega
def C_floodWays : Nat → CS → Int32 → Int32 → Int32 → Int32 → Int32 → Option (Int64 × CS)
  | 0, _, _, _, _, _, _ => none
  | d + 1, σ, p1, p2, p3, p4, p5 =>
    gd (inb p1 8) <|
    jn (
      gd (inb p5 5) <|
      if (ix (oA (σ (3 + p1.toNatClampNeg)) 3) p5) = p4 then
        some ((1 : Int64), σ)
      else
        some ((0 : Int64), σ)) fun j15 =>
    if p2 ≤ (0 : Int32) then
      j15
    else
      if p1 < (7 : Int32) then
        gd (inb (p1 + (1 : Int32)) 8) <|
        bd (T_takeFrom (σ (3 + (p1 + (1 : Int32)).toNatClampNeg)) (σ (3 + p1.toNatClampNeg))) fun (t5 : Ob) =>
        nm (va_up σ (3 + (p1 + (1 : Int32)).toNatClampNeg) t5) fun σ6 =>
        bd2 (T_pass (σ6 (3 + (p1 + (1 : Int32)).toNatClampNeg))) fun (r7 : Int32) (t8 : Ob) =>
        nm (va_up σ6 (3 + (p1 + (1 : Int32)).toNatClampNeg) t8) fun σ9 =>
        bd2 (C_floodWays d σ9 (p1 + (1 : Int32)) (p2 - (1 : Int32)) p3 p4 p5) fun (r10 : Int64) (σ11 : CS) =>
        bd (T_takeFrom (σ11 (3 + (p1 + (1 : Int32)).toNatClampNeg)) (σ11 (3 + p1.toNatClampNeg))) fun (t12 : Ob) =>
        nm (va_up σ11 (3 + (p1 + (1 : Int32)).toNatClampNeg) t12) fun σ13 =>
        bd (T_flood (σ13 (3 + (p1 + (1 : Int32)).toNatClampNeg))) fun (t14 : Ob) =>
        nm (va_up σ13 (3 + (p1 + (1 : Int32)).toNatClampNeg) t14) fun σ15 =>
        bd2 (T_pass (σ15 (3 + (p1 + (1 : Int32)).toNatClampNeg))) fun (r16 : Int32) (t17 : Ob) =>
        nm (va_up σ15 (3 + (p1 + (1 : Int32)).toNatClampNeg) t17) fun σ18 =>
        bd2 (C_floodWays d σ18 (p1 + (1 : Int32)) (p2 - (1 : Int32)) p3 p4 p5) fun (r19 : Int64) (σ20 : CS) =>
        some ((((p3 - (1 : Int32)).toInt64 * r10) + r19), σ20)
      else
        j15
def C_floods_L59 (k79 : Int64 → Option (Int64 × CS)) (σ : CS) (a1 : Int32) (a2 : Int32) (a3 : Int32) (a4 : Int32) (a5 : Int32) : Nat → Int64 → Int32 → Option (Int64 × CS)
  | 0, _, _ => none
  | n + 1, x6, x8 =>
    if a3 ≤ x8 then
      k79 x6
    else
      nm (x6 * a4.toInt64) fun v12 =>
      nm (x8 + (1 : Int32)) fun v13 =>
      C_floods_L59 k79 σ a1 a2 a3 a4 a5 n v12 v13
def C_floods (σ : CS) (p1 : Int32) (p2 : Int32) (p3 : Int32) (p4 : Int32) (p5 : Int32) : Option (Int64 × CS) :=
  bd (T_hasOne (σ 1) p1) fun (r1 : Int32) =>
  if r1 = (0 : Int32) then
    some ((1000000001 : Int64), σ)
  else
    bd (C_isThing p2) fun (r3 : Int32) =>
    if r3 = (0 : Int32) then
      some ((1000000001 : Int64), σ)
    else
      bd (C_within p3 (7 : Int32)) fun (r5 : Int32) =>
      if r5 = (0 : Int32) then
        some ((1000000001 : Int64), σ)
      else
        if p4 < (2 : Int32) then
          some ((1000000001 : Int64), σ)
        else
          if (20 : Int32) < p4 then
            some ((1000000001 : Int64), σ)
          else
            bd (C_within p5 (1 : Int32)) fun (r9 : Int32) =>
            if r9 = (0 : Int32) then
              some ((1000000001 : Int64), σ)
            else
              C_floods_L59 (fun (x6_14 : Int64) =>
                  bd (T_takeFrom (σ 3) (σ 1)) fun (t15 : Ob) =>
                  nm (va_up σ 3 t15) fun σ16 =>
                  bd2 (C_floodWays 9 σ16 (0 : Int32) p3 p4 p1 p2) fun (r17 : Int64) (σ18 : CS) =>
                  bd (C_partOf r17 x6_14 p5) fun (r19 : Int64) =>
                  some (r19, σ18)) σ p1 p2 p3 p4 p5 FU (1 : Int64) (0 : Int32)
theorem pdX11_floodWays : (parseMethodDescriptor yX11_floodWays.desc).map (fun d => d.parameters.length) = some 6 := by decide +kernel
theorem kx_X11_324 {E : Ec} {ad : Nat → Nat} {cy : Nat → ClassId} {cc : ByteArray} {nL : Nat} {rt : Option FieldType} {r : Option Value × CS} {pc : Nat} {lv : List (Nat × Value)} {st : List Value} {σ : CS} {n a : Nat} {t' : Ob} (hi : wl_inj (ΓC ad cy)) (ha : okT a) (hd : decode cc pc = .ok (.invokevirtual 324, 3)) (hq : T_flood (σ a) = some t') (hL : Lv E n) (hn : 0 + 1 ≤ n) (hW : (st.map fun v => v.category).sum ≤ 8) (k : Jw E (ΓC ad cy) RX11 cc nL rt r (pc + 3) lv (st) (va_up σ a t')) : Jw E (ΓC ad cy) RX11 cc nL rt r pc lv (.ref (ad (8 * a + 2)) :: st) σ := by
  have hM := fun (l : Launch) (D : va_G) => kX10_flood (l := l) (D := D) (ad := ad) (cy := cy) (σ := σ) hi ha hq
  simp only [vu_self] at hM
  exact J_callV (Γ := ΓC ad cy) (h := 8 * a + 2) (ci := 9) (av := []) (q := (none, va_up σ a t')) (st := st) hd (hM _ _) tw_3_113 tw_3_114 tw_1_10 tw_3_116 tw_3_115 ⟨by decide, by decide, pdX10_flood⟩ (hT (j := 0) ha (by decide)) (cC_t0 ha rfl) rfl rfl rfl (by decide) hL hn hW k
set_option maxRecDepth 20000 in
set_option maxHeartbeats 4000000 in
def FW (ad : Nat → Nat) (cy : Nat → ClassId) : Nat → Prop := fun (d : Nat) => ∀ (l : Launch) (D : va_G) (σ : CS) (p1 p2 p3 p4 p5 : Int32) (rv : Int64 × CS), C_floodWays d σ p1 p2 p3 p4 p5 = some rv → Cn l D (ΓC ad cy) yX11_floodWays cX11_floodWays 10 (some .long) (5 + d) [.ref (ad 90), .int p1, .int p2, .int p3, .int p4, .int p5] σ (some (.long rv.1), rv.2)
set_option maxRecDepth 20000 in
set_option maxHeartbeats 4000000 in
theorem kx_fw {E : Ec} {ad : Nat → Nat} {cy : Nat → ClassId} {cc : ByteArray} {nL : Nat} {rt : Option FieldType} {r : Option Value × CS} {pc : Nat} {lv : List (Nat × Value)} {st : List Value} {σ σ' : CS} {n d : Nat} {p1 p2 p3 p4 p5 : Int32} {v : Int64} (hd : decode cc pc = .ok (.invokestatic 240, 3)) (hM : ∀ l D, Cn l D (ΓC ad cy) yX11_floodWays cX11_floodWays 10 (some .long) (5 + d) [.ref (ad 90), .int p1, .int p2, .int p3, .int p4, .int p5] σ (some (.long v), σ')) (hL : Lv E n) (hn : 5 + d + 1 ≤ n) (hW : (st.map fun v => v.category).sum ≤ 8) (k : Jw E (ΓC ad cy) RX11 cc nL rt r (pc + 3) lv (.long v :: st) σ') : Jw E (ΓC ad cy) RX11 cc nL rt r pc lv (.int p5 :: .int p4 :: .int p3 :: .int p2 :: .int p1 :: .ref (ad 90) :: st) σ :=
  J_callS (Γ := ΓC ad cy) (av := [.ref (ad 90), .int p1, .int p2, .int p3, .int p4, .int p5]) (q := (some (.long v), σ')) (st := st) hd (hM _ _) tw_3_110 tw_3_111 tw_1_1 tw_3_112 ⟨by decide, by decide, pdX11_floodWays⟩ rfl (by decide) hL hn hW k
set_option maxRecDepth 20000 in
set_option maxHeartbeats 4000000 in
theorem C_floodWays_ok {E : Ec} {ad : Nat → Nat} {cy : Nat → ClassId} {rv : (Int64 × CS)} {d : Nat} {σ : CS} {p1 p2 p3 p4 p5 : Int32} (hi : wl_inj (ΓC ad cy)) (ih : FW ad cy d) (hL : Lv E (5 + (d + 1))) (h : C_floodWays (d + 1) σ p1 p2 p3 p4 p5 = some rv) : Jw E (ΓC ad cy) RX11 cX11_floodWays 10 (some .long) (some (.long rv.1), rv.2) 0 [(0, .ref (ad 90)), (1, .int p1), (2, .int p2), (3, .int p3), (4, .int p4), (5, .int p5)] [] σ := by
  rw [C_floodWays] at h
  refine J_aload_n (q := 0) dX11_floodWays_0 rfl rfl ?_
  refine J_iload_n (q := 1) dX11_floodWays_1 rfl rfl ?_
  obtain ⟨hg1, h⟩ := gd_some h
  refine aM_mind dX11_floodWays_2 hg1 ?_
  refine J_astore (lv' := [(6, .ref (ad (8 * (3 + p1.toNatClampNeg) + 2))), (0, .ref (ad 90)), (1, .int p1), (2, .int p2), (3, .int p3), (4, .int p4), (5, .int p5)]) dX11_floodWays_3 (by decide) rfl ?_
  refine J_iload_n (q := 3) dX11_floodWays_5 rfl rfl ?_
  obtain ⟨kk15, ekk15, h⟩ := jn_some h
  have K15 : kk15 = some rv → Jw E (ΓC ad cy) RX11 cX11_floodWays 10 (some .long) (some (.long rv.1), rv.2) 15 [(4, .int p4), (5, .int p5), (6, .ref (ad (8 * (3 + p1.toNatClampNeg) + 2)))] [] σ := by
    subst ekk15
    clear h
    intro h
    refine J_aload (q := 2) dX11_floodWays_15 rfl ?_
    refine gT_X11_owner dX11_floodWays_17 (okT_m hg1) rfl ?_
    refine J_iload (q := 1) dX11_floodWays_20 rfl ?_
    obtain ⟨hg21, h⟩ := gd_some h
    refine aT_ld (j := 3) (n := 5) dX11_floodWays_22 (okT_m hg1) rfl (by decide) rfl hg21 ?_
    refine J_iload (q := 0) dX11_floodWays_23 rfl ?_
    refine J_icmp_ne (tgt := 32) dX11_floodWays_25 (by decide) (fun c22 => ?_) (fun c22 => ?_)
    · replace h := if_some h c22
      refine J_lconst dX11_floodWays_32 lc_0 ?_
      exact J_lret dX11_floodWays_33 (rt_l h) rfl
    · replace h := it_some h c22
      refine J_lconst dX11_floodWays_28 lc_1 ?_
      refine J_goto (tgt := 33) dX11_floodWays_29 (by decide) ?_
      exact J_lret dX11_floodWays_33 (rt_l h) rfl
  clear ekk15
  refine J_if_le (tgt := 15) dX11_floodWays_6 (by decide) (fun c2 => ?_) (fun c2 => ?_)
  · replace h := it_some h c2
    exact J_sub [5, 6, 0] rfl (K15 h)
  · replace h := if_some h c2
    refine J_iload_n (q := 2) dX11_floodWays_9 rfl rfl ?_
    refine J_bipush dX11_floodWays_10 bp_7 ?_
    refine J_icmp_lt (tgt := 34) dX11_floodWays_12 (by decide) (fun c3 => ?_) (fun c3 => ?_)
    · replace h := it_some h c3
      refine J_aload_n (q := 1) dX11_floodWays_34 rfl rfl ?_
      refine J_iload_n (q := 2) dX11_floodWays_35 rfl rfl ?_
      refine J_iconst dX11_floodWays_36 ic_1 ?_
      refine J_iadd dX11_floodWays_37 ?_
      obtain ⟨hg4, h⟩ := gd_some h
      refine aM_mind dX11_floodWays_38 hg4 ?_
      refine J_astore (lv' := [(7, .ref (ad (8 * (3 + (p1 + (1 : Int32)).toNatClampNeg) + 2))), (6, .ref (ad (8 * (3 + p1.toNatClampNeg) + 2))), (0, .ref (ad 90)), (1, .int p1), (2, .int p2), (3, .int p3), (4, .int p4), (5, .int p5)]) dX11_floodWays_39 (by decide) rfl ?_
      refine J_aload (q := 0) dX11_floodWays_41 rfl ?_
      refine J_aload (q := 1) dX11_floodWays_43 rfl ?_
      obtain ⟨t5, hq23, h⟩ := bd_some h
      refine kx_X11_83 hi (okT_m hg4) (okT_m hg1) (by exact mne hg1) dX11_floodWays_45 hq23 hL (by omega) (Nat.le_of_ble_eq_true rfl) ?_
      refine J_tw (fun σ6 eσ6 => ?_)
      replace h := nm_some eσ6 h
      refine J_aload (q := 0) dX11_floodWays_48 rfl ?_
      obtain ⟨r7, t8, hq24, h⟩ := bd2_some h
      refine kx_X11_194 hi (okT_m hg4) dX11_floodWays_50 hq24 hL (by omega) (Nat.le_of_ble_eq_true rfl) ?_
      refine J_tw (fun σ9 eσ9 => ?_)
      replace h := nm_some eσ9 h
      refine J_pop dX11_floodWays_53 rfl ?_
      refine J_aload_n (q := 2) dX11_floodWays_54 rfl rfl ?_
      refine J_iload_n (q := 3) dX11_floodWays_55 rfl rfl ?_
      refine J_iconst dX11_floodWays_56 ic_1 ?_
      refine J_iadd dX11_floodWays_57 ?_
      refine J_iload_n (q := 4) dX11_floodWays_58 rfl rfl ?_
      refine J_iconst dX11_floodWays_59 ic_1 ?_
      refine J_isub dX11_floodWays_60 ?_
      refine J_iload_n (q := 5) dX11_floodWays_61 rfl rfl ?_
      refine J_iload (q := 6) dX11_floodWays_62 rfl ?_
      refine J_iload (q := 7) dX11_floodWays_64 rfl ?_
      obtain ⟨r10, σ11, hq25, h⟩ := bd2_some h
      refine kx_fw dX11_floodWays_66 (fun l D => ih l D _ _ _ _ _ _ _ hq25) hL (by omega) (Nat.le_of_ble_eq_true rfl) ?_
      refine J_lstore (lv' := [(8, .long r10), (7, .ref (ad (8 * (3 + (p1 + (1 : Int32)).toNatClampNeg) + 2))), (6, .ref (ad (8 * (3 + p1.toNatClampNeg) + 2))), (0, .ref (ad 90)), (1, .int p1), (2, .int p2), (3, .int p3), (4, .int p4), (5, .int p5)]) dX11_floodWays_69 (by decide) rfl ?_
      refine J_aload (q := 1) dX11_floodWays_71 rfl ?_
      refine J_aload (q := 2) dX11_floodWays_73 rfl ?_
      obtain ⟨t12, hq26, h⟩ := bd_some h
      refine kx_X11_83 hi (okT_m hg4) (okT_m hg1) (by exact mne hg1) dX11_floodWays_75 hq26 hL (by omega) (Nat.le_of_ble_eq_true rfl) ?_
      refine J_tw (fun σ13 eσ13 => ?_)
      replace h := nm_some eσ13 h
      refine J_aload (q := 1) dX11_floodWays_78 rfl ?_
      obtain ⟨t14, hq27, h⟩ := bd_some h
      refine kx_X11_324 hi (okT_m hg4) dX11_floodWays_80 hq27 hL (by omega) (Nat.le_of_ble_eq_true rfl) ?_
      refine J_tw (fun σ15 eσ15 => ?_)
      replace h := nm_some eσ15 h
      refine J_aload (q := 1) dX11_floodWays_83 rfl ?_
      obtain ⟨r16, t17, hq28, h⟩ := bd2_some h
      refine kx_X11_194 hi (okT_m hg4) dX11_floodWays_85 hq28 hL (by omega) (Nat.le_of_ble_eq_true rfl) ?_
      refine J_tw (fun σ18 eσ18 => ?_)
      replace h := nm_some eσ18 h
      refine J_pop dX11_floodWays_88 rfl ?_
      refine J_iload_n (q := 6) dX11_floodWays_89 rfl rfl ?_
      refine J_iconst dX11_floodWays_90 ic_1 ?_
      refine J_isub dX11_floodWays_91 ?_
      refine J_i2l dX11_floodWays_92 ?_
      refine J_lload (q := 0) dX11_floodWays_93 rfl ?_
      refine J_lmul dX11_floodWays_95 ?_
      refine J_aload_n (q := 3) dX11_floodWays_96 rfl rfl ?_
      refine J_iload_n (q := 4) dX11_floodWays_97 rfl rfl ?_
      refine J_iconst dX11_floodWays_98 ic_1 ?_
      refine J_iadd dX11_floodWays_99 ?_
      refine J_iload_n (q := 5) dX11_floodWays_100 rfl rfl ?_
      refine J_iconst dX11_floodWays_101 ic_1 ?_
      refine J_isub dX11_floodWays_102 ?_
      refine J_iload_n (q := 6) dX11_floodWays_103 rfl rfl ?_
      refine J_iload (q := 7) dX11_floodWays_104 rfl ?_
      refine J_iload (q := 8) dX11_floodWays_106 rfl ?_
      obtain ⟨r19, σ20, hq29, h⟩ := bd2_some h
      refine kx_fw dX11_floodWays_108 (fun l D => ih l D _ _ _ _ _ _ _ hq29) hL (by omega) (Nat.le_of_ble_eq_true rfl) ?_
      refine J_ladd dX11_floodWays_111 ?_
      exact J_lret dX11_floodWays_112 (rt_l h) rfl
    · replace h := if_some h c3
      exact J_sub [5, 6, 0] rfl (K15 h)
set_option maxRecDepth 20000 in
set_option maxHeartbeats 4000000 in
theorem FW_all {ad : Nat → Nat} {cy : Nat → ClassId} (hi : wl_inj (ΓC ad cy)) : ∀ d, FW ad cy d := by
  intro d
  induction d with
  | zero => intro l D σ p1 p2 p3 p4 p5 rv h; rw [C_floodWays] at h; cases h
  | succ d ih => intro l D σ p1 p2 p3 p4 p5 rv h; exact Cn.of hi rfl (Nat.le_of_ble_eq_true rfl) (fun _ _ _ hL => C_floodWays_ok hi ih hL h)
set_option maxRecDepth 20000 in
set_option maxHeartbeats 4000000 in
theorem kX11_floodWays {l : Launch} {D : va_G} {ad : Nat → Nat} {cy : Nat → ClassId} {rv : Int64 × CS} {σ : CS} {p1 p2 p3 p4 p5 : Int32} (hi : wl_inj (ΓC ad cy)) (h : C_floodWays 9 σ p1 p2 p3 p4 p5 = some rv) : Cn l D (ΓC ad cy) yX11_floodWays cX11_floodWays 10 (some .long) 14 [.ref (ad 90), .int p1, .int p2, .int p3, .int p4, .int p5] σ (some (.long rv.1), rv.2) := FW_all hi 9 l D σ p1 p2 p3 p4 p5 rv h
theorem pdX11_floods : (parseMethodDescriptor yX11_floods.desc).map (fun d => d.parameters.length) = some 5 := by decide +kernel
theorem kx_X11_240 {E : Ec} {ad : Nat → Nat} {cy : Nat → ClassId} {cc : ByteArray} {nL : Nat} {rt : Option FieldType} {r : Option Value × CS} {pc : Nat} {lv : List (Nat × Value)} {st : List Value} {σ : CS} {n : Nat} {p1 : Int32} {p2 : Int32} {p3 : Int32} {p4 : Int32} {p5 : Int32} {v : Int64} {σ' : CS} (hi : wl_inj (ΓC ad cy)) (hd : decode cc pc = .ok (.invokestatic 240, 3)) (hq : C_floodWays 9 σ p1 p2 p3 p4 p5 = some (v, σ')) (hL : Lv E n) (hn : 14 + 1 ≤ n) (hW : (st.map fun v => v.category).sum ≤ 8) (k : Jw E (ΓC ad cy) RX11 cc nL rt r (pc + 3) lv (.long v :: st) σ') : Jw E (ΓC ad cy) RX11 cc nL rt r pc lv (.int p5 :: .int p4 :: .int p3 :: .int p2 :: .int p1 :: .ref (ad 90) :: st) σ :=
  J_callS (Γ := ΓC ad cy) (av := [.ref (ad 90), .int p1, .int p2, .int p3, .int p4, .int p5]) (q := (some (.long v), σ')) (st := st) hd (kX11_floodWays hi hq) tw_3_110 tw_3_111 tw_1_1 tw_3_112 ⟨by decide, by decide, pdX11_floodWays⟩ rfl (by decide) hL hn hW k
set_option maxRecDepth 20000 in
set_option maxHeartbeats 4000000 in
theorem C_floods_L59_ok {E : Ec} {ad : Nat → Nat} {cy : Nat → ClassId} {rv : (Int64 × CS)} {k79 : Int64 → Option (Int64 × CS)} {σ : CS} {a1 : Int32} {a2 : Int32} {a3 : Int32} {a4 : Int32} {a5 : Int32} (hi : wl_inj (ΓC ad cy)) (hL : Lv E 15) (hk79 : ∀ (y6 : Int64), k79 y6 = some rv → Jw E (ΓC ad cy) RX11 cX11_floods 9 (some .long) (some (.long rv.1), rv.2) 79 [(0, .ref (ad 0)), (1, .int a1), (2, .int a2), (3, .int a3), (4, .int a4), (5, .int a5), (6, .long y6)] [] σ) : ∀ (n : Nat) (x6 : Int64) (x8 : Int32), C_floods_L59 k79 σ a1 a2 a3 a4 a5 n x6 x8 = some rv → Jw E (ΓC ad cy) RX11 cX11_floods 9 (some .long) (some (.long rv.1), rv.2) 59 [(0, .ref (ad 0)), (1, .int a1), (2, .int a2), (3, .int a3), (4, .int a4), (5, .int a5), (6, .long x6), (8, .int x8)] [] σ := by
  intro n
  induction n with
  | zero =>
    intro x6 x8 h
    rw [C_floods_L59] at h
    cases h
  | succ n ih =>
    intro x6 x8 h
    rw [C_floods_L59] at h
    refine J_iload (q := 7) dX11_floods_59 rfl ?_
    refine J_iload_n (q := 3) dX11_floods_61 rfl rfl ?_
    refine J_icmp_ge (tgt := 79) dX11_floods_62 (by decide) (fun c11 => ?_) (fun c11 => ?_)
    · replace h := it_some h c11
      exact J_sub [0, 1, 2, 3, 4, 5, 6] rfl (hk79 _ h)
    · replace h := if_some h c11
      refine J_lload (q := 6) dX11_floods_65 rfl ?_
      refine J_iload (q := 4) dX11_floods_67 rfl ?_
      refine J_i2l dX11_floods_69 ?_
      refine J_lmul dX11_floods_70 ?_
      refine J_tl (fun v12 ev12 => ?_)
      replace h := nm_some ev12 h
      refine J_lstore (lv' := [(6, .long v12), (0, .ref (ad 0)), (1, .int a1), (2, .int a2), (3, .int a3), (4, .int a4), (5, .int a5), (8, .int x8)]) dX11_floods_71 (by decide) rfl ?_
      refine J_iinc (q := 7) (v := (x8 + (1 : Int32))) (lv' := [(8, .int (x8 + (1 : Int32))), (6, .long v12), (0, .ref (ad 0)), (1, .int a1), (2, .int a2), (3, .int a3), (4, .int a4), (5, .int a5)]) dX11_floods_73 rfl (congrArg (fun z => x8 + z) ic_1) (by decide) rfl ?_
      refine J_tv (fun v13 ev13 => ?_)
      replace h := nm_some ev13 h
      refine J_goto (tgt := 59) dX11_floods_76 (by decide) ?_
      exact J_sub [2, 3, 4, 5, 6, 7, 1, 0] rfl (ih _ _ h)
set_option maxRecDepth 20000 in
set_option maxHeartbeats 4000000 in
theorem C_floods_ok {E : Ec} {ad : Nat → Nat} {cy : Nat → ClassId} {rv : (Int64 × CS)} {σ : CS} {p1 : Int32} {p2 : Int32} {p3 : Int32} {p4 : Int32} {p5 : Int32} (hi : wl_inj (ΓC ad cy)) (hL : Lv E 15) (h : C_floods σ p1 p2 p3 p4 p5 = some rv) : Jw E (ΓC ad cy) RX11 cX11_floods 9 (some .long) (some (.long rv.1), rv.2) 0 [(0, .ref (ad 0)), (1, .int p1), (2, .int p2), (3, .int p3), (4, .int p4), (5, .int p5)] [] σ := by
  unfold C_floods at h
  refine J_aload_n (q := 0) dX11_floods_0 rfl rfl ?_
  refine gC_now dX11_floods_1 ?_
  refine J_iload_n (q := 1) dX11_floods_4 rfl rfl ?_
  obtain ⟨r1, hq20, h⟩ := bd_some h
  refine kx_X11_98 hi okT_1 dX11_floods_5 hq20 hL (by decide) (Nat.le_of_ble_eq_true rfl) ?_
  refine J_if_eq (tgt := 49) dX11_floods_8 (by decide) (fun c2 => ?_) (fun c2 => ?_)
  · replace h := it_some h c2
    refine J_ldc2 dX11_floods_49 tw_3_109 ?_
    exact J_lret dX11_floods_52 (rt_l h) rfl
  · replace h := if_some h c2
    refine J_iload_n (q := 2) dX11_floods_11 rfl rfl ?_
    obtain ⟨r3, hq21, h⟩ := bd_some h
    refine kx_X11_125 hi dX11_floods_12 hq21 hL (by decide) (Nat.le_of_ble_eq_true rfl) ?_
    refine J_if_eq (tgt := 49) dX11_floods_15 (by decide) (fun c4 => ?_) (fun c4 => ?_)
    · replace h := it_some h c4
      refine J_ldc2 dX11_floods_49 tw_3_109 ?_
      exact J_lret dX11_floods_52 (rt_l h) rfl
    · replace h := if_some h c4
      refine J_iload_n (q := 3) dX11_floods_18 rfl rfl ?_
      refine J_bipush dX11_floods_19 bp_7 ?_
      obtain ⟨r5, hq22, h⟩ := bd_some h
      refine kx_X11_102 hi dX11_floods_21 hq22 hL (by decide) (Nat.le_of_ble_eq_true rfl) ?_
      refine J_if_eq (tgt := 49) dX11_floods_24 (by decide) (fun c6 => ?_) (fun c6 => ?_)
      · replace h := it_some h c6
        refine J_ldc2 dX11_floods_49 tw_3_109 ?_
        exact J_lret dX11_floods_52 (rt_l h) rfl
      · replace h := if_some h c6
        refine J_iload (q := 4) dX11_floods_27 rfl ?_
        refine J_iconst dX11_floods_29 ic_2 ?_
        refine J_icmp_lt (tgt := 49) dX11_floods_30 (by decide) (fun c7 => ?_) (fun c7 => ?_)
        · replace h := it_some h c7
          refine J_ldc2 dX11_floods_49 tw_3_109 ?_
          exact J_lret dX11_floods_52 (rt_l h) rfl
        · replace h := if_some h c7
          refine J_iload (q := 4) dX11_floods_33 rfl ?_
          refine J_bipush dX11_floods_35 bp_20 ?_
          refine J_icmp_gt (tgt := 49) dX11_floods_37 (by decide) (fun c8 => ?_) (fun c8 => ?_)
          · replace h := it_some h c8
            refine J_ldc2 dX11_floods_49 tw_3_109 ?_
            exact J_lret dX11_floods_52 (rt_l h) rfl
          · replace h := if_some h c8
            refine J_iload (q := 5) dX11_floods_40 rfl ?_
            refine J_iconst dX11_floods_42 ic_1 ?_
            obtain ⟨r9, hq23, h⟩ := bd_some h
            refine kx_X11_102 hi dX11_floods_43 hq23 hL (by decide) (Nat.le_of_ble_eq_true rfl) ?_
            refine J_if_ne (tgt := 53) dX11_floods_46 (by decide) (fun c10 => ?_) (fun c10 => ?_)
            · replace h := if_some h c10
              refine J_lconst dX11_floods_53 lc_1 ?_
              refine J_lstore (lv' := [(6, .long (1 : Int64)), (0, .ref (ad 0)), (1, .int p1), (2, .int p2), (3, .int p3), (4, .int p4), (5, .int p5)]) dX11_floods_54 (by decide) rfl ?_
              refine J_iconst dX11_floods_56 ic_0 ?_
              refine J_istore (lv' := [(8, .int (0 : Int32)), (6, .long (1 : Int64)), (0, .ref (ad 0)), (1, .int p1), (2, .int p2), (3, .int p3), (4, .int p4), (5, .int p5)]) dX11_floods_57 (by decide) rfl ?_
              refine J_sub [2, 3, 4, 5, 6, 7, 1, 0] rfl (C_floods_L59_ok hi hL (fun x6_14 h => ?_) FU _ _ h)
              refine J_aload_n (q := 0) dX11_floods_79 rfl rfl ?_
              refine gC_mind dX11_floods_80 ?_
              refine J_aload_n (q := 0) dX11_floods_83 rfl rfl ?_
              refine gC_now dX11_floods_84 ?_
              obtain ⟨t15, hq24, h⟩ := bd_some h
              refine kx_X11_83 hi okT_3 okT_1 (by decide) dX11_floods_87 hq24 hL (by decide) (Nat.le_of_ble_eq_true rfl) ?_
              refine J_tw (fun σ16 eσ16 => ?_)
              replace h := nm_some eσ16 h
              refine J_aload_n (q := 0) dX11_floods_90 rfl rfl ?_
              refine gC_minds dX11_floods_91 ?_
              refine J_iconst dX11_floods_94 ic_0 ?_
              refine J_iload_n (q := 3) dX11_floods_95 rfl rfl ?_
              refine J_iload (q := 4) dX11_floods_96 rfl ?_
              refine J_iload_n (q := 1) dX11_floods_98 rfl rfl ?_
              refine J_iload_n (q := 2) dX11_floods_99 rfl rfl ?_
              obtain ⟨r17, σ18, hq25, h⟩ := bd2_some h
              refine kx_X11_240 hi dX11_floods_100 hq25 hL (by decide) (Nat.le_of_ble_eq_true rfl) ?_
              refine J_lload (q := 6) dX11_floods_103 rfl ?_
              refine J_iload (q := 5) dX11_floods_105 rfl ?_
              obtain ⟨r19, hq26, h⟩ := bd_some h
              refine kx_X11_244 hi dX11_floods_107 hq26 hL (by decide) (Nat.le_of_ble_eq_true rfl) ?_
              exact J_lret dX11_floods_110 (rt_l h) rfl
            · replace h := it_some h c10
              refine J_ldc2 dX11_floods_49 tw_3_109 ?_
              exact J_lret dX11_floods_52 (rt_l h) rfl
set_option maxRecDepth 20000 in
set_option maxHeartbeats 4000000 in
theorem kX11_floods {l : Launch} {D : va_G} {ad : Nat → Nat} {cy : Nat → ClassId} {rv : (Int64 × CS)} {σ : CS} {p1 : Int32} {p2 : Int32} {p3 : Int32} {p4 : Int32} {p5 : Int32} (hi : wl_inj (ΓC ad cy)) (h : C_floods σ p1 p2 p3 p4 p5 = some rv) : Cn l D (ΓC ad cy) yX11_floods cX11_floods 9 (some .long) 15 [.ref (ad 0), .int p1, .int p2, .int p3, .int p4, .int p5] σ (some (.long rv.1), rv.2) :=
  Cn.of hi rfl (Nat.le_of_ble_eq_true rfl) (fun _ _ _ hL => C_floods_ok hi hL h)

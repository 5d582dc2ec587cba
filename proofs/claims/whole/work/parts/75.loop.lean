/-! the law's loop -/
section
variable {E : Ec} {ad : Nat → Nat} {cy : Nat → ClassId} {A : Nat → Prop} {fin : Ec → State → Prop} {b L z : Nat} {xs : Nat → Int32}
theorem law_switch {kc ks j : Nat} {x : Int32} {w : W3} (X : Lf E ad A b L z xs) (hi : wl_inj (Γ3 ad cy)) (hj : j + 6 ≤ L) (h1 : kc + 1 ≤ 601024) (h2 : ks + 6 ≤ 7293033) (h : RelE w.1 w.2.1) (kk : ∀ w' : W3, RelE w'.1 w'.2.1 → Jx E (Γ3 ad cy) A fin (kc + 1) (ks + 6) RL cL_law 8 (some .boolean) 1771 (lvL ad b j) [] w') : Jx E (Γ3 ad cy) A fin kc ks RL cL_law 8 (some .boolean) 40 (lvL ad b j) [.int x] w := by
  cases hx : rng x 0 38 with
  | false =>
    have hx' := of_decide_eq_false hx
    refine Y_tout (tgt := 1771) dL_law_40 (by omega) (by decide) ?_
    exact Y_wid (Nat.le_succ kc) (Nat.le_add_right ks 6) (by rw [X.1]; exact h1) (by rw [X.2.1]; exact h2) (kk w h)
  | true =>
    obtain ⟨t, ht, rfl⟩ := rng_nI (hi := 38) hx (by decide)
    match t, ht with
    | 0, _ => exact Y_tin (off := 172) (tgt := 212) dL_law_40 (by decide) (by decide) (by decide) (by decide) (lcl_0 X hi hj h1 h2 h kk)
    | 1, _ => exact Y_tin (off := 197) (tgt := 237) dL_law_40 (by decide) (by decide) (by decide) (by decide) (lcl_1 X hi hj h1 h2 h kk)
    | 2, _ => exact Y_tin (off := 234) (tgt := 274) dL_law_40 (by decide) (by decide) (by decide) (by decide) (lcl_2 X hi hj h1 h2 h kk)
    | 3, _ => exact Y_tin (off := 271) (tgt := 311) dL_law_40 (by decide) (by decide) (by decide) (by decide) (lcl_3 X hi hj h1 h2 h kk)
    | 4, _ => exact Y_tin (off := 320) (tgt := 360) dL_law_40 (by decide) (by decide) (by decide) (by decide) (lcl_4 X hi hj h1 h2 h kk)
    | 5, _ => exact Y_tin (off := 357) (tgt := 397) dL_law_40 (by decide) (by decide) (by decide) (by decide) (lcl_5 X hi hj h1 h2 h kk)
    | 6, _ => exact Y_tin (off := 406) (tgt := 446) dL_law_40 (by decide) (by decide) (by decide) (by decide) (lcl_6 X hi hj h1 h2 h kk)
    | 7, _ => exact Y_tin (off := 443) (tgt := 483) dL_law_40 (by decide) (by decide) (by decide) (by decide) (lcl_7 X hi hj h1 h2 h kk)
    | 8, _ => exact Y_tin (off := 480) (tgt := 520) dL_law_40 (by decide) (by decide) (by decide) (by decide) (lcl_8 X hi hj h1 h2 h kk)
    | 9, _ => exact Y_tin (off := 517) (tgt := 557) dL_law_40 (by decide) (by decide) (by decide) (by decide) (lcl_9 X hi hj h1 h2 h kk)
    | 10, _ => exact Y_tin (off := 542) (tgt := 582) dL_law_40 (by decide) (by decide) (by decide) (by decide) (lcl_10 X hi hj h1 h2 h kk)
    | 11, _ => exact Y_tin (off := 579) (tgt := 619) dL_law_40 (by decide) (by decide) (by decide) (by decide) (lcl_11 X hi hj h1 h2 h kk)
    | 12, _ => exact Y_tin (off := 628) (tgt := 668) dL_law_40 (by decide) (by decide) (by decide) (by decide) (lcl_12 X hi hj h1 h2 h kk)
    | 13, _ => exact Y_tin (off := 677) (tgt := 717) dL_law_40 (by decide) (by decide) (by decide) (by decide) (lcl_13 X hi hj h1 h2 h kk)
    | 14, _ => exact Y_tin (off := 714) (tgt := 754) dL_law_40 (by decide) (by decide) (by decide) (by decide) (lcl_14 X hi hj h1 h2 h kk)
    | 15, _ => exact Y_tin (off := 739) (tgt := 779) dL_law_40 (by decide) (by decide) (by decide) (by decide) (lcl_15 X hi hj h1 h2 h kk)
    | 16, _ => exact Y_tin (off := 788) (tgt := 828) dL_law_40 (by decide) (by decide) (by decide) (by decide) (lcl_16 X hi hj h1 h2 h kk)
    | 17, _ => exact Y_tin (off := 825) (tgt := 865) dL_law_40 (by decide) (by decide) (by decide) (by decide) (lcl_17 X hi hj h1 h2 h kk)
    | 18, _ => exact Y_tin (off := 862) (tgt := 902) dL_law_40 (by decide) (by decide) (by decide) (by decide) (lcl_18 X hi hj h1 h2 h kk)
    | 19, _ => exact Y_tin (off := 887) (tgt := 927) dL_law_40 (by decide) (by decide) (by decide) (by decide) (lcl_19 X hi hj h1 h2 h kk)
    | 20, _ => exact Y_tin (off := 912) (tgt := 952) dL_law_40 (by decide) (by decide) (by decide) (by decide) (lcl_20 X hi hj h1 h2 h kk)
    | 21, _ => exact Y_tin (off := 949) (tgt := 989) dL_law_40 (by decide) (by decide) (by decide) (by decide) (lcl_21 X hi hj h1 h2 h kk)
    | 22, _ => exact Y_tin (off := 998) (tgt := 1038) dL_law_40 (by decide) (by decide) (by decide) (by decide) (lcl_22 X hi hj h1 h2 h kk)
    | 23, _ => exact Y_tin (off := 1047) (tgt := 1087) dL_law_40 (by decide) (by decide) (by decide) (by decide) (lcl_23 X hi hj h1 h2 h kk)
    | 24, _ => exact Y_tin (off := 1108) (tgt := 1148) dL_law_40 (by decide) (by decide) (by decide) (by decide) (lcl_24 X hi hj h1 h2 h kk)
    | 25, _ => exact Y_tin (off := 1182) (tgt := 1222) dL_law_40 (by decide) (by decide) (by decide) (by decide) (lcl_25 X hi hj h1 h2 h kk)
    | 26, _ => exact Y_tin (off := 1220) (tgt := 1260) dL_law_40 (by decide) (by decide) (by decide) (by decide) (lcl_26 X hi hj h1 h2 h kk)
    | 27, _ => exact Y_tin (off := 1245) (tgt := 1285) dL_law_40 (by decide) (by decide) (by decide) (by decide) (lcl_27 X hi hj h1 h2 h kk)
    | 28, _ => exact Y_tin (off := 1282) (tgt := 1322) dL_law_40 (by decide) (by decide) (by decide) (by decide) (lcl_28 X hi hj h1 h2 h kk)
    | 29, _ => exact Y_tin (off := 1331) (tgt := 1371) dL_law_40 (by decide) (by decide) (by decide) (by decide) (lcl_29 X hi hj h1 h2 h kk)
    | 30, _ => exact Y_tin (off := 1344) (tgt := 1384) dL_law_40 (by decide) (by decide) (by decide) (by decide) (lcl_30 X hi hj h1 h2 h kk)
    | 31, _ => exact Y_tin (off := 1357) (tgt := 1397) dL_law_40 (by decide) (by decide) (by decide) (by decide) (lcl_31 X hi hj h1 h2 h kk)
    | 32, _ => exact Y_tin (off := 1382) (tgt := 1422) dL_law_40 (by decide) (by decide) (by decide) (by decide) (lcl_32 X hi hj h1 h2 h kk)
    | 33, _ => exact Y_tin (off := 1443) (tgt := 1483) dL_law_40 (by decide) (by decide) (by decide) (by decide) (lcl_33 X hi hj h1 h2 h kk)
    | 34, _ => exact Y_tin (off := 1492) (tgt := 1532) dL_law_40 (by decide) (by decide) (by decide) (by decide) (lcl_34 X hi hj h1 h2 h kk)
    | 35, _ => exact Y_tin (off := 1541) (tgt := 1581) dL_law_40 (by decide) (by decide) (by decide) (by decide) (lcl_35 X hi hj h1 h2 h kk)
    | 36, _ => exact Y_tin (off := 1608) (tgt := 1648) dL_law_40 (by decide) (by decide) (by decide) (by decide) (lcl_36 X hi hj h1 h2 h kk)
    | 37, _ => exact Y_tin (off := 1681) (tgt := 1721) dL_law_40 (by decide) (by decide) (by decide) (by decide) (lcl_37 X hi hj h1 h2 h kk)
    | 38, _ => exact Y_tin (off := 1706) (tgt := 1746) dL_law_40 (by decide) (by decide) (by decide) (by decide) (lcl_38 X hi hj h1 h2 h kk)
    | t + 39, ht => exact absurd ht (by omega)
theorem cmpL {L j : Nat} (hL : L ≤ 3072) (hj : j ≤ L + 6) : (nI L - (6 : Int32) < nI j) ↔ ¬ j + 6 ≤ L := by
  have e : (nI L - (6 : Int32)).toInt = (L : Int) - 6 := pk_sub_toInt (a := L) (b := 6) (by omega) (by decide)
  rw [fa_lt, e, nI_toInt (by omega)]
  omega
theorem law_loop (X : Lf E ad A b L z xs) (hi : wl_inj (Γ3 ad cy)) (hend : ∀ (kc ks : Nat) (lv : List (Nat × Value)) (w : W3), kc ≤ 601024 → ks ≤ 7293033 → Jx E (Γ3 ad cy) A fin kc ks RL cL_law 8 (some .boolean) 1777 lv [] w) : ∀ (n j kc ks : Nat) (w : W3), L + 6 ≤ n + j → j ≤ L + 6 → kc + L + 6 ≤ 601024 + j → ks + L + 6 ≤ 7293033 + j → RelE w.1 w.2.1 → Jx E (Γ3 ad cy) A fin kc ks RL cL_law 8 (some .boolean) 23 (lvL ad b j) [] w := by
  intro n
  induction n with
  | zero =>
    intro j kc ks w hn hj h1 h2 h
    refine Y_iload (q := 0) dL_law_23 rfl ?_
    refine Y_aload_n (q := 4) dL_law_25 rfl rfl ?_
    refine Y_slen dL_law_26 X.2.2.2.1 X.2.2.2.2.1 X.2.2.2.2.2.1 ?_
    refine Y_bipush (v := (6 : Int32)) dL_law_27 (by decide) ?_
    refine Y_isub dL_law_29 ?_
    exact Y_icmp_gt (tgt := 1777) dL_law_30 (by decide) (fun _ => hend kc ks _ w (by omega) (by omega)) (fun c => absurd ((cmpL X.2.2.2.2.2.2.1 hj).mpr (by omega)) c)
  | succ n ih =>
    intro j kc ks w hn hj h1 h2 h
    refine Y_iload (q := 0) dL_law_23 rfl ?_
    refine Y_aload_n (q := 4) dL_law_25 rfl rfl ?_
    refine Y_slen dL_law_26 X.2.2.2.1 X.2.2.2.2.1 X.2.2.2.2.2.1 ?_
    refine Y_bipush (v := (6 : Int32)) dL_law_27 (by decide) ?_
    refine Y_isub dL_law_29 ?_
    refine Y_icmp_gt (tgt := 1777) dL_law_30 (by decide) (fun _ => hend kc ks _ w (by omega) (by omega)) (fun c => ?_)
    have hj6 : j + 6 ≤ L := Decidable.byContradiction (fun q => c ((cmpL X.2.2.2.2.2.2.1 hj).mpr q))
    have hL := X.2.2.2.2.2.2.1
    refine Y_aload_n (q := 4) dL_law_33 rfl rfl ?_
    refine Y_iload (q := 0) dL_law_34 rfl ?_
    refine Y_sld dL_law_36 X.2.2.2.1 X.2.2.2.2.1 X.2.2.2.2.2.1 (inb_nI (by omega) (by omega)) ?_
    refine Y_bipush (v := (63 : Int32)) dL_law_37 (by decide) ?_
    refine Y_iand dL_law_39 ?_
    refine law_switch X hi hj6 (by omega) (by omega) h (fun w' h' => ?_)
    refine Y_iinc (q := 0) (v := nI (j + 6)) (lv' := lvL ad b (j + 6)) dL_law_1771 rfl (nI_k (j := j) (k := 6) (by omega)) (by decide) rfl ?_
    refine Y_goto (tgt := 23) dL_law_1774 (by decide) ?_
    exact ih (j + 6) (kc + 1) (ks + 6) w' (by omega) (by omega) (by omega) (by omega) h'
end

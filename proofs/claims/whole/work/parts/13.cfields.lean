theorem bp_m128 : (Int8.ofInt (-128)).toInt32 = (-128) := by decide
theorem bp_12 : (Int8.ofInt 12).toInt32 = 12 := by decide
theorem bp_16 : (Int8.ofInt 16).toInt32 = 16 := by decide
theorem bp_20 : (Int8.ofInt 20).toInt32 = 20 := by decide
theorem bp_30 : (Int8.ofInt 30).toInt32 = 30 := by decide
theorem bp_57 : (Int8.ofInt 57).toInt32 = 57 := by decide
theorem bp_63 : (Int8.ofInt 63).toInt32 = 63 := by decide
theorem sp_m32768 : (Int16.ofInt (-32768)).toInt32 = (-32768) := by decide
theorem sp_640 : (Int16.ofInt 640).toInt32 = 640 := by decide
theorem sw_out99_116 {x : Int32} (h0 : ¬ x = 99) (h1 : ¬ x = 100) (h2 : ¬ x = 101) (h3 : ¬ x = 102) (h4 : ¬ x = 103) (h5 : ¬ x = 104) (h6 : ¬ x = 105) (h7 : ¬ x = 106) (h8 : ¬ x = 107) (h9 : ¬ x = 108) (h10 : ¬ x = 109) (h11 : ¬ x = 110) (h12 : ¬ x = 111) (h13 : ¬ x = 112) (h14 : ¬ x = 113) (h15 : ¬ x = 114) (h16 : ¬ x = 115) (h17 : ¬ x = 116) : x.toInt < 99 ∨ 116 < x.toInt := by
  have q0 := lv_neT h0 (a := 99) (by decide)
  have q1 := lv_neT h1 (a := 100) (by decide)
  have q2 := lv_neT h2 (a := 101) (by decide)
  have q3 := lv_neT h3 (a := 102) (by decide)
  have q4 := lv_neT h4 (a := 103) (by decide)
  have q5 := lv_neT h5 (a := 104) (by decide)
  have q6 := lv_neT h6 (a := 105) (by decide)
  have q7 := lv_neT h7 (a := 106) (by decide)
  have q8 := lv_neT h8 (a := 107) (by decide)
  have q9 := lv_neT h9 (a := 108) (by decide)
  have q10 := lv_neT h10 (a := 109) (by decide)
  have q11 := lv_neT h11 (a := 110) (by decide)
  have q12 := lv_neT h12 (a := 111) (by decide)
  have q13 := lv_neT h13 (a := 112) (by decide)
  have q14 := lv_neT h14 (a := 113) (by decide)
  have q15 := lv_neT h15 (a := 114) (by decide)
  have q16 := lv_neT h16 (a := 115) (by decide)
  have q17 := lv_neT h17 (a := 116) (by decide)
  omega
theorem rt_fi {α β : Type} {f : α → β} {v : Int32} {w : α} {rv : Int32 × α} (h : some (v, w) = some rv) : (some (Value.int v), f w) = (some (Value.int rv.1), f rv.2) := by cases h; rfl
theorem rt_fl {α β : Type} {f : α → β} {v : Int64} {w : α} {rv : Int64 × α} (h : some (v, w) = some rv) : (some (Value.long v), f w) = (some (Value.long rv.1), f rv.2) := by cases h; rfl
theorem rt_fv {α β : Type} {f : α → β} {w rv : α} (h : some w = some rv) : ((none : Option Value), f w) = (none, f rv) := by cases h; rfl
theorem vu_oth {σ : CS} {a : Nat} {t t' : Ob} : ∀ b, b ≠ a → (va_up σ a t') b = (va_up σ a t) b := fun _ h => (vu_ne h).trans (vu_ne h).symm
theorem okT_1 : okT 1 := by unfold okT; omega
theorem okT_2 : okT 2 := by unfold okT; omega
theorem okT_3 : okT 3 := by unfold okT; omega
theorem cC_t0 {cy : Nat → ClassId} {ad : Nat → Nat} {w : CS} {t : Ob} {a : Nat} (ha : okT a) (ht : w a = t) : cellC cy ad w (8 * a + 2) = .inr (9, [.ref (ad 1), .int (oS t 1), .int (oS t 2), .ref (ad (8 * a + 3)), .ref (ad (8 * a + 4)), .ref (ad (8 * a + 5)), .ref (ad (8 * a + 6)), .ref (ad (8 * a + 7)), .ref (ad (8 * a + 8)), .ref (ad (8 * a + 9))]) := cC_t (j := 0) ha ht (by decide)
theorem cC_s0 {cy : Nat → ClassId} {ad : Nat → Nat} {w : CS} {t : Ob} {b : Nat} (hb : okS b) (ht : w b = t) : cellC cy ad w (2 * b + 70) = .inr (7, [.int (oS t 0), .int (oS t 1), .int (oS t 2), .int (oS t 3), .int (oS t 4), .ref (ad (2 * b + 71))]) := cC_s (j := 0) hb ht (by decide)
theorem tc_S {cy : Nat → ClassId} {ad : Nat → Nat} {t : Ob} {a k i : Nat} {v : Int32} (hi : i ≠ 0) : tcell cy ad (pS t k v) a i = tcell cy ad t a i := by
  unfold tcell; rw [if_neg hi, if_neg hi]; rfl
theorem sc_S {cy : Nat → ClassId} {ad : Nat → Nat} {t : Ob} {b k i : Nat} {v : Int32} (hi : i ≠ 0) : scell cy ad (pS t k v) b i = scell cy ad t b i := by
  unfold scell; rw [if_neg hi, if_neg hi]; rfl
theorem cC_k {cy : Nat → ClassId} {ad : Nat → Nat} {w : CS} {k : Nat} (hk : k < 8) : cellC cy ad w (2 + k) = .inr (kci k, []) := by
  have e0 : dm (2 + k) = 0 := by unfold dm; rw [if_pos (by omega)]
  have e1 : 2 + k - 2 = k := by omega
  unfold cellC; rw [e0]; unfold cellD
  rw [if_neg (by omega), if_neg (by omega), if_pos (by omega), e1]
theorem kc_ok {k : Nat} (hk : k < 8) : ∃ qc, vwCl[kci k]? = some qc := by
  rcases (show k = 0 ∨ k = 1 ∨ k = 2 ∨ k = 3 ∨ k = 4 ∨ k = 5 ∨ k = 6 ∨ k = 7 by omega) with rfl | rfl | rfl | rfl | rfl | rfl | rfl | rfl <;> exact ⟨_, rfl⟩
theorem k8 {k : Int32} (h : inb k 8 = true) : k = 0 ∨ k = 1 ∨ k = 2 ∨ k = 3 ∨ k = 4 ∨ k = 5 ∨ k = 6 ∨ k = 7 := by
  obtain ⟨j, hj, rfl⟩ := vp_in_of (inb_vp h) (by decide)
  rcases (show j = 0 ∨ j = 1 ∨ j = 2 ∨ j = 3 ∨ j = 4 ∨ j = 5 ∨ j = 6 ∨ j = 7 by omega) with rfl | rfl | rfl | rfl | rfl | rfl | rfl | rfl <;> decide
def cpok (sp dp n : Int32) : Bool := !decide (sp < 0) && !decide (dp < 0) && !decide (n < 0) && decide (sp.toNatClampNeg + n.toNatClampNeg ≤ 100) && decide (dp.toNatClampNeg + n.toNatClampNeg ≤ 100)
theorem cpok_ok {sp dp n : Int32} (h : cpok sp dp n = true) : ¬ sp < 0 ∧ ¬ dp < 0 ∧ ¬ n < 0 ∧ sp.toNatClampNeg + n.toNatClampNeg ≤ 100 ∧ dp.toNatClampNeg + n.toNatClampNeg ≤ 100 := by
  simp only [cpok, Bool.and_eq_true, Bool.not_eq_true', decide_eq_false_iff_not, decide_eq_true_eq] at h
  exact ⟨h.1.1.1.1, h.1.1.1.2, h.1.1.2, h.1.2, h.2⟩
section
variable {E : Ec} {ad : Nat → Nat} {cy : Nat → ClassId} {cc : ByteArray} {nL : Nat} {rt : Option FieldType} {r : Option Value × CS} {pc : Nat} {lv : List (Nat × Value)} {st : List Value} {own : String} {w : CS}
theorem J_twu {σ : CS} {a : Nat} {t : Ob} (k : ∀ t' : Ob, t' = t → Jw E (ΓC ad cy) own cc nL rt r pc lv st (va_up σ a t')) : Jw E (ΓC ad cy) own cc nL rt r pc lv st (va_up σ a t) := k t rfl
theorem gC_now (hd : decode cc pc = .ok (.getfield 36, 3)) (k : Jw E (ΓC ad cy) RX11 cc nL rt r (pc + 3) lv (.ref (ad (8 * 1 + 2)) :: st) w) : Jw E (ΓC ad cy) RX11 cc nL rt r pc lv (.ref (ad 0) :: st) w :=
  J_get (Γ := ΓC ad cy) (h := 0) (k := 0) (ci := 10) (T := TX11) (N := 9) (C := RX11) hd inX11 rfl (by decide) rfl tw_1_175 (by show 0 < 111; decide) rfl rfl k
theorem gC_saved (hd : decode cc pc = .ok (.getfield 42, 3)) (k : Jw E (ΓC ad cy) RX11 cc nL rt r (pc + 3) lv (.ref (ad (8 * 2 + 2)) :: st) w) : Jw E (ΓC ad cy) RX11 cc nL rt r pc lv (.ref (ad 0) :: st) w :=
  J_get (Γ := ΓC ad cy) (h := 0) (k := 1) (ci := 10) (T := TX11) (N := 9) (C := RX11) hd inX11 rfl (by decide) rfl tw_1_176 (by show 0 < 111; decide) rfl rfl k
theorem gC_minds (hd : decode cc pc = .ok (.getfield 45, 3)) (k : Jw E (ΓC ad cy) RX11 cc nL rt r (pc + 3) lv (.ref (ad 90) :: st) w) : Jw E (ΓC ad cy) RX11 cc nL rt r pc lv (.ref (ad 0) :: st) w :=
  J_get (Γ := ΓC ad cy) (h := 0) (k := 3) (ci := 10) (T := TX11) (N := 9) (C := RX11) hd inX11 rfl (by decide) rfl tw_1_178 (by show 0 < 111; decide) rfl rfl k
theorem gC_mind (hd : decode cc pc = .ok (.getfield 49, 3)) (k : Jw E (ΓC ad cy) RX11 cc nL rt r (pc + 3) lv (.ref (ad (8 * 3 + 2)) :: st) w) : Jw E (ΓC ad cy) RX11 cc nL rt r pc lv (.ref (ad 0) :: st) w :=
  J_get (Γ := ΓC ad cy) (h := 0) (k := 4) (ci := 10) (T := TX11) (N := 9) (C := RX11) hd inX11 rfl (by decide) rfl tw_1_179 (by show 0 < 111; decide) rfl rfl k
theorem gC_shelves (hd : decode cc pc = .ok (.getfield 54, 3)) (k : Jw E (ΓC ad cy) RX11 cc nL rt r (pc + 3) lv (.ref (ad 91) :: st) w) : Jw E (ΓC ad cy) RX11 cc nL rt r pc lv (.ref (ad 0) :: st) w :=
  J_get (Γ := ΓC ad cy) (h := 0) (k := 5) (ci := 10) (T := TX11) (N := 9) (C := RX11) hd inX11 rfl (by decide) rfl tw_1_180 (by show 0 < 111; decide) rfl rfl k
theorem gC_most (hd : decode cc pc = .ok (.getfield 59, 3)) (k : Jw E (ΓC ad cy) RX11 cc nL rt r (pc + 3) lv (.ref (ad 108) :: st) w) : Jw E (ΓC ad cy) RX11 cc nL rt r pc lv (.ref (ad 0) :: st) w :=
  J_get (Γ := ΓC ad cy) (h := 0) (k := 6) (ci := 10) (T := TX11) (N := 9) (C := RX11) hd inX11 rfl (by decide) rfl tw_1_181 (by show 0 < 111; decide) rfl rfl k
theorem gC_stories (hd : decode cc pc = .ok (.getfield 63, 3)) (k : Jw E (ΓC ad cy) RX11 cc nL rt r (pc + 3) lv (.ref (ad 109) :: st) w) : Jw E (ΓC ad cy) RX11 cc nL rt r pc lv (.ref (ad 0) :: st) w :=
  J_get (Γ := ΓC ad cy) (h := 0) (k := 7) (ci := 10) (T := TX11) (N := 9) (C := RX11) hd inX11 rfl (by decide) rfl tw_1_182 (by show 0 < 111; decide) rfl rfl k
theorem gC_gains (hd : decode cc pc = .ok (.getfield 66, 3)) (k : Jw E (ΓC ad cy) RX11 cc nL rt r (pc + 3) lv (.ref (ad 110) :: st) w) : Jw E (ΓC ad cy) RX11 cc nL rt r pc lv (.ref (ad 0) :: st) w :=
  J_get (Γ := ΓC ad cy) (h := 0) (k := 8) (ci := 10) (T := TX11) (N := 9) (C := RX11) hd inX11 rfl (by decide) rfl tw_1_183 (by show 0 < 111; decide) rfl rfl k
theorem gS_X11_sort {b : Nat} {t : Ob} (hd : decode cc pc = .ok (.getfield 73, 3)) (hb : okS b) (ht : w b = t) (k : Jw E (ΓC ad cy) RX11 cc nL rt r (pc + 3) lv (.int (oS t 3) :: st) w) : Jw E (ΓC ad cy) RX11 cc nL rt r pc lv (.ref (ad (2 * b + 70)) :: st) w :=
  J_get (Γ := ΓC ad cy) (h := 2 * b + 70) (k := 3) (ci := 7) (T := TX7) (N := 6) (C := RX7) hd inX7 rfl (by decide) rfl tw_1_154 (hS (j := 0) hb (by decide)) (cC_s0 hb ht) rfl k
theorem pS_X11_sort {b : Nat} {t : Ob} {v : Int32} {w' : CS} (hd : decode cc pc = .ok (.putfield 73, 3)) (hb : okS b) (ht : w b = t) (ht' : w' b = pS t 3 v) (ho : ∀ c, c ≠ b → w' c = w c) (k : Jw E (ΓC ad cy) RX11 cc nL rt r (pc + 3) lv (st) w') : Jw E (ΓC ad cy) RX11 cc nL rt r pc lv (.int v :: .ref (ad (2 * b + 70)) :: st) w :=
  J_put (Γ := ΓC ad cy) (h := 2 * b + 70) (k := 3) (ci := 7) (T := TX7) (N := 6) (C := RX7) (ty := .int) (ty0 := tyX7) hd inX7 tyX7_ok nmX7 rfl (by decide) rfl tw_1_154 rfl (by decide +kernel) rfl rfl (hS (j := 0) hb (by decide)) (cC_s0 hb ht) (Nat.le_of_ble_eq_true rfl) ((cC_s0 hb ht').trans rfl) (cC_sset (j := 0) hb ht ht' ho (fun _ _ h9 => sc_S h9)) k
theorem gS_X11_size {b : Nat} {t : Ob} (hd : decode cc pc = .ok (.getfield 87, 3)) (hb : okS b) (ht : w b = t) (k : Jw E (ΓC ad cy) RX11 cc nL rt r (pc + 3) lv (.int (oS t 4) :: st) w) : Jw E (ΓC ad cy) RX11 cc nL rt r pc lv (.ref (ad (2 * b + 70)) :: st) w :=
  J_get (Γ := ΓC ad cy) (h := 2 * b + 70) (k := 4) (ci := 7) (T := TX7) (N := 6) (C := RX7) hd inX7 rfl (by decide) rfl tw_1_156 (hS (j := 0) hb (by decide)) (cC_s0 hb ht) rfl k
theorem pS_X11_size {b : Nat} {t : Ob} {v : Int32} {w' : CS} (hd : decode cc pc = .ok (.putfield 87, 3)) (hb : okS b) (ht : w b = t) (ht' : w' b = pS t 4 v) (ho : ∀ c, c ≠ b → w' c = w c) (k : Jw E (ΓC ad cy) RX11 cc nL rt r (pc + 3) lv (st) w') : Jw E (ΓC ad cy) RX11 cc nL rt r pc lv (.int v :: .ref (ad (2 * b + 70)) :: st) w :=
  J_put (Γ := ΓC ad cy) (h := 2 * b + 70) (k := 4) (ci := 7) (T := TX7) (N := 6) (C := RX7) (ty := .int) (ty0 := tyX7) hd inX7 tyX7_ok nmX7 rfl (by decide) rfl tw_1_156 rfl (by decide +kernel) rfl rfl (hS (j := 0) hb (by decide)) (cC_s0 hb ht) (Nat.le_of_ble_eq_true rfl) ((cC_s0 hb ht').trans rfl) (cC_sset (j := 0) hb ht ht' ho (fun _ _ h9 => sc_S h9)) k
theorem gT_X11_kind {a : Nat} {t : Ob} (hd : decode cc pc = .ok (.getfield 106, 3)) (ha : okT a) (ht : w a = t) (k : Jw E (ΓC ad cy) RX11 cc nL rt r (pc + 3) lv (.ref (ad (8 * a + 6)) :: st) w) : Jw E (ΓC ad cy) RX11 cc nL rt r pc lv (.ref (ad (8 * a + 2)) :: st) w :=
  J_get (Γ := ΓC ad cy) (h := 8 * a + 2) (k := 6) (ci := 9) (T := TX10) (N := 10) (C := RX10) hd inX10 rfl (by decide) rfl tw_1_111 (hT (j := 0) ha (by decide)) (cC_t0 ha ht) rfl k
theorem gT_X11_figure {a : Nat} {t : Ob} (hd : decode cc pc = .ok (.getfield 109, 3)) (ha : okT a) (ht : w a = t) (k : Jw E (ΓC ad cy) RX11 cc nL rt r (pc + 3) lv (.ref (ad (8 * a + 7)) :: st) w) : Jw E (ΓC ad cy) RX11 cc nL rt r pc lv (.ref (ad (8 * a + 2)) :: st) w :=
  J_get (Γ := ΓC ad cy) (h := 8 * a + 2) (k := 7) (ci := 9) (T := TX10) (N := 10) (C := RX10) hd inX10 rfl (by decide) rfl tw_1_113 (hT (j := 0) ha (by decide)) (cC_t0 ha ht) rfl k
theorem gT_X11_caresFor {a : Nat} {t : Ob} (hd : decode cc pc = .ok (.getfield 112, 3)) (ha : okT a) (ht : w a = t) (k : Jw E (ΓC ad cy) RX11 cc nL rt r (pc + 3) lv (.ref (ad (8 * a + 8)) :: st) w) : Jw E (ΓC ad cy) RX11 cc nL rt r pc lv (.ref (ad (8 * a + 2)) :: st) w :=
  J_get (Γ := ΓC ad cy) (h := 8 * a + 2) (k := 8) (ci := 9) (T := TX10) (N := 10) (C := RX10) hd inX10 rfl (by decide) rfl tw_1_115 (hT (j := 0) ha (by decide)) (cC_t0 ha ht) rfl k
theorem gT_X11_day {a : Nat} {t : Ob} (hd : decode cc pc = .ok (.getfield 118, 3)) (ha : okT a) (ht : w a = t) (k : Jw E (ΓC ad cy) RX11 cc nL rt r (pc + 3) lv (.int (oS t 2) :: st) w) : Jw E (ΓC ad cy) RX11 cc nL rt r pc lv (.ref (ad (8 * a + 2)) :: st) w :=
  J_get (Γ := ΓC ad cy) (h := 8 * a + 2) (k := 2) (ci := 9) (T := TX10) (N := 10) (C := RX10) hd inX10 rfl (by decide) rfl tw_1_103 (hT (j := 0) ha (by decide)) (cC_t0 ha ht) rfl k
theorem gT_X11_truth {a : Nat} {t : Ob} (hd : decode cc pc = .ok (.getfield 128, 3)) (ha : okT a) (ht : w a = t) (k : Jw E (ΓC ad cy) RX11 cc nL rt r (pc + 3) lv (.ref (ad (8 * a + 3)) :: st) w) : Jw E (ΓC ad cy) RX11 cc nL rt r pc lv (.ref (ad (8 * a + 2)) :: st) w :=
  J_get (Γ := ΓC ad cy) (h := 8 * a + 2) (k := 3) (ci := 9) (T := TX10) (N := 10) (C := RX10) hd inX10 rfl (by decide) rfl tw_1_105 (hT (j := 0) ha (by decide)) (cC_t0 ha ht) rfl k
theorem gT_X11_worth {a : Nat} {t : Ob} (hd : decode cc pc = .ok (.getfield 131, 3)) (ha : okT a) (ht : w a = t) (k : Jw E (ΓC ad cy) RX11 cc nL rt r (pc + 3) lv (.ref (ad (8 * a + 4)) :: st) w) : Jw E (ΓC ad cy) RX11 cc nL rt r pc lv (.ref (ad (8 * a + 2)) :: st) w :=
  J_get (Γ := ΓC ad cy) (h := 8 * a + 2) (k := 4) (ci := 9) (T := TX10) (N := 10) (C := RX10) hd inX10 rfl (by decide) rfl tw_1_107 (hT (j := 0) ha (by decide)) (cC_t0 ha ht) rfl k
theorem gT_X11_owner {a : Nat} {t : Ob} (hd : decode cc pc = .ok (.getfield 134, 3)) (ha : okT a) (ht : w a = t) (k : Jw E (ΓC ad cy) RX11 cc nL rt r (pc + 3) lv (.ref (ad (8 * a + 5)) :: st) w) : Jw E (ΓC ad cy) RX11 cc nL rt r pc lv (.ref (ad (8 * a + 2)) :: st) w :=
  J_get (Γ := ΓC ad cy) (h := 8 * a + 2) (k := 5) (ci := 9) (T := TX10) (N := 10) (C := RX10) hd inX10 rfl (by decide) rfl tw_1_109 (hT (j := 0) ha (by decide)) (cC_t0 ha ht) rfl k
theorem gT_X11_knows {a : Nat} {t : Ob} (hd : decode cc pc = .ok (.getfield 140, 3)) (ha : okT a) (ht : w a = t) (k : Jw E (ΓC ad cy) RX11 cc nL rt r (pc + 3) lv (.ref (ad (8 * a + 9)) :: st) w) : Jw E (ΓC ad cy) RX11 cc nL rt r pc lv (.ref (ad (8 * a + 2)) :: st) w :=
  J_get (Γ := ΓC ad cy) (h := 8 * a + 2) (k := 9) (ci := 9) (T := TX10) (N := 10) (C := RX10) hd inX10 rfl (by decide) rfl tw_1_117 (hT (j := 0) ha (by decide)) (cC_t0 ha ht) rfl k
theorem gS_X11_kind {b : Nat} {t : Ob} (hd : decode cc pc = .ok (.getfield 155, 3)) (hb : okS b) (ht : w b = t) (k : Jw E (ΓC ad cy) RX11 cc nL rt r (pc + 3) lv (.int (oS t 1) :: st) w) : Jw E (ΓC ad cy) RX11 cc nL rt r pc lv (.ref (ad (2 * b + 70)) :: st) w :=
  J_get (Γ := ΓC ad cy) (h := 2 * b + 70) (k := 1) (ci := 7) (T := TX7) (N := 6) (C := RX7) hd inX7 rfl (by decide) rfl tw_1_151 (hS (j := 0) hb (by decide)) (cC_s0 hb ht) rfl k
theorem pS_X11_kind {b : Nat} {t : Ob} {v : Int32} {w' : CS} (hd : decode cc pc = .ok (.putfield 155, 3)) (hb : okS b) (ht : w b = t) (ht' : w' b = pS t 1 v) (ho : ∀ c, c ≠ b → w' c = w c) (k : Jw E (ΓC ad cy) RX11 cc nL rt r (pc + 3) lv (st) w') : Jw E (ΓC ad cy) RX11 cc nL rt r pc lv (.int v :: .ref (ad (2 * b + 70)) :: st) w :=
  J_put (Γ := ΓC ad cy) (h := 2 * b + 70) (k := 1) (ci := 7) (T := TX7) (N := 6) (C := RX7) (ty := .int) (ty0 := tyX7) hd inX7 tyX7_ok nmX7 rfl (by decide) rfl tw_1_151 rfl (by decide +kernel) rfl rfl (hS (j := 0) hb (by decide)) (cC_s0 hb ht) (Nat.le_of_ble_eq_true rfl) ((cC_s0 hb ht').trans rfl) (cC_sset (j := 0) hb ht ht' ho (fun _ _ h9 => sc_S h9)) k
theorem gS_X11_figure {b : Nat} {t : Ob} (hd : decode cc pc = .ok (.getfield 157, 3)) (hb : okS b) (ht : w b = t) (k : Jw E (ΓC ad cy) RX11 cc nL rt r (pc + 3) lv (.int (oS t 2) :: st) w) : Jw E (ΓC ad cy) RX11 cc nL rt r pc lv (.ref (ad (2 * b + 70)) :: st) w :=
  J_get (Γ := ΓC ad cy) (h := 2 * b + 70) (k := 2) (ci := 7) (T := TX7) (N := 6) (C := RX7) hd inX7 rfl (by decide) rfl tw_1_153 (hS (j := 0) hb (by decide)) (cC_s0 hb ht) rfl k
theorem pS_X11_figure {b : Nat} {t : Ob} {v : Int32} {w' : CS} (hd : decode cc pc = .ok (.putfield 157, 3)) (hb : okS b) (ht : w b = t) (ht' : w' b = pS t 2 v) (ho : ∀ c, c ≠ b → w' c = w c) (k : Jw E (ΓC ad cy) RX11 cc nL rt r (pc + 3) lv (st) w') : Jw E (ΓC ad cy) RX11 cc nL rt r pc lv (.int v :: .ref (ad (2 * b + 70)) :: st) w :=
  J_put (Γ := ΓC ad cy) (h := 2 * b + 70) (k := 2) (ci := 7) (T := TX7) (N := 6) (C := RX7) (ty := .int) (ty0 := tyX7) hd inX7 tyX7_ok nmX7 rfl (by decide) rfl tw_1_153 rfl (by decide +kernel) rfl rfl (hS (j := 0) hb (by decide)) (cC_s0 hb ht) (Nat.le_of_ble_eq_true rfl) ((cC_s0 hb ht').trans rfl) (cC_sset (j := 0) hb ht ht' ho (fun _ _ h9 => sc_S h9)) k
theorem gT_X11_people {a : Nat} {t : Ob} (hd : decode cc pc = .ok (.getfield 163, 3)) (ha : okT a) (ht : w a = t) (k : Jw E (ΓC ad cy) RX11 cc nL rt r (pc + 3) lv (.int (oS t 1) :: st) w) : Jw E (ΓC ad cy) RX11 cc nL rt r pc lv (.ref (ad (8 * a + 2)) :: st) w :=
  J_get (Γ := ΓC ad cy) (h := 8 * a + 2) (k := 1) (ci := 9) (T := TX10) (N := 10) (C := RX10) hd inX10 rfl (by decide) rfl tw_1_101 (hT (j := 0) ha (by decide)) (cC_t0 ha ht) rfl k
theorem gS_X11_cells {b : Nat} {t : Ob} (hd : decode cc pc = .ok (.getfield 251, 3)) (hb : okS b) (ht : w b = t) (k : Jw E (ΓC ad cy) RX11 cc nL rt r (pc + 3) lv (.ref (ad (2 * b + 71)) :: st) w) : Jw E (ΓC ad cy) RX11 cc nL rt r pc lv (.ref (ad (2 * b + 70)) :: st) w :=
  J_get (Γ := ΓC ad cy) (h := 2 * b + 70) (k := 5) (ci := 7) (T := TX7) (N := 6) (C := RX7) hd inX7 rfl (by decide) rfl tw_1_161 (hS (j := 0) hb (by decide)) (cC_s0 hb ht) rfl k
theorem gC_isSaved (hd : decode cc pc = .ok (.getfield 263, 3)) (k : Jw E (ΓC ad cy) RX11 cc nL rt r (pc + 3) lv (.int (oS (w 0) 2) :: st) w) : Jw E (ΓC ad cy) RX11 cc nL rt r pc lv (.ref (ad 0) :: st) w :=
  J_get (Γ := ΓC ad cy) (h := 0) (k := 2) (ci := 10) (T := TX11) (N := 9) (C := RX11) hd inX11 rfl (by decide) rfl tw_1_177 (by show 0 < 111; decide) rfl rfl k
theorem cC_0set {w' : CS} {k : Nat} {v : Int32} (hw : w' 0 = pS (w 0) k v) (ho : ∀ b, b ≠ 0 → w' b = w b) : ∀ q, q < 111 → q ≠ 0 → cellC cy ad w' q = cellC cy ad w q := by
  intro q hq hne
  by_cases hd : dm q = 0
  · unfold cellC; rw [hd, hw]
    have hc : q < 10 ∨ q = 90 ∨ q = 91 ∨ 108 ≤ q := by
      unfold dm at hd
      split at hd
      · omega
      · split at hd
        · omega
        · split at hd
          · omega
          · split at hd <;> omega
    unfold cellD
    rw [if_neg hne, if_neg hne]
    rcases hc with h | h | h | h
    · by_cases h1 : q = 1
      · rw [if_pos h1, if_pos h1]
      · rw [if_neg h1, if_neg h1, if_pos h, if_pos h]
    · subst h; rfl
    · subst h; rfl
    · rw [if_neg (by omega), if_neg (by omega), if_neg (by omega), if_neg (by omega), if_neg (by omega), if_neg (by omega), if_neg (by omega), if_neg (by omega), if_neg (by omega), if_neg (by omega), if_neg (by omega), if_neg (by omega)]
      rfl
  · unfold cellC; rw [ho _ hd]
theorem pC_isSaved {v : Int32} (hd : decode cc pc = .ok (.putfield 263, 3)) (hz : isZ v = true) (k : Jw E (ΓC ad cy) RX11 cc nL rt r (pc + 3) lv (st) (va_up w 0 (pS (w 0) 2 v))) : Jw E (ΓC ad cy) RX11 cc nL rt r pc lv (.int v :: .ref (ad 0) :: st) w :=
  J_put (Γ := ΓC ad cy) (h := 0) (k := 2) (ci := 10) (T := TX11) (N := 9) (C := RX11) (ty := .boolean) (ty0 := tyX11) hd inX11 tyX11_ok nmX11 rfl (by decide) rfl tw_1_177 rfl (by decide +kernel) (isZ_narrow hz) (isZ_fits hz) (by show 0 < 111; decide) rfl (Nat.le_of_ble_eq_true rfl) rfl (cC_0set vu_at (fun _ h9 => vu_ne h9)) k
theorem gS_X11_holds {b : Nat} {t : Ob} (hd : decode cc pc = .ok (.getfield 270, 3)) (hb : okS b) (ht : w b = t) (k : Jw E (ΓC ad cy) RX11 cc nL rt r (pc + 3) lv (.int (oS t 0) :: st) w) : Jw E (ΓC ad cy) RX11 cc nL rt r pc lv (.ref (ad (2 * b + 70)) :: st) w :=
  J_get (Γ := ΓC ad cy) (h := 2 * b + 70) (k := 0) (ci := 7) (T := TX7) (N := 6) (C := RX7) hd inX7 rfl (by decide) rfl tw_1_149 (hS (j := 0) hb (by decide)) (cC_s0 hb ht) rfl k
theorem pS_X11_holds {b : Nat} {t : Ob} {v : Int32} {w' : CS} (hd : decode cc pc = .ok (.putfield 270, 3)) (hb : okS b) (ht : w b = t) (ht' : w' b = pS t 0 v) (ho : ∀ c, c ≠ b → w' c = w c) (k : Jw E (ΓC ad cy) RX11 cc nL rt r (pc + 3) lv (st) w') : Jw E (ΓC ad cy) RX11 cc nL rt r pc lv (.int v :: .ref (ad (2 * b + 70)) :: st) w :=
  J_put (Γ := ΓC ad cy) (h := 2 * b + 70) (k := 0) (ci := 7) (T := TX7) (N := 6) (C := RX7) (ty := .int) (ty0 := tyX7) hd inX7 tyX7_ok nmX7 rfl (by decide) rfl tw_1_149 rfl (by decide +kernel) rfl rfl (hS (j := 0) hb (by decide)) (cC_s0 hb ht) (Nat.le_of_ble_eq_true rfl) ((cC_s0 hb ht').trans rfl) (cC_sset (j := 0) hb ht ht' ho (fun _ _ h9 => sc_S h9)) k
theorem gT_X11_kinds {a : Nat} {t : Ob} (hd : decode cc pc = .ok (.getfield 306, 3)) (ha : okT a) (ht : w a = t) (k : Jw E (ΓC ad cy) RX11 cc nL rt r (pc + 3) lv (.ref (ad 1) :: st) w) : Jw E (ΓC ad cy) RX11 cc nL rt r pc lv (.ref (ad (8 * a + 2)) :: st) w :=
  J_get (Γ := ΓC ad cy) (h := 8 * a + 2) (k := 0) (ci := 9) (T := TX10) (N := 10) (C := RX10) hd inX10 rfl (by decide) rfl tw_1_99 (hT (j := 0) ha (by decide)) (cC_t0 ha ht) rfl k
theorem gS_X7_cells {b : Nat} {t : Ob} (hd : decode cc pc = .ok (.getfield 9, 3)) (hb : okS b) (ht : w b = t) (k : Jw E (ΓC ad cy) RX7 cc nL rt r (pc + 3) lv (.ref (ad (2 * b + 71)) :: st) w) : Jw E (ΓC ad cy) RX7 cc nL rt r pc lv (.ref (ad (2 * b + 70)) :: st) w :=
  J_get (Γ := ΓC ad cy) (h := 2 * b + 70) (k := 5) (ci := 7) (T := TX7) (N := 6) (C := RX7) hd inX7 rfl (by decide) rfl tw_1_159 (hS (j := 0) hb (by decide)) (cC_s0 hb ht) rfl k
theorem gS_X7_holds {b : Nat} {t : Ob} (hd : decode cc pc = .ok (.getfield 15, 3)) (hb : okS b) (ht : w b = t) (k : Jw E (ΓC ad cy) RX7 cc nL rt r (pc + 3) lv (.int (oS t 0) :: st) w) : Jw E (ΓC ad cy) RX7 cc nL rt r pc lv (.ref (ad (2 * b + 70)) :: st) w :=
  J_get (Γ := ΓC ad cy) (h := 2 * b + 70) (k := 0) (ci := 7) (T := TX7) (N := 6) (C := RX7) hd inX7 rfl (by decide) rfl tw_1_148 (hS (j := 0) hb (by decide)) (cC_s0 hb ht) rfl k
theorem pS_X7_holds {b : Nat} {t : Ob} {v : Int32} {w' : CS} (hd : decode cc pc = .ok (.putfield 15, 3)) (hb : okS b) (ht : w b = t) (ht' : w' b = pS t 0 v) (ho : ∀ c, c ≠ b → w' c = w c) (k : Jw E (ΓC ad cy) RX7 cc nL rt r (pc + 3) lv (st) w') : Jw E (ΓC ad cy) RX7 cc nL rt r pc lv (.int v :: .ref (ad (2 * b + 70)) :: st) w :=
  J_put (Γ := ΓC ad cy) (h := 2 * b + 70) (k := 0) (ci := 7) (T := TX7) (N := 6) (C := RX7) (ty := .int) (ty0 := tyX7) hd inX7 tyX7_ok nmX7 rfl (by decide) rfl tw_1_148 rfl (by decide +kernel) rfl rfl (hS (j := 0) hb (by decide)) (cC_s0 hb ht) (Nat.le_of_ble_eq_true rfl) ((cC_s0 hb ht').trans rfl) (cC_sset (j := 0) hb ht ht' ho (fun _ _ h9 => sc_S h9)) k
theorem gS_X7_kind {b : Nat} {t : Ob} (hd : decode cc pc = .ok (.getfield 19, 3)) (hb : okS b) (ht : w b = t) (k : Jw E (ΓC ad cy) RX7 cc nL rt r (pc + 3) lv (.int (oS t 1) :: st) w) : Jw E (ΓC ad cy) RX7 cc nL rt r pc lv (.ref (ad (2 * b + 70)) :: st) w :=
  J_get (Γ := ΓC ad cy) (h := 2 * b + 70) (k := 1) (ci := 7) (T := TX7) (N := 6) (C := RX7) hd inX7 rfl (by decide) rfl tw_1_150 (hS (j := 0) hb (by decide)) (cC_s0 hb ht) rfl k
theorem pS_X7_kind {b : Nat} {t : Ob} {v : Int32} {w' : CS} (hd : decode cc pc = .ok (.putfield 19, 3)) (hb : okS b) (ht : w b = t) (ht' : w' b = pS t 1 v) (ho : ∀ c, c ≠ b → w' c = w c) (k : Jw E (ΓC ad cy) RX7 cc nL rt r (pc + 3) lv (st) w') : Jw E (ΓC ad cy) RX7 cc nL rt r pc lv (.int v :: .ref (ad (2 * b + 70)) :: st) w :=
  J_put (Γ := ΓC ad cy) (h := 2 * b + 70) (k := 1) (ci := 7) (T := TX7) (N := 6) (C := RX7) (ty := .int) (ty0 := tyX7) hd inX7 tyX7_ok nmX7 rfl (by decide) rfl tw_1_150 rfl (by decide +kernel) rfl rfl (hS (j := 0) hb (by decide)) (cC_s0 hb ht) (Nat.le_of_ble_eq_true rfl) ((cC_s0 hb ht').trans rfl) (cC_sset (j := 0) hb ht ht' ho (fun _ _ h9 => sc_S h9)) k
theorem gS_X7_figure {b : Nat} {t : Ob} (hd : decode cc pc = .ok (.getfield 22, 3)) (hb : okS b) (ht : w b = t) (k : Jw E (ΓC ad cy) RX7 cc nL rt r (pc + 3) lv (.int (oS t 2) :: st) w) : Jw E (ΓC ad cy) RX7 cc nL rt r pc lv (.ref (ad (2 * b + 70)) :: st) w :=
  J_get (Γ := ΓC ad cy) (h := 2 * b + 70) (k := 2) (ci := 7) (T := TX7) (N := 6) (C := RX7) hd inX7 rfl (by decide) rfl tw_1_152 (hS (j := 0) hb (by decide)) (cC_s0 hb ht) rfl k
theorem pS_X7_figure {b : Nat} {t : Ob} {v : Int32} {w' : CS} (hd : decode cc pc = .ok (.putfield 22, 3)) (hb : okS b) (ht : w b = t) (ht' : w' b = pS t 2 v) (ho : ∀ c, c ≠ b → w' c = w c) (k : Jw E (ΓC ad cy) RX7 cc nL rt r (pc + 3) lv (st) w') : Jw E (ΓC ad cy) RX7 cc nL rt r pc lv (.int v :: .ref (ad (2 * b + 70)) :: st) w :=
  J_put (Γ := ΓC ad cy) (h := 2 * b + 70) (k := 2) (ci := 7) (T := TX7) (N := 6) (C := RX7) (ty := .int) (ty0 := tyX7) hd inX7 tyX7_ok nmX7 rfl (by decide) rfl tw_1_152 rfl (by decide +kernel) rfl rfl (hS (j := 0) hb (by decide)) (cC_s0 hb ht) (Nat.le_of_ble_eq_true rfl) ((cC_s0 hb ht').trans rfl) (cC_sset (j := 0) hb ht ht' ho (fun _ _ h9 => sc_S h9)) k
theorem gS_X7_sort {b : Nat} {t : Ob} (hd : decode cc pc = .ok (.getfield 25, 3)) (hb : okS b) (ht : w b = t) (k : Jw E (ΓC ad cy) RX7 cc nL rt r (pc + 3) lv (.int (oS t 3) :: st) w) : Jw E (ΓC ad cy) RX7 cc nL rt r pc lv (.ref (ad (2 * b + 70)) :: st) w :=
  J_get (Γ := ΓC ad cy) (h := 2 * b + 70) (k := 3) (ci := 7) (T := TX7) (N := 6) (C := RX7) hd inX7 rfl (by decide) rfl tw_1_155 (hS (j := 0) hb (by decide)) (cC_s0 hb ht) rfl k
theorem pS_X7_sort {b : Nat} {t : Ob} {v : Int32} {w' : CS} (hd : decode cc pc = .ok (.putfield 25, 3)) (hb : okS b) (ht : w b = t) (ht' : w' b = pS t 3 v) (ho : ∀ c, c ≠ b → w' c = w c) (k : Jw E (ΓC ad cy) RX7 cc nL rt r (pc + 3) lv (st) w') : Jw E (ΓC ad cy) RX7 cc nL rt r pc lv (.int v :: .ref (ad (2 * b + 70)) :: st) w :=
  J_put (Γ := ΓC ad cy) (h := 2 * b + 70) (k := 3) (ci := 7) (T := TX7) (N := 6) (C := RX7) (ty := .int) (ty0 := tyX7) hd inX7 tyX7_ok nmX7 rfl (by decide) rfl tw_1_155 rfl (by decide +kernel) rfl rfl (hS (j := 0) hb (by decide)) (cC_s0 hb ht) (Nat.le_of_ble_eq_true rfl) ((cC_s0 hb ht').trans rfl) (cC_sset (j := 0) hb ht ht' ho (fun _ _ h9 => sc_S h9)) k
theorem gS_X7_size {b : Nat} {t : Ob} (hd : decode cc pc = .ok (.getfield 28, 3)) (hb : okS b) (ht : w b = t) (k : Jw E (ΓC ad cy) RX7 cc nL rt r (pc + 3) lv (.int (oS t 4) :: st) w) : Jw E (ΓC ad cy) RX7 cc nL rt r pc lv (.ref (ad (2 * b + 70)) :: st) w :=
  J_get (Γ := ΓC ad cy) (h := 2 * b + 70) (k := 4) (ci := 7) (T := TX7) (N := 6) (C := RX7) hd inX7 rfl (by decide) rfl tw_1_157 (hS (j := 0) hb (by decide)) (cC_s0 hb ht) rfl k
theorem pS_X7_size {b : Nat} {t : Ob} {v : Int32} {w' : CS} (hd : decode cc pc = .ok (.putfield 28, 3)) (hb : okS b) (ht : w b = t) (ht' : w' b = pS t 4 v) (ho : ∀ c, c ≠ b → w' c = w c) (k : Jw E (ΓC ad cy) RX7 cc nL rt r (pc + 3) lv (st) w') : Jw E (ΓC ad cy) RX7 cc nL rt r pc lv (.int v :: .ref (ad (2 * b + 70)) :: st) w :=
  J_put (Γ := ΓC ad cy) (h := 2 * b + 70) (k := 4) (ci := 7) (T := TX7) (N := 6) (C := RX7) (ty := .int) (ty0 := tyX7) hd inX7 tyX7_ok nmX7 rfl (by decide) rfl tw_1_157 rfl (by decide +kernel) rfl rfl (hS (j := 0) hb (by decide)) (cC_s0 hb ht) (Nat.le_of_ble_eq_true rfl) ((cC_s0 hb ht').trans rfl) (cC_sset (j := 0) hb ht ht' ho (fun _ _ h9 => sc_S h9)) k
theorem gS_X9_size {b : Nat} {t : Ob} (hd : decode cc pc = .ok (.getfield 18, 3)) (hb : okS b) (ht : w b = t) (k : Jw E (ΓC ad cy) RX9 cc nL rt r (pc + 3) lv (.int (oS t 4) :: st) w) : Jw E (ΓC ad cy) RX9 cc nL rt r pc lv (.ref (ad (2 * b + 70)) :: st) w :=
  J_get (Γ := ΓC ad cy) (h := 2 * b + 70) (k := 4) (ci := 7) (T := TX7) (N := 6) (C := RX7) hd inX7 rfl (by decide) rfl tw_1_158 (hS (j := 0) hb (by decide)) (cC_s0 hb ht) rfl k
theorem pS_X9_size {b : Nat} {t : Ob} {v : Int32} {w' : CS} (hd : decode cc pc = .ok (.putfield 18, 3)) (hb : okS b) (ht : w b = t) (ht' : w' b = pS t 4 v) (ho : ∀ c, c ≠ b → w' c = w c) (k : Jw E (ΓC ad cy) RX9 cc nL rt r (pc + 3) lv (st) w') : Jw E (ΓC ad cy) RX9 cc nL rt r pc lv (.int v :: .ref (ad (2 * b + 70)) :: st) w :=
  J_put (Γ := ΓC ad cy) (h := 2 * b + 70) (k := 4) (ci := 7) (T := TX7) (N := 6) (C := RX7) (ty := .int) (ty0 := tyX7) hd inX7 tyX7_ok nmX7 rfl (by decide) rfl tw_1_158 rfl (by decide +kernel) rfl rfl (hS (j := 0) hb (by decide)) (cC_s0 hb ht) (Nat.le_of_ble_eq_true rfl) ((cC_s0 hb ht').trans rfl) (cC_sset (j := 0) hb ht ht' ho (fun _ _ h9 => sc_S h9)) k
theorem gS_X9_cells {b : Nat} {t : Ob} (hd : decode cc pc = .ok (.getfield 24, 3)) (hb : okS b) (ht : w b = t) (k : Jw E (ΓC ad cy) RX9 cc nL rt r (pc + 3) lv (.ref (ad (2 * b + 71)) :: st) w) : Jw E (ΓC ad cy) RX9 cc nL rt r pc lv (.ref (ad (2 * b + 70)) :: st) w :=
  J_get (Γ := ΓC ad cy) (h := 2 * b + 70) (k := 5) (ci := 7) (T := TX7) (N := 6) (C := RX7) hd inX7 rfl (by decide) rfl tw_1_160 (hS (j := 0) hb (by decide)) (cC_s0 hb ht) rfl k
theorem gT_X10_kinds {a : Nat} {t : Ob} (hd : decode cc pc = .ok (.getfield 9, 3)) (ha : okT a) (ht : w a = t) (k : Jw E (ΓC ad cy) RX10 cc nL rt r (pc + 3) lv (.ref (ad 1) :: st) w) : Jw E (ΓC ad cy) RX10 cc nL rt r pc lv (.ref (ad (8 * a + 2)) :: st) w :=
  J_get (Γ := ΓC ad cy) (h := 8 * a + 2) (k := 0) (ci := 9) (T := TX10) (N := 10) (C := RX10) hd inX10 rfl (by decide) rfl tw_1_98 (hT (j := 0) ha (by decide)) (cC_t0 ha ht) rfl k
theorem gT_X10_truth {a : Nat} {t : Ob} (hd : decode cc pc = .ok (.getfield 15, 3)) (ha : okT a) (ht : w a = t) (k : Jw E (ΓC ad cy) RX10 cc nL rt r (pc + 3) lv (.ref (ad (8 * a + 3)) :: st) w) : Jw E (ΓC ad cy) RX10 cc nL rt r pc lv (.ref (ad (8 * a + 2)) :: st) w :=
  J_get (Γ := ΓC ad cy) (h := 8 * a + 2) (k := 3) (ci := 9) (T := TX10) (N := 10) (C := RX10) hd inX10 rfl (by decide) rfl tw_1_104 (hT (j := 0) ha (by decide)) (cC_t0 ha ht) rfl k
theorem gT_X10_worth {a : Nat} {t : Ob} (hd : decode cc pc = .ok (.getfield 19, 3)) (ha : okT a) (ht : w a = t) (k : Jw E (ΓC ad cy) RX10 cc nL rt r (pc + 3) lv (.ref (ad (8 * a + 4)) :: st) w) : Jw E (ΓC ad cy) RX10 cc nL rt r pc lv (.ref (ad (8 * a + 2)) :: st) w :=
  J_get (Γ := ΓC ad cy) (h := 8 * a + 2) (k := 4) (ci := 9) (T := TX10) (N := 10) (C := RX10) hd inX10 rfl (by decide) rfl tw_1_106 (hT (j := 0) ha (by decide)) (cC_t0 ha ht) rfl k
theorem gT_X10_owner {a : Nat} {t : Ob} (hd : decode cc pc = .ok (.getfield 22, 3)) (ha : okT a) (ht : w a = t) (k : Jw E (ΓC ad cy) RX10 cc nL rt r (pc + 3) lv (.ref (ad (8 * a + 5)) :: st) w) : Jw E (ΓC ad cy) RX10 cc nL rt r pc lv (.ref (ad (8 * a + 2)) :: st) w :=
  J_get (Γ := ΓC ad cy) (h := 8 * a + 2) (k := 5) (ci := 9) (T := TX10) (N := 10) (C := RX10) hd inX10 rfl (by decide) rfl tw_1_108 (hT (j := 0) ha (by decide)) (cC_t0 ha ht) rfl k
theorem gT_X10_kind {a : Nat} {t : Ob} (hd : decode cc pc = .ok (.getfield 25, 3)) (ha : okT a) (ht : w a = t) (k : Jw E (ΓC ad cy) RX10 cc nL rt r (pc + 3) lv (.ref (ad (8 * a + 6)) :: st) w) : Jw E (ΓC ad cy) RX10 cc nL rt r pc lv (.ref (ad (8 * a + 2)) :: st) w :=
  J_get (Γ := ΓC ad cy) (h := 8 * a + 2) (k := 6) (ci := 9) (T := TX10) (N := 10) (C := RX10) hd inX10 rfl (by decide) rfl tw_1_110 (hT (j := 0) ha (by decide)) (cC_t0 ha ht) rfl k
theorem gT_X10_figure {a : Nat} {t : Ob} (hd : decode cc pc = .ok (.getfield 28, 3)) (ha : okT a) (ht : w a = t) (k : Jw E (ΓC ad cy) RX10 cc nL rt r (pc + 3) lv (.ref (ad (8 * a + 7)) :: st) w) : Jw E (ΓC ad cy) RX10 cc nL rt r pc lv (.ref (ad (8 * a + 2)) :: st) w :=
  J_get (Γ := ΓC ad cy) (h := 8 * a + 2) (k := 7) (ci := 9) (T := TX10) (N := 10) (C := RX10) hd inX10 rfl (by decide) rfl tw_1_112 (hT (j := 0) ha (by decide)) (cC_t0 ha ht) rfl k
theorem gT_X10_caresFor {a : Nat} {t : Ob} (hd : decode cc pc = .ok (.getfield 31, 3)) (ha : okT a) (ht : w a = t) (k : Jw E (ΓC ad cy) RX10 cc nL rt r (pc + 3) lv (.ref (ad (8 * a + 8)) :: st) w) : Jw E (ΓC ad cy) RX10 cc nL rt r pc lv (.ref (ad (8 * a + 2)) :: st) w :=
  J_get (Γ := ΓC ad cy) (h := 8 * a + 2) (k := 8) (ci := 9) (T := TX10) (N := 10) (C := RX10) hd inX10 rfl (by decide) rfl tw_1_114 (hT (j := 0) ha (by decide)) (cC_t0 ha ht) rfl k
theorem gT_X10_knows {a : Nat} {t : Ob} (hd : decode cc pc = .ok (.getfield 34, 3)) (ha : okT a) (ht : w a = t) (k : Jw E (ΓC ad cy) RX10 cc nL rt r (pc + 3) lv (.ref (ad (8 * a + 9)) :: st) w) : Jw E (ΓC ad cy) RX10 cc nL rt r pc lv (.ref (ad (8 * a + 2)) :: st) w :=
  J_get (Γ := ΓC ad cy) (h := 8 * a + 2) (k := 9) (ci := 9) (T := TX10) (N := 10) (C := RX10) hd inX10 rfl (by decide) rfl tw_1_116 (hT (j := 0) ha (by decide)) (cC_t0 ha ht) rfl k
theorem gT_X10_people {a : Nat} {t : Ob} (hd : decode cc pc = .ok (.getfield 43, 3)) (ha : okT a) (ht : w a = t) (k : Jw E (ΓC ad cy) RX10 cc nL rt r (pc + 3) lv (.int (oS t 1) :: st) w) : Jw E (ΓC ad cy) RX10 cc nL rt r pc lv (.ref (ad (8 * a + 2)) :: st) w :=
  J_get (Γ := ΓC ad cy) (h := 8 * a + 2) (k := 1) (ci := 9) (T := TX10) (N := 10) (C := RX10) hd inX10 rfl (by decide) rfl tw_1_100 (hT (j := 0) ha (by decide)) (cC_t0 ha ht) rfl k
theorem pT_X10_people {σ : CS} {a : Nat} {t : Ob} {v : Int32} (hd : decode cc pc = .ok (.putfield 43, 3)) (ha : okT a) (k : Jw E (ΓC ad cy) RX10 cc nL rt r (pc + 3) lv (st) (va_up σ a (pS t 1 v))) : Jw E (ΓC ad cy) RX10 cc nL rt r pc lv (.int v :: .ref (ad (8 * a + 2)) :: st) (va_up σ a t) :=
  J_put (Γ := ΓC ad cy) (h := 8 * a + 2) (k := 1) (ci := 9) (T := TX10) (N := 10) (C := RX10) (ty := .int) (ty0 := tyX10) hd inX10 tyX10_ok nmX10 rfl (by decide) rfl tw_1_100 rfl (by decide +kernel) rfl rfl (hT (j := 0) ha (by decide)) (cC_t0 ha vu_at) (Nat.le_of_ble_eq_true rfl) ((cC_t0 ha vu_at).trans rfl) (cC_tset (j := 0) ha vu_at vu_at vu_oth (fun _ _ h9 => tc_S h9)) k
theorem gT_X10_day {a : Nat} {t : Ob} (hd : decode cc pc = .ok (.getfield 47, 3)) (ha : okT a) (ht : w a = t) (k : Jw E (ΓC ad cy) RX10 cc nL rt r (pc + 3) lv (.int (oS t 2) :: st) w) : Jw E (ΓC ad cy) RX10 cc nL rt r pc lv (.ref (ad (8 * a + 2)) :: st) w :=
  J_get (Γ := ΓC ad cy) (h := 8 * a + 2) (k := 2) (ci := 9) (T := TX10) (N := 10) (C := RX10) hd inX10 rfl (by decide) rfl tw_1_102 (hT (j := 0) ha (by decide)) (cC_t0 ha ht) rfl k
theorem pT_X10_day {σ : CS} {a : Nat} {t : Ob} {v : Int32} (hd : decode cc pc = .ok (.putfield 47, 3)) (ha : okT a) (k : Jw E (ΓC ad cy) RX10 cc nL rt r (pc + 3) lv (st) (va_up σ a (pS t 2 v))) : Jw E (ΓC ad cy) RX10 cc nL rt r pc lv (.int v :: .ref (ad (8 * a + 2)) :: st) (va_up σ a t) :=
  J_put (Γ := ΓC ad cy) (h := 8 * a + 2) (k := 2) (ci := 9) (T := TX10) (N := 10) (C := RX10) (ty := .int) (ty0 := tyX10) hd inX10 tyX10_ok nmX10 rfl (by decide) rfl tw_1_102 rfl (by decide +kernel) rfl rfl (hT (j := 0) ha (by decide)) (cC_t0 ha vu_at) (Nat.le_of_ble_eq_true rfl) ((cC_t0 ha vu_at).trans rfl) (cC_tset (j := 0) ha vu_at vu_at vu_oth (fun _ _ h9 => tc_S h9)) k
theorem kcp_T {σ : CS} {a a2 j e nl : Nat} {t u : Ob} {n : Int32} (hd : decode cc pc = .ok (.invokestatic 50, 3)) (ha : okT a) (ha2 : okT a2) (hu : (va_up σ a t) a2 = u) (he : e = j + 2 ∧ j < 8 ∧ j ≠ 0) (hn : ¬ n < 0 ∧ n.toNatClampNeg = tlen j) (hL : Lv E nl) (hn1 : 0 + 1 ≤ nl) (hW : (st.map fun v => v.category).sum ≤ 8) (k : Jw E (ΓC ad cy) RX10 cc nL rt r (pc + 3) lv (st) (va_up σ a (pR t j (va_cpy (oA u j) (oA t j) 0 0 (tlen j))))) : Jw E (ΓC ad cy) RX10 cc nL rt r pc lv (.int n :: .int 0 :: .ref (ad (8 * a + e)) :: .int 0 :: .ref (ad (8 * a2 + e)) :: st) (va_up σ a t) := by
  have e1 : 8 * a + e = 8 * a + 2 + j := by omega
  have e2 : 8 * a2 + e = 8 * a2 + 2 + j := by omega
  have z0 : (0 : Int32).toNatClampNeg = 0 := by decide
  rw [e1, e2]
  exact J_copy (Γ := ΓC ad cy) (h0 := 8 * a2 + 2 + j) (h1 := 8 * a + 2 + j) hd tw_1_237 tw_1_239 tw_1_238 tw_1_16 (hT ha2 he.2.1) ((cC_t ha2 hu he.2.1).trans (tc_0 he.2.2 rfl)) (hT ha he.2.1) ((cC_t ha vu_at he.2.1).trans (tc_0 he.2.2 rfl)) (by decide) (by decide) hn.1 (by rw [z0, hn.2]; omega) (by rw [z0, hn.2]; omega) ((cC_t ha vu_at he.2.1).trans ((tc_0 he.2.2 rfl).trans (by rw [oA_pR, z0, hn.2]; rfl))) (cC_tset ha vu_at vu_at vu_oth (fun _ _ h9 => tc_A h9)) hL hn1 hW k
theorem kcp_C {b b2 nl : Nat} {sp dp n : Int32} (hd : decode cc pc = .ok (.invokestatic 300, 3)) (hb : okS b) (hb2 : okS b2) (hc : cpok sp dp n = true) (hL : Lv E nl) (hn1 : 0 + 1 ≤ nl) (hW : (st.map fun v => v.category).sum ≤ 8) (k : Jw E (ΓC ad cy) RX11 cc nL rt r (pc + 3) lv (st) (va_up w b2 (pR (w b2) 1 (va_cpy (oA (w b) 1) (oA (w b2) 1) sp.toNatClampNeg dp.toNatClampNeg n.toNatClampNeg)))) : Jw E (ΓC ad cy) RX11 cc nL rt r pc lv (.int n :: .int dp :: .ref (ad (2 * b2 + 71)) :: .int sp :: .ref (ad (2 * b + 71)) :: st) w := by
  obtain ⟨c1, c2, c3, c4, c5⟩ := cpok_ok hc
  exact J_copy (Γ := ΓC ad cy) (h0 := 2 * b + 70 + 1) (h1 := 2 * b2 + 70 + 1) hd tw_3_207 tw_1_239 tw_1_238 tw_1_16 (hS (j := 1) hb (by decide)) (cC_s1 hb rfl) (hS (j := 1) hb2 (by decide)) (cC_s1 hb2 rfl) c1 c2 c3 c4 c5 ((cC_s1 hb2 vu_at).trans (by rw [oA_pR]; rfl)) (cC_sset (j := 1) hb2 rfl vu_at (fun _ h9 => vu_ne h9) (fun i h8 h9 => sc_A h8 h9)) hL hn1 hW k
theorem aS_len {b : Nat} {t : Ob} (hd : decode cc pc = .ok (.arraylength, 1)) (hb : okS b) (ht : w b = t) (k : Jw E (ΓC ad cy) own cc nL rt r (pc + 1) lv (.int 100 :: st) w) : Jw E (ΓC ad cy) own cc nL rt r pc lv (.ref (ad (2 * b + 71)) :: st) w :=
  J_alen (Γ := ΓC ad cy) (h := 2 * b + 70 + 1) hd (hS (j := 1) hb (by decide)) (cC_s1 hb ht) (by decide) k
end

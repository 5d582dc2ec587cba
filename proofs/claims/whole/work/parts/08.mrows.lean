theorem rt_pi {α : Type} {v rv : Int32} {w : α} (h : some v = some rv) : (some (Value.int v), w) = (some (Value.int rv), w) := by cases h; rfl
theorem rt_pl {α : Type} {v rv : Int64} {w : α} (h : some v = some rv) : (some (Value.long v), w) = (some (Value.long rv), w) := by cases h; rfl
theorem rt_pv {α : Type} {v rv : Unit} {w : α} (_ : some v = some rv) : ((none : Option Value), w) = (none, w) := rfl
theorem rt_i {α : Type} {v : Int32} {w : α} {rv : Int32 × α} (h : some (v, w) = some rv) : (some (Value.int v), w) = (some (Value.int rv.1), rv.2) := by cases h; rfl
theorem rt_l {α : Type} {v : Int64} {w : α} {rv : Int64 × α} (h : some (v, w) = some rv) : (some (Value.long v), w) = (some (Value.long rv.1), rv.2) := by cases h; rfl
theorem rt_v {α : Type} {w rv : α} (h : some w = some rv) : ((none : Option Value), w) = (none, rv) := by cases h; rfl
theorem isZ_fits {v : Int32} (h : isZ v = true) : fits .boolean (.int v) = true := by
  simp only [isZ, Bool.or_eq_true, beq_iff_eq] at h
  rcases h with rfl | rfl <;> rfl
theorem bp_m15 : (Int8.ofInt (-15)).toInt32 = (-15) := by decide
theorem bp_m14 : (Int8.ofInt (-14)).toInt32 = (-14) := by decide
theorem bp_m13 : (Int8.ofInt (-13)).toInt32 = (-13) := by decide
theorem bp_m12 : (Int8.ofInt (-12)).toInt32 = (-12) := by decide
theorem bp_m11 : (Int8.ofInt (-11)).toInt32 = (-11) := by decide
theorem bp_m4 : (Int8.ofInt (-4)).toInt32 = (-4) := by decide
theorem bp_m3 : (Int8.ofInt (-3)).toInt32 = (-3) := by decide
theorem bp_m2 : (Int8.ofInt (-2)).toInt32 = (-2) := by decide
theorem bp_6 : (Int8.ofInt 6).toInt32 = 6 := by decide
theorem bp_7 : (Int8.ofInt 7).toInt32 = 7 := by decide
theorem bp_8 : (Int8.ofInt 8).toInt32 = 8 := by decide
theorem bp_9 : (Int8.ofInt 9).toInt32 = 9 := by decide
theorem bp_10 : (Int8.ofInt 10).toInt32 = 10 := by decide
theorem bp_11 : (Int8.ofInt 11).toInt32 = 11 := by decide
theorem bp_13 : (Int8.ofInt 13).toInt32 = 13 := by decide
theorem bp_31 : (Int8.ofInt 31).toInt32 = 31 := by decide
theorem bp_35 : (Int8.ofInt 35).toInt32 = 35 := by decide
theorem bp_48 : (Int8.ofInt 48).toInt32 = 48 := by decide
theorem bp_59 : (Int8.ofInt 59).toInt32 = 59 := by decide
theorem bp_60 : (Int8.ofInt 60).toInt32 = 60 := by decide
theorem bp_99 : (Int8.ofInt 99).toInt32 = 99 := by decide
theorem bp_100 : (Int8.ofInt 100).toInt32 = 100 := by decide
theorem bp_108 : (Int8.ofInt 108).toInt32 = 108 := by decide
theorem bp_111 : (Int8.ofInt 111).toInt32 = 111 := by decide
theorem bp_112 : (Int8.ofInt 112).toInt32 = 112 := by decide
theorem bp_116 : (Int8.ofInt 116).toInt32 = 116 := by decide
theorem ic_m1 : Int32.ofInt (-1) = (-1) := by decide
theorem ic_0 : Int32.ofInt 0 = 0 := by decide
theorem ic_1 : Int32.ofInt 1 = 1 := by decide
theorem ic_2 : Int32.ofInt 2 = 2 := by decide
theorem ic_3 : Int32.ofInt 3 = 3 := by decide
theorem ic_4 : Int32.ofInt 4 = 4 := by decide
theorem ic_5 : Int32.ofInt 5 = 5 := by decide
theorem lc_0 : Int64.ofNat ((0 : Fin 2) : Nat) = 0 := by decide
theorem lc_1 : Int64.ofNat ((1 : Fin 2) : Nat) = 1 := by decide
theorem sp_m2000 : (Int16.ofInt (-2000)).toInt32 = (-2000) := by decide
theorem sp_m1000 : (Int16.ofInt (-1000)).toInt32 = (-1000) := by decide
theorem sp_m999 : (Int16.ofInt (-999)).toInt32 = (-999) := by decide
theorem sp_128 : (Int16.ofInt 128).toInt32 = 128 := by decide
theorem sp_200 : (Int16.ofInt 200).toInt32 = 200 := by decide
theorem sp_767 : (Int16.ofInt 767).toInt32 = 767 := by decide
theorem sp_999 : (Int16.ofInt 999).toInt32 = 999 := by decide
theorem sp_4032 : (Int16.ofInt 4032).toInt32 = 4032 := by decide
theorem sp_4095 : (Int16.ofInt 4095).toInt32 = 4095 := by decide
theorem sp_4096 : (Int16.ofInt 4096).toInt32 = 4096 := by decide
theorem sp_12345 : (Int16.ofInt 12345).toInt32 = 12345 := by decide
theorem sw_out0_3 {x : Int32} (h0 : ¬ x = 0) (h1 : ¬ x = 1) (h2 : ¬ x = 2) (h3 : ¬ x = 3) : x.toInt < 0 ∨ 3 < x.toInt := by
  have q0 := lv_neT h0 (a := 0) (by decide)
  have q1 := lv_neT h1 (a := 1) (by decide)
  have q2 := lv_neT h2 (a := 2) (by decide)
  have q3 := lv_neT h3 (a := 3) (by decide)
  omega
theorem sw_out0_4 {x : Int32} (h0 : ¬ x = 0) (h1 : ¬ x = 1) (h2 : ¬ x = 2) (h3 : ¬ x = 3) (h4 : ¬ x = 4) : x.toInt < 0 ∨ 4 < x.toInt := by
  have q0 := lv_neT h0 (a := 0) (by decide)
  have q1 := lv_neT h1 (a := 1) (by decide)
  have q2 := lv_neT h2 (a := 2) (by decide)
  have q3 := lv_neT h3 (a := 3) (by decide)
  have q4 := lv_neT h4 (a := 4) (by decide)
  omega
theorem sw_out0_6 {x : Int32} (h0 : ¬ x = 0) (h1 : ¬ x = 1) (h2 : ¬ x = 2) (h3 : ¬ x = 3) (h4 : ¬ x = 4) (h5 : ¬ x = 5) (h6 : ¬ x = 6) : x.toInt < 0 ∨ 6 < x.toInt := by
  have q0 := lv_neT h0 (a := 0) (by decide)
  have q1 := lv_neT h1 (a := 1) (by decide)
  have q2 := lv_neT h2 (a := 2) (by decide)
  have q3 := lv_neT h3 (a := 3) (by decide)
  have q4 := lv_neT h4 (a := 4) (by decide)
  have q5 := lv_neT h5 (a := 5) (by decide)
  have q6 := lv_neT h6 (a := 6) (by decide)
  omega
theorem sw_out0_7 {x : Int32} (h0 : ¬ x = 0) (h1 : ¬ x = 1) (h2 : ¬ x = 2) (h3 : ¬ x = 3) (h4 : ¬ x = 4) (h5 : ¬ x = 5) (h6 : ¬ x = 6) (h7 : ¬ x = 7) : x.toInt < 0 ∨ 7 < x.toInt := by
  have q0 := lv_neT h0 (a := 0) (by decide)
  have q1 := lv_neT h1 (a := 1) (by decide)
  have q2 := lv_neT h2 (a := 2) (by decide)
  have q3 := lv_neT h3 (a := 3) (by decide)
  have q4 := lv_neT h4 (a := 4) (by decide)
  have q5 := lv_neT h5 (a := 5) (by decide)
  have q6 := lv_neT h6 (a := 6) (by decide)
  have q7 := lv_neT h7 (a := 7) (by decide)
  omega
/-! the reference: its world (one object, its arrays), and its rows -/
def kk (c : Int32) : Bool := c == 17 || c == 18
def kinV (ad : Nat → Nat) (c : Int32) : Value := match kk c with
  | true => .ref (ad c.toNatClampNeg)
  | false => .null
def mlen (h : Nat) : Nat := [0, 5, 5, 5, 7, 7, 7, 35, 8, 8, 8, 8, 8, 800, 51, 51, 153, 73, 73, 768, 5, 8, 100].getD h 0
def mlong (h : Nat) : Bool := h == 13 || h == 22
def cellM (cy : Nat → ClassId) (ad : Nat → Nat) (o : Ob) (h : Nat) : va_E := if h = 0 then .inr (11, [.ref (ad 1), .ref (ad 2), .ref (ad 3), .int (oS o 3), .ref (ad 4), .ref (ad 5), .ref (ad 6), .ref (ad 7), .int (oS o 8), .ref (ad 8), .ref (ad 9), .ref (ad 10), .ref (ad 11), .ref (ad 12), .ref (ad 13), .int (oS o 15), .int (oS o 16), .int (oS o 17), .int (oS o 18), .int (oS o 19), .ref (ad 14), .ref (ad 15), .ref (ad 16), .ref (ad 17), .ref (ad 18), .int (oS o 25), .int (oS o 26), .int (oS o 27), kinV ad (oS o 28), .ref (ad 19), .ref (ad 20), .ref (ad 21), .int (oS o 32), .ref (ad 22)]) else match mlong h with
  | true => .inl (cy 1, mlen h, .inr (.inl (oL o h)))
  | false => .inl (cy 0, mlen h, .inl (oA o h))
def ΓM (ad : Nat → Nat) (cy : Nat → ClassId) : Wl Ob := (23, cellM cy ad, ad, cy)
theorem nz_I {y : Int32} (h : (!(y == 0)) = true) : ¬ y = 0 := by simpa using h
theorem nz_J {y : Int64} (h : (!(y == 0)) = true) : ¬ y = 0 := by simpa using h
theorem kk_or {c : Int32} (h : kk c = true) : c = 17 ∨ c = 18 := by simpa [kk] using h
theorem cM_a {cy : Nat → ClassId} {ad : Nat → Nat} {o : Ob} {h n : Nat} (h0 : h ≠ 0 ∧ mlong h = false) (hn : mlen h = n) : cellM cy ad o h = .inl (cy 0, n, .inl (oA o h)) := by
  subst hn; unfold cellM; rw [if_neg h0.1, h0.2]
theorem cM_l {cy : Nat → ClassId} {ad : Nat → Nat} {o : Ob} {h n : Nat} (h0 : h ≠ 0 ∧ mlong h = true) (hn : mlen h = n) : cellM cy ad o h = .inl (cy 1, n, .inr (.inl (oL o h))) := by
  subst hn; unfold cellM; rw [if_neg h0.1, h0.2]
theorem cM_sA {cy : Nat → ClassId} {ad : Nat → Nat} {o : Ob} {h : Nat} {i x : Int32} : ∀ j, j < 23 → j ≠ h → cellM cy ad (pA o h i x) j = cellM cy ad o j := by
  intro j _ hj
  by_cases h0 : j = 0
  · subst h0; rfl
  · unfold cellM; rw [if_neg h0, if_neg h0]
    cases mlong j
    · show Sum.inl (cy 0, mlen j, Sum.inl (va_up _ h _ j)) = _
      rw [va_up_ne _ _ hj]; rfl
    · rfl
theorem cM_sL {cy : Nat → ClassId} {ad : Nat → Nat} {o : Ob} {h : Nat} {i : Int32} {x : Int64} : ∀ j, j < 23 → j ≠ h → cellM cy ad (pL o h i x) j = cellM cy ad o j := by
  intro j _ hj
  by_cases h0 : j = 0
  · subst h0; rfl
  · unfold cellM; rw [if_neg h0, if_neg h0]
    cases mlong j
    · rfl
    · show Sum.inl (cy 1, mlen j, Sum.inr (Sum.inl (va_up _ h _ j))) = _
      rw [va_up_ne _ _ hj]; rfl
theorem cM_sS {cy : Nat → ClassId} {ad : Nat → Nat} {o : Ob} {k : Nat} {x : Int32} : ∀ j, j < 23 → j ≠ 0 → cellM cy ad (pS o k x) j = cellM cy ad o j := by
  intro j _ hj
  unfold cellM; rw [if_neg hj, if_neg hj]
  cases mlong j <;> rfl
theorem oA_pA {o : Ob} {h : Nat} {i x : Int32} : oA (pA o h i x) h = upd (oA o h) i.toNatClampNeg x := by
  show va_up _ h _ h = _
  simp [va_up, oA]
theorem oL_pL {o : Ob} {h : Nat} {i : Int32} {x : Int64} : oL (pL o h i x) h = vp_updL (oL o h) i.toNatClampNeg x := by
  show va_up _ h _ h = _
  simp [va_up, oL]
section
variable {E : Ec} {ad : Nat → Nat} {cy : Nat → ClassId} {cc : ByteArray} {nL : Nat} {rt : Option FieldType} {r : Option Value × Ob} {pc : Nat} {lv : List (Nat × Value)} {st : List Value} {o : Ob}
theorem aM_ld {h n : Nat} {i : Int32} (hd : decode cc pc = .ok (.iaload, 1)) (h0 : (h ≠ 0 ∧ mlong h = false) ∧ h < 23) (hn : mlen h = n) (hb : inb i n = true) (k : Jw E (ΓM ad cy) RX12 cc nL rt r (pc + 1) lv (.int (ix (oA o h) i) :: st) o) : Jw E (ΓM ad cy) RX12 cc nL rt r pc lv (.int i :: .ref (ad h) :: st) o :=
  J_iald (Γ := ΓM ad cy) (h := h) hd hb h0.2 (cM_a h0.1 hn) k
theorem aM_lld {h n : Nat} {i : Int32} (hd : decode cc pc = .ok (.laload, 1)) (h0 : (h ≠ 0 ∧ mlong h = true) ∧ h < 23) (hn : mlen h = n) (hb : inb i n = true) (k : Jw E (ΓM ad cy) RX12 cc nL rt r (pc + 1) lv (.long (ixL (oL o h) i) :: st) o) : Jw E (ΓM ad cy) RX12 cc nL rt r pc lv (.int i :: .ref (ad h) :: st) o :=
  J_lald (Γ := ΓM ad cy) (h := h) hd hb h0.2 (cM_l h0.1 hn) k
theorem aM_st {h n : Nat} {i x : Int32} (hd : decode cc pc = .ok (.iastore, 1)) (h0 : (h ≠ 0 ∧ mlong h = false) ∧ h < 23) (hn : mlen h = n) (hb : inb i n = true) (k : Jw E (ΓM ad cy) RX12 cc nL rt r (pc + 1) lv st (pA o h i x)) : Jw E (ΓM ad cy) RX12 cc nL rt r pc lv (.int x :: .int i :: .ref (ad h) :: st) o :=
  J_iast (Γ := ΓM ad cy) (h := h) hd hb h0.2 (cM_a h0.1 hn) ((cM_a h0.1 hn).trans (by rw [oA_pA]; rfl)) cM_sA k
theorem aM_lst {h n : Nat} {i : Int32} {x : Int64} (hd : decode cc pc = .ok (.lastore, 1)) (h0 : (h ≠ 0 ∧ mlong h = true) ∧ h < 23) (hn : mlen h = n) (hb : inb i n = true) (k : Jw E (ΓM ad cy) RX12 cc nL rt r (pc + 1) lv st (pL o h i x)) : Jw E (ΓM ad cy) RX12 cc nL rt r pc lv (.long x :: .int i :: .ref (ad h) :: st) o :=
  J_last (Γ := ΓM ad cy) (h := h) hd hb h0.2 (cM_l h0.1 hn) ((cM_l h0.1 hn).trans (by rw [oL_pL]; rfl)) cM_sL k
theorem kk_ok {c : Int32} (h : kk c = true) : ((c.toNatClampNeg ≠ 0 ∧ mlong c.toNatClampNeg = false) ∧ c.toNatClampNeg < 23) ∧ mlen c.toNatClampNeg = 73 := by
  rcases kk_or h with rfl | rfl <;> decide
theorem aM_kld {c i : Int32} (hd : decode cc pc = .ok (.iaload, 1)) (hc : kk c = true) (hb : inb i 73 = true) (k : Jw E (ΓM ad cy) RX12 cc nL rt r (pc + 1) lv (.int (ix (oA o c.toNatClampNeg) i) :: st) o) : Jw E (ΓM ad cy) RX12 cc nL rt r pc lv (.int i :: .ref (ad c.toNatClampNeg) :: st) o :=
  aM_ld hd (kk_ok hc).1 (kk_ok hc).2 hb k
theorem aM_kst {c i x : Int32} (hd : decode cc pc = .ok (.iastore, 1)) (hc : kk c = true) (hb : inb i 73 = true) (k : Jw E (ΓM ad cy) RX12 cc nL rt r (pc + 1) lv st (pA o c.toNatClampNeg i x)) : Jw E (ΓM ad cy) RX12 cc nL rt r pc lv (.int x :: .int i :: .ref (ad c.toNatClampNeg) :: st) o :=
  aM_st hd (kk_ok hc).1 (kk_ok hc).2 hb k
theorem gM_pasts (hd : decode cc pc = .ok (.getfield 7, 3)) (k : Jw E (ΓM ad cy) RX12 cc nL rt r (pc + 3) lv (.ref (ad 1) :: st) o) : Jw E (ΓM ad cy) RX12 cc nL rt r pc lv (.ref (ad 0) :: st) o :=
  J_get (Γ := ΓM ad cy) (h := 0) (k := 0) (ci := 11) (T := TX12) (N := 34) (C := RX12) hd inX12 rfl (by decide) rfl tw_4_153 (Nat.le_of_ble_eq_true rfl) rfl rfl k
theorem gM_worths (hd : decode cc pc = .ok (.getfield 13, 3)) (k : Jw E (ΓM ad cy) RX12 cc nL rt r (pc + 3) lv (.ref (ad 2) :: st) o) : Jw E (ΓM ad cy) RX12 cc nL rt r pc lv (.ref (ad 0) :: st) o :=
  J_get (Γ := ΓM ad cy) (h := 0) (k := 1) (ci := 11) (T := TX12) (N := 34) (C := RX12) hd inX12 rfl (by decide) rfl tw_4_154 (Nat.le_of_ble_eq_true rfl) rfl rfl k
theorem gM_owners (hd : decode cc pc = .ok (.getfield 16, 3)) (k : Jw E (ΓM ad cy) RX12 cc nL rt r (pc + 3) lv (.ref (ad 3) :: st) o) : Jw E (ΓM ad cy) RX12 cc nL rt r pc lv (.ref (ad 0) :: st) o :=
  J_get (Γ := ΓM ad cy) (h := 0) (k := 2) (ci := 11) (T := TX12) (N := 34) (C := RX12) hd inX12 rfl (by decide) rfl tw_4_155 (Nat.le_of_ble_eq_true rfl) rfl rfl k
theorem gM_many (hd : decode cc pc = .ok (.getfield 87, 3)) (k : Jw E (ΓM ad cy) RX12 cc nL rt r (pc + 3) lv (.int (oS o 3) :: st) o) : Jw E (ΓM ad cy) RX12 cc nL rt r pc lv (.ref (ad 0) :: st) o :=
  J_get (Γ := ΓM ad cy) (h := 0) (k := 3) (ci := 11) (T := TX12) (N := 34) (C := RX12) hd inX12 rfl (by decide) rfl tw_4_156 (Nat.le_of_ble_eq_true rfl) rfl rfl k
theorem pM_many {v : Int32} (hd : decode cc pc = .ok (.putfield 87, 3)) (k : Jw E (ΓM ad cy) RX12 cc nL rt r (pc + 3) lv st (pS o 3 v)) : Jw E (ΓM ad cy) RX12 cc nL rt r pc lv (.int v :: .ref (ad 0) :: st) o :=
  J_put (Γ := ΓM ad cy) (h := 0) (k := 3) (ci := 11) (T := TX12) (N := 34) (C := RX12) (ty := .int) (ty0 := tyX12) hd inX12 tyX12_ok nmX12 rfl (by decide) rfl tw_4_156 rfl (by decide +kernel) rfl rfl (Nat.le_of_ble_eq_true rfl) rfl (Nat.le_of_ble_eq_true rfl) rfl cM_sS k
theorem gM_kinds (hd : decode cc pc = .ok (.getfield 19, 3)) (k : Jw E (ΓM ad cy) RX12 cc nL rt r (pc + 3) lv (.ref (ad 4) :: st) o) : Jw E (ΓM ad cy) RX12 cc nL rt r pc lv (.ref (ad 0) :: st) o :=
  J_get (Γ := ΓM ad cy) (h := 0) (k := 4) (ci := 11) (T := TX12) (N := 34) (C := RX12) hd inX12 rfl (by decide) rfl tw_4_157 (Nat.le_of_ble_eq_true rfl) rfl rfl k
theorem gM_figures (hd : decode cc pc = .ok (.getfield 22, 3)) (k : Jw E (ΓM ad cy) RX12 cc nL rt r (pc + 3) lv (.ref (ad 5) :: st) o) : Jw E (ΓM ad cy) RX12 cc nL rt r pc lv (.ref (ad 0) :: st) o :=
  J_get (Γ := ΓM ad cy) (h := 0) (k := 5) (ci := 11) (T := TX12) (N := 34) (C := RX12) hd inX12 rfl (by decide) rfl tw_4_158 (Nat.le_of_ble_eq_true rfl) rfl rfl k
theorem gM_caring (hd : decode cc pc = .ok (.getfield 25, 3)) (k : Jw E (ΓM ad cy) RX12 cc nL rt r (pc + 3) lv (.ref (ad 6) :: st) o) : Jw E (ΓM ad cy) RX12 cc nL rt r pc lv (.ref (ad 0) :: st) o :=
  J_get (Γ := ΓM ad cy) (h := 0) (k := 6) (ci := 11) (T := TX12) (N := 34) (C := RX12) hd inX12 rfl (by decide) rfl tw_4_159 (Nat.le_of_ble_eq_true rfl) rfl rfl k
theorem gM_knows (hd : decode cc pc = .ok (.getfield 28, 3)) (k : Jw E (ΓM ad cy) RX12 cc nL rt r (pc + 3) lv (.ref (ad 7) :: st) o) : Jw E (ΓM ad cy) RX12 cc nL rt r pc lv (.ref (ad 0) :: st) o :=
  J_get (Γ := ΓM ad cy) (h := 0) (k := 7) (ci := 11) (T := TX12) (N := 34) (C := RX12) hd inX12 rfl (by decide) rfl tw_4_160 (Nat.le_of_ble_eq_true rfl) rfl rfl k
theorem gM_today (hd : decode cc pc = .ok (.getfield 113, 3)) (k : Jw E (ΓM ad cy) RX12 cc nL rt r (pc + 3) lv (.int (oS o 8) :: st) o) : Jw E (ΓM ad cy) RX12 cc nL rt r pc lv (.ref (ad 0) :: st) o :=
  J_get (Γ := ΓM ad cy) (h := 0) (k := 8) (ci := 11) (T := TX12) (N := 34) (C := RX12) hd inX12 rfl (by decide) rfl tw_4_161 (Nat.le_of_ble_eq_true rfl) rfl rfl k
theorem pM_today {v : Int32} (hd : decode cc pc = .ok (.putfield 113, 3)) (k : Jw E (ΓM ad cy) RX12 cc nL rt r (pc + 3) lv st (pS o 8 v)) : Jw E (ΓM ad cy) RX12 cc nL rt r pc lv (.int v :: .ref (ad 0) :: st) o :=
  J_put (Γ := ΓM ad cy) (h := 0) (k := 8) (ci := 11) (T := TX12) (N := 34) (C := RX12) (ty := .int) (ty0 := tyX12) hd inX12 tyX12_ok nmX12 rfl (by decide) rfl tw_4_161 rfl (by decide +kernel) rfl rfl (Nat.le_of_ble_eq_true rfl) rfl (Nat.le_of_ble_eq_true rfl) rfl cM_sS k
theorem gM_holdsWhat (hd : decode cc pc = .ok (.getfield 31, 3)) (k : Jw E (ΓM ad cy) RX12 cc nL rt r (pc + 3) lv (.ref (ad 8) :: st) o) : Jw E (ΓM ad cy) RX12 cc nL rt r pc lv (.ref (ad 0) :: st) o :=
  J_get (Γ := ΓM ad cy) (h := 0) (k := 9) (ci := 11) (T := TX12) (N := 34) (C := RX12) hd inX12 rfl (by decide) rfl tw_4_162 (Nat.le_of_ble_eq_true rfl) rfl rfl k
theorem gM_keptKind (hd : decode cc pc = .ok (.getfield 34, 3)) (k : Jw E (ΓM ad cy) RX12 cc nL rt r (pc + 3) lv (.ref (ad 9) :: st) o) : Jw E (ΓM ad cy) RX12 cc nL rt r pc lv (.ref (ad 0) :: st) o :=
  J_get (Γ := ΓM ad cy) (h := 0) (k := 10) (ci := 11) (T := TX12) (N := 34) (C := RX12) hd inX12 rfl (by decide) rfl tw_4_163 (Nat.le_of_ble_eq_true rfl) rfl rfl k
theorem gM_keptFigure (hd : decode cc pc = .ok (.getfield 37, 3)) (k : Jw E (ΓM ad cy) RX12 cc nL rt r (pc + 3) lv (.ref (ad 10) :: st) o) : Jw E (ΓM ad cy) RX12 cc nL rt r pc lv (.ref (ad 0) :: st) o :=
  J_get (Γ := ΓM ad cy) (h := 0) (k := 11) (ci := 11) (T := TX12) (N := 34) (C := RX12) hd inX12 rfl (by decide) rfl tw_4_164 (Nat.le_of_ble_eq_true rfl) rfl rfl k
theorem gM_rowSort (hd : decode cc pc = .ok (.getfield 40, 3)) (k : Jw E (ΓM ad cy) RX12 cc nL rt r (pc + 3) lv (.ref (ad 11) :: st) o) : Jw E (ΓM ad cy) RX12 cc nL rt r pc lv (.ref (ad 0) :: st) o :=
  J_get (Γ := ΓM ad cy) (h := 0) (k := 12) (ci := 11) (T := TX12) (N := 34) (C := RX12) hd inX12 rfl (by decide) rfl tw_4_165 (Nat.le_of_ble_eq_true rfl) rfl rfl k
theorem gM_rowMany (hd : decode cc pc = .ok (.getfield 43, 3)) (k : Jw E (ΓM ad cy) RX12 cc nL rt r (pc + 3) lv (.ref (ad 12) :: st) o) : Jw E (ΓM ad cy) RX12 cc nL rt r pc lv (.ref (ad 0) :: st) o :=
  J_get (Γ := ΓM ad cy) (h := 0) (k := 13) (ci := 11) (T := TX12) (N := 34) (C := RX12) hd inX12 rfl (by decide) rfl tw_4_166 (Nat.le_of_ble_eq_true rfl) rfl rfl k
theorem gM_rows (hd : decode cc pc = .ok (.getfield 46, 3)) (k : Jw E (ΓM ad cy) RX12 cc nL rt r (pc + 3) lv (.ref (ad 13) :: st) o) : Jw E (ΓM ad cy) RX12 cc nL rt r pc lv (.ref (ad 0) :: st) o :=
  J_get (Γ := ΓM ad cy) (h := 0) (k := 14) (ci := 11) (T := TX12) (N := 34) (C := RX12) hd inX12 rfl (by decide) rfl tw_4_167 (Nat.le_of_ble_eq_true rfl) rfl rfl k
theorem gM_thrown (hd : decode cc pc = .ok (.getfield 77, 3)) (k : Jw E (ΓM ad cy) RX12 cc nL rt r (pc + 3) lv (.int (oS o 15) :: st) o) : Jw E (ΓM ad cy) RX12 cc nL rt r pc lv (.ref (ad 0) :: st) o :=
  J_get (Γ := ΓM ad cy) (h := 0) (k := 15) (ci := 11) (T := TX12) (N := 34) (C := RX12) hd inX12 rfl (by decide) rfl tw_4_168 (Nat.le_of_ble_eq_true rfl) rfl rfl k
theorem pM_thrown {v : Int32} (hd : decode cc pc = .ok (.putfield 77, 3)) (k : Jw E (ΓM ad cy) RX12 cc nL rt r (pc + 3) lv st (pS o 15 v)) : Jw E (ΓM ad cy) RX12 cc nL rt r pc lv (.int v :: .ref (ad 0) :: st) o :=
  J_put (Γ := ΓM ad cy) (h := 0) (k := 15) (ci := 11) (T := TX12) (N := 34) (C := RX12) (ty := .int) (ty0 := tyX12) hd inX12 tyX12_ok nmX12 rfl (by decide) rfl tw_4_168 rfl (by decide +kernel) rfl rfl (Nat.le_of_ble_eq_true rfl) rfl (Nat.le_of_ble_eq_true rfl) rfl cM_sS k
theorem gM_reading (hd : decode cc pc = .ok (.getfield 141, 3)) (k : Jw E (ΓM ad cy) RX12 cc nL rt r (pc + 3) lv (.int (oS o 16) :: st) o) : Jw E (ΓM ad cy) RX12 cc nL rt r pc lv (.ref (ad 0) :: st) o :=
  J_get (Γ := ΓM ad cy) (h := 0) (k := 16) (ci := 11) (T := TX12) (N := 34) (C := RX12) hd inX12 rfl (by decide) rfl tw_4_169 (Nat.le_of_ble_eq_true rfl) rfl rfl k
theorem pM_reading {v : Int32} (hd : decode cc pc = .ok (.putfield 141, 3)) (k : Jw E (ΓM ad cy) RX12 cc nL rt r (pc + 3) lv st (pS o 16 v)) : Jw E (ΓM ad cy) RX12 cc nL rt r pc lv (.int v :: .ref (ad 0) :: st) o :=
  J_put (Γ := ΓM ad cy) (h := 0) (k := 16) (ci := 11) (T := TX12) (N := 34) (C := RX12) (ty := .int) (ty0 := tyX12) hd inX12 tyX12_ok nmX12 rfl (by decide) rfl tw_4_169 rfl (by decide +kernel) rfl rfl (Nat.le_of_ble_eq_true rfl) rfl (Nat.le_of_ble_eq_true rfl) rfl cM_sS k
theorem gM_place (hd : decode cc pc = .ok (.getfield 138, 3)) (k : Jw E (ΓM ad cy) RX12 cc nL rt r (pc + 3) lv (.int (oS o 17) :: st) o) : Jw E (ΓM ad cy) RX12 cc nL rt r pc lv (.ref (ad 0) :: st) o :=
  J_get (Γ := ΓM ad cy) (h := 0) (k := 17) (ci := 11) (T := TX12) (N := 34) (C := RX12) hd inX12 rfl (by decide) rfl tw_4_170 (Nat.le_of_ble_eq_true rfl) rfl rfl k
theorem pM_place {v : Int32} (hd : decode cc pc = .ok (.putfield 138, 3)) (k : Jw E (ΓM ad cy) RX12 cc nL rt r (pc + 3) lv st (pS o 17 v)) : Jw E (ΓM ad cy) RX12 cc nL rt r pc lv (.int v :: .ref (ad 0) :: st) o :=
  J_put (Γ := ΓM ad cy) (h := 0) (k := 17) (ci := 11) (T := TX12) (N := 34) (C := RX12) (ty := .int) (ty0 := tyX12) hd inX12 tyX12_ok nmX12 rfl (by decide) rfl tw_4_170 rfl (by decide +kernel) rfl rfl (Nat.le_of_ble_eq_true rfl) rfl (Nat.le_of_ble_eq_true rfl) rfl cM_sS k
theorem gM_isBad (hd : decode cc pc = .ok (.getfield 144, 3)) (k : Jw E (ΓM ad cy) RX12 cc nL rt r (pc + 3) lv (.int (oS o 18) :: st) o) : Jw E (ΓM ad cy) RX12 cc nL rt r pc lv (.ref (ad 0) :: st) o :=
  J_get (Γ := ΓM ad cy) (h := 0) (k := 18) (ci := 11) (T := TX12) (N := 34) (C := RX12) hd inX12 rfl (by decide) rfl tw_4_171 (Nat.le_of_ble_eq_true rfl) rfl rfl k
theorem pM_isBad {v : Int32} (hd : decode cc pc = .ok (.putfield 144, 3)) (hz : isZ v = true) (k : Jw E (ΓM ad cy) RX12 cc nL rt r (pc + 3) lv st (pS o 18 v)) : Jw E (ΓM ad cy) RX12 cc nL rt r pc lv (.int v :: .ref (ad 0) :: st) o :=
  J_put (Γ := ΓM ad cy) (h := 0) (k := 18) (ci := 11) (T := TX12) (N := 34) (C := RX12) (ty := .boolean) (ty0 := tyX12) hd inX12 tyX12_ok nmX12 rfl (by decide) rfl tw_4_171 rfl (by decide +kernel) (isZ_narrow hz) (isZ_fits hz) (Nat.le_of_ble_eq_true rfl) rfl (Nat.le_of_ble_eq_true rfl) rfl cM_sS k
theorem gM_statements (hd : decode cc pc = .ok (.getfield 159, 3)) (k : Jw E (ΓM ad cy) RX12 cc nL rt r (pc + 3) lv (.int (oS o 19) :: st) o) : Jw E (ΓM ad cy) RX12 cc nL rt r pc lv (.ref (ad 0) :: st) o :=
  J_get (Γ := ΓM ad cy) (h := 0) (k := 19) (ci := 11) (T := TX12) (N := 34) (C := RX12) hd inX12 rfl (by decide) rfl tw_4_172 (Nat.le_of_ble_eq_true rfl) rfl rfl k
theorem pM_statements {v : Int32} (hd : decode cc pc = .ok (.putfield 159, 3)) (k : Jw E (ΓM ad cy) RX12 cc nL rt r (pc + 3) lv st (pS o 19 v)) : Jw E (ΓM ad cy) RX12 cc nL rt r pc lv (.int v :: .ref (ad 0) :: st) o :=
  J_put (Γ := ΓM ad cy) (h := 0) (k := 19) (ci := 11) (T := TX12) (N := 34) (C := RX12) (ty := .int) (ty0 := tyX12) hd inX12 tyX12_ok nmX12 rfl (by decide) rfl tw_4_172 rfl (by decide +kernel) rfl rfl (Nat.le_of_ble_eq_true rfl) rfl (Nat.le_of_ble_eq_true rfl) rfl cM_sS k
theorem gM_placeIn (hd : decode cc pc = .ok (.getfield 50, 3)) (k : Jw E (ΓM ad cy) RX12 cc nL rt r (pc + 3) lv (.ref (ad 14) :: st) o) : Jw E (ΓM ad cy) RX12 cc nL rt r pc lv (.ref (ad 0) :: st) o :=
  J_get (Γ := ΓM ad cy) (h := 0) (k := 20) (ci := 11) (T := TX12) (N := 34) (C := RX12) hd inX12 rfl (by decide) rfl tw_4_173 (Nat.le_of_ble_eq_true rfl) rfl rfl k
theorem gM_letterOf (hd : decode cc pc = .ok (.getfield 53, 3)) (k : Jw E (ΓM ad cy) RX12 cc nL rt r (pc + 3) lv (.ref (ad 15) :: st) o) : Jw E (ΓM ad cy) RX12 cc nL rt r pc lv (.ref (ad 0) :: st) o :=
  J_get (Γ := ΓM ad cy) (h := 0) (k := 21) (ci := 11) (T := TX12) (N := 34) (C := RX12) hd inX12 rfl (by decide) rfl tw_4_174 (Nat.le_of_ble_eq_true rfl) rfl rfl k
theorem gM_told (hd : decode cc pc = .ok (.getfield 56, 3)) (k : Jw E (ΓM ad cy) RX12 cc nL rt r (pc + 3) lv (.ref (ad 16) :: st) o) : Jw E (ΓM ad cy) RX12 cc nL rt r pc lv (.ref (ad 0) :: st) o :=
  J_get (Γ := ΓM ad cy) (h := 0) (k := 22) (ci := 11) (T := TX12) (N := 34) (C := RX12) hd inX12 rfl (by decide) rfl tw_4_175 (Nat.le_of_ble_eq_true rfl) rfl rfl k
theorem gM_kept (hd : decode cc pc = .ok (.getfield 59, 3)) (k : Jw E (ΓM ad cy) RX12 cc nL rt r (pc + 3) lv (.ref (ad 17) :: st) o) : Jw E (ΓM ad cy) RX12 cc nL rt r pc lv (.ref (ad 0) :: st) o :=
  J_get (Γ := ΓM ad cy) (h := 0) (k := 23) (ci := 11) (T := TX12) (N := 34) (C := RX12) hd inX12 rfl (by decide) rfl tw_4_176 (Nat.le_of_ble_eq_true rfl) rfl rfl k
theorem gM_imaged (hd : decode cc pc = .ok (.getfield 62, 3)) (k : Jw E (ΓM ad cy) RX12 cc nL rt r (pc + 3) lv (.ref (ad 18) :: st) o) : Jw E (ΓM ad cy) RX12 cc nL rt r pc lv (.ref (ad 0) :: st) o :=
  J_get (Γ := ΓM ad cy) (h := 0) (k := 24) (ci := 11) (T := TX12) (N := 34) (C := RX12) hd inX12 rfl (by decide) rfl tw_4_177 (Nat.le_of_ble_eq_true rfl) rfl rfl k
theorem gM_hasImage (hd : decode cc pc = .ok (.getfield 218, 3)) (k : Jw E (ΓM ad cy) RX12 cc nL rt r (pc + 3) lv (.int (oS o 25) :: st) o) : Jw E (ΓM ad cy) RX12 cc nL rt r pc lv (.ref (ad 0) :: st) o :=
  J_get (Γ := ΓM ad cy) (h := 0) (k := 25) (ci := 11) (T := TX12) (N := 34) (C := RX12) hd inX12 rfl (by decide) rfl tw_4_178 (Nat.le_of_ble_eq_true rfl) rfl rfl k
theorem pM_hasImage {v : Int32} (hd : decode cc pc = .ok (.putfield 218, 3)) (hz : isZ v = true) (k : Jw E (ΓM ad cy) RX12 cc nL rt r (pc + 3) lv st (pS o 25 v)) : Jw E (ΓM ad cy) RX12 cc nL rt r pc lv (.int v :: .ref (ad 0) :: st) o :=
  J_put (Γ := ΓM ad cy) (h := 0) (k := 25) (ci := 11) (T := TX12) (N := 34) (C := RX12) (ty := .boolean) (ty0 := tyX12) hd inX12 tyX12_ok nmX12 rfl (by decide) rfl tw_4_178 rfl (by decide +kernel) (isZ_narrow hz) (isZ_fits hz) (Nat.le_of_ble_eq_true rfl) rfl (Nat.le_of_ble_eq_true rfl) rfl cM_sS k
theorem gM_place0 (hd : decode cc pc = .ok (.getfield 208, 3)) (k : Jw E (ΓM ad cy) RX12 cc nL rt r (pc + 3) lv (.int (oS o 26) :: st) o) : Jw E (ΓM ad cy) RX12 cc nL rt r pc lv (.ref (ad 0) :: st) o :=
  J_get (Γ := ΓM ad cy) (h := 0) (k := 26) (ci := 11) (T := TX12) (N := 34) (C := RX12) hd inX12 rfl (by decide) rfl tw_4_179 (Nat.le_of_ble_eq_true rfl) rfl rfl k
theorem pM_place0 {v : Int32} (hd : decode cc pc = .ok (.putfield 208, 3)) (k : Jw E (ΓM ad cy) RX12 cc nL rt r (pc + 3) lv st (pS o 26 v)) : Jw E (ΓM ad cy) RX12 cc nL rt r pc lv (.int v :: .ref (ad 0) :: st) o :=
  J_put (Γ := ΓM ad cy) (h := 0) (k := 26) (ci := 11) (T := TX12) (N := 34) (C := RX12) (ty := .int) (ty0 := tyX12) hd inX12 tyX12_ok nmX12 rfl (by decide) rfl tw_4_179 rfl (by decide +kernel) rfl rfl (Nat.le_of_ble_eq_true rfl) rfl (Nat.le_of_ble_eq_true rfl) rfl cM_sS k
theorem gM_isTaking (hd : decode cc pc = .ok (.getfield 202, 3)) (k : Jw E (ΓM ad cy) RX12 cc nL rt r (pc + 3) lv (.int (oS o 27) :: st) o) : Jw E (ΓM ad cy) RX12 cc nL rt r pc lv (.ref (ad 0) :: st) o :=
  J_get (Γ := ΓM ad cy) (h := 0) (k := 27) (ci := 11) (T := TX12) (N := 34) (C := RX12) hd inX12 rfl (by decide) rfl tw_4_180 (Nat.le_of_ble_eq_true rfl) rfl rfl k
theorem pM_isTaking {v : Int32} (hd : decode cc pc = .ok (.putfield 202, 3)) (hz : isZ v = true) (k : Jw E (ΓM ad cy) RX12 cc nL rt r (pc + 3) lv st (pS o 27 v)) : Jw E (ΓM ad cy) RX12 cc nL rt r pc lv (.int v :: .ref (ad 0) :: st) o :=
  J_put (Γ := ΓM ad cy) (h := 0) (k := 27) (ci := 11) (T := TX12) (N := 34) (C := RX12) (ty := .boolean) (ty0 := tyX12) hd inX12 tyX12_ok nmX12 rfl (by decide) rfl tw_4_180 rfl (by decide +kernel) (isZ_narrow hz) (isZ_fits hz) (Nat.le_of_ble_eq_true rfl) rfl (Nat.le_of_ble_eq_true rfl) rfl cM_sS k
theorem gM_keptIn (hd : decode cc pc = .ok (.getfield 205, 3)) (hc : kk (oS o 28) = true) (k : Jw E (ΓM ad cy) RX12 cc nL rt r (pc + 3) lv (.ref (ad (oS o 28).toNatClampNeg) :: st) o) : Jw E (ΓM ad cy) RX12 cc nL rt r pc lv (.ref (ad 0) :: st) o :=
  J_get (Γ := ΓM ad cy) (h := 0) (k := 28) (ci := 11) (T := TX12) (N := 34) (C := RX12) hd inX12 rfl (by decide) rfl tw_4_181 (Nat.le_of_ble_eq_true rfl) rfl (v := .ref (ad (oS o 28).toNatClampNeg)) (by show some (kinV ad (oS o 28)) = _; unfold kinV; rw [hc]) k
theorem kin_e {c : Int32} (hc : kk c = true) : kinV ad c = .ref (ad c.toNatClampNeg) := by unfold kinV; rw [hc]
theorem kin_cell {c : Int32} (hc : kk c = true) : cellM cy ad (pS o 28 c) 0 = .inr (11, ([.ref (ad 1), .ref (ad 2), .ref (ad 3), .int (oS o 3), .ref (ad 4), .ref (ad 5), .ref (ad 6), .ref (ad 7), .int (oS o 8), .ref (ad 8), .ref (ad 9), .ref (ad 10), .ref (ad 11), .ref (ad 12), .ref (ad 13), .int (oS o 15), .int (oS o 16), .int (oS o 17), .int (oS o 18), .int (oS o 19), .ref (ad 14), .ref (ad 15), .ref (ad 16), .ref (ad 17), .ref (ad 18), .int (oS o 25), .int (oS o 26), .int (oS o 27), kinV ad (oS o 28), .ref (ad 19), .ref (ad 20), .ref (ad 21), .int (oS o 32), .ref (ad 22)] : List Value).set 28 (.ref (ad c.toNatClampNeg))) := by
  rw [← kin_e hc]; rfl
theorem pM_keptIn {c : Int32} (hd : decode cc pc = .ok (.putfield 205, 3)) (hc : kk c = true) (k : Jw E (ΓM ad cy) RX12 cc nL rt r (pc + 3) lv st (pS o 28 c)) : Jw E (ΓM ad cy) RX12 cc nL rt r pc lv (.ref (ad c.toNatClampNeg) :: .ref (ad 0) :: st) o :=
  J_put (Γ := ΓM ad cy) (h := 0) (k := 28) (ci := 11) (T := TX12) (N := 34) (C := RX12) (ty := .array .int) (ty0 := tyX12) hd inX12 tyX12_ok nmX12 rfl (by decide) rfl tw_4_181 rfl (by decide +kernel) rfl rfl (Nat.le_of_ble_eq_true rfl) rfl (Nat.le_of_ble_eq_true rfl) (kin_cell (cy := cy) hc) cM_sS k
theorem gM_mostBy (hd : decode cc pc = .ok (.getfield 65, 3)) (k : Jw E (ΓM ad cy) RX12 cc nL rt r (pc + 3) lv (.ref (ad 19) :: st) o) : Jw E (ΓM ad cy) RX12 cc nL rt r pc lv (.ref (ad 0) :: st) o :=
  J_get (Γ := ΓM ad cy) (h := 0) (k := 29) (ci := 11) (T := TX12) (N := 34) (C := RX12) hd inX12 rfl (by decide) rfl tw_4_182 (Nat.le_of_ble_eq_true rfl) rfl rfl k
theorem gM_had (hd : decode cc pc = .ok (.getfield 68, 3)) (k : Jw E (ΓM ad cy) RX12 cc nL rt r (pc + 3) lv (.ref (ad 20) :: st) o) : Jw E (ΓM ad cy) RX12 cc nL rt r pc lv (.ref (ad 0) :: st) o :=
  J_get (Γ := ΓM ad cy) (h := 0) (k := 30) (ci := 11) (T := TX12) (N := 34) (C := RX12) hd inX12 rfl (by decide) rfl tw_4_183 (Nat.le_of_ble_eq_true rfl) rfl rfl k
theorem gM_gains (hd : decode cc pc = .ok (.getfield 71, 3)) (k : Jw E (ΓM ad cy) RX12 cc nL rt r (pc + 3) lv (.ref (ad 21) :: st) o) : Jw E (ΓM ad cy) RX12 cc nL rt r pc lv (.ref (ad 0) :: st) o :=
  J_get (Γ := ΓM ad cy) (h := 0) (k := 31) (ci := 11) (T := TX12) (N := 34) (C := RX12) hd inX12 rfl (by decide) rfl tw_4_184 (Nat.le_of_ble_eq_true rfl) rfl rfl k
theorem gM_seed (hd : decode cc pc = .ok (.getfield 302, 3)) (k : Jw E (ΓM ad cy) RX12 cc nL rt r (pc + 3) lv (.int (oS o 32) :: st) o) : Jw E (ΓM ad cy) RX12 cc nL rt r pc lv (.ref (ad 0) :: st) o :=
  J_get (Γ := ΓM ad cy) (h := 0) (k := 32) (ci := 11) (T := TX12) (N := 34) (C := RX12) hd inX12 rfl (by decide) rfl tw_4_185 (Nat.le_of_ble_eq_true rfl) rfl rfl k
theorem pM_seed {v : Int32} (hd : decode cc pc = .ok (.putfield 302, 3)) (k : Jw E (ΓM ad cy) RX12 cc nL rt r (pc + 3) lv st (pS o 32 v)) : Jw E (ΓM ad cy) RX12 cc nL rt r pc lv (.int v :: .ref (ad 0) :: st) o :=
  J_put (Γ := ΓM ad cy) (h := 0) (k := 32) (ci := 11) (T := TX12) (N := 34) (C := RX12) (ty := .int) (ty0 := tyX12) hd inX12 tyX12_ok nmX12 rfl (by decide) rfl tw_4_185 rfl (by decide +kernel) rfl rfl (Nat.le_of_ble_eq_true rfl) rfl (Nat.le_of_ble_eq_true rfl) rfl cM_sS k
theorem gM_between (hd : decode cc pc = .ok (.getfield 74, 3)) (k : Jw E (ΓM ad cy) RX12 cc nL rt r (pc + 3) lv (.ref (ad 22) :: st) o) : Jw E (ΓM ad cy) RX12 cc nL rt r pc lv (.ref (ad 0) :: st) o :=
  J_get (Γ := ΓM ad cy) (h := 0) (k := 33) (ci := 11) (T := TX12) (N := 34) (C := RX12) hd inX12 rfl (by decide) rfl tw_4_186 (Nat.le_of_ble_eq_true rfl) rfl rfl k
end

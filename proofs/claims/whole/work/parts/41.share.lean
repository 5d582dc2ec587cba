/-! fractions in least terms -/
theorem lc_le {x y : Int64} : (lg_cmp x y ≤ 0) = ¬ (y < x) := by
  rw [← Int32.not_lt, lc_gt]
theorem rem_lN {a b : Nat} (ha : a < 2 ^ 62) (h0 : 0 < b) (hb : b < 2 ^ 62) : rem64 (lN a) (lN b) = lN (a % b) := pk_lRem (by omega) h0 (by omega)
theorem lN_z {b : Nat} (h0 : 0 < b) (hb : b < 2 ^ 62) : (!(lN b == 0)) = true := by
  have h : ¬ lN b = lN 0 := by rw [pk_lEQ (by omega) (by omega)]; omega
  have h' : (lN b == 0) = false := beq_false_of_ne h
  rw [h']; rfl
theorem eu_C0 {kc : Int64 → Option Int64} {a0 a2 : Int64} {a4 ci : Int32} {N x c : Nat} (hi : ci = nI c) (hc : c < 200) : C_partOf_L9 kc a0 a2 a4 (N + 1) (lN x) (lN 0) ci = kc (lN x) := by
  subst hi
  rw [C_partOf_L9, if_neg (by show ¬ nI 200 ≤ nI c; rw [nI_le' (by omega) (by omega)]; omega), if_pos (by decide)]
theorem eu_C {kc : Int64 → Option Int64} {a0 a2 : Int64} {a4 ci : Int32} {N x y c : Nat} (hi : ci = nI c) (hc : c < 200) (hx : x < 2 ^ 62) (h0 : 0 < y) (hy : y < 2 ^ 62) : C_partOf_L9 kc a0 a2 a4 (N + 1) (lN x) (lN y) ci = C_partOf_L9 kc a0 a2 a4 N (lN y) (lN (x % y)) (nI (c + 1)) := by
  subst hi
  have hp : (0 : Int64) < lN y := by show lN 0 < lN y; rw [pk_lLT (by omega) (by omega)]; exact h0
  have q : ¬ lg_cmp (lN y) 0 ≤ 0 := by rw [lc_le]; exact fun z => z hp
  rw [C_partOf_L9, if_neg (by show ¬ nI 200 ≤ nI c; rw [nI_le' (by omega) (by omega)]; omega), if_neg q, lN_z h0 hy, gd_t, rem_lN hx h0 hy, nm_q, nm_q, nI_1]
theorem eu_M0 {o : Ob} {N x : Nat} : M_divisor_L6 o (N + 1) (lN x) (lN 0) = some (lN x) := by
  rw [M_divisor_L6, if_pos (by decide)]
theorem eu_M {o : Ob} {N x y : Nat} (hx : x < 2 ^ 62) (h0 : 0 < y) (hy : y < 2 ^ 62) : M_divisor_L6 o (N + 1) (lN x) (lN y) = M_divisor_L6 o N (lN y) (lN (x % y)) := by
  have hp : ¬ lN y = 0 := by show ¬ lN y = lN 0; rw [pk_lEQ (by omega) (by omega)]; omega
  have q : ¬ lg_cmp (lN y) 0 = 0 := by rw [lc_eq]; exact hp
  rw [M_divisor_L6, if_neg q, lN_z h0 hy, gd_t, rem_lN hx h0 hy, nm_q]
theorem half {y r k : Nat} (h0 : 0 < r) (hr : r ≤ y) (hy : y < 2 ^ (k + 1)) : y % r < 2 ^ k := by
  have h1 := Nat.mod_lt y h0
  have h2 := Nat.div_add_mod y r
  have h3 : 1 ≤ y / r := Nat.div_pos hr h0
  have h4 : r * 1 ≤ r * (y / r) := Nat.mul_le_mul_left r h3
  have h5 : 2 ^ (k + 1) = 2 ^ k * 2 := Nat.pow_succ 2 k
  generalize r * (y / r) = z at h2 h4
  omega
theorem eu_loop {o : Ob} {a0 a2 : Int64} {a4 : Int32} (kc : Int64 → Option Int64) : ∀ k x y N1 N2 c, y < 2 ^ k → y < 2 ^ 62 → x < 2 ^ 62 → c + (2 * k + 1) < 200 → 2 * k + 2 ≤ N1 → 2 * k + 2 ≤ N2 → ∃ g, C_partOf_L9 kc a0 a2 a4 N1 (lN x) (lN y) (nI c) = kc (lN g) ∧ M_divisor_L6 o N2 (lN x) (lN y) = some (lN g) ∧ g < 2 ^ 62 ∧ (0 < x ∨ 0 < y → 0 < g) := by
  intro k
  induction k with
  | zero =>
    intro x y N1 N2 c hy hy2 hx hc h1 h2
    obtain ⟨N1, rfl⟩ : ∃ m, N1 = m + 1 := ⟨N1 - 1, by omega⟩
    obtain ⟨N2, rfl⟩ : ∃ m, N2 = m + 1 := ⟨N2 - 1, by omega⟩
    have e : y = 0 := by omega
    subst e
    exact ⟨x, eu_C0 rfl (by omega), eu_M0, hx, by omega⟩
  | succ k ih =>
    intro x y N1 N2 c hy hy2 hx hc h1 h2
    obtain ⟨N1, rfl⟩ : ∃ m, N1 = m + 2 := ⟨N1 - 2, by omega⟩
    obtain ⟨N2, rfl⟩ : ∃ m, N2 = m + 2 := ⟨N2 - 2, by omega⟩
    by_cases e : y = 0
    · subst e
      exact ⟨x, eu_C0 rfl (by omega), eu_M0, hx, by omega⟩
    · have h0 : 0 < y := Nat.pos_of_ne_zero e
      have hr := Nat.mod_lt x h0
      rw [eu_C rfl (by omega) hx h0 hy2, eu_M hx h0 hy2]
      by_cases er : x % y = 0
      · rw [er]
        exact ⟨y, eu_C0 rfl (by omega), eu_M0, hy2, fun _ => h0⟩
      · have hr0 : 0 < x % y := Nat.pos_of_ne_zero er
        rw [eu_C rfl (by omega) hy2 hr0 (by omega), eu_M hy2 hr0 (by omega)]
        have hh := half hr0 (by omega) hy
        have hl := Nat.mod_lt y hr0
        obtain ⟨g, g1, g2, g3, g4⟩ := ih (x % y) (y % (x % y)) N1 N2 (c + 1 + 1) hh (by omega) (by omega) (by omega) (by omega) (by omega)
        exact ⟨g, g1, g2, g3, fun _ => g4 (Or.inl hr0)⟩
theorem div_lN {a b : Nat} (ha : a < 2 ^ 62) (h0 : 0 < b) (hb : b < 2 ^ 62) : lN a / lN b = lN (a / b) := pk_lDiv (by omega) h0 (by omega)
theorem part_ok {o : Ob} {a b : Nat} (ha : a < 2 ^ 62) (hb : b < 2 ^ 40) {p : Int32} (hp : p = 0 ∨ p = 1) : ∃ v, C_partOf (lN a) (lN b) p = some v ∧ M_partOf o (lN a) (lN b) p = some v := by
  unfold C_partOf M_partOf
  have n10 : ¬ (1 : Int32) = 0 := by decide
  have hf : FU = 9999 + 1 := rfl
  by_cases ea : a = 0
  · subst ea
    rw [if_pos (show lg_cmp (lN 0) 0 = 0 by decide)]
    by_cases eb : b = 0
    · subst eb
      rw [hf, eu_C0 (ci := 0) (c := 0) rfl (by decide), if_neg (by decide)]
      rcases hp with rfl | rfl
      · exact ⟨0, rfl, rfl⟩
      · exact ⟨1, rfl, rfl⟩
    · have h0 : 0 < b := Nat.pos_of_ne_zero eb
      have hpos : (0 : Int64) < lN b := by show lN 0 < lN b; rw [pk_lLT (by omega) (by omega)]; exact h0
      have q : 0 < lg_cmp (lN b) 0 := by rw [lc_gt]; exact hpos
      rw [hf, eu_C (ci := 0) (c := 0) rfl (by decide) ha h0 (by omega), Nat.zero_mod, eu_C0 rfl (by decide), if_pos q, lN_z h0 (by omega), gd_t, gd_t, div_lN (by omega) h0 (by omega), div_lN (by omega) h0 (by omega), Nat.zero_div, Nat.div_self h0]
      rcases hp with rfl | rfl
      · exact ⟨0, rfl, rfl⟩
      · exact ⟨1, rfl, rfl⟩
  · have h0 : 0 < a := Nat.pos_of_ne_zero ea
    have hne : ¬ lN a = 0 := by show ¬ lN a = lN 0; rw [pk_lEQ (by omega) (by omega)]; omega
    have qa : ¬ lg_cmp (lN a) 0 = 0 := by rw [lc_eq]; exact hne
    rw [if_neg qa]
    unfold M_divisor
    obtain ⟨g, g1, g2, g3, g4⟩ := eu_loop (o := o) (a0 := lN a) (a2 := lN b) (a4 := p) (fun (x5_6 : Int64) =>
      if (0 : Int32) < (lg_cmp x5_6 (0 : Int64)) then
        if p = (0 : Int32) then
          gd (!(x5_6 == 0)) <|
          some (lN a / x5_6)
        else
          gd (!(x5_6 == 0)) <|
          some (lN b / x5_6)
      else
        if p = (0 : Int32) then
          some (0 : Int64)
        else
          some (1 : Int64)) 40 a b FU FU 0 hb (by omega) ha (by decide) (by decide) (by decide)
    have hg := g4 (Or.inl h0)
    have hpos : (0 : Int64) < lN g := by show lN 0 < lN g; rw [pk_lLT (by omega) (by omega)]; exact hg
    rw [nI_0] at g1
    have q : 0 < lg_cmp (lN g) 0 := by rw [lc_gt]; exact hpos
    rw [g1, g2, bd_e, if_pos q, lN_z hg g3, gd_t, gd_t]
    by_cases c : p = 0
    · rw [if_pos c]; exact ⟨_, rfl, rfl⟩
    · rw [if_neg c]; exact ⟨_, rfl, rfl⟩
theorem worth_rng {n : Nat} {t : Ob} (w : wfA n t) (p : Int32) : ∃ m, m ≤ 45 ∧ worthS t p = nI m := by
  obtain ⟨m, hm, e⟩ := foldN_inv (P := fun i (s : Int32) => ∃ m, m ≤ 9 * i ∧ s = nI m) (step := fun i s => if oA t 3 i = p then s + oA t 2 i else s) (s := 0) ⟨0, by omega, rfl⟩ 5 (fun i s hi q => by
    obtain ⟨m, hm, rfl⟩ := q
    obtain ⟨v, hv, ev⟩ := w.wor hi
    show ∃ m', m' ≤ 9 * (i + 1) ∧ (if oA t 3 i = p then nI m + oA t 2 i else nI m) = nI m'
    split
    · exact ⟨m + v, by omega, by rw [ev, nI_add]⟩
    · exact ⟨m, by omega, rfl⟩)
  exact ⟨m, by omega, e⟩
theorem all_w {n : Nat} {σ : CS} {o : Ob} (R : Rel n σ o) : ∃ m, m ≤ 45 ∧ T_allWorth (σ 1) = some (nI m) ∧ M_allWorth o = some (nI m) := by
  obtain ⟨y, y1, y2⟩ := count_w R
  obtain ⟨s, e, m, hm, es⟩ := up_loopE (L := fun N s i => T_allWorth_L4 (σ 1) N s (nI i)) 5 (fun i (s : Int32) => ∃ m, m ≤ 9 * i ∧ s = nI m) some (by
    intro N i s hi ⟨m, hm, es⟩
    obtain ⟨v, hv, ev⟩ := R.wf.wor hi
    refine ⟨nI (m + v), ?_, m + v, by omega, rfl⟩
    rw [T_allWorth_L4, if_neg (by show ¬ nI 5 ≤ nI i; rw [nI_le' (by omega) (by omega)]; omega), inb_nI hi (by decide), gd_t, ix_nI (by omega), ev, es, nI_add, nm_q, nm_q, nI_1]) (by
    intro N s _
    rw [T_allWorth_L4, if_pos (by decide)]) 0 ⟨0, by decide, rfl⟩ FU (FU_gt (by decide))
  have e' : T_allWorth (σ 1) = some s := e
  rw [y1] at e'
  have ey : y = s := Option.some.inj e'
  exact ⟨m, by omega, by rw [y1, ey, es], by rw [y2, ey, es]⟩
theorem r_share {n : Nat} {σ : CS} {o : Ob} (h : Rel n σ o) (p q : Int32) : ok1 (C_share σ p q) σ (M_share o p q) := by
  have h7 := h.n7
  have H := h.t0
  unfold C_share M_share
  rw [nm_q]
  generalize pS o 15 0 = u at H
  rw [T_hasOne_ok' h.1.2.1 h7, M_isOne_ok' H.2.1 h7, bd_e, bd_e]
  cases hp : rng p 0 ((n : Int) - 1) with
  | false => exact ⟨1000000001, u, rfl, rfl, n, H⟩
  | true =>
    rw [b1, b1, C_within_ok', M_inI, bd_e, bd_e, show (1 : Int32).toInt = 1 from rfl, show (0 : Int64).toInt = 0 from rfl, show (1 : Int64).toInt = 1 from rfl]
    cases hq : rng q 0 1 with
    | false => exact ⟨1000000001, u, rfl, rfl, n, H⟩
    | true =>
      obtain ⟨j, hj, rfl⟩ := rng_nI (hi := 1) hq (by decide)
      have hp' : nI j = 0 ∨ nI j = 1 := by
        rcases (show j = 0 ∨ j = 1 by omega) with rfl | rfl
        · exact Or.inl rfl
        · exact Or.inr rfl
      obtain ⟨m, hm, em⟩ := worth_rng H.wf p
      obtain ⟨m2, hm2, e1, e2⟩ := all_w H
      obtain ⟨v, v1, v2⟩ := part_ok (o := u) (a := m) (b := m2) (by omega) (by omega) hp'
      rw [b1, b1, T_wealth_ok', M_worthOf_ok', ← H.2.2.2.1.worth, em, e1, e2, bd_e, bd_e, bd_e, bd_e, nI_l (by omega), nI_l (by omega), v1, v2, bd_e, bd_e]
      exact ⟨v, u, rfl, rfl, n, H⟩

/-! statements done, on both sides -/
theorem TK.pA {n j i : Nat} {t u : Ob} {v : Int32} (h : TK n t u) (hj : 1 ≤ j ∧ j ≤ 7) (hi : i < tlen j) (hw : wfA n (pA t j (nI i) v)) (h7 : j = 7 → i < n * 5) : TK n (Jvm.Pilot.@@N@@.pA t j (nI i) v) (Jvm.Pilot.@@N@@.pA u j (nI i) v) := ⟨tok_pA h.1 hj hi hw h7, h.2.1, h.2.2.1, h.2.2.2.uA⟩
theorem TK.n7 {n : Nat} {t u : Ob} (h : TK n t u) : n ≤ 7 := h.1.1.1
theorem TK.wf {n : Nat} {t u : Ob} (h : TK n t u) : wfA n t := h.1.1
theorem TK.wfu {n : Nat} {t u : Ob} (h : TK n t u) : wfA n u := h.2.2.2.wf h.1.1
/-- both refuse, or both do it -/
def bothT (n : Nat) (t u : Ob) (c : Option (Int32 × Ob)) (m : Option (Int32 × Ob)) : Prop := (c = some (0, t) ∧ m = some (0, u)) ∨ ∃ n' t' u', c = some (1, t') ∧ m = some (1, u') ∧ TK n' t' u' ∧ restM u u'
theorem ob_turn {n : Nat} {t u : Ob} (h : TK n t u) (p c : Int32) : bothT n t u (T_turnTo t p c) (bd (M_isOne u p) fun (r9 : Int32) =>
    bd (
      jn (
        some (0 : Int32)) fun j261 =>
      if r9 = (0 : Int32) then
        j261
      else
        bd (M_isCare u c) fun (r11 : Int32) =>
        if r11 = (0 : Int32) then
          j261
        else
          some (1 : Int32)) fun (s13 : Int32) =>
    if s13 = (0 : Int32) then
      gd (isZ s13) <|
      some (s13, u)
    else
      gd (inb p 7) <|
      nm (pA u 6 p c) fun o17 =>
      gd (isZ s13) <|
      some (s13, o17)) := by
  have h7 := h.n7
  unfold T_turnTo
  rw [T_hasOne_ok' h.1.2.1 h7, M_isOne_ok' h.2.1 h7, bd_e, bd_e, jn_e]
  cases hp : rng p 0 ((n : Int) - 1) with
  | false => exact Or.inl ⟨rfl, rfl⟩
  | true =>
    obtain ⟨k, hk, rfl⟩ := rng_n hp h7
    rw [b1, b1, C_isCare_ok', M_isCare_ok', bd_e, bd_e]
    cases hw : (rng c 0 4 || c == 9) with
    | false => exact Or.inl ⟨rfl, rfl⟩
    | true =>
      rw [b1, b1, bd_e, if_neg (by decide), inb_nI (show k < 7 by omega) (by decide), gd_t, gd_t, nm_q, nm_q]
      exact Or.inr ⟨n, _, _, rfl, rfl, h.pA (by decide) (show k < 7 by omega) (h.wf.t6 (by omega) (care_rng hw)) (fun e => absurd e (by decide)), rest_A (by decide)⟩
theorem ob_fact {n y : Nat} {t u : Ob} (h : TK n t u) (p q : Int32) (hy : y < 100) : bothT n t u (T_turnFact t p q (nI y)) (bd (M_isOne u p) fun (r20 : Int32) =>
      bd (
        jn (
          some (0 : Int32)) fun j171 =>
        if r20 = (0 : Int32) then
          j171
        else
          bd (M_isThing u q) fun (r22 : Int32) =>
          if r22 = (0 : Int32) then
            j171
          else
            if (11 : Int32) < nI y then
              j171
            else
              some (1 : Int32)) fun (s25 : Int32) =>
      if s25 = (0 : Int32) then
        gd (isZ s25) <|
        some (s25, u)
      else
        nm (((5 : Int32) * p) + q) fun v28 =>
        gd (inb v28 35) <|
        gd (inb v28 35) <|
        nm (pA u 7 v28 ((ix (oA u 7) v28) ^^^ (shl32 (1 : Int32) (nI y)))) fun o31 =>
        gd (isZ s25) <|
        some (s25, o31)) := by
  have h7 := h.n7
  unfold T_turnFact
  rw [T_hasOne_ok' h.1.2.1 h7, M_isOne_ok' h.2.1 h7, bd_e, bd_e, jn_e]
  cases hp : rng p 0 ((n : Int) - 1) with
  | false => exact Or.inl ⟨rfl, rfl⟩
  | true =>
    obtain ⟨k, hk, rfl⟩ := rng_n hp h7
    rw [b1, b1, C_isThing_ok', M_isThing_ok', bd_e, bd_e]
    cases hq : rng q 0 4 with
    | false => exact Or.inl ⟨rfl, rfl⟩
    | true =>
      obtain ⟨i, hi, rfl⟩ := rng_nI (hi := 4) hq (by decide)
      rw [b1, b1, C_within_ok', bd_e, show (11 : Int32).toInt = 11 from rfl]
      by_cases c : 11 < y
      · have c1 : (11 : Int32) < nI y := by show nI 11 < nI y; rw [nI_lt' (by omega) (by omega)]; exact c
        have c2 : rng (nI y) 0 11 = false := decide_eq_false (by rw [nI_toInt (by omega)]; omega)
        rw [if_pos c1, c2]; exact Or.inl ⟨rfl, rfl⟩
      · have c1 : ¬ (11 : Int32) < nI y := by show ¬ nI 11 < nI y; rw [nI_lt' (by omega) (by omega)]; exact c
        have c2 : rng (nI y) 0 11 = true := decide_eq_true (by rw [nI_toInt (by omega)]; omega)
        have hl : k * 5 + i < 35 := by omega
        have hb : B12 (oA t 7 (k * 5 + i) ^^^ shl32 1 (nI y)) := B12_xor (h.wf.kno hl) (B12_bit (by omega))
        rw [if_neg c1, c2, b1, bd_e, if_neg (by decide)]
        simp only [ixkn, ixkn', inb_nI hl (show 35 < 2 ^ 31 by decide), ix_nI (show k * 5 + i < 2 ^ 31 by omega), gd_t, nm_q]
        rw [← h.2.2.2 7 (by decide) (by decide)]
        exact Or.inr ⟨n, _, _, rfl, rfl, h.pA (by decide) hl (h.wf.setK hl hb) (fun _ => by omega), rest_A (by decide)⟩
theorem ob_hand {n : Nat} {t u : Ob} (h : TK n t u) (p q : Int32) : bothT n t u (T_handOver t p q) (bd (M_isThing u p) fun (r34 : Int32) =>
        bd (
          jn (
            some (0 : Int32)) fun j224 =>
          if r34 = (0 : Int32) then
            j224
          else
            jn (
              some (1 : Int32)) fun j220 =>
            if q = (9 : Int32) then
              j220
            else
              bd (M_isOne u q) fun (r37 : Int32) =>
              if r37 = (0 : Int32) then
                j224
              else
                j220) fun (s39 : Int32) =>
        if s39 = (0 : Int32) then
          gd (isZ s39) <|
          some (s39, u)
        else
          gd (inb p 5) <|
          nm (pA u 3 p q) fun o43 =>
          gd (isZ s39) <|
          some (s39, o43)) := by
  have h7 := h.n7
  unfold T_handOver
  rw [C_isThing_ok', M_isThing_ok', bd_e, bd_e, jn_e]
  cases hp : rng p 0 4 with
  | false => exact Or.inl ⟨rfl, rfl⟩
  | true =>
    obtain ⟨k, hk, rfl⟩ := rng_nI (hi := 4) hp (by decide)
    have good : ((∃ x, x < n ∧ q = nI x) ∨ q = nI 9) → TK n (Jvm.Pilot.@@N@@.pA t 3 (nI k) q) (Jvm.Pilot.@@N@@.pA u 3 (nI k) q) := fun hq => h.pA (by decide) (show k < 5 by omega) (h.wf.setO (by omega) hq) (fun e => absurd e (by decide))
    rw [b1, b1, T_hasOne_ok' h.1.2.1 h7, M_isOne_ok' h.2.1 h7, bd_e, jn_e, jn_e, bd_e, inb_nI (show k < 5 by omega) (by decide), gd_t, nm_q]
    cases hq : rng q 0 ((n : Int) - 1) with
    | true =>
      obtain ⟨x, hx, ex⟩ := rng_n hq h7
      rw [b1, b1, ite_self, bd_e, if_neg (by decide), gd_t, nm_q]
      exact Or.inr ⟨n, _, _, rfl, rfl, good (Or.inl ⟨x, hx, ex⟩), rest_A (by decide)⟩
    | false =>
      rw [b0, b0]
      by_cases c : q = 9
      · rw [if_pos c, if_pos c, bd_e, if_neg (by decide), gd_t, nm_q]
        exact Or.inr ⟨n, _, _, rfl, rfl, good (Or.inr c), rest_A (by decide)⟩
      · rw [if_neg c, if_neg c]; exact Or.inl ⟨rfl, rfl⟩
theorem ob_come {n a b : Nat} {t u : Ob} (h : TK n t u) (ha : a < 10) (hb : b < 10) (c : Int32) : bothT n t u (T_arrive t (nI a) (nI b) c) (M_oneComes u (nI a) (nI b) c) := by
  have h7 := h.n7
  have ra : ∀ hi : Nat, rng (nI a) 0 hi = decide (a ≤ hi) := fun hi => by
    unfold rng; rw [nI_toInt (by omega)]; exact decide_eq_decide.mpr (by omega)
  have rb : rng (nI b) 0 9 = true := decide_eq_true (by rw [nI_toInt (by omega)]; omega)
  by_cases good : n < 7 ∧ a < 8 ∧ (rng c 0 4 || c == 9) = true
  · obtain ⟨g1, g2, g3⟩ := good
    obtain ⟨t', u', e1, e2, e3, e4⟩ := h.arrive g1 ⟨a, g2, rfl⟩ ⟨b, hb, rfl⟩ (care_rng g3)
    exact Or.inr ⟨n + 1, t', u', e1, e2, e3, e4⟩
  · refine Or.inl ⟨?_, ?_⟩
    · unfold T_arrive
      rw [h.1.2.1]
      by_cases c7 : (7 : Int32) ≤ nI n
      · rw [if_pos c7]
      · have n7 : n < 7 := by
          have : ¬ nI 7 ≤ nI n := c7
          rw [nI_le' (by omega) (by omega)] at this; omega
        rw [if_neg c7, C_within_ok', bd_e, show (7 : Int32).toInt = ((7 : Nat) : Int) from rfl, ra]
        by_cases c8 : a ≤ 7
        · have cc : (rng c 0 4 || c == 9) = false := by
            cases e : (rng c 0 4 || c == 9) with
            | true => exact absurd ⟨n7, by omega, e⟩ good
            | false => rfl
          rw [decide_eq_true c8, b1, C_within_ok', bd_e, show (9 : Int32).toInt = 9 from rfl, rb, b1, C_isCare_ok', bd_e, cc]; rfl
        · rw [decide_eq_false c8]; rfl
    · unfold M_oneComes
      rw [jn_p]
      by_cases c8 : (8 : Int32) ≤ nI a
      · rw [if_pos c8, bd_p, if_pos rfl]; rfl
      · have a8 : a < 8 := by
          have : ¬ nI 8 ≤ nI a := c8
          rw [nI_le' (by omega) (by omega)] at this; omega
        rw [if_neg c8, M_isCare_ok', bd_p]
        cases e : (rng c 0 4 || c == 9) with
        | false => rw [b0, bd_p, if_pos rfl]; rfl
        | true =>
          have n7 : ¬ n < 7 := fun z => good ⟨z, a8, e⟩
          have c7 : (7 : Int32) ≤ nI n := by show nI 7 ≤ nI n; rw [nI_le' (by omega) (by omega)]; omega
          rw [b1, h.2.1, if_pos c7, bd_p, if_pos rfl]; rfl
theorem ob_make {n y z : Nat} {t u : Ob} (h : TK n t u) (p : Int32) (hy : y < 10000) (hz : z < 10) : bothT n t u (T_remake t p (nI y) (nI z)) (bd (M_isThing u p) fun (r50 : Int32) =>
            bd (
              jn (
                some (0 : Int32)) fun j110 =>
              if r50 = (0 : Int32) then
                j110
              else
                if (4095 : Int32) < nI y then
                  j110
                else
                  some (1 : Int32)) fun (s53 : Int32) =>
            if s53 = (0 : Int32) then
              gd (isZ s53) <|
              some (s53, u)
            else
              gd (inb p 5) <|
              nm (pA u 1 p (nI y)) fun o57 =>
              gd (inb p 5) <|
              nm (pA o57 2 p (nI z)) fun o59 =>
              gd (isZ s53) <|
              some (s53, o59)) := by
  unfold T_remake
  rw [C_isThing_ok', M_isThing_ok', bd_e, bd_e, jn_e]
  cases hp : rng p 0 4 with
  | false => exact Or.inl ⟨rfl, rfl⟩
  | true =>
    obtain ⟨k, hk, rfl⟩ := rng_nI (hi := 4) hp (by decide)
    have rz : rng (nI z) 0 9 = true := decide_eq_true (by rw [nI_toInt (by omega)]; omega)
    rw [b1, b1, C_within_ok', bd_e, show (4095 : Int32).toInt = 4095 from rfl]
    by_cases c : 4095 < y
    · have c1 : (4095 : Int32) < nI y := by show nI 4095 < nI y; rw [nI_lt' (by omega) (by omega)]; exact c
      have c2 : rng (nI y) 0 4095 = false := decide_eq_false (by rw [nI_toInt (by omega)]; omega)
      rw [if_pos c1, c2]; exact Or.inl ⟨rfl, rfl⟩
    · have c1 : ¬ (4095 : Int32) < nI y := by show ¬ nI 4095 < nI y; rw [nI_lt' (by omega) (by omega)]; exact c
      have c2 : rng (nI y) 0 4095 = true := decide_eq_true (by rw [nI_toInt (by omega)]; omega)
      rw [if_neg c1, c2, b1, C_within_ok', bd_e, bd_e, show (9 : Int32).toInt = 9 from rfl, rz, b1, if_neg (by decide), inb_nI (show k < 5 by omega) (by decide)]
      simp only [gd_t, nm_q]
      have h1 := h.pA (j := 1) (i := k) (v := nI y) (by decide) (show k < 5 by omega) (h.wf.t1 (by omega) ⟨y, by omega, rfl⟩) (fun e => absurd e (by decide))
      have h2 := h1.pA (j := 2) (i := k) (v := nI z) (by decide) (show k < 5 by omega) (h1.wf.t2 (by omega) ⟨z, hz, rfl⟩) (fun e => absurd e (by decide))
      exact Or.inr ⟨n, _, _, rfl, rfl, h2, (rest_A (by decide)).tr (rest_A (by decide))⟩
theorem ob_days {n y : Nat} {t u : Ob} (h : TK n t u) (hy : y < 100) : bothT n t u (T_goOn t (nI y)) (M_daysCome u (nI y)) := by
  obtain ⟨d, hd, ed⟩ := h.1.2.2.1
  have ed2 : oS u 8 = nI d := h.2.2.1.symm.trans ed
  unfold M_daysCome
  rw [M_inI, bd_e, show (1 : Int64).toInt = 1 from rfl, show (60 : Int64).toInt = 60 from rfl, jn_e, ed2, nI_add]
  by_cases good : (1 ≤ y ∧ y ≤ 60) ∧ d + y ≤ 999
  · obtain ⟨⟨g1, g2⟩, g3⟩ := good
    have r : rng (nI y) 1 60 = true := decide_eq_true (by rw [nI_toInt (by omega)]; omega)
    have c9 : ¬ (999 : Int32) < nI (d + y) := by show ¬ nI 999 < nI (d + y); rw [nI_lt' (by omega) (by omega)]; omega
    have cd : nI d + nI y ≤ 999 := by rw [nI_add]; show nI (d + y) ≤ nI 999; rw [nI_le' (by omega) (by omega)]; exact g3
    obtain ⟨v, v1, v2⟩ := T_goOn_ok' (d := nI d) (u := t) h.wf g1 g2 ⟨h.1.2.1, by rw [ed, nI_0, Int32.add_zero], AEq.rf⟩ cd
    obtain ⟨w, w1, w2, w3⟩ := M_goDays_ok' (k := y) (d := nI d) (u := u) h.wf (by omega) ⟨h.2.1, by rw [ed2, nI_0, Int32.add_zero], h.2.2.2.sm⟩
    rw [r, b1, if_neg c9, bd_e, if_neg (by decide), v1, w1, bd_e]
    refine Or.inr ⟨n, v, w, rfl, rfl, ⟨⟨v2.2.2.sm.wf (iter_wf h.wf y), v2.1, ⟨d + y, g3, by rw [v2.2.1, nI_add]⟩, fun i hi => ?_, v2.zb h.wf h.1.2.2.2.2⟩, w2.1, v2.2.1.trans w2.2.1.symm, v2.2.2.tr w2.2.2.sm⟩, w3⟩
    rw [v2.2.2 7 (by decide) (by decide)]
    exact nz_iter h.wf h.1.2.2.2.1 y i hi
  · refine Or.inl ⟨?_, ?_⟩
    · unfold T_goOn
      rw [ed]
      by_cases c1 : nI y < 1
      · rw [if_pos c1]
      · rw [if_neg c1]
        by_cases c2 : 60 < nI y
        · rw [if_pos c2]
        · rw [if_neg c2]
          rw [fa_lt, nI_toInt (by omega), show (1 : Int32).toInt = 1 from rfl] at c1
          rw [fa_lt, nI_toInt (by omega), show (60 : Int32).toInt = 60 from rfl] at c2
          have cd : ¬ nI d + nI y ≤ 999 := by
            rw [nI_add]
            show ¬ nI (d + y) ≤ nI 999
            rw [nI_le' (by omega) (by omega)]
            intro z
            exact good ⟨by omega, z⟩
          rw [if_neg cd]
    · by_cases r : 1 ≤ y ∧ y ≤ 60
      · have r' : rng (nI y) 1 60 = true := decide_eq_true (by rw [nI_toInt (by omega)]; omega)
        have c9 : (999 : Int32) < nI (d + y) := by
          show nI 999 < nI (d + y)
          rw [nI_lt' (by omega) (by omega)]
          have : ¬ d + y ≤ 999 := fun z => good ⟨r, z⟩
          omega
        rw [r', b1, if_pos c9, bd_e, if_pos rfl]; rfl
      · have r' : rng (nI y) 1 60 = false := decide_eq_false (by rw [nI_toInt (by omega)]; omega)
        rw [r', b0, bd_e, if_pos rfl]; rfl
/-- one statement, on both sides -/
theorem obey_ok {n m j : Nat} {f : Nat → Int32} {τ : CS} {u : Ob} {b : Nat} (XC : CX m f (τ b)) (h : TK n (τ 3) u) (hj : j < 51) (hs : sfR m f (pos m f j) = none) (e15 : oA u 15 j = chI m f (pos m f j)) (ht : toldOK f (chI m f (pos m f j)) (pos m f j + 1) u (3 * j)) :
    (X_obey τ b (nI (pos m f j)) 3 = some (0, τ) ∧ M_comesTold u (nI j) = some (0, u)) ∨ ∃ n' t' u', X_obey τ b (nI (pos m f j)) 3 = some (1, va_up τ 3 t') ∧ M_comesTold u (nI j) = some (1, u') ∧ TK n' t' u' ∧ restM u u' := by
  obtain ⟨x1, x2, x3⟩ := XC
  have XC : CX m f (τ b) := ⟨x1, x2, x3⟩
  obtain ⟨s1, s2, s3⟩ := sf_none hs
  generalize hq : pos m f j = q at hs e15 ht s1 s2 s3
  have hc : q < m := by omega
  have ec : chI m f q = f q := by unfold chI; rw [if_pos hc]
  rw [ec] at s1 s2 s3 e15 ht
  have h2 := dgN_2 (f q)
  have e1 : nI q + (1 : Int32) = nI (q + 1) := nI_1 q
  have e2 : nI q + (2 : Int32) = nI (q + 2) := by rw [lit32, nI_add]
  have e3 : nI q + (3 : Int32) = nI (q + 3) := by rw [lit32, nI_add]
  have e6 : nI q + (6 : Int32) = nI (q + 6) := by rw [lit32, nI_add]
  have m3 : (3 : Int32) * nI j = nI (3 * j) := by rw [lit32, pk_mul]
  have m31 : nI (3 * j) + (1 : Int32) = nI (3 * j + 1) := nI_1 _
  have m32 : nI (3 * j) + (2 : Int32) = nI (3 * j + 2) := by rw [lit32, nI_add]
  have N : ∀ p k : Nat, p + k ≤ m → ∀ w : Int32, w = nI k → X_number τ b (nI p) w = some (numS f p k) := fun p k hpk w hw => by subst hw; exact num_C XC hpk
  have dg : ∀ i, i < dgN (f q) → dgt m f (q + 1 + i) = true := gdn_all _ s3
  have rg : ∀ p k : Nat, q + 1 ≤ p → p + k ≤ q + 1 + dgN (f q) → ∃ y, y < 10 ^ k ∧ numS f p k = nI y := fun p k hp1 hp2 => num_rng (m := m) k (fun i hi => by
    have := dg (p + i - (q + 1)) (by omega)
    rw [show q + 1 + (p + i - (q + 1)) = p + i by omega] at this
    exact this)
  have wrap : ∀ (c : Option (Int32 × Ob)) (k : Option (Int32 × Ob)), bothT n (τ 3) u c k → (bd2 c (fun (r5 : Int32) (t6 : Ob) => nm (va_up τ 3 t6) fun σ7 => gd (isZ r5) <| some (r5, σ7)) = some (0, τ) ∧ k = some (0, u)) ∨ ∃ n' t' u', bd2 c (fun (r5 : Int32) (t6 : Ob) => nm (va_up τ 3 t6) fun σ7 => gd (isZ r5) <| some (r5, σ7)) = some (1, va_up τ 3 t') ∧ k = some (1, u') ∧ TK n' t' u' ∧ restM u u' := by
    intro c k hb
    rcases hb with ⟨rfl, rfl⟩ | ⟨n', t', u', rfl, rfl, g1, g2⟩
    · refine Or.inl ⟨?_, rfl⟩
      rw [bd2_e, nm_q, show isZ 0 = true from rfl, gd_t, vu_self]
    · refine Or.inr ⟨n', t', u', ?_, rfl, g1, g2⟩
      rw [bd2_e, nm_q, show isZ 1 = true from rfl, gd_t]
  obtain ⟨t1, t2, t3, t4, t5, t6⟩ := ht
  unfold X_obey M_comesTold
  rw [e1, e2, N (q + 1) 1 (by omega) 1 rfl, N (q + 2) 1 (by omega) 1 rfl, bd_e, bd_e, inb_nI (show q < 100 by omega) (by decide), gd_t, ix_nI (show q < 2 ^ 31 by omega), x3, m3, m31, m32, inb_nI (show 3 * j < 153 by omega) (by decide), inb_nI (show 3 * j + 1 < 153 by omega) (by decide), inb_nI (show 3 * j + 2 < 153 by omega) (by decide), gd_t, nm_q, gd_t, nm_q, gd_t, nm_q, inb_nI hj (by decide), gd_t, ix_nI (show j < 2 ^ 31 by omega), ix_nI (show 3 * j < 2 ^ 31 by omega), ix_nI (show 3 * j + 1 < 2 ^ 31 by omega), ix_nI (show 3 * j + 2 < 2 ^ 31 by omega), e15]
  rcases isL_iff.mp s1 with c | c | c | c | c | c
  · -- t
    have e7 : dgN (f q) = 6 := by rw [c]; rfl
    obtain ⟨y, hy, ey⟩ := rg (q + 2) 4 (by omega) (by omega)
    obtain ⟨z, hz, ez⟩ := rg (q + 6) 1 (by omega) (by omega)
    rw [t2 (by rw [c]; decide), (t3 c).1, (t3 c).2, e6, N (q + 2) 4 (by omega) 4 rfl, N (q + 6) 1 (by omega) 1 rfl, c]
    simp only [if_neg (show ¬ (116 : Int32) = 99 by decide), if_neg (show ¬ (116 : Int32) = 100 by decide), if_neg (show ¬ (116 : Int32) = 101 by decide), if_neg (show ¬ (116 : Int32) = 102 by decide), if_neg (show ¬ (116 : Int32) = 103 by decide), if_neg (show ¬ (116 : Int32) = 104 by decide), if_neg (show ¬ (116 : Int32) = 105 by decide), if_neg (show ¬ (116 : Int32) = 106 by decide), if_neg (show ¬ (116 : Int32) = 107 by decide), if_neg (show ¬ (116 : Int32) = 108 by decide), if_neg (show ¬ (116 : Int32) = 109 by decide), if_neg (show ¬ (116 : Int32) = 110 by decide), if_neg (show ¬ (116 : Int32) = 111 by decide), if_neg (show ¬ (116 : Int32) = 112 by decide), if_neg (show ¬ (116 : Int32) = 113 by decide), if_neg (show ¬ (116 : Int32) = 114 by decide), if_neg (show ¬ (116 : Int32) = 115 by decide), if_pos (show (116 : Int32) = 116 from rfl), bd_e]
    rw [show q + 1 + 1 = q + 2 by omega, show q + 1 + 5 = q + 6 by omega, ey, ez]
    exact wrap _ _ (ob_make h _ (by omega) (by omega))
  · -- p
    have e7 : dgN (f q) = 3 := by rw [c]; rfl
    obtain ⟨x, hx, ex⟩ := rg (q + 1) 1 (by omega) (by omega)
    obtain ⟨y, hy, ey⟩ := rg (q + 2) 1 (by omega) (by omega)
    rw [t2 (by rw [c]; decide), t4 (by rw [c]; decide) (by rw [c]; decide), t5 c, e3, N (q + 3) 1 (by omega) 1 rfl, c]
    simp only [if_neg (show ¬ (112 : Int32) = 99 by decide), if_neg (show ¬ (112 : Int32) = 100 by decide), if_neg (show ¬ (112 : Int32) = 101 by decide), if_neg (show ¬ (112 : Int32) = 102 by decide), if_neg (show ¬ (112 : Int32) = 103 by decide), if_neg (show ¬ (112 : Int32) = 104 by decide), if_neg (show ¬ (112 : Int32) = 105 by decide), if_neg (show ¬ (112 : Int32) = 106 by decide), if_neg (show ¬ (112 : Int32) = 107 by decide), if_neg (show ¬ (112 : Int32) = 108 by decide), if_neg (show ¬ (112 : Int32) = 109 by decide), if_neg (show ¬ (112 : Int32) = 110 by decide), if_neg (show ¬ (112 : Int32) = 111 by decide), if_pos (show (112 : Int32) = 112 from rfl), bd_e]
    rw [show q + 1 + 1 = q + 2 by omega, show q + 1 + 2 = q + 3 by omega, ex, ey]
    have key := ob_come h (show x < 10 by omega) (show y < 10 by omega) (numS f (q + 3) 1)
    have kz : bothT n (τ 3) u (T_arrive (τ 3) (nI x) (nI y) (numS f (q + 3) 1)) (bd2 (M_oneComes u (nI x) (nI y) (numS f (q + 3) 1)) fun (r46 : Int32) (o47 : Ob) => gd (isZ r46) <| some (r46, o47)) := by
      rcases key with ⟨k1, k2⟩ | ⟨n', t', u', k1, k2, k3, k4⟩
      · exact Or.inl ⟨k1, by rw [k2, bd2_e]; rfl⟩
      · exact Or.inr ⟨n', t', u', k1, by rw [k2, bd2_e]; rfl, k3, k4⟩
    exact wrap _ _ kz
  · -- l
    have e7 : dgN (f q) = 4 := by rw [c]; rfl
    obtain ⟨y, hy, ey⟩ := rg (q + 3) 2 (by omega) (by omega)
    rw [t2 (by rw [c]; decide), t4 (by rw [c]; decide) (by rw [c]; decide), t6 c, e3, N (q + 3) 2 (by omega) 2 rfl, c]
    simp only [if_neg (show ¬ (108 : Int32) = 99 by decide), if_neg (show ¬ (108 : Int32) = 100 by decide), if_neg (show ¬ (108 : Int32) = 101 by decide), if_neg (show ¬ (108 : Int32) = 102 by decide), if_neg (show ¬ (108 : Int32) = 103 by decide), if_neg (show ¬ (108 : Int32) = 104 by decide), if_neg (show ¬ (108 : Int32) = 105 by decide), if_neg (show ¬ (108 : Int32) = 106 by decide), if_neg (show ¬ (108 : Int32) = 107 by decide), if_pos (show (108 : Int32) = 108 from rfl), bd_e]
    rw [show q + 1 + 1 = q + 2 by omega, show q + 1 + 2 = q + 3 by omega, ey]
    exact wrap _ _ (ob_fact h _ _ (by omega))
  · -- o
    rw [t2 (by rw [c]; decide), t4 (by rw [c]; decide) (by rw [c]; decide), c]
    simp only [if_neg (show ¬ (111 : Int32) = 99 by decide), if_neg (show ¬ (111 : Int32) = 100 by decide), if_neg (show ¬ (111 : Int32) = 101 by decide), if_neg (show ¬ (111 : Int32) = 102 by decide), if_neg (show ¬ (111 : Int32) = 103 by decide), if_neg (show ¬ (111 : Int32) = 104 by decide), if_neg (show ¬ (111 : Int32) = 105 by decide), if_neg (show ¬ (111 : Int32) = 106 by decide), if_neg (show ¬ (111 : Int32) = 107 by decide), if_neg (show ¬ (111 : Int32) = 108 by decide), if_neg (show ¬ (111 : Int32) = 109 by decide), if_neg (show ¬ (111 : Int32) = 110 by decide), if_pos (show (111 : Int32) = 111 from rfl)]
    rw [show q + 1 + 1 = q + 2 by omega]
    exact wrap _ _ (ob_hand h _ _)
  · -- c
    rw [t2 (by rw [c]; decide), t4 (by rw [c]; decide) (by rw [c]; decide), c]
    simp only [if_pos (show (99 : Int32) = 99 from rfl)]
    rw [show q + 1 + 1 = q + 2 by omega]
    exact wrap _ _ (ob_turn h _ _)
  · -- d
    obtain ⟨y, hy, ey⟩ := rg (q + 1) 2 (by omega) (by omega)
    rw [t1 c, N (q + 1) 2 (by omega) 2 rfl, c]
    simp only [if_neg (show ¬ (100 : Int32) = 99 by decide), if_pos (show (100 : Int32) = 100 from rfl), if_neg (show ¬ (100 : Int32) = 108 by decide), if_neg (show ¬ (100 : Int32) = 111 by decide), if_neg (show ¬ (100 : Int32) = 112 by decide), if_neg (show ¬ (100 : Int32) = 116 by decide), bd_e]
    rw [ey]
    have key := ob_days h (show y < 100 by omega)
    have kz : bothT n (τ 3) u (T_goOn (τ 3) (nI y)) (bd2 (M_daysCome u (nI y)) fun (r61 : Int32) (o62 : Ob) => gd (isZ r61) <| some (r61, o62)) := by
      rcases key with ⟨k1, k2⟩ | ⟨n', t', u', k1, k2, k3, k4⟩
      · exact Or.inl ⟨k1, by rw [k2, bd2_e]; rfl⟩
      · exact Or.inr ⟨n', t', u', k1, by rw [k2, bd2_e]; rfl, k3, k4⟩
    exact wrap _ _ kz

/-! told owners looked at -/
def lstS (k : Int32) : Int32 := if k = 0 then -128 else if k = 1 then -32768 else -2147483648
theorem lst_C (s : Ob) : S_leastNumber s = some (lstS (oS s 3)) := by
  unfold S_leastNumber lstS
  split
  · rfl
  · split <;> rfl
theorem l64a : (-128 : Int64) = (-128 : Int32).toInt64 := by decide
theorem l64b : (-32768 : Int64) = (-32768 : Int32).toInt64 := by decide
theorem l64c : (-2147483648 : Int64) = (-2147483648 : Int32).toInt64 := by decide
theorem lst_M (o : Ob) (k : Int32) : M_leastOf o k = some (lstS k).toInt64 := by
  unfold M_leastOf lstS
  by_cases c0 : k = 0
  · rw [if_pos c0, if_pos c0, l64a]
  · rw [if_neg c0, if_neg c0]
    by_cases c1 : k = 1
    · rw [if_pos c1, if_pos c1, l64b]
    · rw [if_neg c1, if_neg c1, l64c]
theorem agrees_ok (s : Ob) {i : Nat} (hi : i < 100) (x : Int32) : S_agrees s (nI i) x = some (bI (decide (oA s 1 i = x ∨ oA s 1 i = lstS (oS s 3)))) := by
  unfold S_agrees
  rw [inb_nI hi (by decide), gd_t, jn_e, ix_nI (by omega), lst_C, gd_t, bd_e]
  by_cases c1 : oA s 1 i = x
  · rw [if_pos c1, decide_eq_true (Or.inl c1)]; rfl
  · rw [if_neg c1]
    by_cases c2 : oA s 1 i = lstS (oS s 3)
    · rw [if_pos c2, decide_eq_true (Or.inr c2)]; rfl
    · rw [if_neg c2, decide_eq_false (by intro h; rcases h with h | h; exact c1 h; exact c2 h)]; rfl
theorem skipped_ok {s u : Ob} {d i : Nat} (hd : d < 8) (hi : i < 100) (h1 : oS s 3 = oA u 11 d) (h2 : (oA s 1 i).toInt64 = oL u 13 (100 * d + i)) : M_isSkipped u (nI d) (nI i) = some (bI (decide (oA s 1 i = lstS (oS s 3)))) := by
  unfold M_isSkipped
  rw [ix100, inb_nI (show 100 * d + i < 800 by omega) (by decide), inb_nI hd (by decide), gd_t, gd_t, ix_nI (by omega), ixL_nI (by omega), lst_M, bd_e, ← h1, ← h2]
  simp only [lc_eq, i64_eq]
  by_cases c : oA s 1 i = lstS (oS s 3)
  · rw [if_pos c, decide_eq_true c]; rfl
  · rw [if_neg c, decide_eq_false c]; rfl
theorem judge_loop {n k d m : Nat} {σ : CS} {o : Ob} (R : Rel n σ o) (hd : d < 8) (hm : m ≤ 100) (em : oS (σ (11 + d)) 4 = nI m) : ∀ r i N1 N2 (τ : CS) (u : Ob), i + r = m → r < N1 → r + 1 < N2 → visC σ τ → isDay n (oS o 8) (σ 1) i (τ 3) → TH o u → isDayM n (oS o 8) (σ 1) i u →
    ok2 (C_judge_L54 (nI k) (11 + d) N1 τ (nI i)) (M_judge_L40 (fun x o => bd (M_again o) fun o26 => some (x, o26)) (nI d) (nI k) N2 u (-4) (nI i)) := by
  obtain ⟨a1, a2, a3, a4, a5, a6, -, a8⟩ := R.2.2.2.2.2.2.2.2 d hd
  have i8 : inb (nI d) 8 = true := inb_nI hd (by decide)
  have hl : d < 2 ^ 31 := by omega
  have e4 : ¬ (0 : Int32) ≤ -4 := by decide
  intro r
  induction r with
  | zero =>
    intro i N1 N2 τ u hi h1 h2 hv hc ht hu
    obtain ⟨N1, rfl⟩ : ∃ m, N1 = m + 1 := ⟨N1 - 1, by omega⟩
    obtain ⟨N2, rfl⟩ : ∃ m, N2 = m + 1 := ⟨N2 - 1, by omega⟩
    have e : nI m ≤ nI i := by rw [nI_le' (by omega) (by omega)]; omega
    rw [C_judge_L54, M_judge_L40, i8, gd_t, ix_nI hl, ht.2.2.1 12 (by decide) (by decide), ← a6, hv.2.2.2.2 d hd, em, if_pos e, if_pos e]
    exact th_fin R hv ht _
  | succ r ih =>
    intro i N1 N2 τ u hi h1 h2 hv hc ht hu
    obtain ⟨N1, rfl⟩ : ∃ m, N1 = m + 1 := ⟨N1 - 1, by omega⟩
    obtain ⟨N2, rfl⟩ : ∃ m, N2 = m + 1 + 1 := ⟨N2 - 2, by omega⟩
    have e : ¬ nI m ≤ nI i := by rw [nI_le' (by omega) (by omega)]; omega
    obtain ⟨v, ev, hmv, tv⟩ := M_day_on R ht hu
    have hi100 : i < 100 := by omega
    have hs1 : oS (σ (11 + d)) 3 = oA u 11 d := by rw [ht.2.2.1 11 (by decide) (by decide)]; exact a4
    have hs2 : (oA (σ (11 + d)) 1 i).toInt64 = oL u 13 (100 * d + i) := by rw [ht.2.2.2.2.1]; exact a8 i hi100
    have ea : AEq (τ 3) u := hc.2.2.tr hu.2.2.sm
    have hb : B12 (ownS u (nI k)) := by obtain ⟨q, hq, eq⟩ := own_rng u (nI k); exact ⟨q, by omega, eq⟩
    rw [C_judge_L54, M_judge_L40, i8, gd_t, ix_nI hl, ht.2.2.1 12 (by decide) (by decide), ← a6, hv.2.2.2.2 d hd, em, if_neg e, if_neg e, if_neg e4, T_ownedBy_ok', bd_e, bitCount_some, bd_e, agrees_ok _ hi100, bd_e, skipped_ok hd hi100 hs1 hs2, bd_e, jn_e, ix100, inb_nI (show 100 * d + i < 800 by omega) (by decide), gd_t, M_ownedBy_ok', bd_e, ones_b _ hb, bd_e, ixL_nI (by omega), ← hs2, ev, ea.own]
    simp only [lc_eq, i64_eq]
    have stop : ok2 (some (nI i, τ)) (bd (some (nI i)) fun s17 => bd (some v) fun o18 => nm (nI i + 1) fun v19 => M_judge_L40 (fun x o => bd (M_again o) fun o26 => some (x, o26)) (nI d) (nI k) (N2 + 1) o18 s17 v19) := by
      rw [bd_e, bd_e, nm_q, nI_1, M_judge_L40, i8, gd_t, if_pos (show (0 : Int32) ≤ nI i by show nI 0 ≤ nI i; rw [nI_le' (by omega) (by omega)]; omega), ite_self]
      exact th_fin R hv tv _
    obtain ⟨f, t, et, ht', hv'⟩ := C_day_on R hv hc
    have go : ok2 (bd2 (T_pass (τ 3)) fun r15 t16 => nm (va_up τ 3 t16) fun σ17 => nm (nI i + 1) fun v18 => C_judge_L54 (nI k) (11 + d) N1 σ17 v18) (bd (some (-4)) fun s17 => bd (some v) fun o18 => nm (nI i + 1) fun v19 => M_judge_L40 (fun x o => bd (M_again o) fun o26 => some (x, o26)) (nI d) (nI k) (N2 + 1) o18 s17 v19) := by
      rw [et, bd2_e, nm_q, nm_q, bd_e, bd_e, nm_q, nI_1]
      exact ih (i + 1) N1 (N2 + 1) _ v (by omega) (by omega) (by omega) hv' (by rw [vu_at]; exact ht') tv hmv
    by_cases c2 : oA (σ (11 + d)) 1 i = lstS (oS (σ (11 + d)) 3)
    · rw [decide_eq_true (Or.inr c2), decide_eq_true c2, b1, b1]
      exact go
    · by_cases c1 : oA (σ (11 + d)) 1 i = pcI (ownS u (nI k))
      · rw [decide_eq_true (Or.inl c1), decide_eq_false c2, b1, b0, if_pos c1]
        exact go
      · rw [decide_eq_false (show ¬ (oA (σ (11 + d)) 1 i = pcI (ownS u (nI k)) ∨ oA (σ (11 + d)) 1 i = lstS (oS (σ (11 + d)) 3)) by intro h; rcases h with h | h; exact c1 h; exact c2 h), decide_eq_false c2, b0, b0, if_neg c1]
        exact stop
theorem r_judge {n : Nat} {σ : CS} {o : Ob} (h : Rel n σ o) (p q : Int32) : ok2 (C_judge σ p q) (M_judge o p q) := by
  have h7 := h.n7
  have H := h.t0
  unfold C_judge M_judge
  rw [nm_q]
  generalize pS o 15 0 = u at H
  rw [C_isShelf_ok', bd_e, T_hasOne_ok' h.1.2.1 h7, M_isOne_ok' H.2.1 h7, bd_e, bd_e]
  cases hp : rng p 0 7 with
  | false =>
    rw [b0]
    have e : M_wrongRow u p = some (-1) := by
      unfold M_wrongRow
      rw [M_inI, bd_e, show (0 : Int64).toInt = 0 from rfl, show (7 : Int64).toInt = 7 from rfl, hp]; rfl
    rw [e, bd_e, ite_self, bd_e, if_neg (by decide)]
    exact ⟨-1, σ, u, rfl, rfl, n, H⟩
  | true =>
    rw [b1]
    cases hq : rng q 0 ((n : Int) - 1) with
    | false =>
      rw [b0, b0, bd_e, if_neg (by decide)]
      exact ⟨-1, σ, u, rfl, rfl, n, H⟩
    | true =>
      obtain ⟨k, hk, rfl⟩ := rng_n hq h7
      rw [b1, b1]
      rcases hold2 H p with ⟨r, e1, e2, e3, e4⟩ | ⟨e1, e2, d, hd, rfl, e3⟩
      · rw [e1, e2, bd_e, bd_e, bd_e, if_neg e3, if_neg e4]
        exact ⟨r, σ, u, rfl, rfl, n, H⟩
      · obtain ⟨-, -, -, -, -, -, ⟨m, hm, em⟩, -⟩ := H.2.2.2.2.2.2.2.2 d hd
        obtain ⟨s, f1, t1, v1, w1⟩ := M_think_ok' H.zo
        obtain ⟨t, g1, g2, g3⟩ := mind_take H (a := 3) (by decide) visC.rf
        rw [e1, e2, bd_e, bd_e, bd_e, if_pos rfl, if_pos (by decide), inb_nI hd (by decide), gd_t, nI_clamp (by omega), g1, f1, bd_e, bd_e, nm_q, ← nI_0]
        exact judge_loop H hd hm em m 0 FU FU _ s (by omega) (FU_gt (by omega)) (FU_gt (by omega)) (visC_mind (by decide) g3) (by rw [vu_at]; exact g2) t1 (think_day H v1 w1)

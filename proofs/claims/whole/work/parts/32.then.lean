/-! what is then: the class thinks on, the reference thinks and puts back -/
theorem th_fin {n : Nat} {σ τ : CS} {o u : Ob} (h : Rel n σ o) (hv : visC σ τ) (t : TH o u) (x : Int32) : ok2 (some (x, τ)) (bd (M_again u) fun o17 => some (x, o17)) := by
  obtain ⟨w, e, -, v, -⟩ := M_again_ok' h.zo t
  exact ⟨x, τ, w, rfl, by rw [e, bd_e], n, (h.c hv).m v⟩
theorem then_both {n k : Nat} {σ : CS} {o : Ob} (h : Rel n σ o) (hk : k ≤ 60) : ∃ τ s v, C_thinkOn σ (nI k) = some τ ∧ M_think o = some s ∧ M_goDays s (nI k) = some v ∧ visC σ τ ∧ TH o v ∧ AEq (τ 3) v ∧ wfA n (τ 3) := by
  obtain ⟨s, e1, t1, v1, a1⟩ := M_think_ok' h.zo
  obtain ⟨v, e2, d2, t2⟩ := M_days_on h (show k < 1000 by omega) t1 (think_day h v1 a1)
  obtain ⟨τ, c1, c2, c3⟩ := C_thinkOn_ok' h hk
  exact ⟨τ, s, v, c1, e1, e2, c2, t2, c3.2.2.tr d2.2.2.sm, c3.2.2.sm.wf (iter_wf h.wf k)⟩
theorem r_ownerThen {n : Nat} {σ : CS} {o : Ob} (h : Rel n σ o) (p w : Int32) : ok2 (C_ownerThen σ p w) (M_ownerThen o p w) := by
  have H := h.t0
  unfold C_ownerThen M_ownerThen
  simp only [nm_q]
  generalize pS o 15 0 = u at H
  rw [C_isThing_ok', M_isThing_ok', bd_e, bd_e]
  cases hp : rng p 0 4 with
  | false => exact ⟨-1, σ, u, rfl, rfl, n, H⟩
  | true =>
    obtain ⟨k, hk, rfl⟩ := rng_nI (hi := 4) hp (by decide)
    rw [b1, b1, C_within_ok', M_inI, bd_e, bd_e, show (60 : Int32).toInt = 60 from rfl, show (0 : Int64).toInt = 0 from rfl, show (60 : Int64).toInt = 60 from rfl]
    cases hw : rng w 0 60 with
    | false => exact ⟨-1, σ, u, rfl, rfl, n, H⟩
    | true =>
      obtain ⟨j, hj, rfl⟩ := rng_nI (hi := 60) hw (by decide)
      obtain ⟨τ, s, v, c1, e1, e2, c2, t2, a2, w2⟩ := then_both H hj
      have i5 : inb (nI k) 5 = true := inb_nI (by omega) (by decide)
      simp only [b1, c1, e1, e2, bd_e, i5, gd_t, C_none_ok', M_none_ok', ix_nI (show k < 2 ^ 31 by omega)]
      rw [← a2 3 (by decide) (by decide)]
      exact th_fin H c2 t2 _
theorem r_storyThen {n : Nat} {σ : CS} {o : Ob} (h : Rel n σ o) (p q w : Int32) : ok2 (C_storyThen σ p q w) (M_storyThen o p q w) := by
  have h7 := h.n7
  have H := h.t0
  unfold C_storyThen M_storyThen
  simp only [nm_q]
  generalize pS o 15 0 = u at H
  rw [T_hasOne_ok' h.1.2.1 h7, M_isOne_ok' H.2.1 h7, bd_e, bd_e]
  cases hp : rng p 0 ((n : Int) - 1) with
  | false => exact ⟨-1, σ, u, rfl, rfl, n, H⟩
  | true =>
    obtain ⟨k, hk, rfl⟩ := rng_n hp h7
    rw [b1, b1, C_isThing_ok', M_isThing_ok', bd_e, bd_e]
    cases hq : rng q 0 4 with
    | false => exact ⟨-1, σ, u, rfl, rfl, n, H⟩
    | true =>
      obtain ⟨i, hi, rfl⟩ := rng_nI (hi := 4) hq (by decide)
      rw [b1, b1, C_within_ok', M_inI, bd_e, bd_e, show (60 : Int32).toInt = 60 from rfl, show (0 : Int64).toInt = 0 from rfl, show (60 : Int64).toInt = 60 from rfl]
      cases hw : rng w 0 60 with
      | false => exact ⟨-1, σ, u, rfl, rfl, n, H⟩
      | true =>
        obtain ⟨j, hj, rfl⟩ := rng_nI (hi := 60) hw (by decide)
        obtain ⟨τ, s, v, c1, e1, e2, c2, t2, a2, w2⟩ := then_both H hj
        simp only [b1, c1, e1, e2, bd_e, T_tale_ok' w2 hk (show i < 5 by omega), M_storyOf_ok' (a2.wf w2) hk (show i < 5 by omega)]
        rw [← a2.story]
        exact th_fin H c2 t2 _
theorem r_ownsThen {n : Nat} {σ : CS} {o : Ob} (h : Rel n σ o) (p q w : Int32) : ok2 (C_ownsThen σ p q w) (M_ownsThen o p q w) := by
  have h7 := h.n7
  have H := h.t0
  unfold C_ownsThen M_ownsThen
  simp only [nm_q]
  generalize pS o 15 0 = u at H
  rw [T_hasOne_ok' h.1.2.1 h7, M_isOne_ok' H.2.1 h7, bd_e, bd_e]
  cases hp : rng p 0 ((n : Int) - 1) with
  | false => exact ⟨-1, σ, u, rfl, rfl, n, H⟩
  | true =>
    obtain ⟨k, hk, rfl⟩ := rng_n hp h7
    rw [b1, b1, C_within_ok', M_inI, bd_e, bd_e, show (60 : Int32).toInt = 60 from rfl, show (0 : Int64).toInt = 0 from rfl, show (60 : Int64).toInt = 60 from rfl]
    cases hq : rng q 0 60 with
    | false => exact ⟨-1, σ, u, rfl, rfl, n, H⟩
    | true =>
      obtain ⟨j, hj, rfl⟩ := rng_nI (hi := 60) hq (by decide)
      rw [b1, b1, C_within_ok', M_inI, bd_e, bd_e, show (1 : Int32).toInt = 1 from rfl, show (0 : Int64).toInt = 0 from rfl, show (1 : Int64).toInt = 1 from rfl]
      cases hw : rng w 0 1 with
      | false => exact ⟨-1, σ, u, rfl, rfl, n, H⟩
      | true =>
        obtain ⟨τ, s, v, c1, e1, e2, c2, t2, a2, w2⟩ := then_both H hj
        simp only [b1, c1, e1, e2, bd_e, T_ownedBy_ok', M_ownedBy_ok', T_wealth_ok', M_worthOf_ok']
        rw [← a2.own, ← a2.worth]
        by_cases c : w = 0
        · rw [if_pos c, if_pos c, bd_e]; exact th_fin H c2 t2 _
        · rw [if_neg c, if_neg c, bd_e]; exact th_fin H c2 t2 _
theorem M_day_on {n k : Nat} {σ : CS} {o u : Ob} (h : Rel n σ o) (t : TH o u) (hu : isDayM n (oS o 8) (σ 1) k u) : ∃ v, M_dayOn u = some v ∧ isDayM n (oS o 8) (σ 1) (k + 1) v ∧ TH o v := by
  obtain ⟨v, e, hv, r⟩ := M_dayOn_day h.wf hu
  exact ⟨v, e, hv, t.rest r (hv.zb h.wf h.1.2.2.2.2)⟩
/-- the class's mind, a day on -/
theorem C_day_on {n k : Nat} {σ τ : CS} {o : Ob} (h : Rel n σ o) (hv : visC σ τ) (hd : isDay n (oS o 8) (σ 1) k (τ 3)) : ∃ f v, T_pass (τ 3) = some (f, v) ∧ isDay n (oS o 8) (σ 1) (k + 1) v ∧ visC σ (va_up τ 3 v) := by
  obtain ⟨f, v, e, hv', -⟩ := T_pass_day h.wf hd
  exact ⟨f, v, e, hv', hv.tr (visC_mind (by decide) (hv'.zb h.wf h.1.2.2.2.2))⟩
theorem when_loop {n k i : Nat} {σ : CS} {o : Ob} (h : Rel n σ o) (hk : k < n) (hi : i < 5) : ∀ r d N1 N2 (τ : CS) (u : Ob), d + r = 61 → r < N1 → r + 1 < N2 → visC σ τ → isDay n (oS o 8) (σ 1) d (τ 3) → TH o u → isDayM n (oS o 8) (σ 1) d u →
    ok2 (C_when_L33 (nI k) (nI i) N1 τ (nI d)) (M_when_L32 (fun x o => bd (M_again o) fun o17 => some (x, o17)) (nI k) (nI i) N2 u (-4) (nI d)) := by
  intro r
  induction r with
  | zero =>
    intro d N1 N2 τ u hd h1 h2 hv hc ht hm
    obtain ⟨N1, rfl⟩ : ∃ m, N1 = m + 1 := ⟨N1 - 1, by omega⟩
    obtain ⟨N2, rfl⟩ : ∃ m, N2 = m + 1 := ⟨N2 - 1, by omega⟩
    have e : (60 : Int32) < nI d := by show nI 60 < nI d; rw [nI_lt' (by omega) (by omega)]; omega
    rw [C_when_L33, M_when_L32, if_pos e, if_pos e]
    exact th_fin h hv ht _
  | succ r ih =>
    intro d N1 N2 τ u hd h1 h2 hv hc ht hm
    obtain ⟨N1, rfl⟩ : ∃ m, N1 = m + 1 := ⟨N1 - 1, by omega⟩
    obtain ⟨N2, rfl⟩ : ∃ m, N2 = m + 1 + 1 := ⟨N2 - 2, by omega⟩
    have e : ¬ (60 : Int32) < nI d := by show ¬ nI 60 < nI d; rw [nI_lt' (by omega) (by omega)]; omega
    have e4 : ¬ (0 : Int32) ≤ -4 := by decide
    have i5 : inb (nI i) 5 = true := inb_nI (by omega) (by decide)
    obtain ⟨v, ev, hmv, tv⟩ := M_day_on h ht hm
    rw [C_when_L33, M_when_L32, if_neg e, if_neg e, if_neg e4, i5, gd_t, gd_t, ev]
    simp only [nm_q, bd_e, ix_nI (show i < 2 ^ 31 by omega)]
    rw [← (hc.2.2.tr hm.2.2.sm) 3 (by decide) (by decide)]
    by_cases c : oA (τ 3) 3 i = nI k
    · rw [if_pos c, if_pos c, bd_e, M_when_L32]
      have p0 : (0 : Int32) ≤ nI d := by show nI 0 ≤ nI d; rw [nI_le' (by omega) (by omega)]; omega
      rw [if_pos p0, ite_self]
      exact th_fin h hv tv _
    · obtain ⟨f, t, et, ht', hv'⟩ := C_day_on h hv hc
      rw [if_neg c, if_neg c, bd_e, et, bd2_e, nI_1]
      exact ih (d + 1) N1 (N2 + 1) _ v (by omega) (by omega) (by omega) hv' (by rw [vu_at]; exact ht') tv hmv
theorem r_when {n : Nat} {σ : CS} {o : Ob} (h : Rel n σ o) (p q : Int32) : ok2 (C_when σ p q) (M_when o p q) := by
  have h7 := h.n7
  have H := h.t0
  unfold C_when M_when
  simp only [nm_q]
  generalize pS o 15 0 = u at H
  rw [T_hasOne_ok' h.1.2.1 h7, M_isOne_ok' H.2.1 h7, bd_e, bd_e]
  cases hp : rng p 0 ((n : Int) - 1) with
  | false => exact ⟨-1, σ, u, rfl, rfl, n, H⟩
  | true =>
    obtain ⟨k, hk, rfl⟩ := rng_n hp h7
    rw [b1, b1, C_isThing_ok', M_isThing_ok', bd_e, bd_e]
    cases hq : rng q 0 4 with
    | false => exact ⟨-1, σ, u, rfl, rfl, n, H⟩
    | true =>
      obtain ⟨i, hi, rfl⟩ := rng_nI (hi := 4) hq (by decide)
      obtain ⟨s, e1, t1, v1, a1⟩ := M_think_ok' H.zo
      obtain ⟨t, f1, f2, f3⟩ := mind_take H (a := 3) (by decide) visC.rf
      rw [b1, b1, f1, e1, bd_e, bd_e]
      exact when_loop H hk (by omega) 61 0 FU FU _ s rfl (FU_gt (by decide)) (FU_gt (by decide)) (visC_mind (by decide) f3) (by rw [vu_at]; exact f2) t1 (think_day H v1 a1)
theorem loses_loop {n i : Nat} {a : Int32} {σ : CS} {o : Ob} (h : Rel n σ o) (hi : i < 5) (ha : oA (σ 1) 3 i = a) (h9 : ¬ a = 9) : ∀ r d N1 N2 (τ : CS) (u : Ob), d + r = 61 → r < N1 → r + 1 < N2 → visC σ τ → isDay n (oS o 8) (σ 1) d (τ 3) → TH o u → isDayM n (oS o 8) (σ 1) d u →
    ok2 (C_loses_L39 (nI i) N1 τ (nI d)) (M_loses_L31 (fun x o => bd (M_again o) fun o17 => some (x, o17)) (nI i) a N2 u (-4) (nI d)) := by
  intro r
  induction r with
  | zero =>
    intro d N1 N2 τ u hd h1 h2 hv hc ht hm
    obtain ⟨N1, rfl⟩ : ∃ m, N1 = m + 1 := ⟨N1 - 1, by omega⟩
    obtain ⟨N2, rfl⟩ : ∃ m, N2 = m + 1 := ⟨N2 - 1, by omega⟩
    have e : (60 : Int32) < nI d := by show nI 60 < nI d; rw [nI_lt' (by omega) (by omega)]; omega
    rw [C_loses_L39, M_loses_L31, if_pos e, if_pos e]
    exact th_fin h hv ht _
  | succ r ih =>
    intro d N1 N2 τ u hd h1 h2 hv hc ht hm
    obtain ⟨N1, rfl⟩ : ∃ m, N1 = m + 1 := ⟨N1 - 1, by omega⟩
    obtain ⟨N2, rfl⟩ : ∃ m, N2 = m + 1 + 1 := ⟨N2 - 2, by omega⟩
    have e : ¬ (60 : Int32) < nI d := by show ¬ nI 60 < nI d; rw [nI_lt' (by omega) (by omega)]; omega
    have e4 : ¬ (0 : Int32) ≤ -4 := by decide
    have i5 : inb (nI i) 5 = true := inb_nI (by omega) (by decide)
    obtain ⟨v, ev, hmv, tv⟩ := M_day_on h ht hm
    rw [C_loses_L39, M_loses_L31, if_neg e, if_neg e, if_neg e4, if_neg h9, i5, gd_t, gd_t, gd_t, ev]
    simp only [nm_q, bd_e, ix_nI (show i < 2 ^ 31 by omega)]
    rw [← (hc.2.2.tr hm.2.2.sm) 3 (by decide) (by decide), hv.1, ha]
    by_cases c : oA (τ 3) 3 i = a
    · obtain ⟨f, t, et, ht', hv'⟩ := C_day_on h hv hc
      rw [if_pos c, if_pos c, bd_e, et, bd2_e, nI_1]
      exact ih (d + 1) N1 (N2 + 1) _ v (by omega) (by omega) (by omega) hv' (by rw [vu_at]; exact ht') tv hmv
    · rw [if_neg c, if_neg c, bd_e, M_loses_L31]
      have p0 : (0 : Int32) ≤ nI d := by show nI 0 ≤ nI d; rw [nI_le' (by omega) (by omega)]; omega
      rw [if_pos p0, ite_self]
      exact th_fin h hv tv _
theorem r_loses {n : Nat} {σ : CS} {o : Ob} (h : Rel n σ o) (q : Int32) : ok2 (C_loses σ q) (M_loses o q) := by
  have H := h.t0
  unfold C_loses M_loses
  simp only [nm_q]
  generalize pS o 15 0 = u at H
  rw [C_isThing_ok', M_isThing_ok', bd_e, bd_e]
  cases hq : rng q 0 4 with
  | false => exact ⟨-1, σ, u, rfl, rfl, n, H⟩
  | true =>
    obtain ⟨i, hi, rfl⟩ := rng_nI (hi := 4) hq (by decide)
    obtain ⟨s, e1, t1, v1, a1⟩ := M_think_ok' H.zo
    have i5 : inb (nI i) 5 = true := inb_nI (by omega) (by decide)
    simp only [b1, i5, gd_t, ix_nI (show i < 2 ^ 31 by omega), e1, bd_e]
    rw [← H.2.2.2.1 3 (by decide) (by decide)]
    by_cases c : oA (σ 1) 3 i = 9
    · rw [if_pos c, show FU = (FU - 1) + 1 from rfl, M_loses_L31, if_pos c, ite_self, ite_self]
      exact th_fin H visC.rf t1 _
    · obtain ⟨t, f1, f2, f3⟩ := mind_take H (a := 3) (by decide) visC.rf
      rw [if_neg c, f1, bd_e]
      exact loses_loop H (by omega) rfl c 61 0 FU FU _ s rfl (FU_gt (by decide)) (FU_gt (by decide)) (visC_mind (by decide) f3) (by rw [vu_at]; exact f2) t1 (think_day H v1 a1)

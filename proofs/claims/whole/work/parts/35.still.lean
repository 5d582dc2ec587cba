/-! stillness -/
theorem chg_ne {n h : Nat} {t : Ob} (w : wfA n t) (hh : h < 5) (c : changes n t h = true) : oA (settleS n h t) 3 h ≠ oA t 3 h := by
  have h1 := of_decide_eq_true c
  have h2 : (resC n t h).2.1 = 0 ∨ (resC n t h).2.2 ≠ oA t 3 h := foldN_inv (P := fun _ (s : Int32 × Int32 × Int32) => s.2.1 = 0 ∨ s.2.2 ≠ oA t 3 h) (Or.inl rfl) n (fun i s _ q => by
    unfold stepC
    split
    · exact q
    · rename_i ne
      split
      · exact q
      · exact Or.inr ne)
  have h3 := ownT_nn w hh
  rw [← resC_1 w hh] at h3
  rw [fa_lt] at h1
  unfold settleS
  rw [c]
  show oA (setO t h (resC n t h).2.2) 3 h ≠ _
  rw [setO_at hh, if_pos rfl]
  rcases h2 with h2 | h2
  · rw [h2] at h1
    have : (0 : Int32).toInt = 0 := by decide
    omega
  · exact h2
theorem chg_eq {n h : Nat} {t : Ob} (c : changes n t h = false) : settleS n h t = t := by unfold settleS; rw [c]
theorem settle_oth {n h q : Nat} {t : Ob} (hh : h < 5) (hq : q ≠ h) : oA (settleS n h t) 3 q = oA t 3 q := by
  unfold settleS
  split
  · rw [setO_at hh, if_neg hq]
  · rfl
theorem people_3 {n : Nat} {d : Int32} {t : Ob} (w : wfA n t) : oA (peopleS n d t) 3 = oA t 3 := by
  have h7 := w.n7
  exact (foldN_inv (P := fun _ s => wfA n s ∧ oA s 3 = oA t 3) ⟨w, rfl⟩ n (fun i s hi q => by
    refine ⟨person_wf q.1 hi, ?_⟩
    have z1 := (studyS_ne (d := d) q.1 hi (show (3 : Nat) ≠ 7 by decide)).trans q.2
    unfold personS forgetS; split
    · exact z1
    · exact foldN_inv (P := fun _ s => oA s 3 = oA t 3) z1 5 (fun j s hj q => (setK_ne (by decide)).trans q))).2
theorem flag_own {n : Nat} {d : Int32} {t : Ob} (w : wfA n t) : (flagS n d t).1 = 0 ↔ ∀ h, h < 5 → oA (dayS n d t) 3 h = oA t 3 h := by
  have e3 := people_3 (d := d) w
  have k := foldN_inv (P := fun i (s : Int32 × Ob) => wfA n s.2 ∧ (∀ h, i ≤ h → oA s.2 3 h = oA t 3 h) ∧ ((s.1 = 0 ∧ ∀ h, h < i → oA s.2 3 h = oA t 3 h) ∨ (s.1 = 1 ∧ ¬ ∀ h, h < i → oA s.2 3 h = oA t 3 h))) (step := fun h s => (s.1 ||| bI (changes n s.2 h), settleS n h s.2)) (s := (0, peopleS n d t)) ⟨people_wf w, fun h _ => by rw [e3], Or.inl ⟨rfl, fun h hh => absurd hh (by omega)⟩⟩ 5 (fun i s hi q => by
    obtain ⟨q1, q2, q3⟩ := q
    refine ⟨q1.settle hi, fun h hh => (settle_oth hi (by omega)).trans (q2 h (by omega)), ?_⟩
    have q4 : ∀ h, h < i → oA (settleS n i s.2) 3 h = oA s.2 3 h := fun h hh => settle_oth hi (by omega)
    cases c : changes n s.2 i with
    | false =>
      have e := chg_eq c
      show (s.1 ||| bI false = 0 ∧ _) ∨ (s.1 ||| bI false = 1 ∧ _)
      rw [show s.1 ||| bI false = s.1 by unfold bI; exact Int32.or_zero]
      simp only [e]
      rcases q3 with ⟨a, b⟩ | ⟨a, b⟩
      · exact Or.inl ⟨a, fun h hh => if g : h = i then by subst g; exact q2 _ (Nat.le_refl _) else b h (by omega)⟩
      · exact Or.inr ⟨a, fun z => b fun h hh => z h (by omega)⟩
    | true =>
      have e := chg_ne q1 hi c
      refine Or.inr ⟨?_, fun z => e ((z i (by omega)).trans (q2 i (Nat.le_refl _)).symm)⟩
      show s.1 ||| 1 = 1
      rcases q3 with ⟨a, -⟩ | ⟨a, -⟩ <;> rw [a] <;> rfl)
  obtain ⟨-, -, k3⟩ := k
  have ed : (foldN (fun h (s : Int32 × Ob) => (s.1 ||| bI (changes n s.2 h), settleS n h s.2)) (0, peopleS n d t) 5).2 = dayS n d t := flag_day
  rw [ed] at k3
  show (foldN (fun h (s : Int32 × Ob) => (s.1 ||| bI (changes n s.2 h), settleS n h s.2)) (0, peopleS n d t) 5).1 = 0 ↔ _
  rcases k3 with ⟨a, b⟩ | ⟨a, b⟩
  · exact ⟨fun _ => b, fun _ => a⟩
  · exact ⟨fun z => absurd (a.symm.trans z) (by decide), fun z => absurd z b⟩
theorem still_cmp {o : Ob} {a x : Int32} (k : Int32 → Option (Int32 × Ob)) : ∃ y, M_stillIn_L57 k o a FU x 0 = k y ∧ ((∀ h, h < 5 → oA o 3 h = oA o 20 h) → y = x) ∧ ((¬ ∀ h, h < 5 → oA o 3 h = oA o 20 h) → y = a) := by
  obtain ⟨e, i⟩ := up_loop (L := fun N s i => M_stillIn_L57 k o a N s (nI i)) 5 (fun i s => if oA o 3 i = oA o 20 i then s else a) (fun i s => ((∀ h, h < i → oA o 3 h = oA o 20 h) → s = x) ∧ ((¬ ∀ h, h < i → oA o 3 h = oA o 20 h) → s = a)) k (by
    intro N i s hi q
    constructor
    · have i5 : inb (nI i) 5 = true := inb_nI hi (by decide)
      rw [M_stillIn_L57, if_neg (by show ¬ nI 5 ≤ nI i; rw [nI_le' (by omega) (by omega)]; omega), i5]
      simp only [gd_t, nm_q, nI_1, ix_nI (show i < 2 ^ 31 by omega), it_sm, bd_e]
    · by_cases c : oA o 3 i = oA o 20 i
      · simp only [if_pos c]
        exact ⟨fun z => q.1 fun h hh => z h (by omega), fun z => q.2 fun y => z fun h hh => if g : h = i then by subst g; exact c else y h (by omega)⟩
      · simp only [if_neg c]
        exact ⟨fun z => absurd (z i (by omega)) c, fun _ => trivial⟩) (by
    intro N s _
    rw [M_stillIn_L57, if_pos (by decide)]) x ⟨fun _ => rfl, fun z => absurd (fun h hh => absurd hh (by omega)) z⟩ FU (FU_gt (by decide))
  exact ⟨_, e, i⟩
theorem still_note {n d : Nat} {σ : CS} {o u : Ob} {x1 x3 : Int32} (t : TH o u) (hu : isDayM n (oS o 8) (σ 1) d u) (k : Ob → Option (Int32 × Ob)) : ∃ v, M_stillIn_L24 k x1 x3 FU u 0 = k v ∧ TH o v ∧ isDayM n (oS o 8) (σ 1) d v ∧ ∀ h, h < 5 → oA v 20 h = oA v 3 h := by
  refine up_loopE (L := fun N s i => M_stillIn_L24 k x1 x3 N s (nI i)) 5 (fun i s => TH o s ∧ isDayM n (oS o 8) (σ 1) d s ∧ ∀ h, h < i → oA s 20 h = oA s 3 h) k ?_ ?_ u ⟨t, hu, fun h hh => absurd hh (by omega)⟩ FU (FU_gt (by decide))
  · intro N i s hi ⟨q1, q2, q3⟩
    have i5 : inb (nI i) 5 = true := inb_nI hi (by decide)
    refine ⟨pA s 20 (nI i) (oA s 3 i), ?_, q1.pA (by omega) (Or.inr (by decide)), ⟨q2.1, q2.2.1, fun j a b => by rw [pA_ne (by omega)]; exact q2.2.2 j a b⟩, fun h hh => ?_⟩
    · rw [M_stillIn_L24, if_neg (by show ¬ nI 5 ≤ nI i; rw [nI_le' (by omega) (by omega)]; omega), i5]
      simp only [gd_t, nm_q, nI_1, ix_nI (show i < 2 ^ 31 by omega)]
    · rw [pA_at (by omega), pA_ne (by decide)]
      by_cases g : h = i
      · rw [if_pos g, g]
      · rw [if_neg g]; exact q3 h (by omega)
  · intro N s _
    rw [M_stillIn_L24, if_pos (by decide)]
theorem still_loop {n : Nat} {σ : CS} {o : Ob} (R : Rel n σ o) : ∀ r d N1 N2 (τ : CS) (u : Ob) x, d + r = 61 → 1 ≤ d → x < d → r < N1 → r + 1 < N2 → visC σ τ → isDay n (oS o 8) (σ 1) (d - 1) (τ 3) → TH o u → isDayM n (oS o 8) (σ 1) (d - 1) u →
    ok2 (C_stillness_L15 N1 τ (nI x) (nI d)) (M_stillIn_L11 (fun x o => bd (M_again o) fun o24 => some (x, o24)) N2 u (nI x) (-4) (nI d)) := by
  intro r
  induction r with
  | zero =>
    intro d N1 N2 τ u x hd hd1 hx h1 h2 hv hc ht hm
    obtain ⟨N1, rfl⟩ : ∃ m, N1 = m + 1 := ⟨N1 - 1, by omega⟩
    obtain ⟨N2, rfl⟩ : ∃ m, N2 = m + 1 := ⟨N2 - 1, by omega⟩
    have e : (60 : Int32) < nI d := by show nI 60 < nI d; rw [nI_lt' (by omega) (by omega)]; omega
    rw [C_stillness_L15, M_stillIn_L11, if_pos e, if_pos e]
    exact th_fin R hv ht _
  | succ r ih =>
    intro d N1 N2 τ u x hd hd1 hx h1 h2 hv hc ht hm
    obtain ⟨N1, rfl⟩ : ∃ m, N1 = m + 1 := ⟨N1 - 1, by omega⟩
    obtain ⟨N2, rfl⟩ : ∃ m, N2 = m + 1 + 1 := ⟨N2 - 2, by omega⟩
    have e : ¬ (60 : Int32) < nI d := by show ¬ nI 60 < nI d; rw [nI_lt' (by omega) (by omega)]; omega
    have e4 : ¬ (0 : Int32) ≤ -4 := by decide
    obtain ⟨f, t, et, hc', ef⟩ := T_pass_day R.wf hc
    have hv' : visC σ (va_up τ 3 t) := hv.tr (visC_mind (by decide) (hc'.zb R.wf R.1.2.2.2.2))
    rw [C_stillness_L15, M_stillIn_L11, if_neg e, if_neg e, if_neg e4, et]
    obtain ⟨v, v1, v2, v3, v4⟩ := still_note (σ := σ) (x1 := nI x) (x3 := nI d) ht hm (fun (o9 : Ob) =>
            bd (M_dayOn o9) fun (o10 : Ob) =>
            M_stillIn_L57 (fun (x1_17 : Int32) =>
                bd (
                  if (nI d - x1_17) = (10 : Int32) then
                    some x1_17
                  else
                    some (-4 : Int32)) fun (s19 : Int32) =>
                nm (nI d + (1 : Int32)) fun v20 =>
                M_stillIn_L11 (fun x o => bd (M_again o) fun o24 => some (x, o24)) (N2 + 1) o10 x1_17 s19 v20) o10 (nI d) FU (nI x) (0 : Int32))
    rw [v1]
    obtain ⟨w, w1, w2, w3⟩ := M_dayOn_day R.wf v3
    have tw : TH o w := v2.rest w3 (w2.zb R.wf R.1.2.2.2.2)
    rw [w1, bd_e]
    obtain ⟨y, y1, y2, y3⟩ := still_cmp (o := w) (a := nI d) (x := nI x) (fun (x1_17 : Int32) =>
                bd (
                  if (nI d - x1_17) = (10 : Int32) then
                    some x1_17
                  else
                    some (-4 : Int32)) fun (s19 : Int32) =>
                nm (nI d + (1 : Int32)) fun v20 =>
                M_stillIn_L11 (fun x o => bd (M_again o) fun o24 => some (x, o24)) (N2 + 1) w x1_17 s19 v20)
    rw [y1]
    simp only [nm_q, bd2_e, jn_e, nI_1]
    have key : f = 0 ↔ ∀ h, h < 5 → oA w 3 h = oA w 20 h := by
      rw [ef, flag_own (iter_wf R.wf (d - 1))]
      have q1 : oA w 3 = oA (iterD n (oS o 8) (σ 1) (d - 1 + 1)) 3 := w2.2.2 3 (by decide) (by decide)
      have q2 : ∀ h, h < 5 → oA w 20 h = oA (iterD n (oS o 8) (σ 1) (d - 1)) 3 h := fun h hh => by rw [w3.2.1 20 (by decide), v4 h hh, v3.2.2 3 (by decide) (by decide)]
      rw [q1]
      constructor
      · intro z h hh; rw [q2 h hh]; exact z h hh
      · intro z h hh; rw [← q2 h hh]; exact z h hh
    have hc2 : isDay n (oS o 8) (σ 1) (d + 1 - 1) ((va_up τ 3 t) 3) := by rw [vu_at, show d + 1 - 1 = d - 1 + 1 by omega]; exact hc'
    have hm2 : isDayM n (oS o 8) (σ 1) (d + 1 - 1) w := by rw [show d + 1 - 1 = d - 1 + 1 by omega]; exact w2
    by_cases c : f = 0
    · have ey := y2 (key.mp c)
      subst ey
      rw [if_pos c]
      by_cases c' : nI d - nI x = 10
      · rw [if_pos c', if_pos c', bd_e, M_stillIn_L11]
        have p0 : (0 : Int32) ≤ nI x := by show nI 0 ≤ nI x; rw [nI_le' (by omega) (by omega)]; omega
        rw [if_pos p0, ite_self]
        exact th_fin R hv' tw _
      · rw [if_neg c', if_neg c', bd_e]
        exact ih (d + 1) N1 (N2 + 1) _ w x (by omega) (by omega) (by omega) (by omega) (by omega) hv' hc2 tw hm2
    · have ey := y3 (fun z => c (key.mpr z))
      subst ey
      have c' : ¬ nI d - nI d = (10 : Int32) := by rw [Int32.sub_self]; decide
      rw [if_neg c, if_neg c', bd_e]
      exact ih (d + 1) N1 (N2 + 1) _ w d (by omega) (by omega) (by omega) (by omega) (by omega) hv' hc2 tw hm2
theorem own31 (x : Int32) (h : ∃ k, k < 32 ∧ x = nI k) : 31 &&& ((31 &&& (x ^^^ -1)) ^^^ -1) = x := by
  obtain ⟨k, hk, rfl⟩ := h
  have h1 := (List.all_eq_true.mp (show ((List.range 32).all fun k => decide (31 &&& ((31 &&& (nI k ^^^ -1)) ^^^ -1) = nI k)) = true by decide +kernel)) k (List.mem_range.mpr hk)
  exact of_decide_eq_true h1
theorem own_rng (t : Ob) (p : Int32) : ∃ k, k < 32 ∧ ownS t p = nI k := by
  have key : ∀ k, k < 32 → ∀ i, i < 5 → ∃ m, m < 32 ∧ nI k ||| shl32 1 (nI i) = nI m := by
    intro k hk i hi
    have h1 := (List.all_eq_true.mp (List.all_eq_true.mp (show ((List.range 32).all fun k => (List.range 5).all fun i => (List.range 32).any fun m => decide (nI k ||| shl32 1 (nI i) = nI m)) = true by decide +kernel) k (List.mem_range.mpr hk))) i (List.mem_range.mpr hi)
    obtain ⟨m, hm, e⟩ := List.any_eq_true.mp h1
    exact ⟨m, List.mem_range.mp hm, of_decide_eq_true e⟩
  exact foldN_inv (P := fun _ (s : Int32) => ∃ k, k < 32 ∧ s = nI k) (step := fun i s => if oA t 3 i = p then s ||| shl32 1 (nI i) else s) (s := 0) ⟨0, by decide, rfl⟩ 5 (fun i s hi q => by
    obtain ⟨k, hk, rfl⟩ := q
    split
    · exact key k hk i hi
    · exact ⟨k, hk, rfl⟩)
theorem r_richest {n : Nat} {σ : CS} {o : Ob} (h : Rel n σ o) (p : Int32) : ok2 (C_richest σ p) (M_richest o p) := by
  have h7 := h.n7
  have H := h.t0
  unfold C_richest M_richest
  simp only [nm_q]
  generalize pS o 15 0 = u at H
  by_cases c0 : p = 0
  · rw [if_pos c0, if_pos c0]
    obtain ⟨y, e1, e2⟩ := rich_loop H n 0 FU FU (-1) (-4) (by omega) (FU_gt (by omega)) (FU_gt (by omega)) (Or.inl ⟨rfl, rfl⟩)
    rw [nI_0] at e1 e2
    unfold C_richestOne M_richestOne
    rw [e1, e2, bd_e, bd_e]
    exact ⟨y, σ, u, rfl, rfl, n, H⟩
  · rw [if_neg c0, if_neg c0]
    by_cases c1 : p = 1
    · rw [if_pos c1, if_pos c1]
      unfold T_ownedThings
      rw [T_ownedBy_ok', M_ownedBy_ok', bd_e, bd_e, bd_e, H.2.2.2.1.own, own31 _ (own_rng u 9)]
      exact ⟨_, σ, u, rfl, rfl, n, H⟩
    · rw [if_neg c1, if_neg c1]
      by_cases c2 : p = 2
      · rw [if_pos c2, if_pos c2, C_long H.wf H.1.2.1, M_long H.wfo H.2.1, bd_e, bd_e, long_flat, H.2.2.2.1.long]
        exact ⟨_, σ, u, rfl, rfl, n, H⟩
      · rw [if_neg c2, if_neg c2]
        by_cases c3 : p = 3
        · rw [if_pos c3, if_pos c3]
          unfold C_stillness M_stillIn
          obtain ⟨s, e1, t1, v1, a1⟩ := M_think_ok' H.zo
          obtain ⟨t, f1, f2, f3⟩ := mind_take H (a := 3) (by decide) visC.rf
          rw [f1, e1]
          simp only [bd_e, nm_q]
          obtain ⟨y, τ', o', g1, g2, g3⟩ := still_loop H 60 1 FU FU (va_up σ 3 t) s 0 rfl (by decide) (by decide) (FU_gt (by decide)) (FU_gt (by decide)) (visC_mind (by decide) f3) (by rw [vu_at]; exact f2) t1 (think_day H v1 a1)
          rw [nI_0, ← lit32 1] at g1 g2
          rw [g1, g2]
          exact ⟨y, τ', o', rfl, rfl, g3⟩
        · rw [if_neg c3, if_neg c3]
          exact ⟨-1, σ, u, rfl, rfl, n, H⟩

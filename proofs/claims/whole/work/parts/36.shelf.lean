/-! the shelves, the image -/
theorem shR.oth {s o u : Ob} {e : Nat} (h : shR s o e) (h1 : ∀ j, 8 ≤ j → j ≤ 12 → oA u j e = oA o j e) (h2 : ∀ i, i < 100 → oL u 13 (100 * e + i) = oL o 13 (100 * e + i)) : shR s u e := by
  unfold shR at h ⊢
  rw [h1 8 (by decide) (by decide), h1 9 (by decide) (by decide), h1 10 (by decide) (by decide), h1 11 (by decide) (by decide), h1 12 (by decide) (by decide)]
  obtain ⟨a1, a2, a3, a4, a5, a6, a7, a8⟩ := h
  exact ⟨a1, a2, a3, a4, a5, a6, a7, fun i hi => (a8 i hi).trans (h2 i hi).symm⟩
theorem Rel.sh {n d : Nat} {σ : CS} {o u s : Ob} (h : Rel n σ o) (hd : d < 8) (h3 : oS u 3 = oS o 3) (h8 : oS u 8 = oS o 8) (h25 : oS u 25 = oS o 25) (ha : ∀ j, 1 ≤ j → j ≤ 7 → oA u j = oA o j) (h18 : oA u 18 = oA o 18) (hs : shR s u d) (ho : ∀ e, e < 8 → e ≠ d → shR (σ (11 + e)) u e) : Rel n (va_up σ (11 + d) s) u := by
  obtain ⟨q1, q2, q3, q4, q5, q6, q7, q9, q10⟩ := h
  refine ⟨by rw [vu_ne (by omega)]; exact q1, h3.trans q2, by rw [vu_ne (by omega), h8]; exact q3, fun j a b => by rw [vu_ne (by omega), ha j a b]; exact q4 j a b, fun a x y => by rw [vu_ne (by omega)]; exact q5 a x y, by rw [vu_ne (by omega), h25]; exact q6, by rw [h25]; exact q7, fun e => ?_, fun e he => ?_⟩
  · rw [vu_ne (by omega), h18]; exact q9 (h25.symm.trans e)
  · by_cases c : e = d
    · subst c; rw [vu_at]; exact hs
    · rw [vu_ne (by omega)]; exact ho e he c
theorem enc_A {v o : Ob} (e : AEq v o) {q : Nat} (h : 2 ≤ q) : encM v q = encM o q := by
  unfold encM
  have h0 : ¬ q = 0 := by omega
  have h1 : ¬ q = 1 := by omega
  rw [e 7 (by decide) (by decide), e ((q - 2) % 3 + 1) (by omega) (by omega), e ((q - 17) % 3 + 4) (by omega) (by omega), if_neg h0, if_neg h1, if_neg h0, if_neg h1]
theorem tok_of {n : Nat} {t v : Ob} (h : tok n t) (h1 : oS v 1 = oS t 1) (h2 : oS v 2 = oS t 2) (e : AEq v t) (z : zb v) : tok n v := by
  obtain ⟨q1, q2, q3, q4, q5⟩ := h
  refine ⟨e.sm.wf q1, h1.trans q2, ?_, fun i hi => ?_, z⟩
  · rw [h2]; exact q3
  · rw [e 7 (by decide) (by decide)]; exact q4 i hi
theorem r_image {n : Nat} {σ : CS} {o : Ob} (h : Rel n σ o) : ok2 (C_image σ) (M_image o) := by
  have H := h.t0
  unfold C_image M_image
  simp only [nm_q]
  generalize pS o 15 0 = u at H
  obtain ⟨v, e1, e2, e3, e4, e5⟩ := T_takeFrom_ok' (t := σ 2) (u := σ 1) (H.2.2.2.2.1 2 (by decide) (by decide)) H.1.2.2.2.2
  obtain ⟨s, f1, t⟩ := M_take (o := pS u 25 1) (C := 18) (Or.inr rfl)
  obtain ⟨t1, t2, t3, t4, t5, t6, t7, t8⟩ := t
  have f1' : M_carryAll (pS u 25 1) 18 1 = some s := f1
  rw [e1, f1', bd_e, bd_e]
  have h3 : oS s 3 = oS u 3 := t4 3 (by decide) (by decide) (by decide)
  have h8 : oS s 8 = oS u 8 := t4 8 (by decide) (by decide) (by decide)
  have h25 : oS s 25 = 1 := t4 25 (by decide) (by decide) (by decide)
  have ha : ∀ j, j ≠ 18 → oA s j = oA u j := fun j hj => t5 j hj
  have hl : oL s 13 = oL u 13 := by show s.2.2 13 = _; rw [t8]; rfl
  obtain ⟨q1, q2, q3, q4, q5, q6, q7, q9, q10⟩ := H
  refine ⟨oS (σ 1) 2, va_up (va_up σ 2 v) 0 (pS (va_up σ 2 v 0) 2 1), s, ?_, ?_, n, ?_⟩
  · rw [vu_ne (by decide), vu_ne (by decide)]
  · rw [h8, q3]
  · refine ⟨by rw [vu_ne (by decide), vu_ne (by decide)]; exact q1, h3.trans q2, by rw [vu_ne (by decide), vu_ne (by decide), h8]; exact q3, fun j a b => by rw [vu_ne (by decide), vu_ne (by decide), ha j (by omega)]; exact q4 j a b, fun a x y => ?_, by rw [vu_at, h25]; rfl, Or.inr h25, fun _ => ?_, fun d hd => ?_⟩
    · rw [vu_ne (by omega)]
      by_cases c : a = 2
      · subst c; rw [vu_at]; exact e5
      · rw [vu_ne c]; exact q5 a x y
    · rw [vu_ne (by decide), vu_at]
      refine ⟨⟨n, tok_of q1 e2 e3 e4 e5⟩, fun q hq => (t6 q hq).trans ?_⟩
      unfold encC
      by_cases c0 : q = 0
      · subst c0; rw [if_pos rfl, e2, q1.2.1]; exact q2
      · rw [if_neg c0]
        by_cases c1 : q = 1
        · subst c1; rw [if_pos rfl, e3, q3]; rfl
        · rw [if_neg c1]
          show encM u q = encM v q
          exact (enc_A (q := q) (e4.tr q4) (by omega)).symm
    · rw [vu_ne (by omega), vu_ne (by omega)]
      exact (q10 d hd).oth (fun j a b => by rw [ha j (by omega)]) (fun i _ => by rw [hl])
theorem r_restore {n : Nat} {σ : CS} {o : Ob} (h : Rel n σ o) : ok2 (C_restore σ) (M_restore o) := by
  have H := h.t0
  unfold C_restore M_restore
  simp only [nm_q]
  generalize pS o 15 0 = u at H
  rw [H.2.2.2.2.2.1]
  rcases H.2.2.2.2.2.2.1 with c | c
  · rw [if_pos c, if_pos c]
    exact ⟨-3, σ, u, rfl, rfl, n, H⟩
  · have c0 : ¬ oS u 25 = 0 := by rw [c]; decide
    rw [if_neg c0, if_neg c0]
    obtain ⟨q1, q2, q3, q4, q5, q6, q7, q9, q10⟩ := H
    obtain ⟨⟨m, hm⟩, he⟩ := q9 c
    obtain ⟨v, e1, e2, e3, e4, e5⟩ := T_takeFrom_ok' (t := σ 1) (u := σ 2) q1.2.2.2.2 hm.2.2.2.2
    obtain ⟨s, f1, t⟩ := M_back (o := u) (C := 18) (Or.inr rfl)
    obtain ⟨t1, t2, t3, t4, t5, t6, t7, t8⟩ := t
    have f1' : M_carryAll u 18 0 = some s := f1
    rw [e1, f1', bd_e, bd_e, vu_at]
    have k3 : oS s 3 = nI m := by
      have := (t6 0 (by decide)).trans (he 0 (by decide))
      exact this.trans hm.2.1
    have k8 : oS s 8 = oS (σ 2) 2 := (t6 1 (by decide)).trans (he 1 (by decide))
    have h25 : oS s 25 = oS u 25 := t4 25 (by decide) (by decide) (by decide) (by decide) (by decide)
    have hl : oL s 13 = oL u 13 := by show s.2.2 13 = _; rw [t8]; rfl
    have av : AEq v s := fun j a b => by
      funext i
      by_cases g : i < tlen j
      · obtain ⟨q, hq, hp⟩ := posE_ex a b g
        have q2 : 2 ≤ q := by unfold posE at hp; omega
        have w := (t6 q hq).trans (he q hq)
        unfold encC at w
        rw [if_neg (by omega), if_neg (by omega), encE hp, encE hp] at w
        rw [e4 j a b]; exact w.symm
      · rw [e5 j a b i (by omega), t7 j a b i (by omega), ← q4 j a b]
        exact (q1.2.2.2.2 j a b i (by omega)).symm
    refine ⟨oS v 2, va_up σ 1 v, s, rfl, by rw [k8, e3], m, ?_⟩
    refine ⟨by rw [vu_at]; exact tok_of hm e2 e3 e4 e5, k3, by rw [vu_at, k8, e3], by rw [vu_at]; exact av, fun a x y => by rw [vu_ne (by omega)]; exact q5 a x y, by rw [vu_ne (by decide), h25]; exact q6, by rw [h25]; exact q7, fun _ => ?_, fun d hd => ?_⟩
    · rw [vu_ne (by decide), t5 18 (by decide)]; exact ⟨⟨m, hm⟩, he⟩
    · rw [vu_ne (by omega)]
      exact (q10 d hd).oth (fun j a b => by rw [t5 j a]) (fun i _ => by rw [hl])
/-! counts -/
theorem count_w {n : Nat} {σ : CS} {o : Ob} (R : Rel n σ o) : ∃ y, T_allWorth (σ 1) = some y ∧ M_allWorth o = some y := by
  refine ⟨foldN (fun i s => s + oA o 2 i) 0 5, ?_, ?_⟩
  · refine (up_loop (L := fun N s i => T_allWorth_L4 (σ 1) N s (nI i)) 5 (fun i s => s + oA o 2 i) (fun _ _ => True) some ?_ ?_ 0 trivial FU (FU_gt (by decide))).1
    · intro N i s hi _
      refine ⟨?_, trivial⟩
      rw [T_allWorth_L4, if_neg (by show ¬ nI 5 ≤ nI i; rw [nI_le' (by omega) (by omega)]; omega), inb_nI hi (by decide)]
      simp only [gd_t, nm_q, nI_1, ix_nI (show i < 2 ^ 31 by omega), R.2.2.2.1 2 (by decide) (by decide)]
    · intro N s _
      rw [T_allWorth_L4, if_pos (by decide)]
  · refine (up_loop (L := fun N s i => M_allWorth_L4 o N s (nI i)) 5 (fun i s => s + oA o 2 i) (fun _ _ => True) some ?_ ?_ 0 trivial FU (FU_gt (by decide))).1
    · intro N i s hi _
      refine ⟨?_, trivial⟩
      rw [M_allWorth_L4, if_neg (by show ¬ nI 5 ≤ nI i; rw [nI_le' (by omega) (by omega)]; omega), inb_nI hi (by decide)]
      simp only [gd_t, nm_q, nI_1, ix_nI (show i < 2 ^ 31 by omega)]
    · intro N s _
      rw [M_allWorth_L4, if_pos (by decide)]
theorem count_k {n : Nat} {σ : CS} {o : Ob} (R : Rel n σ o) : ∃ y, T_allKnown (σ 1) = some y ∧ M_allKnown o = some y := by
  have h7 := R.n7
  have e5 : (5 : Int32) * nI n = nI (5 * n) := by rw [lit32, pk_mul]
  have e5' : nI n * (5 : Int32) = nI (5 * n) := by rw [lit32, pk_mul, Nat.mul_comm]
  refine ⟨foldN (fun i s => s + pcI (oA o 7 i)) 0 (5 * n), ?_, ?_⟩
  · refine (up_loop (L := fun N s i => T_allKnown_L4 (σ 1) N s (nI i)) (5 * n) (fun i s => s + pcI (oA o 7 i)) (fun _ _ => True) some ?_ ?_ 0 trivial FU (FU_gt (by omega))).1
    · intro N i s hi _
      refine ⟨?_, trivial⟩
      rw [T_allKnown_L4, R.1.2.1, e5', if_neg (by rw [nI_le' (by omega) (by omega)]; omega), inb_nI (show i < 35 by omega) (by decide)]
      simp only [gd_t, nm_q, nI_1, ix_nI (show i < 2 ^ 31 by omega), R.2.2.2.1 7 (by decide) (by decide), bitCount_some, bd_e]
    · intro N s _
      rw [T_allKnown_L4, R.1.2.1, e5', if_pos (by rw [nI_le' (by omega) (by omega)]; omega)]
  · refine (up_loop (L := fun N s i => M_allKnown_L4 o N s (nI i)) (5 * n) (fun i s => s + pcI (oA o 7 i)) (fun _ _ => True) some ?_ ?_ 0 trivial FU (FU_gt (by omega))).1
    · intro N i s hi _
      refine ⟨?_, trivial⟩
      rw [M_allKnown_L4, R.2.1, e5, if_neg (by rw [nI_le' (by omega) (by omega)]; omega), inb_nI (show i < 35 by omega) (by decide)]
      simp only [gd_t, nm_q, nI_1, ix_nI (show i < 2 ^ 31 by omega), ones_b o (R.wfo.kno (show i < 35 by omega)), bd_e]
    · intro N s _
      rw [M_allKnown_L4, R.2.1, e5, if_pos (by rw [nI_le' (by omega) (by omega)]; omega)]
theorem r_count {n : Nat} {σ : CS} {o : Ob} (h : Rel n σ o) (p : Int32) : ok1 (C_count σ p) σ (M_count o p) := by
  have H := h.t0
  unfold C_count M_count
  simp only [nm_q]
  generalize pS o 15 0 = u at H
  obtain ⟨y, y1, y2⟩ := count_w H
  obtain ⟨z, z1, z2⟩ := count_k H
  unfold T_ownedThings M_ownedBits
  rw [y1, y2, z1, z2, T_ownedBy_ok', M_ownedBy_ok', H.1.2.1, H.2.1, H.2.2.1, H.2.2.2.1.own]
  simp only [bd_e]
  by_cases c0 : p = 0
  · rw [if_pos c0, if_pos c0]; exact ⟨_, u, rfl, rfl, n, H⟩
  · rw [if_neg c0, if_neg c0]
    by_cases c1 : p = 1
    · rw [if_pos c1, if_pos c1]; exact ⟨_, u, rfl, rfl, n, H⟩
    · rw [if_neg c1, if_neg c1]
      by_cases c2 : p = 2
      · rw [if_pos c2, if_pos c2]; exact ⟨_, u, rfl, rfl, n, H⟩
      · rw [if_neg c2, if_neg c2]
        by_cases c3 : p = 3
        · rw [if_pos c3, if_pos c3]; exact ⟨_, u, rfl, rfl, n, H⟩
        · rw [if_neg c3, if_neg c3]
          by_cases c4 : p = 4
          · rw [if_pos c4, if_pos c4]; exact ⟨_, u, rfl, rfl, n, H⟩
          · rw [if_neg c4, if_neg c4]; exact ⟨_, u, rfl, rfl, n, H⟩
/-! what is kept -/
theorem oA_pLq {o : Ob} {k j : Nat} {i : Int32} {v : Int64} : oA (pL o k i v) j = oA o j := rfl
theorem oS_pLq {o : Ob} {k j : Nat} {i : Int32} {v : Int64} : oS (pL o k i v) j = oS o j := rfl
theorem r_keep {n : Nat} {σ : CS} {o : Ob} (h : Rel n σ o) (p k a b : Int32) : ok2 (C_keep σ p k a b) (M_keep o p k a b) := by
  have H := h.t0
  unfold C_keep M_keep
  simp only [nm_q, jn_e]
  generalize pS o 15 0 = u at H
  rw [C_isShelf_ok', M_inI, bd_e, bd_e, show (0 : Int64).toInt = 0 from rfl, show (7 : Int64).toInt = 7 from rfl]
  cases hp : rng p 0 7 with
  | false => exact ⟨-1, σ, u, rfl, rfl, n, H⟩
  | true =>
    obtain ⟨d, hd, rfl⟩ := rng_nI (hi := 7) hp (by decide)
    rw [b1, b1, C_within_ok', M_inI, bd_e, bd_e, show (1 : Int32).toInt = 1 from rfl, show (0 : Int64).toInt = 0 from rfl, show (1 : Int64).toInt = 1 from rfl]
    cases hk : rng k 0 1 with
    | false => exact ⟨-1, σ, u, rfl, rfl, n, H⟩
    | true =>
      obtain ⟨j, hj, rfl⟩ := rng_nI (hi := 1) hk (by decide)
      have i8 : inb (nI d) 8 = true := inb_nI (by omega) (by decide)
      have hd8 : d < 8 := by omega
      have hl : d < 2 ^ 31 := by omega
      simp only [b1, i8, gd_t, nI_clamp hl]
      have R : ∀ (s : Ob) (x y z : Int32), oS s 0 = x → (∃ k, k < 3 ∧ x = nI k) → (x = 1 → oS s 1 = y ∧ oS s 2 = z ∧ kd8 y ∧ ∃ f, f < 10 ∧ z = nI f) → oS s 3 = oS (σ (11 + d)) 3 → oS s 4 = oS (σ (11 + d)) 4 → oA s 1 = oA (σ (11 + d)) 1 → Rel n (va_up σ (11 + d) s) (pA (pA (pA u 8 (nI d) x) 9 (nI d) y) 10 (nI d) z) := by
        intro s x y z hx hx3 hx1 h3 h4 hA
        refine H.sh hd8 rfl rfl rfl (fun j a b => by rw [pA_ne (by omega), pA_ne (by omega), pA_ne (by omega)]) (by rw [pA_ne (by omega), pA_ne (by omega), pA_ne (by omega)]) ?_ (fun e he hne => ?_)
        · obtain ⟨a1, a2, a3, a4, a5, a6, a7, a8⟩ := H.2.2.2.2.2.2.2.2 d hd8
          have g8 : oA (pA (pA (pA u 8 (nI d) x) 9 (nI d) y) 10 (nI d) z) 8 d = x := by rw [pA_ne (by decide), pA_ne (by decide), pA_at hl, if_pos rfl]
          have g9 : oA (pA (pA (pA u 8 (nI d) x) 9 (nI d) y) 10 (nI d) z) 9 d = y := by rw [pA_ne (by decide), pA_at hl, if_pos rfl]
          have g10 : oA (pA (pA (pA u 8 (nI d) x) 9 (nI d) y) 10 (nI d) z) 10 d = z := by rw [pA_at hl, if_pos rfl]
          have g11 : oA (pA (pA (pA u 8 (nI d) x) 9 (nI d) y) 10 (nI d) z) 11 = oA u 11 := by rw [pA_ne (by decide), pA_ne (by decide), pA_ne (by decide)]
          have g12 : oA (pA (pA (pA u 8 (nI d) x) 9 (nI d) y) 10 (nI d) z) 12 = oA u 12 := by rw [pA_ne (by decide), pA_ne (by decide), pA_ne (by decide)]
          unfold shR
          rw [g8, g9, g10, g11, g12, hx, h3, h4, hA]
          refine ⟨rfl, hx3, fun e => ?_, a4, a5, a6, a7, a8⟩
          obtain ⟨w1, w2, w3, w4⟩ := hx1 e
          rw [w1, w2]
          exact ⟨rfl, rfl, w3, w4⟩
        · refine (H.2.2.2.2.2.2.2.2 e he).oth (fun j a b => ?_) (fun _ _ => rfl)
          have g : ∀ (o : Ob) (m : Nat) (v : Int32), oA (pA o m (nI d) v) j e = oA o j e := fun o m v => by
            by_cases c : j = m
            · subst c; rw [pA_at hl, if_neg hne]
            · rw [pA_ne c]
          rw [g, g, g]
      rcases (show j = 0 ∨ j = 1 by omega) with rfl | rfl
      · simp only [if_pos (show nI 0 = (0 : Int32) from rfl), if_neg (show ¬ nI 0 = (1 : Int32) by decide), bd_e]
        exact ⟨0, _, _, rfl, rfl, n, R _ (nI 0) 0 0 rfl ⟨0, by decide, rfl⟩ (fun e => absurd e (by decide)) rfl rfl rfl⟩
      · simp only [if_neg (show ¬ nI 1 = (0 : Int32) by decide), if_pos (show nI 1 = (1 : Int32) from rfl), bd_e]
        rw [C_within_ok', M_inI, bd_e, bd_e, show (7 : Int32).toInt = 7 from rfl, show (0 : Int64).toInt = 0 from rfl, show (7 : Int64).toInt = 7 from rfl]
        cases ha : rng a 0 7 with
        | false => exact ⟨-1, σ, u, rfl, rfl, n, H⟩
        | true =>
          obtain ⟨x, hx, rfl⟩ := rng_nI (hi := 7) ha (by decide)
          rw [b1, b1, C_within_ok', M_inI, bd_e, bd_e, show (9 : Int32).toInt = 9 from rfl, show (0 : Int64).toInt = 0 from rfl, show (9 : Int64).toInt = 9 from rfl]
          cases hb : rng b 0 9 with
          | false => exact ⟨-1, σ, u, rfl, rfl, n, H⟩
          | true =>
            obtain ⟨y, hy, rfl⟩ := rng_nI (hi := 9) hb (by decide)
            rw [b1, b1]
            unfold S_holdOne
            simp only [nm_q, bd_e]
            exact ⟨0, _, _, rfl, rfl, n, R _ (nI 1) (nI x) (nI y) rfl ⟨1, by decide, rfl⟩ (fun _ => ⟨rfl, rfl, ⟨x, by omega, rfl⟩, y, by omega, rfl⟩) rfl rfl rfl⟩

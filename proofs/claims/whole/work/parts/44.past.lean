/-! which past a thing could have -/
theorem pApA {t : Ob} {k i : Nat} {a v : Int32} (hi : i < 2 ^ 31) : AEq (pA (pA t k (nI i) a) k (nI i) v) (pA t k (nI i) v) := by
  intro j h1 h2
  by_cases c : j = k
  · subst c
    funext q
    rw [pA_at hi, pA_at hi, pA_at hi]
    split <;> rfl
  · rw [pA_ne c, pA_ne c, pA_ne c]
/-- the story that a past would make -/
theorem by_past {n j i x : Nat} {t u : Ob} (w : wfA n t) (ea : AEq t u) (hj : j < n) (hi : i < 5) : M_storyBy u (nI j) (oA u 7 (j * 5 + i)) (nI x) = some (storyS (pA t 1 (nI i) (nI x)) j i) := by
  have h7 := w.n7
  have wu := ea.wf w
  rw [M_storyBy_ok' u (by omega) (wu.kind hj) (wu.kno (by omega))]
  unfold storyS
  rw [pA_ne (by decide), pA_ne (by decide), pA_ne (by decide), pA_at (by omega), if_pos rfl, ea 4 (by decide) (by decide), ea 5 (by decide) (by decide), ea 7 (by decide) (by decide)]
theorem past_row {n d i x m : Nat} {σ τ : CS} {o : Ob} (R : Rel n σ o) (hd : d < 8) (hi : i < 5) (hx : x < 4096) (hm : m ≤ n) (em : oS (σ (11 + d)) 4 = nI m) (hv : visC σ τ) (ha : AEq (τ 3) (pA (σ 1) 1 (nI i) (nI x))) : ∀ r j N1 N2, j + r = m → r < N1 → r + 1 < N2 → ∃ b, C_mindHasStories_L18 τ (11 + d) (nI i) N1 (nI j) = some (bI b) ∧ M_isPast_L23 o (nI d) (nI i) (nI x) N2 1 (nI j) = some (bI b) := by
  have h7 := R.n7
  obtain ⟨a1, a2, a3, a4, a5, a6, -, a8⟩ := R.2.2.2.2.2.2.2.2 d hd
  have i8 : inb (nI d) 8 = true := inb_nI hd (by decide)
  have hl : d < 2 ^ 31 := by omega
  have wp : wfA n (pA (σ 1) 1 (nI i) (nI x)) := R.wf.t1 hi ⟨x, hx, rfl⟩
  have wτ : wfA n (τ 3) := ha.sm.wf wp
  intro r
  induction r with
  | zero =>
    intro j N1 N2 hj h1 h2
    obtain ⟨N1, rfl⟩ : ∃ m, N1 = m + 1 := ⟨N1 - 1, by omega⟩
    obtain ⟨N2, rfl⟩ : ∃ m, N2 = m + 1 := ⟨N2 - 1, by omega⟩
    have e : nI m ≤ nI j := by rw [nI_le' (by omega) (by omega)]; omega
    refine ⟨true, ?_, ?_⟩
    · rw [C_mindHasStories_L18, hv.2.2.2.2 d hd, em, if_pos e]; rfl
    · rw [M_isPast_L23, i8, gd_t, ix_nI hl, ← a6, em, if_pos e]; rfl
  | succ r ih =>
    intro j N1 N2 hj h1 h2
    obtain ⟨N1, rfl⟩ : ∃ m, N1 = m + 1 := ⟨N1 - 1, by omega⟩
    obtain ⟨N2, rfl⟩ : ∃ m, N2 = m + 1 + 1 := ⟨N2 - 2, by omega⟩
    have e : ¬ nI m ≤ nI j := by rw [nI_le' (by omega) (by omega)]; omega
    have hj100 : j < 100 := by omega
    have hjn : j < n := by omega
    have hl5 : j * 5 + i < 35 := by omega
    rw [C_mindHasStories_L18, M_isPast_L23, i8, gd_t, ix_nI hl, ← a6, hv.2.2.2.2 d hd, em, if_neg e, if_neg e, if_neg (show ¬ (1 : Int32) = 0 by decide), T_tale_ok' wτ hjn hi, bd_e, agrees_ok _ hj100, bd_e, skipped_ok hd hj100 a4 (a8 j hj100), bd_e, jn_e, ix100, ixkn', inb_nI (show 100 * d + j < 800 by omega) (by decide), inb_nI hl5 (by decide), gd_t, gd_t, ix_nI (show j * 5 + i < 2 ^ 31 by omega), by_past R.wf R.2.2.2.1 hjn hi, bd_e, ixL_nI (by omega), ← a8 j hj100, ha.story]
    simp only [lc_eq, i64_eq]
    have stop : (bd (some (0 : Int32)) fun s15 => nm (nI j + 1) fun v16 => M_isPast_L23 o (nI d) (nI i) (nI x) (N2 + 1) s15 v16) = some (bI false) := by
      rw [bd_e, nm_q, M_isPast_L23, i8, gd_t, if_pos rfl, ite_self]; rfl
    have go : ∃ b, (nm (nI j + 1) fun v6 => C_mindHasStories_L18 τ (11 + d) (nI i) N1 v6) = some (bI b) ∧ (bd (some (1 : Int32)) fun s15 => nm (nI j + 1) fun v16 => M_isPast_L23 o (nI d) (nI i) (nI x) (N2 + 1) s15 v16) = some (bI b) := by
      rw [nm_q, bd_e, nm_q, nI_1]
      exact ih (j + 1) N1 (N2 + 1) (by omega) (by omega) (by omega)
    generalize storyS (pA (σ 1) 1 (nI i) (nI x)) j i = S
    by_cases c2 : oA (σ (11 + d)) 1 j = lstS (oS (σ (11 + d)) 3)
    · rw [decide_eq_true (Or.inr c2), decide_eq_true c2, b1, b1]
      exact go
    · by_cases c1 : oA (σ (11 + d)) 1 j = S
      · rw [decide_eq_true (Or.inl c1), decide_eq_false c2, b1, b0, if_pos c1]
        exact go
      · rw [decide_eq_false (show ¬ (oA (σ (11 + d)) 1 j = S ∨ oA (σ (11 + d)) 1 j = lstS (oS (σ (11 + d)) 3)) by intro h; rcases h with h | h; exact c1 h; exact c2 h), decide_eq_false c2, b0, b0, if_neg c1]
        exact ⟨false, rfl, stop⟩
theorem past_both {n d i x : Nat} {σ τ : CS} {o : Ob} (R : Rel n σ o) (hd : d < 8) (hi : i < 5) (hx : x < 4096) (hv : visC σ τ) (hn : oS (τ 3) 1 = nI n) (ha : AEq (τ 3) (pA (σ 1) 1 (nI i) (nI x))) : ∃ b, C_mindHasStories τ (11 + d) (nI i) = some (bI b) ∧ M_isPast o (nI d) (nI i) (nI x) = some (bI b) := by
  have h7 := R.n7
  obtain ⟨a1, a2, a3, a4, a5, a6, ⟨m, hm, em⟩, a8⟩ := R.2.2.2.2.2.2.2.2 d hd
  have i8 : inb (nI d) 8 = true := inb_nI hd (by decide)
  unfold C_mindHasStories M_isPast
  rw [hv.2.2.2.2 d hd, i8, gd_p, ix_nI (show d < 2 ^ 31 by omega), ← a6, em, hn, R.2.1]
  by_cases c : m ≤ n
  · rw [if_pos (show nI m ≤ nI n by rw [nI_le' (by omega) (by omega)]; exact c), if_neg (show ¬ nI n < nI m by rw [nI_lt' (by omega) (by omega)]; omega), bd_p, ← nI_0]
    exact past_row R hd hi hx c em hv ha m 0 FU FU (by omega) (FU_gt (by omega)) (FU_gt (by omega))
  · rw [if_neg (show ¬ nI m ≤ nI n by rw [nI_le' (by omega) (by omega)]; exact c), if_pos (show nI n < nI m by rw [nI_lt' (by omega) (by omega)]; omega), bd_p]
    refine ⟨false, rfl, ?_⟩
    rw [show FU = 9999 + 1 from rfl, M_isPast_L23, i8, gd_p, if_pos rfl, ite_self]; rfl
theorem past_loop {n d i : Nat} {a3 : Int32} {σ : CS} {o : Ob} (R : Rel n σ o) (hd : d < 8) (hi : i < 5) (KC : Int32 → Int32 → Int32 → CS → Option (Int32 × CS)) (KM : Int32 → Int32 → Int32 → Option (Int32 × Ob)) : ∀ r x N1 N2 (τ : CS) (p q s : Int32), x + r = 4096 → r < N1 → r < N2 → visC σ τ → oS (τ 3) 1 = nI n → zb (τ 3) → (∀ v, AEq (pA (τ 3) 1 (nI i) v) (pA (σ 1) 1 (nI i) v)) → (q = -4 ∨ ∃ y, y < 4096 ∧ q = nI y) →
    ∃ p' q' s' τ', C_whichPast_L64 KC (nI d) (nI i) a3 N1 τ p q s (nI x) = KC p' q' s' τ' ∧ M_whichPast_L57 KM o (nI d) (nI i) a3 N2 p q s (nI x) = KM p' q' s' ∧ visC σ τ' := by
  have i8 : inb (nI d) 8 = true := inb_nI hd (by decide)
  have i5 : inb (nI i) 5 = true := inb_nI hi (by decide)
  intro r
  induction r with
  | zero =>
    intro x N1 N2 τ p q s hx h1 h2 hv hn hz ha hq
    obtain ⟨N1, rfl⟩ : ∃ m, N1 = m + 1 := ⟨N1 - 1, by omega⟩
    obtain ⟨N2, rfl⟩ : ∃ m, N2 = m + 1 := ⟨N2 - 1, by omega⟩
    have c1 : (4095 : Int32) < nI x := by show nI 4095 < nI x; rw [nI_lt' (by omega) (by omega)]; omega
    have c2 : (4096 : Int32) ≤ nI x := by show nI 4096 ≤ nI x; rw [nI_le' (by omega) (by omega)]; omega
    exact ⟨p, q, s, τ, by rw [C_whichPast_L64, if_pos c1], by rw [M_whichPast_L57, if_pos c2], hv⟩
  | succ r ih =>
    intro x N1 N2 τ p q s hx h1 h2 hv hn hz ha hq
    obtain ⟨N1, rfl⟩ : ∃ m, N1 = m + 1 := ⟨N1 - 1, by omega⟩
    obtain ⟨N2, rfl⟩ : ∃ m, N2 = m + 1 := ⟨N2 - 1, by omega⟩
    have c1 : ¬ (4095 : Int32) < nI x := by show ¬ nI 4095 < nI x; rw [nI_lt' (by omega) (by omega)]; omega
    have c2 : ¬ (4096 : Int32) ≤ nI x := by show ¬ nI 4096 ≤ nI x; rw [nI_le' (by omega) (by omega)]; omega
    have z' : zb (pA (τ 3) 1 (nI i) (nI x)) := zb_pA hz (by omega) (Or.inl (show i < 5 by omega))
    have hv' : visC σ (va_up τ 3 (pA (τ 3) 1 (nI i) (nI x))) := hv.tr (visC_mind (by decide) z')
    have e3 : (va_up τ 3 (pA (τ 3) 1 (nI i) (nI x))) 3 = pA (τ 3) 1 (nI i) (nI x) := vu_at
    have hn' : oS ((va_up τ 3 (pA (τ 3) 1 (nI i) (nI x))) 3) 1 = nI n := by rw [e3]; exact hn
    obtain ⟨b, g1, g2⟩ := past_both R hd hi (show x < 4096 by omega) hv' hn' (by rw [e3]; exact ha (nI x))
    have key : ∀ p q s, (q = -4 ∨ ∃ y, y < 4096 ∧ q = nI y) → ∃ p' q' s' τ', C_whichPast_L64 KC (nI d) (nI i) a3 N1 (va_up τ 3 (pA (τ 3) 1 (nI i) (nI x))) p q s (nI (x + 1)) = KC p' q' s' τ' ∧ M_whichPast_L57 KM o (nI d) (nI i) a3 N2 p q s (nI (x + 1)) = KM p' q' s' ∧ visC σ τ' := fun p q s hq => ih (x + 1) N1 N2 _ p q s (by omega) (by omega) (by omega) hv' hn' (by rw [e3]; exact z') (fun v => by rw [e3]; exact (pApA (by omega)).tr (ha v)) hq
    rw [C_whichPast_L64, M_whichPast_L57, if_neg c1, if_neg c2, i5, gd_t, nm_q, i8, gd_t, nI_clamp (show d < 2 ^ 31 by omega), g1, g2, bd_e, bd_e]
    cases b with
    | false =>
      rw [b0, b0, bd3_e, bd3_e, nm_q, nm_q, nI_1]
      exact key p q s hq
    | true =>
      rw [b1, b1]
      simp only [nm_q, nI_1]
      rcases hq with rfl | ⟨y, hy, rfl⟩
      · rw [if_pos rfl, if_neg (show ¬ (0 : Int32) ≤ -4 by decide), bd_e, bd3_e, bd3_e]
        exact key _ _ _ (Or.inr ⟨x, by omega, rfl⟩)
      · have n4 : ¬ nI y = -4 := by
          rw [fa_eq, nI_toInt (by omega), show (-4 : Int32).toInt = -4 from rfl]; omega
        have p0 : (0 : Int32) ≤ nI y := by show nI 0 ≤ nI y; rw [nI_le' (by omega) (by omega)]; omega
        rw [if_neg n4, if_pos p0, bd_e, bd3_e, bd3_e]
        exact key _ _ _ (Or.inr ⟨y, hy, rfl⟩)
theorem r_whichPast {n : Nat} {σ : CS} {o : Ob} (h : Rel n σ o) (p q w : Int32) : ok2 (C_whichPast σ p q w) (M_whichPast o p q w) := by
  have h7 := h.n7
  have H := h.t0
  unfold C_whichPast M_whichPast
  simp only [nm_p]
  generalize pS o 15 0 = u at H
  rw [C_isShelf_ok', bd_e, C_isThing_ok', M_isThing_ok', bd_e, bd_e, jn_p, C_within_ok', M_inI, bd_e, bd_e, show (2 : Int32).toInt = 2 from rfl, show (0 : Int64).toInt = 0 from rfl, show (2 : Int64).toInt = 2 from rfl]
  have no : ∀ K : Option (Int32 × Ob), ok2 (some ((-1 : Int32), σ)) (bd (some (-1 : Int32)) fun (s7 : Int32) => if (0 : Int32) ≤ s7 then K else some (s7, u)) := by
    intro K
    rw [bd_p, if_neg (by decide)]; exact ⟨-1, σ, u, rfl, rfl, n, H⟩
  cases hp : rng p 0 7 with
  | false =>
    rw [b0, wr_no hp, bd_e, ite_self, ite_self]
    exact no _
  | true =>
    rw [b1]
    cases hq : rng q 0 4 with
    | false => rw [b0, b0]; exact no _
    | true =>
      obtain ⟨i, hi, rfl⟩ := rng_nI (hi := 4) hq (by decide)
      rw [b1, b1]
      cases hw : rng w 0 2 with
      | false => rw [b0, b0]; exact no _
      | true =>
        rw [b1, b1]
        rcases hold2 H p with ⟨r, e1, e2, e3, e4⟩ | ⟨e1, e2, d, hd, rfl, e3⟩
        · rw [e1, e2, bd_e, bd_e, bd_p, if_neg e3, if_neg e4]
          exact ⟨r, σ, u, rfl, rfl, n, H⟩
        · obtain ⟨t, g1, g2, g3⟩ := mind_take H (a := 3) (by decide) visC.rf
          rw [e1, e2, bd_e, bd_e, bd_p, if_pos (show (0 : Int32) = 0 from rfl), if_pos (show (0 : Int32) ≤ 0 by decide), g1, bd_p]
          have e3' : (va_up σ 3 t) 3 = t := vu_at
          obtain ⟨p', q', s', τ', k1, k2, k3⟩ := past_loop (a3 := w) H hd (show i < 5 by omega) (fun (x5_24 : Int32) (x6_25 : Int32) (x7_26 : Int32) (σ27 : CS) =>
              if w = (0 : Int32) then
                some (x5_24, σ27)
              else
                if w = (1 : Int32) then
                  some (x6_25, σ27)
                else
                  some (x7_26, σ27)) (fun (x5_20 : Int32) (x6_21 : Int32) (x7_22 : Int32) =>
        if w = (0 : Int32) then
          some (x5_20, u)
        else
          if w = (1 : Int32) then
            some (x6_21, u)
          else
            some (x7_22, u)) 4096 0 FU FU (va_up σ 3 t) 0 (-4) (-4) rfl (FU_gt (by decide)) (FU_gt (by decide)) (visC_mind (by decide) g3) (by rw [e3']; exact g2.1) (by rw [e3']; exact g3) (fun v => by rw [e3']; exact g2.2.2.uA) (Or.inl rfl)
          have k1' := k1
          have k2' := k2
          rw [nI_0] at k1' k2'
          rw [k1', k2']
          by_cases c0 : w = 0
          · rw [if_pos c0, if_pos c0]; exact ⟨_, τ', u, rfl, rfl, n, H.c k3⟩
          · rw [if_neg c0, if_neg c0]
            by_cases c1 : w = 1
            · rw [if_pos c1, if_pos c1]; exact ⟨_, τ', u, rfl, rfl, n, H.c k3⟩
            · rw [if_neg c1, if_neg c1]; exact ⟨_, τ', u, rfl, rfl, n, H.c k3⟩

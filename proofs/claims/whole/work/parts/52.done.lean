/-! the town -/
theorem recM.r {m k : Nat} {f : Nat → Int32} {s u : Ob} (h : recM m f s k) (r : ∀ j, 13 ≤ j → j ≠ 17 → j ≠ 18 → oA u j = oA s j) : recM m f u k := fun j hj => by
  obtain ⟨h1, h2, h3, h4⟩ := h j hj
  refine ⟨h1, by rw [r 14 (by decide) (by decide) (by decide)]; exact h2, by rw [r 15 (by decide) (by decide) (by decide)]; exact h3, told_of h4 (fun i _ _ => by rw [r 16 (by decide) (by decide) (by decide)])⟩
theorem town_loop {n0 d m k : Nat} {f : Nat → Int32} {σ : CS} {o : Ob} (R : Rel n0 σ o) (hd : d < 8) (XC : CX m f (σ (11 + d))) (hk : k ≤ 25) (hm : m ≤ pos m f k) (hp : ∀ j, j < k → pos m f j < m) : ∀ r j n N1 N2 (τ : CS) (u : Ob), j + r = k → r < N1 → r < N2 → visC σ τ → TH o u → TK n (τ 3) u → recM m f u k → oS u 19 = nI k →
    ok2 (C_town_L64 (fun (x6_18 : Int32) (σ19 : CS) =>
            bd (T_takeFrom (σ19 1) (σ19 3)) fun (t20 : Ob) =>
            nm (va_up σ19 1 t20) fun σ21 =>
            some (x6_18, σ21)) (11 + d) N1 τ (nI (pos m f j)) (nI j)) (M_town_L113 (fun (x3_27 : Int32) (o28 : Ob) =>
              bd (M_again o28) fun (o29 : Ob) =>
              gd (inb x3_27 51) <|
              some (((-2000 : Int32) - (ix (oA o29 14) x3_27)), o29)) N2 u (nI j)) := by
  intro r
  induction r with
  | zero =>
    intro j n N1 N2 τ u hj h1 h2 hv ht hT hr h19
    obtain ⟨N1, rfl⟩ : ∃ m, N1 = m + 1 := ⟨N1 - 1, by omega⟩
    obtain ⟨N2, rfl⟩ : ∃ m, N2 = m + 1 := ⟨N2 - 1, by omega⟩
    have e : j = k := by omega
    subst e
    have hpb : pos m f j < 200 := by
      rcases (show j = 0 ∨ 0 < j by omega) with rfl | hj0
      · show 0 < 200; omega
      · have h6 := dgN_6 (chI m f (pos m f (j - 1)))
        have h7 := hp (j - 1) (by omega)
        have : pos m f j = pos m f (j - 1) + 2 + dgN (chI m f (pos m f (j - 1))) := by
          rw [show j = (j - 1) + 1 by omega]; rfl
        have := XC.1
        omega
    rw [C_town_L64, M_town_L113, h19, hv.2.2.2.2 d hd, XC.2.1, if_pos (by rw [nI_le' (by omega) (by omega)]; exact hm), if_pos (by rw [nI_le' (by omega) (by omega)]; omega)]
    obtain ⟨v, v1, v2, v3, v4, v5⟩ := T_takeFrom_ok' (t := τ 1) (u := τ 3) (by rw [hv.1]; exact R.1.2.2.2.2) hT.1.2.2.2.2
    rw [v1, bd_e, nm_q]
    refine ⟨nI j, va_up τ 1 v, u, rfl, rfl, n, R.tk hv ⟨tok_of hT.1 v2 v3 v4 v5, hT.2.1, v3.trans hT.2.2.1, v4.tr hT.2.2.2⟩ ht.vis⟩
  | succ r ih =>
    intro j n N1 N2 τ u hj h1 h2 hv ht hT hr h19
    obtain ⟨N1, rfl⟩ : ∃ m, N1 = m + 1 := ⟨N1 - 1, by omega⟩
    obtain ⟨N2, rfl⟩ : ∃ m, N2 = m + 1 := ⟨N2 - 1, by omega⟩
    have hm100 := XC.1
    have hpj := hp j (by omega)
    obtain ⟨r1, r2, r3, r4⟩ := hr j (by omega)
    have XC' : CX m f (τ (11 + d)) := by rw [hv.2.2.2.2 d hd]; exact XC
    have n100 : ¬ (100 : Int32) ≤ nI j := by show ¬ nI 100 ≤ nI j; rw [nI_le' (by omega) (by omega)]; omega
    rw [C_town_L64, M_town_L113, h19, hv.2.2.2.2 d hd, XC.2.1, if_neg (by rw [nI_le' (by omega) (by omega)]; omega), if_neg n100, if_neg (by rw [nI_le' (by omega) (by omega)]; omega)]
    rcases obey_ok XC' hT (show j < 51 by omega) r1 r3 r4 with ⟨e1, e2⟩ | ⟨n', t', u', e1, e2, e3, e4⟩
    · obtain ⟨v, v1, v2, v3, v4, v5, v6⟩ := M_again_x R.zo ht
      rw [e1, e2, bd2_e, bd2_e, if_pos rfl, if_pos rfl, v1, bd_e, inb_nI (show j < 51 by omega) (by decide), gd_t, ix_nI (by omega), v5 14 (by decide), r2]
      exact ⟨_, τ, v, rfl, rfl, n0, (R.c hv).m v3⟩
    · have z' : zb t' := e3.1.2.2.2.2
      have hv' : visC σ (va_up τ 3 t') := hv.tr (visC_mind (by decide) z')
      have XC2 : CX m f ((va_up τ 3 t') (11 + d)) := by rw [hv'.2.2.2.2 d hd]; exact XC
      have zu' : zb u' := e3.2.2.2.zb z'
      have ht' : TH o u' := ht.rest e4 zu'
      rw [e1, e2, bd2_e, bd2_e, if_neg (by decide), if_neg (by decide), behind_C XC2 r1, bd_e, nm_q, nm_q, nI_1]
      exact ih (j + 1) n' N1 N2 _ u' (by omega) (by omega) (by omega) hv' ht' (by rw [vu_at]; exact e3) (hr.r (fun q a _ _ => e4.2.1 q (by omega))) ((e4.1 19 (by decide) (by decide)).trans h19)
theorem r_town {n : Nat} {σ : CS} {o : Ob} (h : Rel n σ o) (p : Int32) : ok2 (C_town σ p) (M_town o p) := by
  have H := h.t0
  unfold C_town M_town
  simp only [nm_p, jn_p]
  generalize pS o 15 0 = u at H
  rcases hold2 H p with ⟨r, e1, e2, e3, e4⟩ | ⟨e1, e2, d, hd, rfl, e3⟩
  · rw [e1, e2, bd_p, bd_p, if_neg e3, if_neg e3, bd_p, if_neg e4]
    exact ⟨r, σ, u, rfl, rfl, n, H⟩
  · obtain ⟨a1, a2, a3, a4, a5, a6, ⟨m, hm, em⟩, a8⟩ := H.2.2.2.2.2.2.2.2 d hd
    have hl : d < 2 ^ 31 := by omega
    rw [e1, e2, bd_p, bd_p, if_pos (show (0 : Int32) = 0 from rfl), if_pos (show (0 : Int32) = 0 from rfl), inb_nI hd (by decide), gd_p, gd_p, nI_clamp hl, ix_nI hl, ← a4]
    by_cases c3 : oS (σ (11 + d)) 3 = 0
    · rw [if_pos c3, if_pos c3, bd_p, if_pos (show (0 : Int32) ≤ 0 by decide)]
      have XC : CX m (oA (σ (11 + d)) 1) (σ (11 + d)) := ⟨hm, em, rfl⟩
      have v0 : visM u (pS (pS (pS (pS u 16 (nI d)) 17 0) 18 0) 19 0) := (((visM_S (by decide)).tr (visM_S (by decide))).tr (visM_S (by decide))).tr (visM_S (by decide))
      have P0 : PS d (pos m (oA (σ (11 + d)) 1) 0) false (pS (pS (pS (pS u 16 (nI d)) 17 0) 18 0) 19 0) := ⟨rfl, rfl, rfl⟩
      have k0 : oS (pS (pS (pS (pS u 16 (nI d)) 17 0) 18 0) 19 0) 19 = nI 0 := rfl
      generalize pS (pS (pS (pS u 16 (nI d)) 17 0) 18 0) 19 0 = s at v0 P0 k0
      have X0 : TX d m (oA (σ (11 + d)) 1) s := TX.v ⟨hd, hm, a6.symm.trans em, fun i hi => (a8 i hi).symm⟩ v0
      unfold X_grammarFault
      rcases parse_loop (b := 11 + d) XC hd (fun (o18 : Ob) =>
        if (oS o18 18) = (0 : Int32) then
          bd (M_think o18) fun (o20 : Ob) =>
          M_town_L113 (fun (x3_27 : Int32) (o28 : Ob) =>
              bd (M_again o28) fun (o29 : Ob) =>
              gd (inb x3_27 51) <|
              some (((-2000 : Int32) - (ix (oA o29 14) x3_27)), o29)) FU o20 (0 : Int32)
        else
          some (((-1000 : Int32) - (oS o18 17)), o18)) 26 0 FU FU s (by omega) (FU_gt (by decide)) (FU_gt (by decide)) X0 P0 k0 v0 (fun j hj => absurd hj (by omega)) (Or.inl rfl) (fun j hj => absurd hj (by omega)) with ⟨e, s', g1, g2, g3, g4, g5, g6⟩ | ⟨k, s', g1, g2, g3, g4, g5, g6, g7, g8, g9, g10⟩
      · have g1' : X_grammarFault_L4 σ (11 + d) FU 0 0 = some (nI e) := g1
        rw [g1', bd_p, if_neg (nI_pos (show e < 2 ^ 31 by omega)), g3, if_neg (show ¬ oS s' 18 = 0 by rw [g4]; decide), g5]
        exact ⟨_, σ, s', rfl, rfl, n, H.m g6⟩
      · have g1' : X_grammarFault_L4 σ (11 + d) FU 0 0 = some (-1) := g1
        have Hs := H.m g5
        obtain ⟨w, w1, w2, w3, w4, w5⟩ := M_think_x Hs.zo
        obtain ⟨tt, q1, q2, q3⟩ := M_take (o := s') (C := 17) (Or.inl rfl)
        have ew : tt = w := by
          have e' : M_think s' = some tt := by
            unfold M_think
            rw [show ((17 : Int32)) = nI 17 from rfl, q1]; rfl
          rw [w1] at e'
          exact (Option.some.inj e').symm
        subst ew
        obtain ⟨t, t1, t2, t3⟩ := mind_take Hs (a := 3) (by decide) visC.rf
        have e3' : (va_up σ 3 t) 3 = t := vu_at
        have hT : TK n ((va_up σ 3 t) 3) tt := by
          rw [e3']
          have ed : oS t 2 = oS s' 8 := by rw [t2.2.1, nI_0, Int32.add_zero]
          refine ⟨tok_of Hs.1 (t2.1.trans Hs.1.2.1.symm) (ed.trans Hs.2.2.1.symm) t2.2.2 t3, w3.1.trans Hs.2.1, ed.trans w3.2.1.symm, t2.2.2.tr (Hs.2.2.2.1.tr w4.sm)⟩
        rw [g1', bd_p, if_pos (show (-1 : Int32) < 0 by decide), t1, bd_p, g2, if_pos g3, w1, bd_p]
        have key := town_loop Hs hd XC g7 g9 g10 k 0 n FU FU (va_up σ 3 t) tt (by omega) (FU_gt (by omega)) (FU_gt (by omega)) (visC_mind (by decide) t3) w2 hT (g6.r (fun q a b c => q3.2.2.2.1 q b)) ((w5 19 (by decide) (by decide) (by decide)).trans g4)
        exact key
    · rw [if_neg c3, if_neg c3, bd_p, if_neg (show ¬ (0 : Int32) ≤ -12 by decide)]
      exact ⟨-12, σ, u, rfl, rfl, n, H⟩

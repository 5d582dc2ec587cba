/-! years by seeds -/
theorem M_think_x {o : Ob} (hz : zb o) : ∃ s, M_think o = some s ∧ TH o s ∧ visM o s ∧ AEq s o ∧ ∀ k, k ≠ 26 → k ≠ 27 → k ≠ 28 → oS s k = oS o k := by
  obtain ⟨v, e, h1, h2, h3⟩ := M_think_ok' hz
  obtain ⟨s, f, k⟩ := M_take (o := o) (C := 17) (Or.inl rfl)
  have e' : M_think o = some s := by
    unfold M_think
    rw [show ((17 : Int32)) = nI 17 from rfl, f]; rfl
  have ev : s = v := by rw [e] at e'; exact (Option.some.inj e').symm
  subst ev
  exact ⟨s, e, h1, h2, h3, k.2.2.2.1⟩
def nxI (s : Int32) : Int32 := s * 1103515245 + 12345
def drI (s m : Int32) : Int32 := rem32 ((s &&& 2147483647) / 65536) m
theorem C_next_ok' (s : Int32) : C_nextSeed s = some (nxI s) := rfl
theorem C_draw_ok' (s : Int32) : C_draw s = some ((s &&& 2147483647) / 65536) := rfl
theorem dr_rng (s : Int32) {m : Nat} (h0 : 0 < m) (hm : m < 2 ^ 31) : ∃ k, k < m ∧ drI s (nI m) = nI k := by
  obtain ⟨j, hj, e⟩ := pk_andE s (m := 2147483647) 31 (by decide)
  unfold drI
  rw [e]
  have e2 : nI j / (65536 : Int32) = nI (j / 65536) := pk_div (d := 65536) hj (by decide) (by decide)
  have e3 : rem32 (nI (j / 65536)) (nI m) = nI (j / 65536 % m) := pk_rem (by omega) h0 hm
  exact ⟨j / 65536 % m, Nat.mod_lt _ h0, by rw [e2, e3]⟩
theorem M_draw_ok' (u : Ob) (m : Int32) (hm : (!(m == 0)) = true) : M_drawBelow u m = some (drI (nxI (oS u 32)) m, pS u 32 (nxI (oS u 32))) := by
  unfold M_drawBelow
  rw [nm_q, hm, gd_t]
  rfl
/-- what holds while a year is drawn -/
def YI (n : Nat) (σ : CS) (o : Ob) (τ : CS) (u : Ob) (s : Int32) : Prop := visC σ τ ∧ TH o u ∧ AEq (τ 3) u ∧ wfA n (τ 3) ∧ zb (τ 3) ∧ oS (τ 3) 1 = nI n ∧ oS u 3 = nI n ∧ oS (τ 3) 2 = oS o 8 ∧ oS u 8 = oS o 8 ∧ s = oS u 32 ∧ ∀ h, h < 5 → oA u 20 h = oA o 3 h
theorem YI.next {n j i : Nat} {σ τ : CS} {o u : Ob} {s v : Int32} (h : YI n σ o τ u s) (hj : 1 ≤ j ∧ j ≤ 7) (hl : i < tlen j) (hi : i < 2 ^ 31) (w : wfA n (pA (τ 3) j (nI i) v)) : YI n σ o (va_up τ 3 (pA (τ 3) j (nI i) v)) (pA (pS u 32 (nxI s)) j (nI i) v) (nxI s) := by
  obtain ⟨h1, h2, h3, h4, h5, h6, h7, h8, h9, h10, h11⟩ := h
  have z := zb_pA (v := v) h5 hi (Or.inl hl)
  refine ⟨h1.tr (visC_mind (by decide) z), (h2.pS (by decide)).pA hi (Or.inl ⟨hj.1, hj.2, hl⟩), ?_, ?_, ?_, ?_, h7, ?_, h9, rfl, fun q hq => ?_⟩
  · rw [vu_at]; exact (h3.uSr).uA
  · rw [vu_at]; exact w
  · rw [vu_at]; exact z
  · rw [vu_at]; exact h6
  · rw [vu_at]; exact h8
  · rw [pA_ne (by omega)]; exact h11 q hq
theorem year_t {n : Nat} {σ : CS} {o : Ob} {a1 a3 x4 x5 : Int32} (KC : Int32 → CS → Option (Int32 × CS)) (KM : Ob → Option (Int32 × Ob)) : ∀ r i N1 N2 (τ : CS) (u : Ob) (s : Int32), i + r = 5 → r < N1 → r < N2 → YI n σ o τ u s → ∃ τ' u' s', C_drawYear_L15 KC N1 τ s (nI i) = KC s' τ' ∧ M_years_L82 KM a1 a3 x4 x5 N2 u (nI i) = KM u' ∧ YI n σ o τ' u' s' := by
  intro r
  induction r with
  | zero =>
    intro i N1 N2 τ u s hi h1 h2 hy
    obtain ⟨N1, rfl⟩ : ∃ m, N1 = m + 1 := ⟨N1 - 1, by omega⟩
    obtain ⟨N2, rfl⟩ : ∃ m, N2 = m + 1 := ⟨N2 - 1, by omega⟩
    have e : (5 : Int32) ≤ nI i := by show nI 5 ≤ nI i; rw [nI_le' (by omega) (by omega)]; omega
    exact ⟨τ, u, s, by rw [C_drawYear_L15, if_pos e], by rw [M_years_L82, if_pos e], hy⟩
  | succ r ih =>
    intro i N1 N2 τ u s hi h1 h2 hy
    obtain ⟨N1, rfl⟩ : ∃ m, N1 = m + 1 := ⟨N1 - 1, by omega⟩
    obtain ⟨N2, rfl⟩ : ∃ m, N2 = m + 1 := ⟨N2 - 1, by omega⟩
    have e : ¬ (5 : Int32) ≤ nI i := by show ¬ nI 5 ≤ nI i; rw [nI_le' (by omega) (by omega)]; omega
    have es := hy.2.2.2.2.2.2.2.2.2.1
    obtain ⟨k, hk, ek⟩ := dr_rng (nxI s) (m := 4096) (by decide) (by decide)
    have w : wfA n (pA (τ 3) 1 (nI i) (drI (nxI s) 4096)) := hy.2.2.2.1.t1 (by omega) ⟨k, hk, ek⟩
    have hn := hy.next (j := 1) (i := i) (v := drI (nxI s) 4096) (by decide) (show i < 5 by omega) (by omega) w
    rw [C_drawYear_L15, M_years_L82, if_neg e, if_neg e, C_next_ok', bd_e, C_draw_ok', bd_e, M_draw_ok' u 4096 (by decide), bd2_e, inb_nI (show i < 5 by omega) (by decide), gd_t, gd_t, nm_q, nm_q, nm_q, nm_q, nI_1, ← es]
    exact ih (i + 1) N1 N2 _ _ _ (by omega) (by omega) (by omega) hn
theorem year_c {n : Nat} {σ : CS} {o : Ob} {a1 a3 x4 x5 : Int32} (h7 : n ≤ 7) (KM : Ob → Option (Int32 × Ob)) : ∀ r i N1 N2 (τ : CS) (u : Ob) (s : Int32), i + r = n → r < N1 → r < N2 → YI n σ o τ u s → ∃ τ' u' s', C_drawYear_L50 N1 τ s (nI i) = some (s', τ') ∧ M_years_L111 KM a1 a3 x4 x5 N2 u (nI i) = KM u' ∧ YI n σ o τ' u' s' := by
  intro r
  induction r with
  | zero =>
    intro i N1 N2 τ u s hi h1 h2 hy
    obtain ⟨N1, rfl⟩ : ∃ m, N1 = m + 1 := ⟨N1 - 1, by omega⟩
    obtain ⟨N2, rfl⟩ : ∃ m, N2 = m + 1 := ⟨N2 - 1, by omega⟩
    have e : nI n ≤ nI i := by rw [nI_le' (by omega) (by omega)]; omega
    exact ⟨τ, u, s, by rw [C_drawYear_L50, hy.2.2.2.2.2.1, if_pos e], by rw [M_years_L111, hy.2.2.2.2.2.2.1, if_pos e], hy⟩
  | succ r ih =>
    intro i N1 N2 τ u s hi h1 h2 hy
    obtain ⟨N1, rfl⟩ : ∃ m, N1 = m + 1 := ⟨N1 - 1, by omega⟩
    obtain ⟨N2, rfl⟩ : ∃ m, N2 = m + 1 := ⟨N2 - 1, by omega⟩
    have e : ¬ nI n ≤ nI i := by rw [nI_le' (by omega) (by omega)]; omega
    have es := hy.2.2.2.2.2.2.2.2.2.1
    obtain ⟨k, hk, ek⟩ := dr_rng (nxI s) (m := 5) (by decide) (by decide)
    have w : wfA n (pA (τ 3) 6 (nI i) (drI (nxI s) 5)) := hy.2.2.2.1.t6 (by omega) (Or.inl ⟨k, hk, ek⟩)
    have hn := hy.next (j := 6) (i := i) (v := drI (nxI s) 5) (by decide) (show i < 7 by omega) (by omega) w
    rw [C_drawYear_L50, M_years_L111, hy.2.2.2.2.2.1, hy.2.2.2.2.2.2.1, if_neg e, if_neg e, C_next_ok', bd_e, C_draw_ok', bd_e, M_draw_ok' u 5 (by decide), bd2_e, inb_nI (show i < 7 by omega) (by decide), gd_t, gd_t, nm_q, nm_q, nm_q, nm_q, nI_1, ← es]
    exact ih (i + 1) N1 N2 _ _ _ (by omega) (by omega) (by omega) hn
/-- who owns otherwise than before -/
def othS (f g : Nat → Int32) : Int32 := foldN (fun i s => if f i = 9 then s else if f i = g i then s else s + 1) 0 5
theorem oth_C (τ : CS) : C_otherOwners τ = some (othS (oA (τ 3) 3) (oA (τ 1) 3)) := by
  refine (up_loop (L := fun N s i => C_otherOwners_L4 τ N s (nI i)) 5 (fun i s => if oA (τ 3) 3 i = 9 then s else if oA (τ 3) 3 i = oA (τ 1) 3 i then s else s + 1) (fun _ _ => True) some ?_ ?_ 0 trivial FU (FU_gt (by decide))).1
  · intro N i s hi _
    refine ⟨?_, trivial⟩
    rw [C_otherOwners_L4, if_neg (by show ¬ nI 5 ≤ nI i; rw [nI_le' (by omega) (by omega)]; omega), inb_nI hi (by decide)]
    simp only [gd_t, nm_q, nI_1, ix_nI (show i < 2 ^ 31 by omega)]
    by_cases c : oA (τ 3) 3 i = 9
    · rw [if_pos c, if_pos c, bd_e]
    · rw [if_neg c, if_neg c]
      by_cases c2 : oA (τ 3) 3 i = oA (τ 1) 3 i
      · rw [if_pos c2, if_pos c2, bd_e]
      · rw [if_neg c2, if_neg c2, bd_e]
  · intro N s _
    rw [C_otherOwners_L4, if_pos (by decide)]
theorem oth_M {u : Ob} {g : Nat → Int32} (hg : ∀ h, h < 5 → oA u 20 h = g h) : M_ownedAnew u = some (othS (oA u 3) g) := by
  refine (up_loop (L := fun N s i => M_ownedAnew_L4 u N s (nI i)) 5 (fun i s => if oA u 3 i = 9 then s else if oA u 3 i = g i then s else s + 1) (fun _ _ => True) some ?_ ?_ 0 trivial FU (FU_gt (by decide))).1
  · intro N i s hi _
    refine ⟨?_, trivial⟩
    rw [M_ownedAnew_L4, if_neg (by show ¬ nI 5 ≤ nI i; rw [nI_le' (by omega) (by omega)]; omega), inb_nI hi (by decide)]
    simp only [gd_t, nm_q, jn_e, nI_1, ix_nI (show i < 2 ^ 31 by omega), hg i hi]
    by_cases c : oA u 3 i = 9
    · rw [if_pos c, if_pos c, bd_e, Int32.add_zero]
    · rw [if_neg c, if_neg c]
      by_cases c2 : oA u 3 i = g i
      · rw [if_pos c2, if_pos c2, bd_e, Int32.add_zero]
      · rw [if_neg c2, if_neg c2, bd_e]
  · intro N s _
    rw [M_ownedAnew_L4, if_pos (by decide)]
def ownC (t : Ob) : Int32 := pcI (31 &&& (ownS t 9 ^^^ (-1)))
theorem own_C {α : Type} (t : Ob) (F : Int32 → Option α) : (bd (T_ownedThings t) fun r10 => bd (B_bitCount r10) F) = F (ownC t) := by
  unfold T_ownedThings ownC
  rw [T_ownedBy_ok', bd_e, bd_e, bitCount_some, bd_e]
theorem own_M {α : Type} (u : Ob) (F : Int32 → Option α) : (bd (M_ownedBits u) fun r34 => bd (M_onesOf u r34) F) = F (ownC u) := by
  have hb : B12 (31 &&& (ownS u 9 ^^^ -1)) := B12_and _ ⟨31, by decide, rfl⟩
  unfold M_ownedBits ownC
  rw [M_ownedBy_ok', bd_e, bd_e, ones_b _ hb, bd_e]
theorem AEq.ownC {t o : Ob} (e : AEq t o) : Jvm.Pilot.@@N@@.ownC t = Jvm.Pilot.@@N@@.ownC o := by
  unfold Jvm.Pilot.@@N@@.ownC
  rw [e.own]
theorem year_loop {n m : Nat} {a3 : Int32} {σ : CS} {o : Ob} (R : Rel n σ o) (hm : m ≤ 20) : ∀ r i N1 N2 (τ : CS) (u : Ob) (s p q z : Int32), i + r = m → r < N1 → r < N2 → visC σ τ → TH o u → AEq u o → visM o u → s = oS u 32 → (∀ h, h < 5 → oA u 20 h = oA o 3 h) → z = (if a3 = 0 then p else q) →
    ok2 (C_years_L33 (fun (x5_21 : Int32) (x6_22 : Int32) (σ23 : CS) => if a3 = (0 : Int32) then some (x5_21, σ23) else some (x6_22, σ23)) (nI m) a3 N1 τ s p q (nI i)) (M_years_L73 (nI m) a3 N2 u z (nI i)) := by
  have h7 := R.n7
  intro r
  induction r with
  | zero =>
    intro i N1 N2 τ u s p q z hi h1 h2 hv ht ha hmv hs hh hz
    obtain ⟨N1, rfl⟩ : ∃ m, N1 = m + 1 := ⟨N1 - 1, by omega⟩
    obtain ⟨N2, rfl⟩ : ∃ m, N2 = m + 1 := ⟨N2 - 1, by omega⟩
    have e : nI m ≤ nI i := by rw [nI_le' (by omega) (by omega)]; omega
    rw [C_years_L33, M_years_L73, if_pos e, if_pos e, hz]
    by_cases c : a3 = 0
    · rw [if_pos c, if_pos c]; exact ⟨p, τ, u, rfl, rfl, n, (R.c hv).m hmv⟩
    · rw [if_neg c, if_neg c]; exact ⟨q, τ, u, rfl, rfl, n, (R.c hv).m hmv⟩
  | succ r ih =>
    intro i N1 N2 τ u s p q z hi h1 h2 hv ht ha hmv hs hh hz
    obtain ⟨N1, rfl⟩ : ∃ m, N1 = m + 1 := ⟨N1 - 1, by omega⟩
    obtain ⟨N2, rfl⟩ : ∃ m, N2 = m + 1 := ⟨N2 - 1, by omega⟩
    have e : ¬ nI m ≤ nI i := by rw [nI_le' (by omega) (by omega)]; omega
    obtain ⟨t, t1, t2, t3⟩ := mind_take R (a := 3) (by decide) hv
    have e3 : (va_up τ 3 t) 3 = t := vu_at
    have y0 : YI n σ o (va_up τ 3 t) u s := by
      refine ⟨hv.tr (visC_mind (by decide) t3), ht, ?_, ?_, ?_, ?_, hmv.1.trans R.2.1, ?_, hmv.2.1, hs, hh⟩
      · rw [e3]; exact t2.2.2.tr (R.2.2.2.1.tr ha.sm)
      · rw [e3]; exact t2.2.2.sm.wf R.wf
      · rw [e3]; exact t3
      · rw [e3]; exact t2.1
      · rw [e3, t2.2.1, nI_0, Int32.add_zero]
    obtain ⟨τ1, u1, s1, c1, m1, y1⟩ := year_t (a1 := nI m) (a3 := a3) (x4 := z) (x5 := nI i) (fun (x2_11 : Int32) (σ12 : CS) => C_drawYear_L50 FU σ12 x2_11 (0 : Int32)) (fun (o22 : Ob) =>
          M_years_L111 (fun (o30 : Ob) =>
              bd (M_goDays o30 (8 : Int32)) fun (o31 : Ob) =>
              bd (
                if a3 = (0 : Int32) then
                  bd (M_ownedBits o31) fun (r34 : Int32) =>
                  bd (M_onesOf o31 r34) fun (r35 : Int32) =>
                  some r35
                else
                  bd (M_ownedAnew o31) fun (r33 : Int32) =>
                  some r33) fun (s36 : Int32) =>
              nm (z + s36) fun v37 =>
              bd (M_again o31) fun (o38 : Ob) =>
              nm (nI i + (1 : Int32)) fun v39 =>
              M_years_L73 (nI m) a3 N2 o38 v37 v39) (nI m) a3 z (nI i) FU o22 (0 : Int32)) 5 0 FU FU (va_up τ 3 t) u s rfl (FU_gt (by decide)) (FU_gt (by decide)) y0
    obtain ⟨τ2, u2, s2, c2, m2, y2⟩ := year_c (a1 := nI m) (a3 := a3) (x4 := z) (x5 := nI i) h7 (fun (o30 : Ob) =>
              bd (M_goDays o30 (8 : Int32)) fun (o31 : Ob) =>
              bd (
                if a3 = (0 : Int32) then
                  bd (M_ownedBits o31) fun (r34 : Int32) =>
                  bd (M_onesOf o31 r34) fun (r35 : Int32) =>
                  some r35
                else
                  bd (M_ownedAnew o31) fun (r33 : Int32) =>
                  some r33) fun (s36 : Int32) =>
              nm (z + s36) fun v37 =>
              bd (M_again o31) fun (o38 : Ob) =>
              nm (nI i + (1 : Int32)) fun v39 =>
              M_years_L73 (nI m) a3 N2 o38 v37 v39) n 0 FU FU τ1 u1 s1 (by omega) (FU_gt (by omega)) (FU_gt (by omega)) y1
    have cD : C_drawYear τ s = some (s2, τ2) := by
      unfold C_drawYear
      rw [t1, bd_p, nm_p, ← nI_0]
      exact c1.trans c2
    have mD := m1.trans m2
    obtain ⟨g1, g2, g3, g4, g5, g6, g7, g8, g9, g10, g11⟩ := y2
    obtain ⟨v, v1, v2⟩ := T_passAll_ok' (k := 8) (d := oS o 8) (u := τ2 3) g4 (by decide) ⟨g6, by rw [g8, nI_0, Int32.add_zero], AEq.rf⟩
    obtain ⟨w, w1, w2, w3⟩ := M_goDays_ok' (k := 8) (d := oS o 8) (u := u2) g4 (by decide) ⟨g7, by rw [g9, nI_0, Int32.add_zero], g3.sm⟩
    have w1' : M_goDays u2 (8 : Int32) = some w := w1
    have v1' : T_passAll (τ2 3) (8 : Int32) = some v := v1
    have ew : AEq v w := v2.2.2.tr w2.2.2.sm
    have tw : TH o w := g2.rest w3 (w2.zb g4 g5)
    have hv3 : visC σ (va_up τ2 3 v) := g1.tr (visC_mind (by decide) (v2.zb g4 g5))
    obtain ⟨x, x1, x2, x3, x4, x5, x6⟩ := M_again_x R.zo tw
    have w20 : ∀ h, h < 5 → oA w 20 h = oA (σ 1) 3 h := fun h hh => by rw [w3.2.1 20 (by decide), g11 h hh, R.2.2.2.1 3 (by decide) (by decide)]
    have eo : C_otherOwners (va_up τ2 3 v) = some (othS (oA w 3) (oA (σ 1) 3)) := by
      rw [oth_C, vu_at, hv3.1, ew 3 (by decide) (by decide)]
    have em : M_ownedAnew w = some (othS (oA w 3) (oA (σ 1) 3)) := oth_M w20
    have eM : (bd (
                if a3 = (0 : Int32) then
                  bd (M_ownedBits w) fun (r34 : Int32) =>
                  bd (M_onesOf w r34) fun (r35 : Int32) =>
                  some r35
                else
                  bd (M_ownedAnew w) fun (r33 : Int32) =>
                  some r33) fun (s36 : Int32) =>
              nm (z + s36) fun v37 =>
              bd (M_again w) fun (o38 : Ob) =>
              nm (nI i + (1 : Int32)) fun v39 =>
              M_years_L73 (nI m) a3 N2 o38 v37 v39) = M_years_L73 (nI m) a3 N2 x (z + if a3 = 0 then ownC w else othS (oA w 3) (oA (σ 1) 3)) (nI (i + 1)) := by
      rw [own_M, em, bd_e, it_sm, bd_e, nm_q, x1, bd_e, nm_q, nI_1]
    have mE : M_years_L73 (nI m) a3 (N2 + 1) u z (nI i) = M_years_L73 (nI m) a3 N2 x (z + if a3 = 0 then ownC w else othS (oA w 3) (oA (σ 1) 3)) (nI (i + 1)) := by
      rw [M_years_L73, if_neg e]
      refine Eq.trans mD ?_
      show (bd (M_goDays u2 (8 : Int32)) _) = _
      rw [w1', bd_p]
      exact eM
    rw [mE, C_years_L33, if_neg e, cD, bd2_e, v1', bd_e, nm_q, own_C, vu_at, nm_q, eo, bd_e, nm_q, nm_q, nI_1, ew.ownC]
    refine ih (i + 1) N1 N2 _ x _ _ _ _ (by omega) (by omega) (by omega) hv3 x2 x4 x3 ?_ (fun h hh => ?_) ?_
    · rw [x6 32 (by decide) (by decide) (by decide) (by decide) (by decide), w3.1 32 (by decide) (by decide)]; exact g10
    · rw [x5 20 (by decide), w3.2.1 20 (by decide)]; exact g11 h hh
    · rw [hz]
      by_cases c : a3 = 0
      · rw [if_pos c, if_pos c, if_pos c]
      · rw [if_neg c, if_neg c, if_neg c]
theorem year_had {o s : Ob} {a1 a3 a4 : Int32} (K : Ob → Option (Int32 × Ob)) (ht : TH o s) (ha : AEq s o) (hm : visM o s) : ∃ v, M_years_L44 K a1 a3 a4 FU s 0 = K v ∧ TH o v ∧ AEq v o ∧ visM o v ∧ oS v 32 = oS s 32 ∧ ∀ h, h < 5 → oA v 20 h = oA o 3 h := by
  refine up_loopE (L := fun N s i => M_years_L44 K a1 a3 a4 N s (nI i)) 5 (fun i v => TH o v ∧ AEq v o ∧ visM o v ∧ oS v 32 = oS s 32 ∧ ∀ h, h < i → oA v 20 h = oA o 3 h) K ?_ ?_ s ⟨ht, ha, hm, rfl, fun h hh => absurd hh (by omega)⟩ FU (FU_gt (by decide))
  · intro N i v hi ⟨q1, q2, q3, q4, q5⟩
    refine ⟨pA v 20 (nI i) (oA v 3 i), ?_, q1.pA (by omega) (Or.inr (by decide)), fun j a b => by rw [pA_ne (by omega)]; exact q2 j a b, q3.tr (visM_A (by decide)), q4, fun h hh => ?_⟩
    · rw [M_years_L44, if_neg (by show ¬ nI 5 ≤ nI i; rw [nI_le' (by omega) (by omega)]; omega), inb_nI hi (by decide), gd_t, gd_t, nm_q, nm_q, nI_1, ix_nI (by omega)]
    · rw [pA_at (by omega), q2 3 (by decide) (by decide)]
      by_cases g : h = i
      · rw [if_pos g, g]
      · rw [if_neg g]; exact q5 h (by omega)
  · intro N v _
    rw [M_years_L44, if_pos (by decide)]
theorem r_years {n : Nat} {σ : CS} {o : Ob} (h : Rel n σ o) (p q w : Int32) : ok2 (C_years σ p q w) (M_years o p q w) := by
  have h7 := h.n7
  have H := h.t0
  unfold C_years M_years
  simp only [nm_p]
  generalize pS o 15 0 = u at H
  have z1 : (1 : Int32).toInt = 1 := by decide
  have z20 : (20 : Int32).toInt = 20 := by decide
  rw [M_inI, bd_p, show (1 : Int64).toInt = 1 from rfl, show (20 : Int64).toInt = 20 from rfl]
  cases hp : rng p 1 20 with
  | false =>
    have hp' := of_decide_eq_false hp
    rw [b0]
    refine ⟨-1, σ, u, ?_, rfl, n, H⟩
    by_cases c : p < 1
    · rw [if_pos c]
    · have c' : 20 < p := by rw [fa_lt] at c ⊢; omega
      rw [if_neg c, if_pos c']
  | true =>
    have hp' := of_decide_eq_true hp
    obtain ⟨m, hm, rfl⟩ : ∃ m : Nat, m ≤ 20 ∧ p = nI m := ⟨p.toInt.toNat, by omega, by rw [fa_eq, nI_toInt (by omega)]; omega⟩
    rw [nI_toInt (by omega)] at hp'
    have k1 : ¬ nI m < 1 := by rw [fa_lt, nI_toInt (by omega)]; omega
    have k2 : ¬ 20 < nI m := by rw [fa_lt, nI_toInt (by omega)]; omega
    rw [b1, if_neg k1, if_neg k2, C_within_ok', M_inI, bd_p, bd_p, show (1 : Int32).toInt = 1 from rfl, show (0 : Int64).toInt = 0 from rfl, show (1 : Int64).toInt = 1 from rfl]
    cases hw : rng w 0 1 with
    | false => rw [b0, b0]; exact ⟨-1, σ, u, rfl, rfl, n, H⟩
    | true =>
      have H6 : Rel n σ (pS u 32 q) := H.m (visM_S (by decide))
      have e32 : oS (pS u 32 q) 32 = q := rfl
      generalize pS u 32 q = o6 at H6 e32
      obtain ⟨s, f1, t1, v1, w1, x1⟩ := M_think_x H6.zo
      rw [b1, b1, f1, bd_p]
      obtain ⟨v, y1, y2, y3, y4, y5, y6⟩ := year_had (a1 := nI m) (a3 := w) (a4 := 0) (fun (o13 : Ob) => M_years_L73 (nI m) w FU o13 (0 : Int32) (0 : Int32)) t1 w1 v1
      rw [y1]
      have key := year_loop (a3 := w) H6 hm m 0 FU FU σ v q 0 0 0 (by omega) (FU_gt (by omega)) (FU_gt (by omega)) visC.rf y2 y3 y4 (by rw [y5, x1 32 (by decide) (by decide) (by decide), e32]) y6 (by split <;> rfl)
      rw [nI_0] at key
      exact key

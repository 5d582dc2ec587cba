/-! what one had best look after -/
theorem worth_nn {n : Nat} {t : Ob} (w : wfA n t) (p : Int32) : 0 ≤ (worthS t p).toInt := by
  obtain ⟨m, hm, e⟩ := foldN_inv (P := fun i (s : Int32) => ∃ m, m ≤ 9 * i ∧ s = nI m) (step := fun i s => if oA t 3 i = p then s + oA t 2 i else s) (s := 0) ⟨0, by omega, rfl⟩ 5 (fun i s hi q => by
    obtain ⟨m, hm, rfl⟩ := q
    obtain ⟨v, hv, ev⟩ := w.wor hi
    show ∃ m', m' ≤ 9 * (i + 1) ∧ (if oA t 3 i = p then nI m + oA t 2 i else nI m) = nI m'
    split
    · exact ⟨m + v, by omega, by rw [ev, nI_add]⟩
    · exact ⟨m, by omega, rfl⟩)
  unfold worthS
  rw [e, nI_toInt (by omega)]
  omega
theorem look_loop {n k j : Nat} {σ : CS} {o : Ob} {a3 : Int32} (R : Rel n σ o) (hk : k < n) (hj : j ≤ 60) (kc : Int32 → Int32 → CS → Option (Int32 × CS)) (km : Int32 → Int32 → Ob → Option (Int32 × Ob)) :
    ∀ r i N1 N2 (τ : CS) (u : Ob) (x y z : Int32), i + r = 6 → r < N1 → r < N2 → visC σ τ → TH o u → AEq u o → visM o u → (i = 0 → x = -1) → (0 < i → y = if z = 5 then 9 else z) →
    ∃ x' y' z' τ' u', C_lookAfter_L40 kc (nI k) (nI j) a3 N1 τ x y (nI i) = kc x' y' τ' ∧ M_lookAfter_L50 km (nI k) (nI j) a3 N2 u z x (nI i) = km z' x' u' ∧ visC σ τ' ∧ visM o u' ∧ y' = if z' = 5 then 9 else z' := by
  have h7 := R.n7
  intro r
  induction r with
  | zero =>
    intro i N1 N2 τ u x y z hi h1 h2 hv ht ha hm _ hy
    obtain ⟨N1, rfl⟩ : ∃ m, N1 = m + 1 := ⟨N1 - 1, by omega⟩
    obtain ⟨N2, rfl⟩ : ∃ m, N2 = m + 1 := ⟨N2 - 1, by omega⟩
    have e : (5 : Int32) < nI i := by show nI 5 < nI i; rw [nI_lt' (by omega) (by omega)]; omega
    have e' : (6 : Int32) ≤ nI i := by show nI 6 ≤ nI i; rw [nI_le' (by omega) (by omega)]; omega
    exact ⟨x, y, z, τ, u, by rw [C_lookAfter_L40, if_pos e], by rw [M_lookAfter_L50, if_pos e'], hv, hm, hy (by omega)⟩
  | succ r ih =>
    intro i N1 N2 τ u x y z hi h1 h2 hv ht ha hm hx hy
    obtain ⟨N1, rfl⟩ : ∃ m, N1 = m + 1 := ⟨N1 - 1, by omega⟩
    obtain ⟨N2, rfl⟩ : ∃ m, N2 = m + 1 := ⟨N2 - 1, by omega⟩
    have e : ¬ (5 : Int32) < nI i := by show ¬ nI 5 < nI i; rw [nI_lt' (by omega) (by omega)]; omega
    have e' : ¬ (6 : Int32) ≤ nI i := by show ¬ nI 6 ≤ nI i; rw [nI_le' (by omega) (by omega)]; omega
    have es : ∃ s : Int32, (if (5 : Int32) ≤ nI i then some (9 : Int32) else some (nI i)) = some s ∧ (if nI i = (5 : Int32) then some (9 : Int32) else some (nI i)) = some s ∧ ((∃ c, c < 5 ∧ s = nI c) ∨ s = nI 9) ∧ s = (if nI i = 5 then 9 else nI i) := by
      by_cases c : i = 5
      · subst c; exact ⟨9, rfl, rfl, Or.inr rfl, rfl⟩
      · have e5 : ¬ (5 : Int32) ≤ nI i := by show ¬ nI 5 ≤ nI i; rw [nI_le' (by omega) (by omega)]; omega
        have e6 : ¬ nI i = (5 : Int32) := by show ¬ nI i = nI 5; rw [nI_eq' (by omega) (by omega)]; omega
        exact ⟨nI i, if_neg e5, if_neg e6, Or.inl ⟨i, by omega, rfl⟩, (if_neg e6).symm⟩
    obtain ⟨s, s1, s2, s3, s4⟩ := es
    have i7 : inb (nI k) 7 = true := inb_nI (by omega) (by decide)
    obtain ⟨t, t1, t2, t3⟩ := mind_take R (a := 3) (by decide) hv
    have w' : wfA n (pA (σ 1) 6 (nI k) s) := R.wf.t6 (by omega) s3
    have z' : zb (pA (σ 1) 6 (nI k) s) := zb_pA R.1.2.2.2.2 (by omega) (Or.inl (show k < 7 by omega))
    have dC : isDay n (oS o 8) (pA (σ 1) 6 (nI k) s) 0 (pA t 6 (nI k) s) := ⟨t2.1, t2.2.1, t2.2.2.uA⟩
    obtain ⟨v, v1, v2⟩ := T_passAll_ok' w' (show j < 1000 by omega) dC
    have aS : AEq u (σ 1) := ha.tr R.2.2.2.1.sm
    have dM : isDayM n (oS o 8) (pA (σ 1) 6 (nI k) s) 0 (pA u 6 (nI k) s) := ⟨hm.1.trans R.2.1, by show oS u 8 = _; rw [hm.2.1, nI_0, Int32.add_zero], aS.uA⟩
    obtain ⟨v', f1, f2, f3⟩ := M_goDays_ok' w' (show j < 1000 by omega) dM
    have th : TH o v' := (ht.pA (j := 6) (v := s) (show k < 2 ^ 31 by omega) (Or.inl ⟨by decide, by decide, show k < 7 by omega⟩)).rest f3 (f2.zb w' z')
    obtain ⟨u2, g1, g2, g3, g4⟩ := M_again_ok' R.zo th
    have wv : wfA n v := v2.2.2.sm.wf (iter_wf w' j)
    have ev : worthS v' (nI k) = worthS v (nI k) := (f2.2.2.tr v2.2.2.sm).worth
    have nn := worth_nn wv (nI k)
    have hv' : visC σ (va_up τ 3 v) := hv.tr (visC_mind (by decide) (v2.zb w' z'))
    rw [C_lookAfter_L40, M_lookAfter_L50, if_neg e, if_neg e', s1, s2]
    simp only [nm_q, bd_e, t1, vu_at, vu_vu, i7, gd_t, v1, f1, T_wealth_ok', M_worthOf_ok', g1, nI_1, ev]
    by_cases c : worthS v (nI k) ≤ x
    · simp only [if_pos c, bd_e, bd2_e]
      refine ih (i + 1) N1 N2 _ u2 x y z (by omega) (by omega) (by omega) hv' g2 g4 g3 (fun q => absurd q (by omega)) (fun _ => hy ?_)
      apply Nat.pos_of_ne_zero
      intro q
      rw [hx q, fa_le, show (-1 : Int32).toInt = -1 from rfl] at c
      omega
    · simp only [if_neg c, bd_e, bd2_e]
      exact ih (i + 1) N1 N2 _ u2 _ s (nI i) (by omega) (by omega) (by omega) hv' g2 g4 g3 (fun q => absurd q (by omega)) (fun _ => s4)
theorem r_lookAfter {n : Nat} {σ : CS} {o : Ob} (h : Rel n σ o) (p q w : Int32) : ok2 (C_lookAfter σ p q w) (M_lookAfter o p q w) := by
  have h7 := h.n7
  have H := h.t0
  unfold C_lookAfter M_lookAfter
  simp only [nm_q]
  generalize pS o 15 0 = u at H
  rw [T_hasOne_ok' h.1.2.1 h7, M_isOne_ok' H.2.1 h7, bd_e, bd_e]
  cases hp : rng p 0 ((n : Int) - 1) with
  | false => exact ⟨-1, σ, u, rfl, rfl, n, H⟩
  | true =>
    obtain ⟨k, hk, rfl⟩ := rng_n hp h7
    rw [b1, b1, C_within_ok', M_inI, bd_e, bd_e, show (60 : Int32).toInt = 60 from rfl, show (0 : Int64).toInt = 0 from rfl, show (60 : Int64).toInt = 60 from rfl]
    cases hq : rng q 0 60 with
    | false => exact ⟨-1, σ, u, rfl, rfl, n, H⟩
    | true =>
      obtain ⟨j, hj, rfl⟩ := rng_nI (hi := 60) hq (by decide)
      rw [b1, b1, C_within_ok', M_inI, bd_e, bd_e, show (1 : Int32).toInt = 1 from rfl, show (0 : Int64).toInt = 0 from rfl, show (1 : Int64).toInt = 1 from rfl]
      cases hw : rng w 0 1 with
      | false => exact ⟨-1, σ, u, rfl, rfl, n, H⟩
      | true =>
        obtain ⟨b, hb, rfl⟩ := rng_nI (hi := 1) hw (by decide)
        obtain ⟨s, e1, t1, v1, a1⟩ := M_think_ok' H.zo
        rw [b1, b1, e1, bd_e]
        obtain ⟨x', y', z', τ', u', c1, c2, c3, c4, c5⟩ := look_loop (a3 := nI b) H hk hj (fun (x4_24 : Int32) (x5_25 : Int32) (σ26 : CS) => if nI b = (0 : Int32) then some (x5_25, σ26) else some (x4_24, σ26)) (fun (x4_25 : Int32) (x5_26 : Int32) (o27 : Ob) => if nI b = (1 : Int32) then some (x5_26, o27) else if x4_25 = (5 : Int32) then some ((9 : Int32), o27) else some (x4_25, o27)) 6 0 FU FU σ s (-1) 9 0 rfl (FU_gt (by decide)) (FU_gt (by decide)) visC.rf t1 a1 v1 (fun _ => rfl) (fun q => absurd q (by decide))
        have R' : Rel n τ' u' := (H.c c3).m c4
        rcases (show b = 0 ∨ b = 1 by omega) with rfl | rfl
        · refine ⟨y', τ', u', c1, c2.trans ?_, n, R'⟩
          show (if z' = 5 then some ((9 : Int32), u') else some (z', u')) = _
          rw [c5]; split <;> rfl
        · exact ⟨x', τ', u', c1, c2, n, R'⟩
/-! who is richest -/
theorem rich_loop {n : Nat} {σ : CS} {o : Ob} (R : Rel n σ o) : ∀ r i N1 N2 (b w : Int32), i + r = n → r < N1 → r < N2 → ((w = -4 ∧ b = -1) ∨ (∃ q, q < n ∧ w = nI q ∧ b = worthS o w)) → ∃ y, C_richestOne_L7 σ N1 b w (nI i) = some y ∧ M_richestOne_L5 o N2 w (nI i) = some y := by
  have h7 := R.n7
  intro r
  induction r with
  | zero =>
    intro i N1 N2 b w hi h1 h2 _
    obtain ⟨N1, rfl⟩ : ∃ m, N1 = m + 1 := ⟨N1 - 1, by omega⟩
    obtain ⟨N2, rfl⟩ : ∃ m, N2 = m + 1 := ⟨N2 - 1, by omega⟩
    have e : nI n ≤ nI i := by rw [nI_le' (by omega) (by omega)]; omega
    exact ⟨w, by rw [C_richestOne_L7, R.1.2.1, if_pos e], by rw [M_richestOne_L5, R.2.1, if_pos e]⟩
  | succ r ih =>
    intro i N1 N2 b w hi h1 h2 hw
    obtain ⟨N1, rfl⟩ : ∃ m, N1 = m + 1 := ⟨N1 - 1, by omega⟩
    obtain ⟨N2, rfl⟩ : ∃ m, N2 = m + 1 := ⟨N2 - 1, by omega⟩
    have e : ¬ nI n ≤ nI i := by rw [nI_le' (by omega) (by omega)]; omega
    rw [C_richestOne_L7, M_richestOne_L5, R.1.2.1, R.2.1, if_neg e, if_neg e]
    simp only [nm_q, jn_e, T_wealth_ok', M_worthOf_ok', bd_e, nI_1]
    rw [R.2.2.2.1.worth]
    rcases hw with ⟨rfl, rfl⟩ | ⟨q, hq, rfl, rfl⟩
    · have nn := worth_nn R.wfo (nI i)
      rw [if_neg (by rw [fa_le, show (-1 : Int32).toInt = -1 from rfl]; omega), if_pos (by decide), bd2_e, bd_e]
      exact ih (i + 1) N1 N2 _ _ (by omega) (by omega) (by omega) (Or.inr ⟨i, by omega, rfl, rfl⟩)
    · rw [if_neg (show ¬ nI q < 0 by show ¬ nI q < nI 0; rw [nI_lt' (by omega) (by omega)]; omega)]
      by_cases c : worthS o (nI i) ≤ worthS o (nI q)
      · rw [if_pos c, if_pos c, bd2_e, bd_e]
        exact ih (i + 1) N1 N2 _ _ (by omega) (by omega) (by omega) (Or.inr ⟨q, hq, rfl, rfl⟩)
      · rw [if_neg c, if_neg c, bd2_e, bd_e]
        exact ih (i + 1) N1 N2 _ _ (by omega) (by omega) (by omega) (Or.inr ⟨i, by omega, rfl, rfl⟩)
/-! the longest story -/
def longS (t : Ob) (p h : Nat) (s : Int32 × Int32) : Int32 × Int32 := if storyS t p h ≤ s.1 then s else (storyS t p h, nI (10 * p + h))
theorem C_long1 {n p : Nat} {σ : CS} (w : wfA n (σ 1)) (hp : p < n) (k : Int32 → Int32 → Option Int32) (s : Int32 × Int32) : C_longestTale_L21 k σ (nI p) FU s.1 s.2 0 = k (foldN (longS (σ 1) p) s 5).1 (foldN (longS (σ 1) p) s 5).2 := by
  have h7 := w.n7
  refine (up_loop (L := fun N (s : Int32 × Int32) i => C_longestTale_L21 k σ (nI p) N s.1 s.2 (nI i)) 5 (longS (σ 1) p) (fun _ _ => True) (fun s => k s.1 s.2) ?_ ?_ s trivial FU (FU_gt (by omega))).1
  · intro N i s hi _
    refine ⟨?_, trivial⟩
    rw [C_longestTale_L21, if_neg (by show ¬ nI 5 ≤ nI i; rw [nI_le' (by omega) (by omega)]; omega)]
    simp only [nm_q, nI_1, T_tale_ok' w hp hi, bd_e]
    unfold longS
    have e : (10 : Int32) * nI p + nI i = nI (10 * p + i) := by rw [lit32, pk_mul, nI_add]
    rw [e]
    split <;> rfl
  · intro N s _
    rw [C_longestTale_L21, if_pos (by decide)]
theorem C_long {n : Nat} {σ : CS} (w : wfA n (σ 1)) (hn : oS (σ 1) 1 = nI n) : C_longestTale σ = some (foldN (fun p s => foldN (longS (σ 1) p) s 5) ((0 : Int32), (-4 : Int32)) n).2 := by
  have h7 := w.n7
  refine (up_loop (L := fun N (s : Int32 × Int32) i => C_longestTale_L7 σ N s.1 s.2 (nI i)) n (fun p s => foldN (longS (σ 1) p) s 5) (fun _ _ => True) (fun s => some s.2) ?_ ?_ (0, -4) trivial FU (FU_gt (by omega))).1
  · intro N i s hi _
    refine ⟨?_, trivial⟩
    rw [C_longestTale_L7, hn, if_neg (by rw [nI_le' (by omega) (by omega)]; omega), C_long1 w hi]
    simp only [nm_q, nI_1]
  · intro N s _
    rw [C_longestTale_L7, hn, if_pos (by rw [nI_le' (by omega) (by omega)]; omega)]
theorem div5 {q : Nat} (hq : q < 35) : nI q / (5 : Int32) = nI (q / 5) ∧ rem32 (nI q) 5 = nI (q % 5) := by
  have h := (List.all_eq_true.mp (show ((List.range 35).all fun q => decide (nI q / (5 : Int32) = nI (q / 5) ∧ rem32 (nI q) 5 = nI (q % 5))) = true by decide +kernel)) q (List.mem_range.mpr hq)
  exact of_decide_eq_true h
theorem M_long {n : Nat} {o : Ob} (w : wfA n o) (hn : oS o 3 = nI n) : M_longestStory o = some (foldN (fun q s => longS o (q / 5) (q % 5) s) ((0 : Int32), (-4 : Int32)) (5 * n)).2 := by
  have h7 := w.n7
  have e5 : (5 : Int32) * nI n = nI (5 * n) := by rw [lit32, pk_mul]
  refine (up_loop (L := fun N (s : Int32 × Int32) i => M_longestStory_L7 o N s.2 s.1 (nI i)) (5 * n) (fun q s => longS o (q / 5) (q % 5) s) (fun _ _ => True) (fun s => some s.2) ?_ ?_ (0, -4) trivial FU (FU_gt (by omega))).1
  · intro N i s hi _
    refine ⟨?_, trivial⟩
    obtain ⟨d1, d2⟩ := div5 (show i < 35 by omega)
    rw [M_longestStory_L7, hn, e5, if_neg (by rw [nI_le' (by omega) (by omega)]; omega), d1, d2, M_storyOf_ok' w (show i / 5 < n by omega) (show i % 5 < 5 by omega)]
    simp only [nm_q, nI_1, bd_e]
    have e : (10 : Int32) * nI (i / 5) + nI (i % 5) = nI (10 * (i / 5) + i % 5) := by rw [lit32, pk_mul, nI_add]
    rw [e]
    unfold longS
    split <;> rfl
  · intro N s _
    rw [M_longestStory_L7, hn, e5, if_pos (by rw [nI_le' (by omega) (by omega)]; omega)]
theorem long5 {t : Ob} {s : Int32 × Int32} (n : Nat) : foldN (fun q s => longS t (q / 5) (q % 5) s) s (5 * n + 5) = foldN (longS t n) (foldN (fun q s => longS t (q / 5) (q % 5) s) s (5 * n)) 5 := by
  simp only [foldN, show (5 * n + 4) / 5 = n by omega, show (5 * n + 4) % 5 = 4 by omega, show (5 * n + 3) / 5 = n by omega, show (5 * n + 3) % 5 = 3 by omega, show (5 * n + 2) / 5 = n by omega, show (5 * n + 2) % 5 = 2 by omega, show (5 * n + 1) / 5 = n by omega, show (5 * n + 1) % 5 = 1 by omega, show (5 * n) / 5 = n by omega, show (5 * n) % 5 = 0 by omega]
theorem long_flat {t : Ob} {s : Int32 × Int32} (n : Nat) : foldN (fun q s => longS t (q / 5) (q % 5) s) s (5 * n) = foldN (fun p s => foldN (longS t p) s 5) s n := by
  induction n with
  | zero => rw [Nat.mul_zero, foldN, foldN]
  | succ n ih => rw [Nat.mul_succ, long5, ih]; rw [foldN.eq_2 (fun p s => foldN (longS t p) s 5)]
theorem AEq.long {t o : Ob} (e : AEq t o) : longS t = longS o := by
  funext p h s
  unfold longS
  rw [e.story]
/-! facts that all know -/
theorem common_loop {n i : Nat} {a2 : Int32} {σ : CS} {o : Ob} (R : Rel n σ o) (hi : i < 5) (kc : Int32 → Int32 → Int32 → Option Int32) (km : Int32 → Int32 → Int32 → Option (Int32 × Ob)) : ∀ r p N1 N2 (x y z : Int32), p + r = n → r < N1 → r < N2 → ∃ x' y' z', C_common_L55 kc σ (nI i) a2 N1 x y z (nI p) = kc x' y' z' ∧ M_common_L50 km o (nI i) a2 N2 x y z (nI p) = km x' y' z' := by
  have h7 := R.n7
  intro r
  induction r with
  | zero =>
    intro p N1 N2 x y z hp h1 h2
    obtain ⟨N1, rfl⟩ : ∃ m, N1 = m + 1 := ⟨N1 - 1, by omega⟩
    obtain ⟨N2, rfl⟩ : ∃ m, N2 = m + 1 := ⟨N2 - 1, by omega⟩
    have e : nI n ≤ nI p := by rw [nI_le' (by omega) (by omega)]; omega
    exact ⟨x, y, z, by rw [C_common_L55, R.1.2.1, if_pos e], by rw [M_common_L50, R.2.1, if_pos e]⟩
  | succ r ih =>
    intro p N1 N2 x y z hp h1 h2
    obtain ⟨N1, rfl⟩ : ∃ m, N1 = m + 1 := ⟨N1 - 1, by omega⟩
    obtain ⟨N2, rfl⟩ : ∃ m, N2 = m + 1 := ⟨N2 - 1, by omega⟩
    have e : ¬ nI n ≤ nI p := by rw [nI_le' (by omega) (by omega)]; omega
    have hl : p * 5 + i < 35 := by omega
    rw [C_common_L55, M_common_L50, R.1.2.1, R.2.1, if_neg e, if_neg e]
    simp only [nm_q, ixkn, ixkn', inb_nI hl (show 35 < 2 ^ 31 by decide), ix_nI (show p * 5 + i < 2 ^ 31 by omega), gd_t, nI_1]
    rw [R.2.2.2.1 7 (by decide) (by decide)]
    exact ih (p + 1) N1 N2 _ _ _ (by omega) (by omega) (by omega)
theorem rival_in {n i a : Nat} {σ : CS} {o : Ob} (R : Rel n σ o) (hi : i < 5) (ha : a < n) (kc km : Int32 → Option Int32) : ∀ r p N1 N2 (x : Int32), p + r = n → r < N1 → r < N2 → ∃ x', C_rivals_L31 kc σ (nI i) (nI a) (storyS o a i) N1 x (nI p) = kc x' ∧ M_rivalTwos_L17 km o (nI i) (nI a) N2 x (nI p) = km x' := by
  have h7 := R.n7
  intro r
  induction r with
  | zero =>
    intro p N1 N2 x hp h1 h2
    obtain ⟨N1, rfl⟩ : ∃ m, N1 = m + 1 := ⟨N1 - 1, by omega⟩
    obtain ⟨N2, rfl⟩ : ∃ m, N2 = m + 1 := ⟨N2 - 1, by omega⟩
    have e : nI n ≤ nI p := by rw [nI_le' (by omega) (by omega)]; omega
    exact ⟨x, by rw [C_rivals_L31, R.1.2.1, if_pos e], by rw [M_rivalTwos_L17, R.2.1, if_pos e]⟩
  | succ r ih =>
    intro p N1 N2 x hp h1 h2
    obtain ⟨N1, rfl⟩ : ∃ m, N1 = m + 1 := ⟨N1 - 1, by omega⟩
    obtain ⟨N2, rfl⟩ : ∃ m, N2 = m + 1 := ⟨N2 - 1, by omega⟩
    have e : ¬ nI n ≤ nI p := by rw [nI_le' (by omega) (by omega)]; omega
    rw [C_rivals_L31, M_rivalTwos_L17, R.1.2.1, R.2.1, if_neg e, if_neg e]
    simp only [nm_q, jn_e, T_tale_ok' R.wf (show p < n by omega) hi, M_storyOf_ok' R.wfo ha hi, M_storyOf_ok' R.wfo (show p < n by omega) hi, bd_e, nI_1]
    rw [R.2.2.2.1.story]
    by_cases c : storyS o a i ≤ 0
    · rw [if_pos c, if_pos c, bd_e, bd_e, Int32.add_zero]
      exact ih (p + 1) N1 N2 _ (by omega) (by omega) (by omega)
    · rw [if_neg c, if_neg c]
      by_cases c' : storyS o p i = storyS o a i
      · rw [if_pos c', if_pos c'.symm, bd_e, bd_e]
        exact ih (p + 1) N1 N2 _ (by omega) (by omega) (by omega)
      · rw [if_neg c', if_neg (fun q => c' q.symm), bd_e, bd_e, Int32.add_zero]
        exact ih (p + 1) N1 N2 _ (by omega) (by omega) (by omega)
theorem rival_out {n i : Nat} {σ : CS} {o : Ob} (R : Rel n σ o) (hi : i < 5) : ∀ r p N1 N2 (x : Int32), p + r = n → r < N1 → r < N2 → ∃ x', C_rivals_L4 σ (nI i) N1 x (nI p) = some x' ∧ M_rivalTwos_L4 o (nI i) N2 x (nI p) = some x' := by
  have h7 := R.n7
  intro r
  induction r with
  | zero =>
    intro p N1 N2 x hp h1 h2
    obtain ⟨N1, rfl⟩ : ∃ m, N1 = m + 1 := ⟨N1 - 1, by omega⟩
    obtain ⟨N2, rfl⟩ : ∃ m, N2 = m + 1 := ⟨N2 - 1, by omega⟩
    have e : nI n ≤ nI p := by rw [nI_le' (by omega) (by omega)]; omega
    exact ⟨x, by rw [C_rivals_L4, R.1.2.1, if_pos e], by rw [M_rivalTwos_L4, R.2.1, if_pos e]⟩
  | succ r ih =>
    intro p N1 N2 x hp h1 h2
    obtain ⟨N1, rfl⟩ : ∃ m, N1 = m + 1 := ⟨N1 - 1, by omega⟩
    obtain ⟨N2, rfl⟩ : ∃ m, N2 = m + 1 := ⟨N2 - 1, by omega⟩
    have e : ¬ nI n ≤ nI p := by rw [nI_le' (by omega) (by omega)]; omega
    rw [C_rivals_L4, M_rivalTwos_L4, R.1.2.1, R.2.1, if_neg e, if_neg e]
    simp only [nm_q, T_tale_ok' R.wf (show p < n by omega) hi, bd_e, nI_1]
    rw [R.2.2.2.1.story]
    obtain ⟨x', e1, e2⟩ := rival_in R hi (show p < n by omega) (fun x2_12 => C_rivals_L4 σ (nI i) N1 x2_12 (nI (p + 1))) (fun x2_15 => M_rivalTwos_L4 o (nI i) N2 x2_15 (nI (p + 1))) (n - (p + 1)) (p + 1) FU FU x (by omega) (FU_gt (by omega)) (FU_gt (by omega))
    rw [e1, e2]
    exact ih (p + 1) N1 N2 _ (by omega) (by omega) (by omega)
theorem r_common {n : Nat} {σ : CS} {o : Ob} (h : Rel n σ o) (p q : Int32) : ok1 (C_common σ p q) σ (M_common o p q) := by
  have h7 := h.n7
  have H := h.t0
  unfold C_common M_common
  simp only [nm_q]
  generalize pS o 15 0 = u at H
  rw [C_isThing_ok', M_isThing_ok', bd_e, bd_e]
  cases hp : rng p 0 4 with
  | false => exact ⟨-1, u, rfl, rfl, n, H⟩
  | true =>
    obtain ⟨k, hk, rfl⟩ := rng_nI (hi := 4) hp (by decide)
    rw [b1, b1, C_within_ok', M_inI, bd_e, bd_e, show (3 : Int32).toInt = 3 from rfl, show (0 : Int64).toInt = 0 from rfl, show (3 : Int64).toInt = 3 from rfl]
    cases hw : rng q 0 3 with
    | false => exact ⟨-1, u, rfl, rfl, n, H⟩
    | true =>
      obtain ⟨j, hj, rfl⟩ := rng_nI (hi := 3) hw (by decide)
      have i5 : inb (nI k) 5 = true := inb_nI (by omega) (by decide)
      simp only [b1, it_sm, bd_e, i5, gd_t, ix_nI (show k < 2 ^ 31 by omega), M_rivalTwos, C_rivals]
      rw [H.1.2.1, H.2.1, H.2.2.2.1 1 (by decide) (by decide)]
      obtain ⟨x', y', z', c1, c2⟩ := common_loop (a2 := nI j) H (show k < 5 by omega) (fun x3 x4 x5 => if nI j = (0 : Int32) then some x3 else if nI j = (1 : Int32) then some (x4 &&& (x5 ^^^ (-1 : Int32))) else some (oA u 1 k &&& (x4 ^^^ (-1 : Int32)))) (fun x3 x4 x5 => if nI j = (0 : Int32) then some (x3, u) else if nI j = (1 : Int32) then some (x4 &&& (x5 ^^^ (-1 : Int32)), u) else if nI j = (2 : Int32) then some (oA u 1 k &&& (x4 ^^^ (-1 : Int32)), u) else bd (M_rivalTwos_L4 u (nI k) FU 0 0) fun r21 => some (r21, u)) n 0 FU FU (if nI n = 0 then 0 else 4095) 0 0 (by omega) (FU_gt (by omega)) (FU_gt (by omega))
      rcases (show j = 0 ∨ j = 1 ∨ j = 2 ∨ j = 3 by omega) with rfl | rfl | rfl | rfl
      · rw [nI_0] at c1 c2
        simp only [if_pos (show nI 0 = (0 : Int32) from rfl), if_neg (show ¬ nI 0 = (1 : Int32) by decide), if_neg (show ¬ nI 0 = (2 : Int32) by decide), if_neg (show ¬ nI 0 = (3 : Int32) by decide)] at c1 c2 ⊢
        exact ⟨_, u, c1, c2, n, H⟩
      · rw [nI_0] at c1 c2
        simp only [if_neg (show ¬ nI 1 = (0 : Int32) by decide), if_pos (show nI 1 = (1 : Int32) from rfl), if_neg (show ¬ nI 1 = (2 : Int32) by decide), if_neg (show ¬ nI 1 = (3 : Int32) by decide)] at c1 c2 ⊢
        exact ⟨_, u, c1, c2, n, H⟩
      · rw [nI_0] at c1 c2
        simp only [if_neg (show ¬ nI 2 = (0 : Int32) by decide), if_neg (show ¬ nI 2 = (1 : Int32) by decide), if_pos (show nI 2 = (2 : Int32) from rfl), if_neg (show ¬ nI 2 = (3 : Int32) by decide)] at c1 c2 ⊢
        exact ⟨_, u, c1, c2, n, H⟩
      · obtain ⟨x2, e1, e2⟩ := rival_out H (show k < 5 by omega) n 0 FU FU 0 (by omega) (FU_gt (by omega)) (FU_gt (by omega))
        rw [nI_0] at e1 e2 c2
        simp only [e2, bd_e, if_neg (show ¬ nI 3 = (0 : Int32) by decide), if_neg (show ¬ nI 3 = (1 : Int32) by decide), if_neg (show ¬ nI 3 = (2 : Int32) by decide)] at c2
        refine ⟨x2, u, ?_, ?_, n, H⟩
        · rw [if_pos (show nI 3 = (3 : Int32) from rfl), e1, bd_e]
        · simp only [e2, bd_e, if_neg (show ¬ nI 3 = (0 : Int32) by decide), if_neg (show ¬ nI 3 = (1 : Int32) by decide), if_neg (show ¬ nI 3 = (2 : Int32) by decide)]
          exact c2

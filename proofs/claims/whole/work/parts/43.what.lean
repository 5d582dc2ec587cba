/-! what kind one is -/
theorem settle_6 {n h : Nat} {t : Ob} : oA (settleS n h t) 6 = oA t 6 := by
  unfold settleS; split
  · exact setO_ne (by decide)
  · rfl
theorem people_6 {n : Nat} {d : Int32} {t : Ob} (w : wfA n t) : oA (peopleS n d t) 6 = oA t 6 := by
  have h7 := w.n7
  exact (foldN_inv (P := fun _ s => wfA n s ∧ oA s 6 = oA t 6) ⟨w, rfl⟩ n (fun i s hi q => by
    refine ⟨person_wf q.1 hi, ?_⟩
    have z1 := (studyS_ne (d := d) q.1 hi (show (6 : Nat) ≠ 7 by decide)).trans q.2
    unfold personS forgetS; split
    · exact z1
    · exact foldN_inv (P := fun _ s => oA s 6 = oA t 6) z1 5 (fun j s hj q => (setK_ne (by decide)).trans q))).2
theorem day_6 {n : Nat} {d : Int32} {t : Ob} (w : wfA n t) : oA (dayS n d t) 6 = oA t 6 := (foldN_inv (P := fun _ s => oA s 6 = oA (peopleS n d t) 6) rfl 5 (fun i s hi h => settle_6.trans h)).trans (people_6 w)
theorem iter_6 {n : Nat} {d : Int32} {t : Ob} (w : wfA n t) : ∀ k, oA (iterD n d t k) 6 = oA t 6
  | 0 => rfl
  | k + 1 => (day_6 (iter_wf w k)).trans (iter_6 w k)
theorem wfA.t4 {n i : Nat} {t : Ob} {v : Int32} (h : wfA n t) (hi : i < 7) (hv : kd8 v) : wfA n (Jvm.Pilot.@@N@@.pA t 4 (nI i) v) := by
  obtain ⟨h1, h2, h3, h4, h5, h6, h7, h8⟩ := h
  refine ⟨h1, ?_, ?_, ?_, ?_, ?_, ?_, ?_⟩
  · intro j hj
    rw [pA_at (by omega)]
    split
    · exact hv
    · exact h2 j hj
  · rw [pA_ne (by decide)]; exact h3
  · rw [pA_ne (by decide)]; exact h4
  · rw [pA_ne (by decide)]; exact h5
  · rw [pA_ne (by decide)]; exact h6
  · rw [pA_ne (by decide)]; exact h7
  · rw [pA_ne (by decide)]; exact h8
theorem wfA.t5 {n i : Nat} {t : Ob} {v : Int32} (h : wfA n t) (hi : i < 7) (hv : ∃ k, k < 10 ∧ v = nI k) : wfA n (Jvm.Pilot.@@N@@.pA t 5 (nI i) v) := by
  obtain ⟨h1, h2, h3, h4, h5, h6, h7, h8⟩ := h
  refine ⟨h1, ?_, ?_, ?_, ?_, ?_, ?_, ?_⟩
  · rw [pA_ne (by decide)]; exact h2
  · intro j hj
    rw [pA_at (by omega)]
    split
    · exact hv
    · exact h3 j hj
  · rw [pA_ne (by decide)]; exact h4
  · rw [pA_ne (by decide)]; exact h5
  · rw [pA_ne (by decide)]; exact h6
  · rw [pA_ne (by decide)]; exact h7
  · rw [pA_ne (by decide)]; exact h8
/-- the story of one for what he cares for -/
def carS (t : Ob) (k : Nat) : Int32 := if oA t 6 k = nI 9 then 0 else storyS t k (caresN t k)
theorem car_C {n k : Nat} {t : Ob} {c : Int32} {α : Type} (w : wfA n t) (hk : k < n) (hc : c = oA t 6 k) (f : Int32 → Option α) : (bd (C_isThing c) fun (r4 : Int32) =>
      bd (
        if r4 = (0 : Int32) then
          some (0 : Int32)
        else
          bd (T_tale t (nI k) c) fun (r6 : Int32) =>
          some r6) f) = f (carS t k) := by
  subst hc
  unfold carS
  rcases w.care hk with ⟨c, hc, e⟩ | e
  · have n9 : ¬ nI c = nI 9 := by rw [nI_eq' (by omega) (by omega)]; omega
    rw [caresN_of hc e, e, isThing_nI hc, bd_e, if_neg (by decide), T_tale_ok' w hk hc, bd_e, bd_e, if_neg n9]
  · rw [e, isThing_9, bd_e, if_pos rfl, bd_e, if_pos rfl]
theorem car_M {n k : Nat} {u : Ob} {α : Type} (w : wfA n u) (hk : k < n) (f : Int32 → Option α) : (bd (
          if (ix (oA u 6) (nI k)) = (9 : Int32) then
            some (0 : Int32)
          else
            gd (inb (nI k) 7) <|
            bd (M_storyOf u (nI k) (ix (oA u 6) (nI k))) fun (r7 : Int32) =>
            some r7) f) = f (carS u k) := by
  have h7 := w.n7
  have x : ix (oA u 6) (nI k) = oA u 6 k := ix_nI (by omega)
  rw [x]
  unfold carS
  rcases w.care hk with ⟨c, hc, e⟩ | e
  · have n9 : ¬ nI c = nI 9 := by rw [nI_eq' (by omega) (by omega)]; omega
    have n9' : ¬ nI c = (9 : Int32) := n9
    rw [caresN_of hc e, e, if_neg n9', inb_nI (show k < 7 by omega) (by decide), gd_t, M_storyOf_ok' w hk hc, bd_e, bd_e, if_neg n9]
  · have e9 : oA u 6 k = (9 : Int32) := e
    rw [if_pos e9, bd_e, if_pos e]
theorem AEq.car {t o : Ob} (e : AEq t o) {k : Nat} : carS t k = carS o k := by
  unfold carS caresN
  rw [e 6 (by decide) (by decide), e.story]
theorem mt_row {n d k m : Nat} {dd : Int32} {t0 : Ob} {σ : CS} {o : Ob} (R : Rel n σ o) (hd : d < 8) (hk : k < n) (hm : m ≤ 100) (em : oS (σ (11 + d)) 4 = nI m) (w : wfA n t0) (z : zb t0) (kM : Int32 → Ob → Option (Int32 × Ob)) : ∀ r j N1 N2 (τ : CS) (u : Ob), j + r = m → r < N1 → r + 1 < N2 → visC σ τ → isDay n dd t0 j (τ 3) → TH o u → isDayM n dd t0 j u →
    ∃ b τ' u', C_mindTells_L13 (11 + d) (nI k) (oA t0 6 k) N1 τ (nI j) = some (bI b, τ') ∧ M_isRow_L5 kM (nI d) (nI k) N2 u 1 (nI j) = kM (bI b) u' ∧ visC σ τ' ∧ TH o u' := by
  have h7 := R.n7
  obtain ⟨a1, a2, a3, a4, a5, a6, -, a8⟩ := R.2.2.2.2.2.2.2.2 d hd
  have i8 : inb (nI d) 8 = true := inb_nI hd (by decide)
  have i7 : inb (nI k) 7 = true := inb_nI (by omega) (by decide)
  have hl : d < 2 ^ 31 := by omega
  intro r
  induction r with
  | zero =>
    intro j N1 N2 τ u hj h1 h2 hv hc ht hu
    obtain ⟨N1, rfl⟩ : ∃ m, N1 = m + 1 := ⟨N1 - 1, by omega⟩
    obtain ⟨N2, rfl⟩ : ∃ m, N2 = m + 1 := ⟨N2 - 1, by omega⟩
    have e : nI m ≤ nI j := by rw [nI_le' (by omega) (by omega)]; omega
    refine ⟨true, τ, u, ?_, ?_, hv, ht⟩
    · rw [C_mindTells_L13, hv.2.2.2.2 d hd, em, if_pos e]; rfl
    · rw [M_isRow_L5, i8, gd_t, ix_nI hl, ht.2.2.1 12 (by decide) (by decide), ← a6, em, if_pos e]; rfl
  | succ r ih =>
    intro j N1 N2 τ u hj h1 h2 hv hc ht hu
    obtain ⟨N1, rfl⟩ : ∃ m, N1 = m + 1 := ⟨N1 - 1, by omega⟩
    obtain ⟨N2, rfl⟩ : ∃ m, N2 = m + 1 + 1 := ⟨N2 - 2, by omega⟩
    have e : ¬ nI m ≤ nI j := by rw [nI_le' (by omega) (by omega)]; omega
    obtain ⟨v, ev, hmv, rv⟩ := M_dayOn_day w hu
    have tv : TH o v := ht.rest rv (hmv.zb w z)
    obtain ⟨f, t, et, ht', -⟩ := T_pass_day w hc
    have hv' : visC σ (va_up τ 3 t) := hv.tr (visC_mind (by decide) (ht'.zb w z))
    have hj100 : j < 100 := by omega
    have hs1 : oS (σ (11 + d)) 3 = oA u 11 d := by rw [ht.2.2.1 11 (by decide) (by decide)]; exact a4
    have hs2 : (oA (σ (11 + d)) 1 j).toInt64 = oL u 13 (100 * d + j) := by rw [ht.2.2.2.2.1]; exact a8 j hj100
    have ea : AEq (τ 3) u := hc.2.2.tr hu.2.2.sm
    have wτ : wfA n (τ 3) := hc.2.2.sm.wf (iter_wf w j)
    have e6 : oA t0 6 k = oA (τ 3) 6 k := by rw [hc.2.2 6 (by decide) (by decide), iter_6 w j]
    rw [C_mindTells_L13, M_isRow_L5, i8, gd_t, ix_nI hl, ht.2.2.1 12 (by decide) (by decide), ← a6, hv.2.2.2.2 d hd, em, if_neg e, if_neg e, if_neg (show ¬ (1 : Int32) = 0 by decide), gd_b i7, car_C wτ hk e6, car_M (ea.wf wτ) hk, agrees_ok _ hj100, bd_e, skipped_ok hd hj100 hs1 hs2, bd_e, jn_e, ix100, inb_nI (show 100 * d + j < 800 by omega) (by decide), gd_t, ixL_nI (by omega), ← hs2, ev, ea.car]
    simp only [lc_eq, i64_eq]
    have stop : (bd (some (0 : Int32)) fun s13 => bd (some v) fun o14 => nm (nI j + 1) fun v15 => M_isRow_L5 kM (nI d) (nI k) (N2 + 1) o14 s13 v15) = kM 0 v := by
      rw [bd_e, bd_e, nm_q, M_isRow_L5, i8, gd_t, if_pos rfl, ite_self]
    have go : ∃ b τ' u', (bd2 (T_pass (τ 3)) fun r10 t11 => nm (va_up τ 3 t11) fun σ12 => nm (nI j + 1) fun v13 => C_mindTells_L13 (11 + d) (nI k) (oA t0 6 k) N1 σ12 v13) = some (bI b, τ') ∧ (bd (some (1 : Int32)) fun s13 => bd (some v) fun o14 => nm (nI j + 1) fun v15 => M_isRow_L5 kM (nI d) (nI k) (N2 + 1) o14 s13 v15) = kM (bI b) u' ∧ visC σ τ' ∧ TH o u' := by
      rw [et, bd2_e, nm_q, nm_q, bd_e, bd_e, nm_q, nI_1]
      exact ih (j + 1) N1 (N2 + 1) _ v (by omega) (by omega) (by omega) hv' (by rw [vu_at]; exact ht') tv hmv
    by_cases c2 : oA (σ (11 + d)) 1 j = lstS (oS (σ (11 + d)) 3)
    · rw [decide_eq_true (Or.inr c2), decide_eq_true c2, b1, b1]
      exact go
    · by_cases c1 : oA (σ (11 + d)) 1 j = carS u k
      · rw [decide_eq_true (Or.inl c1), decide_eq_false c2, b1, b0, if_pos c1]
        exact go
      · rw [decide_eq_false (show ¬ (oA (σ (11 + d)) 1 j = carS u k ∨ oA (σ (11 + d)) 1 j = lstS (oS (σ (11 + d)) 3)) by intro h; rcases h with h | h; exact c1 h; exact c2 h), decide_eq_false c2, b0, b0, if_neg c1]
        exact ⟨false, τ, v, rfl, stop, hv, tv⟩
theorem mt_both {n d k m : Nat} {dd : Int32} {t0 : Ob} {σ τ : CS} {o u : Ob} (R : Rel n σ o) (hd : d < 8) (hk : k < n) (hm : m ≤ 100) (em : oS (σ (11 + d)) 4 = nI m) (w : wfA n t0) (z : zb t0) (hv : visC σ τ) (hc : isDay n dd t0 0 (τ 3)) (ht : TH o u) (hu : isDayM n dd t0 0 u) :
    ∃ b τ' u', C_mindTells τ (11 + d) (nI k) = some (bI b, τ') ∧ M_isRow u (nI d) (nI k) = some (bI b, u') ∧ visC σ τ' ∧ TH o u' ∧ visM o u' ∧ AEq u' o := by
  have h7 := R.n7
  obtain ⟨b, τ', u', e1, e2, e3, e4⟩ := mt_row R hd hk hm em w z (fun (x3_19 : Int32) (o20 : Ob) =>
      bd (M_again o20) fun (o21 : Ob) =>
      gd (isZ x3_19) <|
      some (x3_19, o21)) m 0 FU FU τ u (by omega) (FU_gt (by omega)) (FU_gt (by omega)) hv hc ht hu
  obtain ⟨u2, g1, g2, g3, g4⟩ := M_again_ok' R.zo e4
  refine ⟨b, τ', u2, ?_, ?_, e3, g2, g3, g4⟩
  · unfold C_mindTells
    have e6 : ix (oA (τ 3) 6) (nI k) = oA t0 6 k := by rw [ix_nI (by omega), hc.2.2 6 (by decide) (by decide)]; rfl
    rw [inb_nI (show k < 7 by omega) (by decide), gd_p, e6, nm_p, ← nI_0]
    exact e1
  · unfold M_isRow
    rw [← nI_0]
    refine e2.trans ?_
    show (bd (M_again u') fun (o21 : Ob) => gd (isZ (bI b)) <| some (bI b, o21)) = _
    rw [g1, bd_e, bI_isZ]; rfl
theorem what_loop {n d k m : Nat} {σ : CS} {o : Ob} {a3 : Int32} {e q : Nat} (R : Rel n σ o) (hd : d < 8) (hk : k < n) (hm : m ≤ 100) (em : oS (σ (11 + d)) 4 = nI m) (hz : (a3 = 0 ∧ q = 4 ∧ e = 8) ∨ (a3 = 1 ∧ q = 5 ∧ e = 10)) :
    ∀ r i N1 N2 (τ : CS) (u : Ob) (x : Int32), i + r = e → r < N1 → r < N2 → visC σ τ → TH o u → AEq u o → visM o u → ok2 (C_whatIs_L62 (nI d) (nI k) a3 (nI e) N1 τ x (nI i)) (M_whatIs_L52 (nI d) (nI k) a3 N2 u x (nI i)) := by
  have h7 := R.n7
  have i8 : inb (nI d) 8 = true := inb_nI hd (by decide)
  have i7 : inb (nI k) 7 = true := inb_nI (by omega) (by decide)
  have hl : d < 2 ^ 31 := by omega
  have he : e ≤ 10 := by omega
  have se : (if a3 = (0 : Int32) then some (8 : Int32) else some (10 : Int32)) = some (nI e) := by
    rcases hz with ⟨z1, z2, z3⟩ | ⟨z1, z2, z3⟩
    · rw [z1, z3, if_pos rfl]; rfl
    · rw [z1, z3, if_neg (by decide)]; rfl
  intro r
  induction r with
  | zero =>
    intro i N1 N2 τ u x hi h1 h2 hv ht ha hm
    obtain ⟨N1, rfl⟩ : ∃ m, N1 = m + 1 := ⟨N1 - 1, by omega⟩
    obtain ⟨N2, rfl⟩ : ∃ m, N2 = m + 1 := ⟨N2 - 1, by omega⟩
    have c : nI e ≤ nI i := by rw [nI_le' (by omega) (by omega)]; omega
    rw [C_whatIs_L62, M_whatIs_L52, se, bd_e, if_pos c, if_pos c]
    exact ⟨x, τ, u, rfl, rfl, n, (R.c hv).m hm⟩
  | succ r ih =>
    intro i N1 N2 τ u x hi h1 h2 hv ht ha hmv
    obtain ⟨N1, rfl⟩ : ∃ m, N1 = m + 1 := ⟨N1 - 1, by omega⟩
    obtain ⟨N2, rfl⟩ : ∃ m, N2 = m + 1 := ⟨N2 - 1, by omega⟩
    have c : ¬ nI e ≤ nI i := by rw [nI_le' (by omega) (by omega)]; omega
    obtain ⟨t, t1, t2, t3⟩ := mind_take R (a := 3) (by decide) hv
    have hq : 1 ≤ q ∧ q ≤ 7 := by omega
    have hl7 : tlen q = 7 := by rcases hz with ⟨-, rfl, -⟩ | ⟨-, rfl, -⟩ <;> rfl
    have w' : wfA n (pA (σ 1) q (nI k) (nI i)) := by
      rcases hz with ⟨-, rfl, rfl⟩ | ⟨-, rfl, rfl⟩
      · exact R.wf.t4 (by omega) ⟨i, by omega, rfl⟩
      · exact R.wf.t5 (by omega) ⟨i, by omega, rfl⟩
    have z' : zb (pA (σ 1) q (nI k) (nI i)) := zb_pA R.1.2.2.2.2 (by omega) (Or.inl (by rw [hl7]; omega))
    have aS : AEq u (σ 1) := ha.tr R.2.2.2.1.sm
    have dC : isDay n (oS o 8) (pA (σ 1) q (nI k) (nI i)) 0 ((va_up τ 3 (pA t q (nI k) (nI i))) 3) := by rw [vu_at]; exact ⟨t2.1, t2.2.1, t2.2.2.uA⟩
    have dM : isDayM n (oS o 8) (pA (σ 1) q (nI k) (nI i)) 0 (pA u q (nI k) (nI i)) := ⟨hmv.1.trans R.2.1, by show oS u 8 = _; rw [hmv.2.1, nI_0, Int32.add_zero], aS.uA⟩
    have th : TH o (pA u q (nI k) (nI i)) := ht.pA (by omega) (Or.inl ⟨hq.1, hq.2, by rw [hl7]; omega⟩)
    have hv' : visC σ (va_up τ 3 (pA t q (nI k) (nI i))) := hv.tr (visC_mind (by decide) (zb_pA t3 (by omega) (Or.inl (by rw [hl7]; omega))))
    obtain ⟨b, τ', u', g1, g2, g3, g4, g5, g6⟩ := mt_both R hd hk hm em w' z' hv' dC th dM
    rw [C_whatIs_L62, M_whatIs_L52, se, bd_e, if_neg c, if_neg c, t1]
    rcases hz with ⟨z1, z2, z3⟩ | ⟨z1, z2, z3⟩
    · subst z2
      simp only [if_pos z1, if_neg (show ¬ a3 = 1 by rw [z1]; decide), bd_e, nm_q, gd_t, i7, i8, nI_clamp hl, vu_at, vu_vu, ix_nI (show k < 2 ^ 31 by omega), pA_id (i := k) (show k < 2 ^ 31 by omega), g1, g2, bd2_e]
      cases b with
      | false =>
        simp only [b0, bd_e, nm_q, Int32.or_zero, nI_1]
        exact ih (i + 1) N1 N2 τ' u' x (by omega) (by omega) (by omega) g3 g4 g6 g5
      | true =>
        simp only [b1, bd_e, nm_q, nI_1]
        exact ih (i + 1) N1 N2 τ' u' _ (by omega) (by omega) (by omega) g3 g4 g6 g5
    · subst z2
      have z0 : ¬ a3 = 0 := by rw [z1]; decide
      simp only [if_neg z0, if_pos z1, bd_e, nm_q, gd_t, i7, i8, nI_clamp hl, vu_at, vu_vu, ix_nI (show k < 2 ^ 31 by omega), pA_id (i := k) (show k < 2 ^ 31 by omega), g1, g2, bd2_e]
      cases b with
      | false =>
        simp only [b0, bd_e, nm_q, Int32.or_zero, nI_1]
        exact ih (i + 1) N1 N2 τ' u' x (by omega) (by omega) (by omega) g3 g4 g6 g5
      | true =>
        simp only [b1, bd_e, nm_q, nI_1]
        exact ih (i + 1) N1 N2 τ' u' _ (by omega) (by omega) (by omega) g3 g4 g6 g5
theorem r_whatIs {n : Nat} {σ : CS} {o : Ob} (h : Rel n σ o) (p q w : Int32) : ok2 (C_whatIs σ p q w) (M_whatIs o p q w) := by
  have h7 := h.n7
  have H := h.t0
  unfold C_whatIs M_whatIs
  rw [nm_q]
  generalize pS o 15 0 = u at H
  rw [C_isShelf_ok', bd_e, T_hasOne_ok' h.1.2.1 h7, M_isOne_ok' H.2.1 h7, bd_e, bd_e, jn_e, C_within_ok', M_inI, bd_e, bd_e, show (1 : Int32).toInt = 1 from rfl, show (0 : Int64).toInt = 0 from rfl, show (1 : Int64).toInt = 1 from rfl]
  have no : ok2 (some ((-1 : Int32), σ)) (bd (some (-1 : Int32)) fun (s7 : Int32) => if (0 : Int32) ≤ s7 then bd (M_think u) fun (o9 : Ob) => M_whatIs_L52 p q w FU o9 (0 : Int32) (0 : Int32) else some (s7, u)) := by
    rw [bd_e, if_neg (by decide)]; exact ⟨-1, σ, u, rfl, rfl, n, H⟩
  cases hp : rng p 0 7 with
  | false =>
    rw [b0, wr_no hp, bd_e, ite_self, ite_self]
    exact no
  | true =>
    rw [b1]
    cases hq : rng q 0 ((n : Int) - 1) with
    | false => rw [b0, b0]; exact no
    | true =>
      obtain ⟨k, hk, rfl⟩ := rng_n hq h7
      rw [b1, b1]
      cases hw : rng w 0 1 with
      | false => rw [b0, b0]; exact no
      | true =>
        obtain ⟨y, hy, rfl⟩ := rng_nI (hi := 1) hw (by decide)
        rw [b1, b1]
        rcases hold2 H p with ⟨r, e1, e2, e3, e4⟩ | ⟨e1, e2, d, hd, rfl, e3⟩
        · rw [e1, e2, bd_e, bd_e, bd_e, if_neg e3, if_neg e4]
          exact ⟨r, σ, u, rfl, rfl, n, H⟩
        · obtain ⟨-, -, -, -, -, -, ⟨m, hm, em⟩, -⟩ := H.2.2.2.2.2.2.2.2 d hd
          obtain ⟨s, f1, t1, v1, w1⟩ := M_think_ok' H.zo
          rw [e1, e2, bd_e, bd_e, bd_e, if_pos (show (0 : Int32) = 0 from rfl), if_pos (show (0 : Int32) ≤ 0 by decide), f1, bd_e]
          rcases (show y = 0 ∨ y = 1 by omega) with rfl | rfl
          · rw [if_pos (show nI 0 = (0 : Int32) from rfl), bd_e]
            exact what_loop (a3 := nI 0) (e := 8) (q := 4) H hd hk hm em (Or.inl ⟨rfl, rfl, rfl⟩) 8 0 FU FU σ s 0 rfl (FU_gt (by decide)) (FU_gt (by decide)) visC.rf t1 w1 v1
          · rw [if_neg (show ¬ nI 1 = (0 : Int32) by decide), bd_e]
            exact what_loop (a3 := nI 1) (e := 10) (q := 5) H hd hk hm em (Or.inr ⟨rfl, rfl, rfl⟩) 10 0 FU FU σ s 0 rfl (FU_gt (by decide)) (FU_gt (by decide)) visC.rf t1 w1 v1

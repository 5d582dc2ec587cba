/-! a place of the town becomes other, on both sides -/
theorem tok_pA {n j i : Nat} {t : Ob} {v : Int32} (h : tok n t) (hj : 1 ≤ j ∧ j ≤ 7) (hi : i < tlen j) (hw : wfA n (pA t j (nI i) v)) (h7 : j = 7 → i < n * 5) : tok n (pA t j (nI i) v) := by
  have hl : i < 2 ^ 31 := by
    rcases (show j = 1 ∨ j = 2 ∨ j = 3 ∨ j = 4 ∨ j = 5 ∨ j = 6 ∨ j = 7 by omega) with rfl | rfl | rfl | rfl | rfl | rfl | rfl <;> (simp [tlen] at hi; omega)
  obtain ⟨h1, h2, h3, h4, h5⟩ := h
  refine ⟨hw, h2, h3, fun q hq => ?_, fun k a b q hq => ?_⟩
  · rw [oA_pAq]
    by_cases c : (7 : Nat) = j
    · rw [if_pos c, upd_nI hl, if_neg (by have := h7 c.symm; omega), ← c]; exact h4 q hq
    · rw [if_neg c]; exact h4 q hq
  · rw [oA_pAq]
    by_cases c : k = j
    · subst c
      rw [if_pos rfl, upd_nI hl, if_neg (by omega)]; exact h5 k a b q hq
    · rw [if_neg c]; exact h5 k a b q hq
theorem Rel.pA {n j i : Nat} {σ : CS} {o : Ob} {v : Int32} (h : Rel n σ o) (hj : 1 ≤ j ∧ j ≤ 7) (hi : i < tlen j) (hw : wfA n (pA (σ 1) j (nI i) v)) (h7 : j = 7 → i < n * 5) : Rel n (va_up σ 1 (Jvm.Pilot.@@N@@.pA (σ 1) j (nI i) v)) (Jvm.Pilot.@@N@@.pA o j (nI i) v) := by
  obtain ⟨h1, h2, h3, h4, h5, h6, h8, h9, h10⟩ := h
  refine ⟨by rw [vu_at]; exact tok_pA h1 hj hi hw h7, h2, by rw [vu_at]; exact h3, by rw [vu_at]; exact h4.uA, fun a x y => by rw [vu_ne (by omega)]; exact h5 a x y, by rw [vu_ne (by decide)]; exact h6, h8, fun e => ?_, fun d hd => ?_⟩
  · rw [vu_ne (by decide)]
    refine ⟨(h9 e).1, fun q hq => ?_⟩
    rw [oA_pAq, if_neg (by omega)]; exact (h9 e).2 q hq
  · rw [vu_ne (by omega)]
    have hs := h10 d hd
    unfold shR at hs ⊢
    rw [oA_pAq, oA_pAq, oA_pAq, oA_pAq, oA_pAq, if_neg (by omega), if_neg (by omega), if_neg (by omega), if_neg (by omega), if_neg (by omega)]
    exact hs
theorem pA_ne {t : Ob} {k j : Nat} {i v : Int32} (h : j ≠ k) : oA (pA t k i v) j = oA t j := va_up_ne _ _ h
theorem pA_at {t : Ob} {k i j : Nat} {v : Int32} (hi : i < 2 ^ 31) : oA (pA t k (nI i) v) k j = if j = i then v else oA t k j := by
  rw [oA_pAq, if_pos rfl, upd_nI hi]
theorem wfA.t1 {n i : Nat} {t : Ob} {v : Int32} (h : wfA n t) (hi : i < 5) (hv : B12 v) : wfA n (Jvm.Pilot.@@N@@.pA t 1 (nI i) v) := by
  obtain ⟨h1, h2, h3, h4, h5, h6, h7, h8⟩ := h
  refine ⟨h1, ?_, ?_, ?_, ?_, ?_, ?_, ?_⟩
  · rw [pA_ne (by decide)]; exact h2
  · rw [pA_ne (by decide)]; exact h3
  · rw [pA_ne (by decide)]; exact h4
  · rw [pA_ne (by decide)]; exact h5
  · intro j hj
    rw [pA_at (by omega)]
    split
    · exact hv
    · exact h6 j hj
  · rw [pA_ne (by decide)]; exact h7
  · rw [pA_ne (by decide)]; exact h8
theorem wfA.t2 {n i : Nat} {t : Ob} {v : Int32} (h : wfA n t) (hi : i < 5) (hv : ∃ k, k < 10 ∧ v = nI k) : wfA n (Jvm.Pilot.@@N@@.pA t 2 (nI i) v) := by
  obtain ⟨h1, h2, h3, h4, h5, h6, h7, h8⟩ := h
  refine ⟨h1, ?_, ?_, ?_, ?_, ?_, ?_, ?_⟩
  · rw [pA_ne (by decide)]; exact h2
  · rw [pA_ne (by decide)]; exact h3
  · rw [pA_ne (by decide)]; exact h4
  · rw [pA_ne (by decide)]; exact h5
  · rw [pA_ne (by decide)]; exact h6
  · rw [pA_ne (by decide)]; exact h7
  · intro j hj
    rw [pA_at (by omega)]
    split
    · exact hv
    · exact h8 j hj
theorem wfA.t6 {n i : Nat} {t : Ob} {v : Int32} (h : wfA n t) (hi : i < 7) (hv : (∃ c, c < 5 ∧ v = nI c) ∨ v = nI 9) : wfA n (Jvm.Pilot.@@N@@.pA t 6 (nI i) v) := by
  obtain ⟨h1, h2, h3, h4, h5, h6, h7, h8⟩ := h
  refine ⟨h1, ?_, ?_, ?_, ?_, ?_, ?_, ?_⟩
  · rw [pA_ne (by decide)]; exact h2
  · rw [pA_ne (by decide)]; exact h3
  · intro j hj
    rw [pA_at (by omega)]
    split
    · exact hv
    · exact h4 j hj
  · rw [pA_ne (by decide)]; exact h5
  · rw [pA_ne (by decide)]; exact h6
  · rw [pA_ne (by decide)]; exact h7
  · rw [pA_ne (by decide)]; exact h8
theorem B12_rng {x : Int32} (h : rng x 0 4095 = true) : B12 x := by
  obtain ⟨k, hk, e⟩ := rng_nI (hi := 4095) h (by decide)
  exact ⟨k, by omega, e⟩
theorem r_past {n : Nat} {σ : CS} {o : Ob} (h : Rel n σ o) (p w : Int32) : ok2 (C_past σ p w) (M_past o p w) := by
  have H := h.t0
  unfold C_past M_past
  simp only [nm_q]
  generalize pS o 15 0 = u at H
  rw [C_isThing_ok', M_isThing_ok', bd_e, bd_e]
  cases hp : rng p 0 4 with
  | false => exact ⟨-1, σ, u, rfl, rfl, n, H⟩
  | true =>
    obtain ⟨k, hk, rfl⟩ := rng_nI (hi := 4) hp (by decide)
    have i5 : inb (nI k) 5 = true := inb_nI (by omega) (by decide)
    have x5 : ∀ f, ix f (nI k) = f k := fun f => ix_nI (by omega)
    rw [b1, b1, C_within_ok', M_inI, bd_e, bd_e, show (4095 : Int32).toInt = 4095 from rfl, show (0 : Int64).toInt = 0 from rfl, show (4095 : Int64).toInt = 4095 from rfl]
    cases hw : rng w 0 4095 with
    | false => exact ⟨-1, σ, u, rfl, rfl, n, H⟩
    | true =>
      simp only [b1, i5, x5, gd_t, nm_q]
      exact ⟨oA (σ 1) 1 k, _, _, rfl, by rw [H.2.2.2.1 1 (by decide) (by decide)], n, H.pA (by decide) (show k < 5 by omega) (H.wf.t1 (by omega) (B12_rng hw)) (fun e => absurd e (by decide))⟩
theorem care_rng {x : Int32} (h : (rng x 0 4 || x == 9) = true) : (∃ c, c < 5 ∧ x = nI c) ∨ x = nI 9 := by
  rcases Bool.or_eq_true _ _ ▸ h with h | h
  · obtain ⟨k, hk, e⟩ := rng_nI (hi := 4) h (by decide)
    exact Or.inl ⟨k, by omega, e⟩
  · exact Or.inr (eq_of_beq h)
theorem r_cares {n : Nat} {σ : CS} {o : Ob} (h : Rel n σ o) (p w : Int32) : ok2 (C_cares σ p w) (M_cares o p w) := by
  have h7 := h.n7
  have H := h.t0
  unfold C_cares M_cares T_turnTo
  simp only [nm_q]
  generalize pS o 15 0 = u at H
  rw [T_hasOne_ok' h.1.2.1 h7, M_isOne_ok' H.2.1 h7, bd_e, bd_e, bd_e]
  cases hp : rng p 0 ((n : Int) - 1) with
  | false => exact ⟨-1, σ, u, rfl, rfl, n, H⟩
  | true =>
    obtain ⟨k, hk, rfl⟩ := rng_n hp h7
    have i7 : inb (nI k) 7 = true := inb_nI (by omega) (by decide)
    have x7 : ∀ f, ix f (nI k) = f k := fun f => ix_nI (by omega)
    rw [b1, b1, b1, C_isCare_ok', M_isCare_ok', bd_e, bd_e]
    cases hw : (rng w 0 4 || w == 9) with
    | false =>
      refine ⟨-1, va_up σ 1 (σ 1), u, ?_, rfl, n, by rw [vu_self]; exact H⟩
      simp only [i7, gd_t, nm_q, b0, bd2_e]; rfl
    | true =>
      simp only [b1, i7, x7, gd_t, nm_q, bd2_e]
      exact ⟨oA (σ 1) 6 k, _, _, rfl, by rw [H.2.2.2.1 6 (by decide) (by decide)], n, H.pA (by decide) (show k < 7 by omega) (H.wf.t6 (by omega) (care_rng hw)) (fun e => absurd e (by decide))⟩
theorem r_gives {n : Nat} {σ : CS} {o : Ob} (h : Rel n σ o) (p w : Int32) : ok2 (C_gives σ p w) (M_gives o p w) := by
  have h7 := h.n7
  have H := h.t0
  unfold C_gives M_gives T_handOver
  simp only [nm_q]
  generalize pS o 15 0 = u at H
  rw [C_isThing_ok', M_isThing_ok', bd_e, bd_e, bd_e]
  cases hp : rng p 0 4 with
  | false => exact ⟨-1, σ, u, rfl, rfl, n, H⟩
  | true =>
    obtain ⟨k, hk, rfl⟩ := rng_nI (hi := 4) hp (by decide)
    have i5 : inb (nI k) 5 = true := inb_nI (by omega) (by decide)
    have x5 : ∀ f, ix f (nI k) = f k := fun f => ix_nI (by omega)
    have good : ((∃ q, q < n ∧ w = nI q) ∨ w = nI 9) → ok2 (bd2 (some ((1 : Int32), Jvm.Pilot.@@N@@.pA (σ 1) 3 (nI k) w)) fun r5 t6 => nm (va_up σ 1 t6) fun σ7 => if r5 = 0 then some (-1, σ7) else bd (C_noneIfNobody (oA (σ 1) 3 k)) fun r9 => some (r9, σ7)) (bd (M_orNone (Jvm.Pilot.@@N@@.pA u 3 (nI k) w) (oA u 3 k)) fun r11 => some (r11, Jvm.Pilot.@@N@@.pA u 3 (nI k) w)) := by
      intro hq
      rw [bd2_e, nm_q, C_none_ok', M_none_ok', bd_e, bd_e]
      exact ⟨noneI (oA (σ 1) 3 k), _, _, rfl, by rw [H.2.2.2.1 3 (by decide) (by decide)], n, H.pA (by decide) (show k < 5 by omega) (H.wf.setO (by omega) hq) (fun e => absurd e (by decide))⟩
    rw [b1, b1, b1, T_hasOne_ok' h.1.2.1 h7, M_isOne_ok' H.2.1 h7, bd_e, bd_e]
    simp only [i5, x5, gd_t, nm_q, jn_e]
    simp only [nm_q] at good
    cases hw : rng w 0 ((n : Int) - 1) with
    | true =>
      rw [b1, b1]
      obtain ⟨q, hq, e⟩ := rng_n hw h7
      exact good (Or.inl ⟨q, hq, e⟩)
    | false =>
      rw [b0, b0]
      by_cases c : w = 9
      · rw [if_pos c, if_pos c]
        exact good (Or.inr c)
      · rw [if_neg c, if_neg c]
        exact ⟨-1, va_up σ 1 (σ 1), u, rfl, rfl, n, by rw [vu_self]; exact H⟩
theorem hb_ok (o : Ob) (x f : Int32) : M_hasBit o x f = some (if (shr32 x f &&& 1) = 1 then 1 else 0) := by unfold M_hasBit; split <;> rfl
theorem bit12 {x : Int32} (h : B12 x) {f : Nat} (hf : f < 12) : (shr32 x (nI f) &&& 1) = (if (shr32 x (nI f) &&& 1) = 1 then 1 else 0) := by
  obtain ⟨k, hk, rfl⟩ := h
  have h1 := all64 (f := fun k => (List.range 12).all fun f => decide ((shr32 (nI k) (nI f) &&& 1) = (if (shr32 (nI k) (nI f) &&& 1) = 1 then 1 else 0))) (by decide +kernel) k hk
  exact of_decide_eq_true (List.all_eq_true.mp h1 f (List.mem_range.mpr hf))
theorem r_learns {n : Nat} {σ : CS} {o : Ob} (h : Rel n σ o) (p q w : Int32) : ok2 (C_learns σ p q w) (M_learns o p q w) := by
  have h7 := h.n7
  have H := h.t0
  unfold C_learns M_learns T_turnFact
  simp only [nm_q]
  generalize pS o 15 0 = u at H
  have no : ok2 (some ((-1 : Int32), va_up σ 1 (σ 1))) (some ((-1 : Int32), u)) := ⟨-1, va_up σ 1 (σ 1), u, rfl, rfl, n, by rw [vu_self]; exact H⟩
  rw [T_hasOne_ok' h.1.2.1 h7, M_isOne_ok' H.2.1 h7, bd_e, bd_e]
  cases hp : rng p 0 ((n : Int) - 1) with
  | false => exact no
  | true =>
    obtain ⟨k, hk, rfl⟩ := rng_n hp h7
    rw [b1, b1, C_isThing_ok', M_isThing_ok', bd_e, bd_e]
    cases hq : rng q 0 4 with
    | false => exact no
    | true =>
      obtain ⟨i, hi, rfl⟩ := rng_nI (hi := 4) hq (by decide)
      rw [b1, b1, C_within_ok', M_inI, bd_e, bd_e, show (11 : Int32).toInt = 11 from rfl, show (0 : Int64).toInt = 0 from rfl, show (11 : Int64).toInt = 11 from rfl]
      cases hw : rng w 0 11 with
      | false => exact no
      | true =>
        obtain ⟨j, hj, rfl⟩ := rng_nI (hi := 11) hw (by decide)
        have hl : k * 5 + i < 35 := by omega
        have z1 : ¬ (1 : Int32) = 0 := by decide
        have hb : B12 (oA (σ 1) 7 (k * 5 + i) ^^^ shl32 1 (nI j)) := B12_xor (H.wf.kno hl) (B12_bit (by omega))
        simp only [b1, ixkn, ixkn', inb_nI hl (show 35 < 2 ^ 31 by decide), ix_nI (show k * 5 + i < 2 ^ 31 by omega), gd_t, bd2_e, if_neg z1, vu_at, hb_ok, bd_e, pA_at (show k * 5 + i < 2 ^ 31 by omega), if_true]
        rw [← H.2.2.2.1 7 (by decide) (by decide)]
        refine ⟨_, _, Jvm.Pilot.@@N@@.pA u 7 (nI (k * 5 + i)) (oA (σ 1) 7 (k * 5 + i) ^^^ shl32 1 (nI j)), rfl, ?_, n, H.pA (by decide) hl (H.wf.setK hl hb) (fun _ => by omega)⟩
        rw [bit12 hb (show j < 12 by omega)]
        by_cases c : (shr32 (oA (σ 1) 7 (k * 5 + i) ^^^ shl32 1 (nI j)) (nI j) &&& 1) = 1
        · simp only [c, if_true]; rfl
        · simp only [c, if_false]; rfl

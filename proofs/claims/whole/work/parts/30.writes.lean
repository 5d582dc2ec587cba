/-! a place of the town becomes other, on both sides -/
theorem tok_pA {n j i : Nat} {t : Ob} {v : Int32} (h : tok n t) (hj : 1 ≤ j ∧ j ≤ 7) (hi : i < tlen j) (hw : wfA n (pA t j (nI i) v)) (h7 : j = 7 → i < n * 5) : tok n (pA t j (nI i) v) := by
  have hl : i < 2 ^ 31 := by
    rcases (show j = 1 ∨ j = 2 ∨ j = 3 ∨ j = 4 ∨ j = 5 ∨ j = 6 ∨ j = 7 by omega) with rfl | rfl | rfl | rfl | rfl | rfl | rfl <;> (simp [tlen] at hi; omega)
  obtain ⟨h1, h2, h3, h4, h5⟩ := h
  refine ⟨hw, h2, h3, fun q hq => ?_, fun k a b q hq => ?_⟩
  · rw [oA_pAq]
    by_cases c : (7 : Nat) = j
    · rw [if_pos c, upd_nI hl, if_neg (by have := h7 c.symm; omega), ← c]; exact h4 q hq
    · rw [if_neg c]; exact h4 q hq
  · rw [oA_pAq]
    by_cases c : k = j
    · subst c
      rw [if_pos rfl, upd_nI hl, if_neg (by omega)]; exact h5 k a b q hq
    · rw [if_neg c]; exact h5 k a b q hq
theorem Rel.pA {n j i : Nat} {σ : CS} {o : Ob} {v : Int32} (h : Rel n σ o) (hj : 1 ≤ j ∧ j ≤ 7) (hi : i < tlen j) (hw : wfA n (pA (σ 1) j (nI i) v)) (h7 : j = 7 → i < n * 5) : Rel n (va_up σ 1 (Jvm.Pilot.@@N@@.pA (σ 1) j (nI i) v)) (Jvm.Pilot.@@N@@.pA o j (nI i) v) := by
  obtain ⟨h1, h2, h3, h4, h5, h6, h8, h9, h10⟩ := h
  refine ⟨by rw [vu_at]; exact tok_pA h1 hj hi hw h7, h2, by rw [vu_at]; exact h3, by rw [vu_at]; exact h4.uA, fun a x y => by rw [vu_ne (by omega)]; exact h5 a x y, by rw [vu_ne (by decide)]; exact h6, h8, fun e => ?_, fun d hd => ?_⟩
  · rw [vu_ne (by decide)]
    refine ⟨(h9 e).1, fun q hq => ?_⟩
    rw [oA_pAq, if_neg (by omega)]; exact (h9 e).2 q hq
  · rw [vu_ne (by omega)]
    have hs := h10 d hd
    unfold shR at hs ⊢
    rw [oA_pAq, oA_pAq, oA_pAq, oA_pAq, oA_pAq, if_neg (by omega), if_neg (by omega), if_neg (by omega), if_neg (by omega), if_neg (by omega)]
    exact hs

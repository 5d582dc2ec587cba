/-! a forged deed -/
theorem lc_eq {x y : Int64} : (lg_cmp x y = 0) = (x = y) := by
  unfold lg_cmp
  by_cases h1 : x > y
  · rw [if_pos h1]
    have h2 : ¬ x = y := fun e => by
      subst e
      have := Int64.lt_iff_toInt_lt.mp h1
      omega
    simp [h2]
  · rw [if_neg h1]
    by_cases h2 : x = y
    · rw [if_pos h2]; simp [h2]
    · rw [if_neg h2]; simp [h2]
theorem i64_eq {x y : Int32} : (x.toInt64 = y.toInt64) = (x = y) := propext ⟨fun h => by
  rw [fa_eq, ← Int32.toInt_toInt64, ← Int32.toInt_toInt64, h], fun h => by rw [h]⟩
theorem forged_loop {n d : Nat} {σ : CS} {o : Ob} (R : Rel n σ o) (hd : d < 8) : ∀ r i N1 N2, i + r = 5 → r < N1 → r < N2 → ∃ y, C_forged_L22 σ (11 + d) N1 (nI i) = some y ∧ M_forged_L19 o (nI d) N2 (nI i) = some (y, o) := by
  obtain ⟨a1, a2, a3, a4, a5, a6, ⟨m, hm, em⟩, a8⟩ := R.2.2.2.2.2.2.2.2 d hd
  have i8 : inb (nI d) 8 = true := inb_nI hd (by decide)
  have hl : d < 2 ^ 31 := by omega
  intro r
  induction r with
  | zero =>
    intro i N1 N2 hi h1 h2
    obtain ⟨N1, rfl⟩ : ∃ m, N1 = m + 1 := ⟨N1 - 1, by omega⟩
    obtain ⟨N2, rfl⟩ : ∃ m, N2 = m + 1 := ⟨N2 - 1, by omega⟩
    have e : (5 : Int32) ≤ nI i := by show nI 5 ≤ nI i; rw [nI_le' (by omega) (by omega)]; omega
    rw [C_forged_L22, M_forged_L19, i8, gd_t, ix_nI hl, ← a6, if_pos e, if_pos e]
    by_cases c : oS (σ (11 + d)) 4 ≤ nI i
    · exact ⟨-4, by rw [if_pos c], by rw [if_pos c]⟩
    · exact ⟨nI i, by rw [if_neg c], by rw [if_neg c]⟩
  | succ r ih =>
    intro i N1 N2 hi h1 h2
    obtain ⟨N1, rfl⟩ : ∃ m, N1 = m + 1 := ⟨N1 - 1, by omega⟩
    obtain ⟨N2, rfl⟩ : ∃ m, N2 = m + 1 := ⟨N2 - 1, by omega⟩
    have e : ¬ (5 : Int32) ≤ nI i := by show ¬ nI 5 ≤ nI i; rw [nI_le' (by omega) (by omega)]; omega
    rw [C_forged_L22, M_forged_L19, i8, gd_t, ix_nI hl, ← a6, if_neg e, if_neg e]
    by_cases c : oS (σ (11 + d)) 4 ≤ nI i
    · exact ⟨-4, by rw [if_pos c], by rw [if_pos c]⟩
    · rw [if_neg c, if_neg c, ix100, inb_nI (show i < 100 by omega) (by decide), inb_nI (show i < 5 by omega) (by decide), inb_nI (show 100 * d + i < 800 by omega) (by decide), gd_t, gd_t, gd_t, gd_t, ixL_nI (by omega), ix_nI (by omega), ix_nI (by omega), ix_nI (by omega), ← a8 i (by omega), R.2.2.2.1 3 (by decide) (by decide)]
      simp only [lc_eq, i64_eq]
      by_cases c' : oA (σ (11 + d)) 1 i = oA o 3 i
      · rw [if_pos c', if_pos c', nm_q, nm_q, nI_1]
        exact ih (i + 1) N1 N2 (by omega) (by omega) (by omega)
      · exact ⟨nI i, by rw [if_neg c'], by rw [if_neg c']⟩
theorem r_forged {n : Nat} {σ : CS} {o : Ob} (h : Rel n σ o) (p : Int32) : ok1 (C_forged σ p) σ (M_forged o p) := by
  have H := h.t0
  unfold C_forged M_forged
  rw [nm_q]
  generalize pS o 15 0 = u at H
  rcases hold2 H p with ⟨r, e1, e2, e3, e4⟩ | ⟨e1, e2, d, hd, rfl, e3⟩
  · rw [e1, e2, bd_e, bd_e, if_neg e3, if_neg e4]
    exact ⟨r, u, rfl, rfl, n, H⟩
  · obtain ⟨y, c1, c2⟩ := forged_loop H hd 5 0 FU FU rfl (FU_gt (by decide)) (FU_gt (by decide))
    rw [nI_0] at c1 c2
    rw [e1, e2, bd_e, bd_e, if_pos rfl, if_pos (by decide), inb_nI hd (by decide), gd_t, nI_clamp (by omega)]
    exact ⟨y, u, c1, c2, n, H⟩

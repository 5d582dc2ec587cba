theorem rng_n {x : Int32} {n : Nat} (h : rng x 0 ((n : Int) - 1) = true) (h7 : n ≤ 7) : ∃ k, k < n ∧ x = nI k := by
  have h1 := of_decide_eq_true h
  refine ⟨x.toInt.toNat, by omega, ?_⟩
  rw [fa_eq, nI_toInt (by omega)]
  omega
theorem b0 {α : Type} {a b : α} : (if bI false = (0 : Int32) then a else b) = a := rfl
theorem b1 {α : Type} {a b : α} : (if bI true = (0 : Int32) then a else b) = b := rfl
theorem r_one {n : Nat} {σ : CS} {o : Ob} (h : Rel n σ o) (p w : Int32) : ok1 (C_one σ p w) σ (M_one o p w) := by
  have h7 := h.n7
  have H := h.t0
  unfold C_one M_one
  rw [nm_q]
  generalize pS o 15 0 = u at H
  rw [T_hasOne_ok' h.1.2.1 h7, M_isOne_ok' H.2.1 h7, bd_e, bd_e]
  cases hp : rng p 0 ((n : Int) - 1) with
  | false => exact ⟨-1, u, rfl, rfl, n, H⟩
  | true =>
    obtain ⟨k, hk, rfl⟩ := rng_n hp h7
    have i7 : inb (nI k) 7 = true := inb_nI (by omega) (by decide)
    have x7 : ∀ f, ix f (nI k) = f k := fun f => ix_nI (by omega)
    rw [b1, b1, C_within_ok', M_inI, bd_e, bd_e, show (4 : Int32).toInt = 4 from rfl, show (0 : Int64).toInt = 0 from rfl, show (4 : Int64).toInt = 4 from rfl]
    cases hw : rng w 0 4 with
    | false => exact ⟨-1, u, rfl, rfl, n, H⟩
    | true =>
      obtain ⟨j, hj, rfl⟩ := rng_nI (hi := 4) hw (by decide)
      rw [b1, b1, i7, T_ownedBy_ok', M_ownedBy_ok', T_lessons_ok' h.wf hk, M_learnsOn_ok' H.wfo hk, x7, x7, x7, x7, x7, x7, H.2.2.1]
      rcases (show j = 0 ∨ j = 1 ∨ j = 2 ∨ j = 3 ∨ j = 4 by omega) with rfl | rfl | rfl | rfl | rfl
      · exact ⟨oA (σ 1) 4 k, u, rfl, by rw [H.2.2.2.1 4 (by decide) (by decide)]; rfl, n, H⟩
      · exact ⟨oA (σ 1) 5 k, u, rfl, by rw [H.2.2.2.1 5 (by decide) (by decide)]; rfl, n, H⟩
      · exact ⟨oA (σ 1) 6 k, u, rfl, by rw [H.2.2.2.1 6 (by decide) (by decide)]; rfl, n, H⟩
      · exact ⟨ownS (σ 1) (nI k), u, rfl, by rw [H.2.2.2.1.own]; rfl, n, H⟩
      · exact ⟨lesN (σ 1) k (oS u 8 + 1), u, rfl, by rw [H.2.2.2.1.les]; rfl, n, H⟩
theorem r_thing {n : Nat} {σ : CS} {o : Ob} (h : Rel n σ o) (p w : Int32) : ok1 (C_thing σ p w) σ (M_thing o p w) := by
  have H := h.t0
  unfold C_thing M_thing
  rw [nm_q]
  generalize pS o 15 0 = u at H
  rw [C_isThing_ok', M_isThing_ok', bd_e, bd_e]
  cases hp : rng p 0 4 with
  | false => exact ⟨-1, u, rfl, rfl, n, H⟩
  | true =>
    obtain ⟨k, hk, rfl⟩ := rng_nI (hi := 4) hp (by decide)
    have i5 : inb (nI k) 5 = true := inb_nI (by omega) (by decide)
    have x5 : ∀ f, ix f (nI k) = f k := fun f => ix_nI (by omega)
    rw [b1, b1, C_within_ok', M_inI, bd_e, bd_e, show (2 : Int32).toInt = 2 from rfl, show (0 : Int64).toInt = 0 from rfl, show (2 : Int64).toInt = 2 from rfl]
    cases hw : rng w 0 2 with
    | false => exact ⟨-1, u, rfl, rfl, n, H⟩
    | true =>
      obtain ⟨j, hj, rfl⟩ := rng_nI (hi := 2) hw (by decide)
      simp only [b1, i5, x5, gd_t, C_none_ok', M_none_ok', bd_e]
      rcases (show j = 0 ∨ j = 1 ∨ j = 2 by omega) with rfl | rfl | rfl
      · exact ⟨oA (σ 1) 1 k, u, rfl, by rw [H.2.2.2.1 1 (by decide) (by decide)]; rfl, n, H⟩
      · exact ⟨oA (σ 1) 2 k, u, rfl, by rw [H.2.2.2.1 2 (by decide) (by decide)]; rfl, n, H⟩
      · exact ⟨noneI (oA (σ 1) 3 k), u, rfl, by rw [H.2.2.2.1 3 (by decide) (by decide)]; rfl, n, H⟩
theorem r_story {n : Nat} {σ : CS} {o : Ob} (h : Rel n σ o) (p q w : Int32) : ok1 (C_story σ p q w) σ (M_story o p q w) := by
  have h7 := h.n7
  have H := h.t0
  unfold C_story M_story
  rw [nm_q]
  generalize pS o 15 0 = u at H
  rw [T_hasOne_ok' h.1.2.1 h7, M_isOne_ok' H.2.1 h7, bd_e, bd_e]
  cases hp : rng p 0 ((n : Int) - 1) with
  | false => exact ⟨-1, u, rfl, rfl, n, H⟩
  | true =>
    obtain ⟨k, hk, rfl⟩ := rng_n hp h7
    rw [b1, b1, C_isThing_ok', M_isThing_ok', bd_e, bd_e]
    cases hq : rng q 0 4 with
    | false => exact ⟨-1, u, rfl, rfl, n, H⟩
    | true =>
      obtain ⟨i, hi, rfl⟩ := rng_nI (hi := 4) hq (by decide)
      rw [b1, b1, C_within_ok', M_inI, bd_e, bd_e, show (1 : Int32).toInt = 1 from rfl, show (0 : Int64).toInt = 0 from rfl, show (1 : Int64).toInt = 1 from rfl]
      cases hw : rng w 0 1 with
      | false => exact ⟨-1, u, rfl, rfl, n, H⟩
      | true =>
        obtain ⟨j, hj, rfl⟩ := rng_nI (hi := 1) hw (by decide)
        simp only [b1, ixkn, ixkn', inb_nI (show k * 5 + i < 35 by omega) (show 35 < 2 ^ 31 by decide), ix_nI (show k * 5 + i < 2 ^ 31 by omega), gd_t, T_tale_ok' h.wf hk (show i < 5 by omega), M_storyOf_ok' H.wfo hk (show i < 5 by omega), bd_e]
        rcases (show j = 0 ∨ j = 1 by omega) with rfl | rfl
        · exact ⟨oA (σ 1) 7 (k * 5 + i), u, rfl, by rw [H.2.2.2.1 7 (by decide) (by decide)]; rfl, n, H⟩
        · exact ⟨storyS (σ 1) k i, u, rfl, by rw [H.2.2.2.1.story]; rfl, n, H⟩

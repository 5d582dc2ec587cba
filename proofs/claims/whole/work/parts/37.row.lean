/-! refusals of a shelf -/
theorem hold_any {n d : Nat} {σ : CS} {o : Ob} (R : Rel n σ o) (hd : d < 8) : oA o 8 d = oS (σ (11 + d)) 0 ∧ (oS (σ (11 + d)) 0 = 0 ∨ oS (σ (11 + d)) 0 = 1 ∨ oS (σ (11 + d)) 0 = 2) := by
  obtain ⟨a1, ⟨k, hk, ek⟩, -⟩ := R.2.2.2.2.2.2.2.2 d hd
  refine ⟨a1.symm, ?_⟩
  rw [ek]
  rcases (show k = 0 ∨ k = 1 ∨ k = 2 by omega) with rfl | rfl | rfl
  · exact Or.inl rfl
  · exact Or.inr (Or.inl rfl)
  · exact Or.inr (Or.inr rfl)
theorem hold1 {n : Nat} {σ : CS} {o : Ob} (R : Rel n σ o) (p : Int32) : (∃ r, C_oneRefusal σ p = some r ∧ M_wrongKept o p = some r ∧ ¬ r = 0 ∧ ¬ 0 ≤ r) ∨ (C_oneRefusal σ p = some 0 ∧ M_wrongKept o p = some 0 ∧ ∃ d, d < 8 ∧ p = nI d ∧ oS (σ (11 + d)) 0 = 1) := by
  unfold C_oneRefusal C_holdRefusal M_wrongKept
  rw [C_isShelf_ok', M_inI, bd_e, bd_e, show (0 : Int64).toInt = 0 from rfl, show (7 : Int64).toInt = 7 from rfl]
  cases hp : rng p 0 7 with
  | false => exact Or.inl ⟨-1, rfl, rfl, by decide, by decide⟩
  | true =>
    obtain ⟨d, hd, rfl⟩ := rng_nI (hi := 7) hp (by decide)
    have i8 : inb (nI d) 8 = true := inb_nI (by omega) (by decide)
    obtain ⟨e, k⟩ := hold_any R (show d < 8 by omega)
    simp only [b1, i8, gd_t, nm_q, nI_clamp (show d < 2 ^ 31 by omega), ix_nI (show d < 2 ^ 31 by omega), e]
    rcases k with k | k | k <;> rw [k]
    · exact Or.inl ⟨-11, rfl, rfl, by decide, by decide⟩
    · exact Or.inr ⟨rfl, rfl, d, by omega, rfl, k⟩
    · exact Or.inl ⟨-12, rfl, rfl, by decide, by decide⟩
theorem hold2 {n : Nat} {σ : CS} {o : Ob} (R : Rel n σ o) (p : Int32) : (∃ r, C_rowRefusal σ p = some r ∧ M_wrongRow o p = some r ∧ ¬ r = 0 ∧ ¬ 0 ≤ r) ∨ (C_rowRefusal σ p = some 0 ∧ M_wrongRow o p = some 0 ∧ ∃ d, d < 8 ∧ p = nI d ∧ oS (σ (11 + d)) 0 = 2) := by
  unfold C_rowRefusal C_holdRefusal M_wrongRow
  rw [C_isShelf_ok', M_inI, bd_e, bd_e, show (0 : Int64).toInt = 0 from rfl, show (7 : Int64).toInt = 7 from rfl]
  cases hp : rng p 0 7 with
  | false => exact Or.inl ⟨-1, rfl, rfl, by decide, by decide⟩
  | true =>
    obtain ⟨d, hd, rfl⟩ := rng_nI (hi := 7) hp (by decide)
    have i8 : inb (nI d) 8 = true := inb_nI (by omega) (by decide)
    obtain ⟨e, k⟩ := hold_any R (show d < 8 by omega)
    simp only [b1, i8, gd_t, nm_q, nI_clamp (show d < 2 ^ 31 by omega), ix_nI (show d < 2 ^ 31 by omega), e]
    rcases k with k | k | k <;> rw [k]
    · exact Or.inl ⟨-11, rfl, rfl, by decide, by decide⟩
    · exact Or.inl ⟨-12, rfl, rfl, by decide, by decide⟩
    · exact Or.inr ⟨rfl, rfl, d, by omega, rfl, k⟩
theorem cost_eq {k : Int32} (h : kd8 k) (o : Ob) (f : Int32) : KD_price k f = M_costOf o k f := by
  rcases k8' h with rfl | rfl | rfl | rfl | rfl | rfl | rfl | rfl <;> rfl
theorem r_cost {n : Nat} {σ : CS} {o : Ob} (h : Rel n σ o) (p : Int32) : ok1 (C_cost σ p) σ (M_cost o p) := by
  have H := h.t0
  unfold C_cost M_cost
  simp only [nm_q]
  generalize pS o 15 0 = u at H
  rcases hold1 H p with ⟨r, e1, e2, e3, e4⟩ | ⟨e1, e2, d, hd, rfl, e3⟩
  · rw [e1, e2, bd_e, bd_e, bd_e, if_neg e3, if_neg e4]
    exact ⟨r, u, rfl, rfl, n, H⟩
  · obtain ⟨-, -, a3, -⟩ := H.2.2.2.2.2.2.2.2 d hd
    obtain ⟨b1', b2, b3, -⟩ := a3 e3
    have i8 : inb (nI d) 8 = true := inb_nI (by omega) (by decide)
    simp only [e1, e2, bd_e, if_pos (show (0 : Int32) = 0 from rfl), if_pos (show (0 : Int32) ≤ 0 by decide), i8, gd_t, nI_clamp (show d < 2 ^ 31 by omega), ix_nI (show d < 2 ^ 31 by omega), kd8_inb b3, ← b1', ← b2, ← cost_eq b3 u, pri_some b3]
    exact ⟨_, u, rfl, rfl, n, H⟩
/-! rows -/
theorem ix100 {d i : Nat} : (100 : Int32) * nI d + nI i = nI (100 * d + i) := by rw [lit32, pk_mul, nI_add]
theorem oL_at {o : Ob} {k j : Nat} {v : Int64} (hk : k < 2 ^ 31) : oL (pL o 13 (nI k) v) 13 j = if j = k then v else oL o 13 j := by
  rw [oL_pL, nI_clamp hk]; rfl
theorem cut_nar {n d : Nat} {σ : CS} {o : Ob} (R : Rel n σ o) (hd : d < 8) (x : Int32) : ∃ v, S_cut (σ (11 + d)) x = some v ∧ M_narrowed o x (oA o 11 d) = some v.toInt64 := by
  obtain ⟨-, -, -, a4, -⟩ := R.2.2.2.2.2.2.2.2 d hd
  unfold S_cut M_narrowed
  rw [← a4]
  by_cases c0 : oS (σ (11 + d)) 3 = 0
  · exact ⟨_, by rw [if_pos c0], by rw [if_pos c0]⟩
  · by_cases c1 : oS (σ (11 + d)) 3 = 1
    · exact ⟨_, by rw [if_neg c0, if_pos c1], by rw [if_neg c0, if_pos c1]⟩
    · exact ⟨_, by rw [if_neg c0, if_neg c1], by rw [if_neg c0, if_neg c1]⟩
theorem r_put {n : Nat} {σ : CS} {o : Ob} (h : Rel n σ o) (p q x : Int32) : ok2 (C_put σ p q x) (M_put o p q x) := by
  have H := h.t0
  unfold C_put M_put
  simp only [nm_q]
  generalize pS o 15 0 = u at H
  rcases hold2 H p with ⟨r, e1, e2, e3, e4⟩ | ⟨e1, e2, d, hd, rfl, e3⟩
  · rw [e1, e2, bd_e, bd_e, if_neg e3, if_neg e4]
    exact ⟨r, σ, u, rfl, rfl, n, H⟩
  · obtain ⟨a1, a2, a3, a4, a5, a6, ⟨m, hm, em⟩, a8⟩ := H.2.2.2.2.2.2.2.2 d hd
    have i8 : inb (nI d) 8 = true := inb_nI (by omega) (by decide)
    have hl : d < 2 ^ 31 := by omega
    have hs : S_hasPlaces (σ (11 + d)) q 1 = some (bI (rng q 0 ((m : Int) - 1))) := by
      have z0 : (0 : Int32).toInt = 0 := by decide
      have z1 : (1 : Int32).toInt = 1 := by decide
      have zm : (nI m).toInt = m := nI_toInt (by omega)
      have zs : (nI m - 1).toInt = (m : Int) - 1 := pk_sub_toInt (b := 1) (by omega) (by decide)
      unfold S_hasPlaces rng
      rw [em]
      by_cases c1 : q < 0
      · rw [if_pos c1, decide_eq_false (by rw [fa_lt] at c1; omega)]; rfl
      · rw [if_neg c1, if_neg (by decide)]
        by_cases c2 : nI m < 1
        · rw [if_pos c2, decide_eq_false (by rw [fa_lt] at c1 c2; omega)]; rfl
        · rw [if_neg c2]
          by_cases c3 : nI m - 1 < q
          · rw [if_pos c3, decide_eq_false (by rw [fa_lt] at c3; omega)]; rfl
          · rw [if_neg c3, decide_eq_true (by rw [fa_lt] at c1 c3; omega)]; rfl
    have hm' : M_in u q.toInt64 0 ((oA u 12 d - 1).toInt64) = some (bI (rng q 0 ((m : Int) - 1))) := by
      rw [M_inI, ← a6, em, Int32.toInt_toInt64, show (nI m - 1).toInt = (m : Int) - 1 from pk_sub_toInt (b := 1) (by omega) (by decide)]; rfl
    obtain ⟨v, c1, c2⟩ := cut_nar H hd x
    simp only [e1, e2, bd_e, if_pos (show (0 : Int32) = 0 from rfl), if_pos (show (0 : Int32) ≤ 0 by decide), i8, gd_t, nI_clamp hl, ix_nI hl, hs, hm', c1, c2]
    cases hq : rng q 0 ((m : Int) - 1) with
    | false => exact ⟨-13, σ, u, rfl, rfl, n, H⟩
    | true =>
      obtain ⟨i, hi, rfl⟩ : ∃ i : Nat, i < m ∧ q = nI i := by
        have := of_decide_eq_true hq
        exact ⟨q.toInt.toNat, by omega, by rw [fa_eq, nI_toInt (by omega)]; omega⟩
      rw [b1, b1, ix100, inb_nI (show i < 100 by omega) (by decide), inb_nI (show 100 * d + i < 800 by omega) (by decide), gd_t, gd_t]
      refine ⟨0, _, _, rfl, rfl, n, ?_⟩
      refine H.sh hd rfl rfl rfl (fun _ _ _ => rfl) rfl ?_ (fun e he hne => ?_)
      · refine ⟨a1, a2, a3, a4, a5, a6, ⟨m, hm, em⟩, fun j hj => ?_⟩
        rw [pA_at (by omega), oL_at (by omega)]
        by_cases g : j = i
        · rw [if_pos g, if_pos (by omega)]
        · rw [if_neg g, if_neg (by omega)]; exact a8 j hj
      · exact (H.2.2.2.2.2.2.2.2 e he).oth (fun _ _ _ => rfl) (fun j hj => by rw [oL_at (by omega), if_neg (by omega)])
theorem fill_ok (s : Ob) : ∃ v, B_fill s 0 = some v ∧ (∀ k, oS v k = oS s k) ∧ ∀ i, i < 100 → oA v 1 i = 0 := by
  obtain ⟨v, e, h1, h2⟩ := up_loopE (L := fun N s i => B_fill_L5 0 100 N s (nI i)) 100 (fun i v => (∀ k, oS v k = oS s k) ∧ ∀ j, j < i → oA v 1 j = 0) some (by
    intro N i t hi ⟨q1, q2⟩
    refine ⟨pA t 1 (nI i) 0, ?_, q1, fun j hj => ?_⟩
    · rw [B_fill_L5, if_neg (by show ¬ nI 100 ≤ nI i; rw [nI_le' (by omega) (by omega)]; omega), inb_nI hi (by decide)]
      simp only [gd_t, nm_q, nI_1]
    · rw [pA_at (by omega)]
      split
      · rfl
      · exact q2 j (by omega)) (by
    intro N t _
    rw [B_fill_L5, if_pos (by decide)]) s ⟨fun _ => rfl, fun j hj => absurd hj (by omega)⟩ FU (FU_gt (by decide))
  exact ⟨v, e, h1, h2⟩
theorem zero_ok {d : Nat} (hd : d < 8) (u : Ob) : ∃ v, M_row_L68 (nI d) FU u 0 = some (0, v) ∧ (∀ k, oS v k = oS u k) ∧ (∀ j, oA v j = oA u j) ∧ ∀ q, oL v 13 q = if 100 * d ≤ q ∧ q < 100 * d + 100 then 0 else oL u 13 q := by
  obtain ⟨v, e, h1, h2, h3⟩ := up_loopE (L := fun N s i => M_row_L68 (nI d) N s (nI i)) 100 (fun i v => (∀ k, oS v k = oS u k) ∧ (∀ j, oA v j = oA u j) ∧ ∀ q, oL v 13 q = if 100 * d ≤ q ∧ q < 100 * d + i then 0 else oL u 13 q) (fun v => some ((0 : Int32), v)) (by
    intro N i t hi ⟨q1, q2, q3⟩
    refine ⟨pL t 13 (nI (100 * d + i)) 0, ?_, q1, q2, fun q => ?_⟩
    · rw [M_row_L68, if_neg (by show ¬ nI 100 ≤ nI i; rw [nI_le' (by omega) (by omega)]; omega), ix100, inb_nI (show 100 * d + i < 800 by omega) (by decide)]
      simp only [gd_t, nm_q, nI_1]
    · rw [oL_at (by omega), q3]
      by_cases c : q = 100 * d + i
      · rw [if_pos c, if_pos (by omega)]
      · rw [if_neg c]
        by_cases c' : 100 * d ≤ q ∧ q < 100 * d + i
        · rw [if_pos c', if_pos (by omega)]
        · rw [if_neg c', if_neg (by omega)]) (by
    intro N t _
    rw [M_row_L68, if_pos (by decide)]) u ⟨fun _ => rfl, fun _ => rfl, fun q => by rw [if_neg (by omega)]⟩ FU (FU_gt (by decide))
  exact ⟨v, e, h1, h2, h3⟩
theorem z64 : (0 : Int32).toInt64 = 0 := by decide
/- no definitional rewriting here: the kernel would run the loops -/
theorem nm_p {α β : Type} {a : α} {k : α → Option β} : nm a k = k a := Eq.trans rfl rfl
theorem gd_p {α : Type} {k : Option α} : gd true k = k := Eq.trans rfl rfl
theorem bd_p {α β : Type} {a : α} {k : α → Option β} : bd (some a) k = k a := Eq.trans rfl rfl
theorem r_row {n : Nat} {σ : CS} {o : Ob} (h : Rel n σ o) (p k m : Int32) : ok2 (C_row σ p k m) (M_row o p k m) := by
  have H := h.t0
  unfold C_row M_row
  simp only [nm_p]
  generalize pS o 15 0 = u at H
  rw [C_isShelf_ok', M_inI, bd_e, bd_e, show (0 : Int64).toInt = 0 from rfl, show (7 : Int64).toInt = 7 from rfl]
  cases hp : rng p 0 7 with
  | false => rw [b0, b0]; exact ⟨-1, σ, u, rfl, rfl, n, H⟩
  | true =>
    obtain ⟨d, hd, rfl⟩ := rng_nI (hi := 7) hp (by decide)
    rw [C_within_ok', M_inI, bd_e, bd_e, show (2 : Int32).toInt = 2 from rfl, show (0 : Int64).toInt = 0 from rfl, show (2 : Int64).toInt = 2 from rfl]
    cases hk : rng k 0 2 with
    | false => rw [b1, b1, b0, b0]; exact ⟨-1, σ, u, rfl, rfl, n, H⟩
    | true =>
      obtain ⟨j, hj, rfl⟩ := rng_nI (hi := 2) hk (by decide)
      have i8 : inb (nI d) 8 = true := inb_nI (by omega) (by decide)
      have hd8 : d < 8 := by omega
      have hl : d < 2 ^ 31 := by omega
      rw [b1, b1]
      simp only [i8, gd_p, nI_clamp hl]
      by_cases c1 : m ≤ 100
      · rw [if_pos c1, if_pos c1]
        by_cases c2 : (0 : Int32) ≤ m
        · rw [if_pos c2, if_pos c2]
          obtain ⟨i, hi, rfl⟩ : ∃ i : Nat, i ≤ 100 ∧ m = nI i := by
            have z0 : (0 : Int32).toInt = 0 := by decide
            have z1 : (100 : Int32).toInt = 100 := by decide
            rw [fa_le] at c1 c2
            exact ⟨m.toInt.toNat, by omega, by rw [fa_eq, nI_toInt (by omega)]; omega⟩
          unfold S_holdRow
          simp only [nm_p]
          obtain ⟨s, s1, s2, s3⟩ := fill_ok (pS (pS (pS (σ (11 + d)) 0 2) 3 (nI j)) 4 (nI i))
          obtain ⟨v, v1, v2, v3, v4⟩ := zero_ok hd8 (pA (pA (pA u 8 (nI d) 2) 11 (nI d) (nI j)) 12 (nI d) (nI i))
          rw [s1, v1, bd_e, bd_e]
          refine ⟨0, _, v, rfl, rfl, n, ?_⟩
          refine H.sh hd8 (v2 3) (v2 8) (v2 25) (fun q a b => by rw [v3, pA_ne (by omega), pA_ne (by omega), pA_ne (by omega)]) (by rw [v3, pA_ne (by omega), pA_ne (by omega), pA_ne (by omega)]) ?_ (fun e he hne => ?_)
          · have g8 : oA v 8 d = 2 := by rw [v3, pA_ne (by decide), pA_ne (by decide), pA_at hl, if_pos rfl]
            have g11 : oA v 11 d = nI j := by rw [v3, pA_ne (by decide), pA_at hl, if_pos rfl]
            have g12 : oA v 12 d = nI i := by rw [v3, pA_at hl, if_pos rfl]
            have f0 : oS s 0 = 2 := s2 0
            have f3 : oS s 3 = nI j := s2 3
            have f4 : oS s 4 = nI i := s2 4
            unfold shR
            rw [g8, g11, g12, f0, f3, f4]
            refine ⟨rfl, ⟨2, by decide, rfl⟩, fun e => absurd e (by decide), rfl, ⟨j, by omega, rfl⟩, rfl, ⟨i, hi, rfl⟩, fun q hq => ?_⟩
            rw [s3 q hq, v4, if_pos (by omega)]; exact z64
          · refine (H.2.2.2.2.2.2.2.2 e he).oth (fun q a b => ?_) (fun q hq => by rw [v4, if_neg (by omega)]; rfl)
            have g : ∀ (o : Ob) (m : Nat) (v : Int32), oA (pA o m (nI d) v) q e = oA o q e := fun o m v => by
              by_cases c : q = m
              · subst c; rw [pA_at hl, if_neg hne]
              · rw [pA_ne c]
            rw [v3, g, g, g]
        · rw [if_neg c2, if_neg c2]
          exact ⟨-14, σ, u, rfl, rfl, n, H⟩
      · rw [if_neg c1, if_neg c1]
        exact ⟨-1, σ, u, rfl, rfl, n, H⟩

/-! places of a row -/
theorem fb_rng (x : Int32) : -2147483648 ≤ x.toInt ∧ x.toInt < 2147483648 := by
  have h1 := Int32.le_toInt x
  have h2 := Int32.toInt_lt x
  omega
theorem fb_bmod {z : Int} (h1 : -2147483648 ≤ z) (h2 : z < 2147483648) : z.bmod (2 ^ 32) = z := by
  rw [Int.bmod_eq_of_le (by omega) (by omega)]
theorem fb_subI {x y : Int32} (h1 : -2147483648 ≤ x.toInt - y.toInt) (h2 : x.toInt - y.toInt < 2147483648) : (x - y).toInt = x.toInt - y.toInt := by
  rw [Int32.toInt_sub, fb_bmod h1 h2]
def fits3 (m : Nat) (i k : Int32) : Bool := decide (0 ≤ i.toInt ∧ 0 ≤ k.toInt ∧ i.toInt + k.toInt ≤ m)
theorem hasP {s : Ob} {m : Nat} (em : oS s 4 = nI m) (hm : m ≤ 100) (i k : Int32) : S_hasPlaces s i k = some (bI (fits3 m i k)) := by
  have z0 : (0 : Int32).toInt = 0 := by decide
  have zm : (nI m).toInt = m := nI_toInt (by omega)
  have r1 := fb_rng k
  unfold S_hasPlaces fits3
  rw [em]
  by_cases c1 : i < 0
  · rw [if_pos c1, decide_eq_false (by rw [fa_lt] at c1; omega)]; rfl
  · rw [if_neg c1]
    rw [fa_lt] at c1
    by_cases c2 : k < 0
    · rw [if_pos c2, decide_eq_false (by rw [fa_lt] at c2; omega)]; rfl
    · rw [if_neg c2]
      rw [fa_lt] at c2
      by_cases c3 : nI m < k
      · rw [if_pos c3, decide_eq_false (by rw [fa_lt] at c3; omega)]; rfl
      · rw [if_neg c3]
        rw [fa_lt] at c3
        have e : (nI m - k).toInt = m - k.toInt := by rw [fb_subI (by omega) (by omega), zm]
        by_cases c4 : nI m - k < i
        · rw [if_pos c4, decide_eq_false (by rw [fa_lt] at c4; omega)]; rfl
        · rw [if_neg c4, decide_eq_true (by rw [fa_lt] at c4; omega)]; rfl
/-! an element -/
theorem wr_no {o : Ob} {p : Int32} (hp : rng p 0 7 = false) : M_wrongRow o p = some (-1) := by
  unfold M_wrongRow
  rw [M_inI, bd_e, show (0 : Int64).toInt = 0 from rfl, show (7 : Int64).toInt = 7 from rfl, hp]; rfl
theorem wr_at {o : Ob} {d : Nat} (hd : d < 8) : M_wrongRow o (nI d) = some (if oA o 8 d = 0 then -11 else if oA o 8 d = 2 then 0 else -12) := by
  have r : rng (nI d) 0 7 = true := rng_of (hi := 7) (by omega) (by decide)
  unfold M_wrongRow
  rw [M_inI, bd_e, show (0 : Int64).toInt = 0 from rfl, show (7 : Int64).toInt = 7 from rfl, r, b1, inb_nI hd (by decide), gd_t, gd_t, ix_nI (by omega)]
  split
  · rfl
  · split <;> rfl
theorem r_element {n : Nat} {σ : CS} {o : Ob} (h : Rel n σ o) (p q : Int32) : ∃ k v o', M_element o p q = some (v, o') ∧ RelE σ o' ∧ oS o' 15 = k ∧ ((rng p 0 7 = false ∧ k = 1) ∨ (∃ d, d < 8 ∧ p = nI d ∧ (¬ oS (σ (11 + d)) 0 = 2 ∨ (oS (σ (11 + d)) 0 = 2 ∧ S_hasPlaces (σ (11 + d)) q 1 = some 0)) ∧ k = 2) ∨ (∃ d j, d < 8 ∧ j < 100 ∧ p = nI d ∧ q = nI j ∧ oS (σ (11 + d)) 0 = 2 ∧ S_hasPlaces (σ (11 + d)) q 1 = some 1 ∧ k = 0 ∧ v = (oA (σ (11 + d)) 1 j).toInt64)) := by
  have rel : ∀ v : Int32, RelE σ (pS o 15 v) := fun v => ⟨n, h.m (visM_S (by decide))⟩
  unfold M_element
  cases hp : rng p 0 7 with
  | false =>
    refine ⟨1, 0, pS o 15 1, ?_, rel 1, rfl, Or.inl ⟨rfl, rfl⟩⟩
    rw [wr_no hp, bd_e, if_pos rfl, bd_e, nm_q, if_neg (show ¬ oS (pS o 15 1) 15 ≤ 0 from (show ¬ (1 : Int32) ≤ 0 by decide))]
  | true =>
    obtain ⟨d, hd, rfl⟩ := rng_nI (hi := 7) hp (by decide)
    have hd8 : d < 8 := by omega
    have hl : d < 2 ^ 31 := by omega
    obtain ⟨e, k⟩ := hold_any h hd8
    obtain ⟨a1, a2, a3, a4, a5, a6, ⟨m, hm, em⟩, a8⟩ := h.2.2.2.2.2.2.2.2 d hd8
    rw [wr_at hd8, e]
    by_cases k2 : oS (σ (11 + d)) 0 = 2
    · have hs := hasP em hm q 1
      have em' : oA o 12 d = nI m := a6.symm.trans em
      have zs : (nI m - 1).toInt = (m : Int) - 1 := pk_sub_toInt (b := 1) (by omega) (by decide)
      have hr : rng q 0 ((m : Int) - 1) = fits3 m q 1 := by
        unfold rng fits3
        have z1 : (1 : Int32).toInt = 1 := by decide
        rw [z1]
        exact decide_eq_decide.mpr (by omega)
      rw [k2, if_neg (show ¬ (2 : Int32) = 0 by decide), if_pos rfl, bd_e, if_neg (show ¬ (0 : Int32) = -1 by decide), jn_e, if_neg (show ¬ (0 : Int32) < 0 by decide), inb_nI hd8 (by decide), gd_t, ix_nI hl, em', M_inI, bd_e, show (0 : Int64).toInt = 0 from rfl, Int32.toInt_toInt64, zs, hr]
      cases hf : fits3 m q 1 with
      | false =>
        refine ⟨2, 0, pS o 15 2, ?_, rel 2, rfl, Or.inr (Or.inl ⟨d, hd8, rfl, Or.inr ⟨k2, by rw [hs, hf]; rfl⟩, rfl⟩)⟩
        rw [b0, bd_e, nm_q, if_neg (show ¬ oS (pS o 15 2) 15 ≤ 0 from (show ¬ (2 : Int32) ≤ 0 by decide))]
      | true =>
        rw [← hr] at hf
        obtain ⟨j, hj, rfl⟩ : ∃ j : Nat, j < m ∧ q = nI j := by
          have := of_decide_eq_true hf
          exact ⟨q.toInt.toNat, by omega, by rw [fa_eq, nI_toInt (by omega)]; omega⟩
        rw [hr] at hf
        refine ⟨0, (oA (σ (11 + d)) 1 j).toInt64, pS o 15 0, ?_, rel 0, rfl, Or.inr (Or.inr ⟨d, j, hd8, by omega, rfl, rfl, k2, by rw [hs, hf]; rfl, rfl, rfl⟩)⟩
        rw [b1, bd_e, nm_q, if_pos (show oS (pS o 15 0) 15 ≤ 0 from (show (0 : Int32) ≤ 0 by decide)), ix100, inb_nI (show 100 * d + j < 800 by omega) (by decide), gd_t, ixL_nI (by omega), oL_pS, a8 j (by omega)]
    · refine ⟨2, 0, pS o 15 2, ?_, rel 2, rfl, Or.inr (Or.inl ⟨d, hd8, rfl, Or.inl k2, rfl⟩)⟩
      rcases k with k | k | k
      · rw [k]; rfl
      · rw [k]; rfl
      · exact absurd k k2
/-! a copy -/
theorem ix100k {d i k : Nat} : (100 : Int32) * nI d + nI i + nI k = nI (100 * d + i + k) := by rw [lit32, pk_mul, nI_add, nI_add]
theorem oL_22 {o : Ob} {k j : Nat} {v : Int64} (hk : k < 2 ^ 31) : oL (pL o 22 (nI k) v) 22 j = if j = k then v else oL o 22 j := by
  rw [oL_pL, nI_clamp hk]; rfl
theorem oL_ne {o : Ob} {k j : Nat} {i : Int32} {v : Int64} (h : j ≠ k) : oL (pL o k i v) j = oL o j := va_up_ne _ _ h
theorem copy_in {d i n : Nat} {a3 a4 : Int32} (hd : d < 8) (hi : i + n ≤ 100) (K : Ob → Option (Int32 × Ob)) (u : Ob) : ∃ v, M_copy_L137 K (nI d) (nI i) a3 a4 (nI n) FU u 0 = K v ∧ visM u v ∧ ∀ k, k < n → oL v 22 k = oL u 13 (100 * d + i + k) := by
  obtain ⟨v, e, h1, h2⟩ := up_loopE (L := fun N s k => M_copy_L137 K (nI d) (nI i) a3 a4 (nI n) N s (nI k)) n (fun j v => visM u v ∧ ∀ k, k < j → oL v 22 k = oL u 13 (100 * d + i + k)) K (by
    intro N j t hj ⟨q1, q2⟩
    refine ⟨pL t 22 (nI j) (oL t 13 (100 * d + i + j)), ?_, q1.tr (visM_L (by decide)), fun k hk => ?_⟩
    · show M_copy_L137 K (nI d) (nI i) a3 a4 (nI n) (N + 1) t (nI j) = M_copy_L137 K (nI d) (nI i) a3 a4 (nI n) N _ (nI (j + 1))
      rw [M_copy_L137, if_neg (by rw [nI_le' (by omega) (by omega)]; omega), ix100k, inb_nI (show 100 * d + i + j < 800 by omega) (by decide), inb_nI (show j < 100 by omega) (by decide), gd_t, gd_t, ixL_nI (by omega), nm_q, nm_q, nI_1]
    · rw [oL_22 (by omega)]
      by_cases c : k = j
      · rw [if_pos c, c, q1.2.2.2.2.2]
      · rw [if_neg c]; exact q2 k (by omega)) (by
    intro N t _
    show M_copy_L137 K (nI d) (nI i) a3 a4 (nI n) (N + 1) t (nI n) = K t
    rw [M_copy_L137, if_pos (by rw [nI_le' (by omega) (by omega)]; omega)]) u ⟨visM.rf, fun k hk => absurd hk (by omega)⟩ FU (FU_gt (by omega))
  exact ⟨v, e, h1, h2⟩
theorem copy_out {e j n : Nat} (he : e < 8) (hj : j + n ≤ 100) (u : Ob) : ∃ v, M_copy_L174 (nI e) (nI j) (nI n) FU u 0 = some (nI n, v) ∧ (∀ k, oS v k = oS u k) ∧ (∀ q, oA v q = oA u q) ∧ (oL v 22 = oL u 22) ∧ ∀ q, oL v 13 q = if 100 * e + j ≤ q ∧ q < 100 * e + j + n then oL u 22 (q - (100 * e + j)) else oL u 13 q := by
  obtain ⟨v, ev, h1, h2, h3, h4⟩ := up_loopE (L := fun N s k => M_copy_L174 (nI e) (nI j) (nI n) N s (nI k)) n (fun i v => (∀ k, oS v k = oS u k) ∧ (∀ q, oA v q = oA u q) ∧ (oL v 22 = oL u 22) ∧ ∀ q, oL v 13 q = if 100 * e + j ≤ q ∧ q < 100 * e + j + i then oL u 22 (q - (100 * e + j)) else oL u 13 q) (fun v => some (nI n, v)) (by
    intro N i t hi ⟨q1, q2, q3, q4⟩
    refine ⟨pL t 13 (nI (100 * e + j + i)) (oL t 22 i), ?_, q1, q2, (oL_ne (by decide)).trans q3, fun q => ?_⟩
    · show M_copy_L174 (nI e) (nI j) (nI n) (N + 1) t (nI i) = M_copy_L174 (nI e) (nI j) (nI n) N _ (nI (i + 1))
      rw [M_copy_L174, if_neg (by rw [nI_le' (by omega) (by omega)]; omega), inb_nI (show i < 100 by omega) (by decide), ix100k, inb_nI (show 100 * e + j + i < 800 by omega) (by decide), gd_t, gd_t, ixL_nI (by omega), nm_q, nm_q, nI_1]
    · rw [oL_at (by omega), q3, q4]
      by_cases c : q = 100 * e + j + i
      · rw [if_pos c, if_pos (by omega), show q - (100 * e + j) = i by omega]
      · rw [if_neg c]
        by_cases c' : 100 * e + j ≤ q ∧ q < 100 * e + j + i
        · rw [if_pos c', if_pos (by omega)]
        · rw [if_neg c', if_neg (by omega)]) (by
    intro N t _
    show M_copy_L174 (nI e) (nI j) (nI n) (N + 1) t (nI n) = _
    rw [M_copy_L174, if_pos (by rw [nI_le' (by omega) (by omega)]; omega)]) u ⟨fun _ => rfl, fun _ => rfl, rfl, fun q => by rw [if_neg (by omega)]⟩ FU (FU_gt (by omega))
  exact ⟨v, ev, h1, h2, h3, h4⟩
theorem r_copy {n : Nat} {σ : CS} {o : Ob} (h : Rel n σ o) (p1 p2 p3 p4 p5 : Int32) : ok2 (C_copy σ p1 p2 p3 p4 p5) (M_copy o p1 p2 p3 p4 p5) := by
  have H := h.t0
  unfold C_copy M_copy
  simp only [nm_p]
  generalize pS o 15 0 = u at H
  rw [C_isShelf_ok', M_inI, bd_e, bd_e, show (0 : Int64).toInt = 0 from rfl, show (7 : Int64).toInt = 7 from rfl]
  cases hp : rng p1 0 7 with
  | false => exact ⟨-1, σ, u, rfl, rfl, n, H⟩
  | true =>
    rw [b1, b1, C_isShelf_ok', M_inI, bd_e, bd_e, show (0 : Int64).toInt = 0 from rfl, show (7 : Int64).toInt = 7 from rfl]
    cases hq : rng p3 0 7 with
    | false => exact ⟨-1, σ, u, rfl, rfl, n, H⟩
    | true =>
      obtain ⟨d, hd, rfl⟩ := rng_nI (hi := 7) hp (by decide)
      obtain ⟨e, he, rfl⟩ := rng_nI (hi := 7) hq (by decide)
      have hd8 : d < 8 := by omega
      have he8 : e < 8 := by omega
      have hl : d < 2 ^ 31 := by omega
      have hl2 : e < 2 ^ 31 := by omega
      obtain ⟨x1, x2⟩ := hold_any H hd8
      obtain ⟨y1, y2⟩ := hold_any H he8
      obtain ⟨a1, a2, a3, a4, a5, a6, ⟨m, hm, em⟩, a8⟩ := H.2.2.2.2.2.2.2.2 d hd8
      obtain ⟨c1, c2, c3, c4, c5, c6, ⟨w, hw, ew⟩, c8⟩ := H.2.2.2.2.2.2.2.2 e he8
      rw [b1, b1, inb_nI hd8 (by decide), inb_nI he8 (by decide)]
      simp only [gd_p, nI_clamp hl, nI_clamp hl2, ix_nI hl, ix_nI hl2, x1, y1, ← a4, ← c4, ← a6, ← c6, em, ew]
      by_cases g1 : oS (σ (11 + d)) 0 = 0
      · rw [if_pos g1, if_pos g1]; exact ⟨-11, σ, u, rfl, rfl, n, H⟩
      rw [if_neg g1, if_neg g1]
      by_cases g2 : oS (σ (11 + e)) 0 = 0
      · rw [if_pos g2, if_pos g2]; exact ⟨-11, σ, u, rfl, rfl, n, H⟩
      rw [if_neg g2, if_neg g2]
      by_cases g3 : oS (σ (11 + d)) 0 = 2
      case neg => rw [if_neg g3, if_neg g3]; exact ⟨-12, σ, u, rfl, rfl, n, H⟩
      rw [if_pos g3, if_pos g3]
      by_cases g4 : oS (σ (11 + e)) 0 = 2
      case neg => rw [if_neg g4, if_neg g4]; exact ⟨-12, σ, u, rfl, rfl, n, H⟩
      rw [if_pos g4, if_pos g4]
      by_cases g5 : oS (σ (11 + d)) 3 = oS (σ (11 + e)) 3
      case neg => rw [if_neg g5, if_neg g5]; exact ⟨-12, σ, u, rfl, rfl, n, H⟩
      rw [if_pos g5, if_pos g5, hasP em hm, bd_e]
      have z0 : (0 : Int32).toInt = 0 := by decide
      have r5 := fb_rng p5
      have r2 := fb_rng p2
      have r4 := fb_rng p4
      have zm : (nI m).toInt = m := nI_toInt (by omega)
      have zw : (nI w).toInt = w := nI_toInt (by omega)
      by_cases k5 : p5 < 0
      · rw [if_pos k5]
        have f : fits3 m p2 p5 = false := decide_eq_false (by rw [fa_lt] at k5; omega)
        rw [f, b0]; exact ⟨-13, σ, u, rfl, rfl, n, H⟩
      rw [if_neg k5]
      rw [fa_lt] at k5
      by_cases k2 : p2 < 0
      · rw [if_pos k2]
        have f : fits3 m p2 p5 = false := decide_eq_false (by rw [fa_lt] at k2; omega)
        rw [f, b0]; exact ⟨-13, σ, u, rfl, rfl, n, H⟩
      rw [if_neg k2]
      rw [fa_lt] at k2
      have em5 : (nI m - p5).toInt = m - p5.toInt := by rw [fb_subI (by omega) (by omega), zm]
      have ew5 : (nI w - p5).toInt = w - p5.toInt := by rw [fb_subI (by omega) (by omega), zw]
      cases f : fits3 m p2 p5 with
      | false =>
        have f' := of_decide_eq_false f
        rw [b0]
        refine ⟨-13, σ, u, rfl, ?_, n, H⟩
        by_cases k4 : p4 < 0
        · rw [if_pos k4]
        · rw [if_neg k4, if_pos (by rw [fa_lt]; omega)]
      | true =>
        have f' := of_decide_eq_true f
        rw [b1, hasP ew hw, bd_e]
        by_cases k4 : p4 < 0
        · rw [if_pos k4]
          have f2 : fits3 w p4 p5 = false := decide_eq_false (by rw [fa_lt] at k4; omega)
          rw [f2, b0]; exact ⟨-13, σ, u, rfl, rfl, n, H⟩
        have lt : ¬ nI m - p5 < p2 := by rw [fa_lt]; omega
        rw [if_neg k4, if_neg lt]
        rw [fa_lt] at k4
        cases f2 : fits3 w p4 p5 with
        | false =>
          have f2' := of_decide_eq_false f2
          have le : ¬ p4 ≤ nI w - p5 := by rw [fa_le]; omega
          rw [b0, if_neg le]
          exact ⟨-13, σ, u, rfl, rfl, n, H⟩
        | true =>
          have f2' := of_decide_eq_true f2
          have le : p4 ≤ nI w - p5 := by rw [fa_le]; omega
          rw [b1, if_pos le]
          obtain ⟨i, hi31, rfl⟩ : ∃ i : Nat, i < 2 ^ 31 ∧ p2 = nI i := ⟨p2.toInt.toNat, by omega, by rw [fa_eq, nI_toInt (by omega)]; omega⟩
          obtain ⟨j, hj31, rfl⟩ : ∃ i : Nat, i < 2 ^ 31 ∧ p4 = nI i := ⟨p4.toInt.toNat, by omega, by rw [fa_eq, nI_toInt (by omega)]; omega⟩
          obtain ⟨k, hk31, rfl⟩ : ∃ i : Nat, i < 2 ^ 31 ∧ p5 = nI i := ⟨p5.toInt.toNat, by omega, by rw [fa_eq, nI_toInt (by omega)]; omega⟩
          rw [nI_toInt hi31, nI_toInt hk31] at f'
          rw [nI_toInt hj31, nI_toInt hk31] at f2'
          have cp : cpok (nI i) (nI j) (nI k) = true := by
            simp only [cpok, nI_clamp hi31, nI_clamp hj31, nI_clamp hk31, Bool.and_eq_true, Bool.not_eq_true', decide_eq_false_iff_not, decide_eq_true_eq]
            exact ⟨⟨⟨⟨nI_pos hi31, nI_pos hj31⟩, nI_pos hk31⟩, by omega⟩, by omega⟩
          obtain ⟨v, v1, v2, v3⟩ := copy_in (a3 := nI e) (a4 := nI j) hd8 (show i + k ≤ 100 by omega) (fun o29 => M_copy_L174 (nI e) (nI j) (nI k) FU o29 0) u
          obtain ⟨w', w1, w2, w3, w4, w5⟩ := copy_out he8 (show j + k ≤ 100 by omega) v
          rw [cp, gd_p, nI_clamp hi31, nI_clamp hj31, nI_clamp hk31]
          refine ⟨nI k, _, w', rfl, v1.trans w1, n, ?_⟩
          have hA : ∀ q, 1 ≤ q → q ≤ 12 → oA w' q = oA u q := fun q a b => (w3 q).trans (v2.2.2.2.1 q a b)
          refine H.sh he8 ((w2 3).trans v2.1) ((w2 8).trans v2.2.1) ((w2 25).trans v2.2.2.1) (fun q a b => hA q a (by omega)) ((w3 18).trans v2.2.2.2.2.1) ?_ (fun e' he' hne => ?_)
          · unfold shR
            rw [hA 8 (by decide) (by decide), hA 9 (by decide) (by decide), hA 10 (by decide) (by decide), hA 11 (by decide) (by decide), hA 12 (by decide) (by decide)]
            refine ⟨c1, c2, c3, c4, c5, c6, ⟨w, hw, ew⟩, fun q hq => ?_⟩
            rw [oA_pRq, if_pos rfl, w5, v2.2.2.2.2.2]
            by_cases c : j ≤ q ∧ q < j + k
            · rw [pk_cpy_in c.1 c.2, if_pos (by omega), show 100 * e + q - (100 * e + j) = q - j by omega, v3 _ (by omega), a8 _ (by omega), Nat.add_assoc]
            · rw [pk_cpy_out (by omega), if_neg (by omega)]; exact c8 q hq
          · exact (H.2.2.2.2.2.2.2.2 e' he').oth (fun q a b => by rw [hA q (by omega) b]) (fun q hq => by rw [w5, if_neg (by omega), v2.2.2.2.2.2])
/-! a failure -/
def tossS (k f : Int32) : Int32 := if k = 1 then -15 else if k = 4 then -15 else if k = 7 then -15 else if f = 0 then -15 else if k = 2 then 100 + f else if k = 5 then 100 + f else if k = 6 then 200 + 2 * f else f
def C_toss (σ : CS) (p1 : Int32) : Option Int32 :=
  bd (C_oneRefusal σ p1) fun (r1 : Int32) =>
  if r1 = (0 : Int32) then
    gd (inb p1 8) <|
    gd (inb (oS (σ (11 + p1.toNatClampNeg)) 1) 8) <|
    some (tossS (oS (σ (11 + p1.toNatClampNeg)) 1) (oS (σ (11 + p1.toNatClampNeg)) 2))
  else
    some r1
theorem r_toss {n : Nat} {σ : CS} {o : Ob} (h : Rel n σ o) (p : Int32) : ok1 (C_toss σ p) σ (M_toss o p) := by
  have H := h.t0
  unfold C_toss M_toss
  rw [nm_q]
  generalize pS o 15 0 = u at H
  rcases hold1 H p with ⟨r, e1, e2, e3, e4⟩ | ⟨e1, e2, d, hd, rfl, e3⟩
  · rw [e1, e2, bd_e, bd_e, bd_e, if_neg e3, if_neg e4]
    exact ⟨r, u, rfl, rfl, n, H⟩
  · obtain ⟨-, -, a3, -⟩ := H.2.2.2.2.2.2.2.2 d hd
    obtain ⟨b1', b2, b3, -⟩ := a3 e3
    have i8 : inb (nI d) 8 = true := inb_nI (by omega) (by decide)
    simp only [e1, e2, bd_e, if_pos (show (0 : Int32) = 0 from rfl), if_pos (show (0 : Int32) ≤ 0 by decide), i8, gd_t, nm_q, jn_e, nI_clamp (show d < 2 ^ 31 by omega), ix_nI (show d < 2 ^ 31 by omega), kd8_inb b3, ← b1', ← b2]
    refine ⟨_, u, rfl, ?_, n, H⟩
    unfold tossS
    generalize oS (σ (11 + d)) 1 = k
    generalize oS (σ (11 + d)) 2 = f
    by_cases g1 : k = 1
    · rw [if_pos g1, if_pos g1]
    rw [if_neg g1, if_neg g1]
    by_cases g2 : k = 4
    · rw [if_pos g2, if_pos g2]
    rw [if_neg g2, if_neg g2]
    by_cases g3 : k = 7
    · rw [if_pos g3, if_pos g3]
    rw [if_neg g3, if_neg g3]
    by_cases g4 : f = 0
    · rw [if_pos g4, if_pos g4]
    rw [if_neg g4, if_neg g4]
    by_cases g5 : k = 2
    · rw [if_pos g5, if_pos g5]
    rw [if_neg g5, if_neg g5]
    by_cases g6 : k = 5
    · rw [if_pos g6, if_pos g6]
    rw [if_neg g6, if_neg g6]
    by_cases g7 : k = 6
    · rw [if_pos g7, if_pos g7]
    rw [if_neg g7, if_neg g7]

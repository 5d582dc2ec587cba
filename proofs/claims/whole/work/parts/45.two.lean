/-! two, each caring or not -/
theorem M_again_x {o u : Ob} (hz : zb o) (t : TH o u) : ∃ v, M_again u = some v ∧ TH o v ∧ visM o v ∧ AEq v o ∧ (∀ j, 8 ≤ j → oA v j = oA u j) ∧ (∀ k, k ≠ 3 → k ≠ 8 → k ≠ 26 → k ≠ 27 → k ≠ 28 → oS v k = oS u k) := by
  obtain ⟨v, e, h1, h2, h3⟩ := M_again_ok' hz t
  obtain ⟨s, f, k⟩ := M_back (o := u) (C := 17) (Or.inl rfl)
  have e' : M_again u = some s := by
    unfold M_again
    rw [show ((17 : Int32)) = nI 17 from rfl, f]; rfl
  have ev : s = v := by rw [e] at e'; exact (Option.some.inj e').symm
  subst ev
  exact ⟨s, e, h1, h2, h3, fun j a => k.2.2.2.2.1 j a, k.2.2.2.1⟩
def crS (t : Ob) (p : Nat) (x : Int32) (b : Nat) : Ob := if b = 1 then pA t 6 (nI p) x else t
theorem AEq.cr {t o : Ob} (e : AEq t o) {p b : Nat} {x : Int32} : AEq (crS t p x b) (crS o p x b) := by
  unfold crS; split
  · exact e.uA
  · exact e
theorem cr_S {t : Ob} {p b k : Nat} {x : Int32} : oS (crS t p x b) k = oS t k := by unfold crS; split <;> rfl
theorem wfA.cr {n p b c : Nat} {t : Ob} (w : wfA n t) (hp : p < n) (hc : c < 5) : wfA n (crS t p (nI c) b) := by
  have h7 := w.n7
  unfold crS; split
  · exact w.t6 (by omega) (Or.inl ⟨c, hc, rfl⟩)
  · exact w
theorem zb_cr {p b : Nat} {t : Ob} {x : Int32} (z : zb t) (hp : p < 7) : zb (crS t p x b) := by
  unfold crS; split
  · exact zb_pA z (by omega) (Or.inl hp)
  · exact z
theorem TH.cr {p b : Nat} {o u : Ob} {x : Int32} (t : TH o u) (hp : p < 7) : TH o (crS u p x b) := by
  unfold crS; split
  · exact t.pA (by omega) (Or.inl ⟨by decide, by decide, hp⟩)
  · exact t
theorem nI_is1 {b : Nat} (hb : b < 2) : (nI b = (1 : Int32)) = (b = 1) := by
  show (nI b = nI 1) = _
  rw [nI_eq' (by omega) (by omega)]
theorem cr_C {α : Type} {τ : CS} {t : Ob} {p b : Nat} {x : Int32} (hb : b < 2) (i7 : inb (nI p) 7 = true) (F : CS → Option α) : bd (if nI b = (1 : Int32) then gd (inb (nI p) 7) <| nm (va_up (va_up τ 3 t) 3 (pA ((va_up τ 3 t) 3) 6 (nI p) x)) fun s => some s else some (va_up τ 3 t)) F = F (va_up τ 3 (crS t p x b)) := by
  unfold crS
  by_cases c : b = 1
  · subst c
    rw [if_pos (show nI 1 = (1 : Int32) from rfl), if_pos rfl, gd_b i7, nm_p, bd_p, vu_vu, vu_at]
  · have c' : ¬ nI b = (1 : Int32) := by rw [nI_is1 hb]; exact c
    rw [if_neg c', if_neg c, bd_p]
theorem cr_M {α : Type} {u : Ob} {p b : Nat} {x : Int32} (hb : b < 2) (hp : p < 7) (F : Ob → Option α) : (bd (if nI b = (1 : Int32) then some x else gd (inb (nI p) 7) <| some (ix (oA u 6) (nI p))) fun s => gd (inb (nI p) 7) <| nm (pA u 6 (nI p) s) F) = F (crS u p x b) := by
  have i7 : inb (nI p) 7 = true := inb_nI hp (by decide)
  unfold crS
  by_cases c : b = 1
  · subst c
    rw [if_pos (show nI 1 = (1 : Int32) from rfl), if_pos rfl, bd_p, gd_b i7, nm_p]
  · have c' : ¬ nI b = (1 : Int32) := by rw [nI_is1 hb]; exact c
    rw [if_neg c', if_neg c, gd_b i7, bd_p, gd_b i7, nm_p, ix_nI (by omega), pA_id (by omega)]
theorem num4 {i : Nat} (h : i < 4) : shr32 (nI i) 1 = nI (i / 2) ∧ nI i &&& 1 = nI (i % 2) ∧ nI i / 2 = nI (i / 2) ∧ rem32 (nI i) 2 = nI (i % 2) := by
  rcases (show i = 0 ∨ i = 1 ∨ i = 2 ∨ i = 3 by omega) with rfl | rfl | rfl | rfl <;> decide
theorem num4b {i : Nat} (h : i < 4) : nI i ^^^ 2 = nI ((i + 2) % 4) ∧ nI i ^^^ 1 = nI (i / 2 * 2 + (1 - i % 2)) ∧ 2 * (1 - nI i / 2) + rem32 (nI i) 2 = nI ((i + 2) % 4) ∧ 2 * (nI i / 2) + 1 - rem32 (nI i) 2 = nI (i / 2 * 2 + (1 - i % 2)) := by
  rcases (show i = 0 ∨ i = 1 ∨ i = 2 ∨ i = 3 by omega) with rfl | rfl | rfl | rfl <;> decide
theorem visC_0 {σ : CS} {k : Nat} {i v : Int32} : visC σ (va_up σ 0 (pA (σ 0) k i v)) := ⟨vu_ne (by decide), vu_ne (by decide), by rw [vu_at]; rfl, fun a h1 h2 h3 => by rw [vu_ne (by omega)]; exact h3, fun d _ => vu_ne (by omega)⟩
theorem worth_21 {o : Ob} {i v p : Int32} : worthS (pA o 21 i v) p = worthS o p := rfl
theorem two_loop {n a b c m : Nat} {σ : CS} {o : Ob} (R : Rel n σ o) (ha : a < n) (hb : b < n) (hc : c < 5) (hm : m < 1000) (KC : CS → Option (Int32 × CS)) (KM : Ob → Option (Int32 × Ob)) : ∀ r i N1 N2 (τ : CS) (u : Ob), i + r = 4 → r < N1 → r < N2 → visC σ τ → TH o u → AEq u o → visM o u → (∀ j, j < i → oA (τ 0) 3 j = oA u 21 (2 * j) ∧ oA (τ 0) 3 (4 + j) = oA u 21 (2 * j + 1)) →
    ∃ τ' u', C_two_L52 KC (nI a) (nI b) (nI c) (nI m) N1 τ (nI i) = KC τ' ∧ M_two_L55 KM (nI a) (nI b) (nI c) (nI m) N2 u (nI i) = KM u' ∧ visC σ τ' ∧ visM o u' ∧ ∀ j, j < 4 → oA (τ' 0) 3 j = oA u' 21 (2 * j) ∧ oA (τ' 0) 3 (4 + j) = oA u' 21 (2 * j + 1) := by
  have h7 := R.n7
  have ia : inb (nI a) 7 = true := inb_nI (by omega) (by decide)
  have ib : inb (nI b) 7 = true := inb_nI (by omega) (by decide)
  intro r
  induction r with
  | zero =>
    intro i N1 N2 τ u hi h1 h2 hv ht haq hmv hg
    obtain ⟨N1, rfl⟩ : ∃ m, N1 = m + 1 := ⟨N1 - 1, by omega⟩
    obtain ⟨N2, rfl⟩ : ∃ m, N2 = m + 1 := ⟨N2 - 1, by omega⟩
    have e : (4 : Int32) ≤ nI i := by show nI 4 ≤ nI i; rw [nI_le' (by omega) (by omega)]; omega
    exact ⟨τ, u, by rw [C_two_L52, if_pos e], by rw [M_two_L55, if_pos e], hv, hmv, fun j hj => hg j (by omega)⟩
  | succ r ih =>
    intro i N1 N2 τ u hi h1 h2 hv ht haq hmv hg
    obtain ⟨N1, rfl⟩ : ∃ m, N1 = m + 1 := ⟨N1 - 1, by omega⟩
    obtain ⟨N2, rfl⟩ : ∃ m, N2 = m + 1 := ⟨N2 - 1, by omega⟩
    have e : ¬ (4 : Int32) ≤ nI i := by show ¬ nI 4 ≤ nI i; rw [nI_le' (by omega) (by omega)]; omega
    obtain ⟨n1, n2, n3, n4⟩ := num4 (show i < 4 by omega)
    obtain ⟨t, t1, t2, t3⟩ := mind_take R (a := 3) (by decide) hv
    have wP : wfA n (crS (crS (σ 1) a (nI c) (i / 2)) b (nI c) (i % 2)) := (R.wf.cr ha hc).cr hb hc
    have zP : zb (crS (crS (σ 1) a (nI c) (i / 2)) b (nI c) (i % 2)) := zb_cr (zb_cr R.1.2.2.2.2 (by omega)) (by omega)
    have aS : AEq u (σ 1) := haq.tr R.2.2.2.1.sm
    have dC : isDay n (oS o 8) (crS (crS (σ 1) a (nI c) (i / 2)) b (nI c) (i % 2)) 0 (crS (crS t a (nI c) (i / 2)) b (nI c) (i % 2)) := ⟨cr_S.trans (cr_S.trans t2.1), cr_S.trans (cr_S.trans t2.2.1), t2.2.2.cr.cr⟩
    have dM : isDayM n (oS o 8) (crS (crS (σ 1) a (nI c) (i / 2)) b (nI c) (i % 2)) 0 (crS (crS u a (nI c) (i / 2)) b (nI c) (i % 2)) := ⟨cr_S.trans (cr_S.trans (hmv.1.trans R.2.1)), cr_S.trans (cr_S.trans (by rw [hmv.2.1, nI_0, Int32.add_zero])), aS.cr.cr⟩
    have th : TH o (crS (crS u a (nI c) (i / 2)) b (nI c) (i % 2)) := (ht.cr (by omega)).cr (by omega)
    obtain ⟨v, v1, v2⟩ := T_passAll_ok' wP hm dC
    obtain ⟨w, w1, w2, w3⟩ := M_goDays_ok' wP hm dM
    have tw : TH o w := th.rest w3 (w2.zb wP zP)
    have ew : ∀ p, worthS w p = worthS v p := fun p => (w2.2.2.tr v2.2.2.sm).worth
    have hv3 : visC σ (va_up τ 3 v) := hv.tr (visC_mind (by decide) (v2.zb wP zP))
    have e1 : (2 : Int32) * nI i = nI (2 * i) := by rw [lit32, pk_mul]
    have e2 : nI (2 * i) + (1 : Int32) = nI (2 * i + 1) := nI_1 _
    have e4 : (4 : Int32) + nI i = nI (4 + i) := by rw [lit32, nI_add]
    have tw2 : TH o (pA (pA w 21 (nI (2 * i)) (worthS v (nI a) - nI (i / 2))) 21 (nI (2 * i + 1)) (worthS v (nI b) - nI (i % 2))) := (tw.pA (by omega) (Or.inr (by decide))).pA (by omega) (Or.inr (by decide))
    obtain ⟨x, x1, x2, x3, x4, x5, x6⟩ := M_again_x R.zo tw2
    have g3 : ∀ j, 8 ≤ j → j ≠ 6 → oA w j = oA u j := fun j a1 a2 => (w3.2.1 j a1).trans (by unfold crS; split <;> split <;> simp only [pA_ne a2])
    rw [C_two_L52, M_two_L55, if_neg e, if_neg e, n1, n2, n3, n4, nm_q, nm_q, t1, bd_e, nm_q, cr_C (by omega) ia, cr_C (by omega) ib, cr_M (by omega) (by omega), cr_M (by omega) (by omega), vu_at, v1, w1, bd_e, bd_e, nm_q, vu_vu, T_wealth_ok', M_worthOf_ok', bd_e, bd_e, vu_at, ew, inb_nI (show i < 8 by omega) (by decide), gd_t, nm_q, e1, inb_nI (show 2 * i < 8 by omega) (by decide), gd_t, nm_q, M_worthOf_ok', worth_21, ew, bd_e, vu_ne (show (3 : Nat) ≠ 0 by decide), vu_at, T_wealth_ok', bd_e, e4, inb_nI (show 4 + i < 8 by omega) (by decide), gd_t, nm_q, e2, inb_nI (show 2 * i + 1 < 8 by omega) (by decide), gd_t, nm_q, nm_q, x1, bd_e, nm_q, nI_1, vu_at, vu_vu, vu_ne (show (0 : Nat) ≠ 3 by decide)]
    have e0 : (va_up τ 3 v) 0 = τ 0 := vu_ne (by decide)
    have hv4 : visC σ (va_up (va_up τ 3 v) 0 (pA (pA (τ 0) 3 (nI i) (worthS v (nI a) - nI (i / 2))) 3 (nI (4 + i)) (worthS v (nI b) - nI (i % 2)))) := by
      have y := (hv3.tr (visC_0 (k := 3) (i := nI i) (v := worthS v (nI a) - nI (i / 2)))).tr (visC_0 (k := 3) (i := nI (4 + i)) (v := worthS v (nI b) - nI (i % 2)))
      rw [vu_at, vu_vu, e0] at y
      exact y
    refine ih (i + 1) N1 N2 _ x (by omega) (by omega) (by omega) hv4 x2 x4 x3 (fun j hj => ?_)
    rw [vu_at, x5 21 (by decide)]
    rw [pA_at (by omega), pA_at (by omega), pA_at (by omega), pA_at (by omega), pA_at (by omega), pA_at (by omega), pA_at (by omega), pA_at (by omega), g3 21 (by decide) (by decide)]
    by_cases cj : j = i
    · subst cj
      rw [if_neg (by omega), if_pos rfl, if_neg (by omega), if_pos rfl, if_pos rfl, if_pos rfl]
      exact ⟨rfl, rfl⟩
    · rw [if_neg (by omega), if_neg cj, if_neg (by omega), if_neg (by omega), if_neg (by omega), if_neg (by omega), if_neg (by omega), if_neg (by omega)]
      exact hg j (by omega)
theorem two_pick {τ : CS} {u : Ob} (g : ∀ j, j < 4 → oA (τ 0) 3 j = oA u 21 (2 * j) ∧ oA (τ 0) 3 (4 + j) = oA u 21 (2 * j + 1)) : ∀ r i N1 N2, i + r = 4 → r < N1 → r < N2 → ∃ y, C_two_L169 (fun (x5_45 : Int32) => some ((((10 : Int32) * (shr32 x5_45 (1 : Int32))) + (x5_45 &&& (1 : Int32))), τ)) τ N1 (nI i) = some (y, τ) ∧ M_two_L168 (fun (x5_47 : Int32) => some ((((10 : Int32) * (x5_47 / (2 : Int32))) + (rem32 x5_47 (2 : Int32))), u)) u N2 (nI i) = some (y, u) := by
  intro r
  induction r with
  | zero =>
    intro i N1 N2 hi h1 h2
    obtain ⟨N1, rfl⟩ : ∃ m, N1 = m + 1 := ⟨N1 - 1, by omega⟩
    obtain ⟨N2, rfl⟩ : ∃ m, N2 = m + 1 := ⟨N2 - 1, by omega⟩
    have e : (4 : Int32) ≤ nI i := by show nI 4 ≤ nI i; rw [nI_le' (by omega) (by omega)]; omega
    exact ⟨-4, by rw [C_two_L169, if_pos e], by rw [M_two_L168, if_pos e]⟩
  | succ r ih =>
    intro i N1 N2 hi h1 h2
    obtain ⟨N1, rfl⟩ : ∃ m, N1 = m + 1 := ⟨N1 - 1, by omega⟩
    obtain ⟨N2, rfl⟩ : ∃ m, N2 = m + 1 := ⟨N2 - 1, by omega⟩
    have hi4 : i < 4 := by omega
    have e : ¬ (4 : Int32) ≤ nI i := by show ¬ nI 4 ≤ nI i; rw [nI_le' (by omega) (by omega)]; omega
    obtain ⟨n1, n2, n3, n4⟩ := num4 hi4
    obtain ⟨m1, m2, m3, m4⟩ := num4b hi4
    generalize hp : (i + 2) % 4 = p at m1 m3
    generalize hq : i / 2 * 2 + (1 - i % 2) = q at m2 m4
    have hp4 : p < 4 := by omega
    have hq4 : q < 4 := by omega
    have e1 : ∀ x, (2 : Int32) * nI x = nI (2 * x) := fun x => by rw [lit32, pk_mul]
    have e2 : ∀ x, nI (2 * x) + (1 : Int32) = nI (2 * x + 1) := fun x => nI_1 _
    have e4 : ∀ x, (4 : Int32) + nI x = nI (4 + x) := fun x => by rw [lit32, nI_add]
    rw [C_two_L169, M_two_L168, if_neg e, if_neg e, m3, m4]
    simp only [m1, m2, nm_q, jn_e, e1, e2, e4, nI_1, inb_nI (show i < 8 by omega) (show 8 < 2 ^ 31 by decide), inb_nI (show p < 8 by omega) (show 8 < 2 ^ 31 by decide), inb_nI (show 2 * i < 8 by omega) (show 8 < 2 ^ 31 by decide), inb_nI (show 2 * p < 8 by omega) (show 8 < 2 ^ 31 by decide), inb_nI (show 4 + i < 8 by omega) (show 8 < 2 ^ 31 by decide), inb_nI (show 4 + q < 8 by omega) (show 8 < 2 ^ 31 by decide), inb_nI (show 2 * i + 1 < 8 by omega) (show 8 < 2 ^ 31 by decide), inb_nI (show 2 * q + 1 < 8 by omega) (show 8 < 2 ^ 31 by decide), gd_t, ix_nI (show i < 2 ^ 31 by omega), ix_nI (show p < 2 ^ 31 by omega), ix_nI (show 2 * i < 2 ^ 31 by omega), ix_nI (show 2 * p < 2 ^ 31 by omega), ix_nI (show 4 + i < 2 ^ 31 by omega), ix_nI (show 4 + q < 2 ^ 31 by omega), ix_nI (show 2 * i + 1 < 2 ^ 31 by omega), ix_nI (show 2 * q + 1 < 2 ^ 31 by omega), (g i hi4).1, (g p hp4).1, (g i hi4).2, (g q hq4).2, n1, n2, n3, n4]
    have go := ih (i + 1) N1 N2 (by omega) (by omega) (by omega)
    by_cases c1 : oA u 21 (2 * i) < oA u 21 (2 * p)
    · rw [if_pos c1, if_pos c1]; exact go
    · rw [if_neg c1, if_neg c1]
      by_cases c2 : oA u 21 (2 * i + 1) < oA u 21 (2 * q + 1)
      · rw [if_pos c2, if_pos c2]; exact go
      · rw [if_neg c2, if_neg c2]; exact ⟨_, rfl, rfl⟩
theorem r_two {n : Nat} {σ : CS} {o : Ob} (h : Rel n σ o) (p1 p2 p3 p4 : Int32) : ok2 (C_two σ p1 p2 p3 p4) (M_two o p1 p2 p3 p4) := by
  have h7 := h.n7
  have H := h.t0
  unfold C_two M_two
  simp only [nm_p]
  generalize pS o 15 0 = u at H
  have z1 : (1 : Int32).toInt = 1 := by decide
  have z30 : (30 : Int32).toInt = 30 := by decide
  rw [T_hasOne_ok' h.1.2.1 h7, M_isOne_ok' H.2.1 h7, bd_e, bd_e]
  cases hp : rng p1 0 ((n : Int) - 1) with
  | false => exact ⟨-1, σ, u, rfl, rfl, n, H⟩
  | true =>
    rw [b1, b1, T_hasOne_ok' h.1.2.1 h7, M_isOne_ok' H.2.1 h7, bd_e, bd_e]
    cases hq : rng p2 0 ((n : Int) - 1) with
    | false => exact ⟨-1, σ, u, rfl, rfl, n, H⟩
    | true =>
      rw [b1, b1]
      by_cases c12 : p1 = p2
      · rw [if_pos c12, if_pos c12]; exact ⟨-1, σ, u, rfl, rfl, n, H⟩
      rw [if_neg c12, if_neg c12, C_isThing_ok', M_isThing_ok', bd_e, bd_e]
      cases ht : rng p3 0 4 with
      | false => exact ⟨-1, σ, u, rfl, rfl, n, H⟩
      | true =>
        rw [b1, b1, M_inI, bd_e, show (1 : Int64).toInt = 1 from rfl, show (30 : Int64).toInt = 30 from rfl]
        cases hw : rng p4 1 30 with
        | false =>
          have hw' := of_decide_eq_false hw
          refine ⟨-1, σ, u, ?_, by rw [b0], n, H⟩
          by_cases c : p4 < 1
          · rw [if_pos c]
          · have c' : ¬ p4 ≤ 30 := by rw [fa_lt] at c; rw [fa_le]; omega
            rw [if_neg c, if_neg c']
        | true =>
          have hw' := of_decide_eq_true hw
          obtain ⟨a, ha, rfl⟩ := rng_n hp h7
          obtain ⟨b, hb, rfl⟩ := rng_n hq h7
          obtain ⟨c, hc, rfl⟩ := rng_nI (hi := 4) ht (by decide)
          obtain ⟨m, hm, rfl⟩ : ∃ m : Nat, m ≤ 30 ∧ p4 = nI m := ⟨p4.toInt.toNat, by omega, by rw [fa_eq, nI_toInt (by omega)]; omega⟩
          rw [nI_toInt (by omega)] at hw'
          have k1 : ¬ nI m < 1 := by rw [fa_lt, nI_toInt (by omega)]; omega
          have k2 : nI m ≤ 30 := by rw [fa_le, nI_toInt (by omega)]; omega
          obtain ⟨s, f1, t1, v1, w1⟩ := M_think_ok' H.zo
          rw [if_neg k1, if_pos k2, b1, f1, bd_p]
          obtain ⟨τ', u', e1, e2, e3, e4, e5⟩ := two_loop H ha hb (show c < 5 by omega) (show m < 1000 by omega) (fun (σ36 : CS) =>
                  C_two_L169 (fun (x5_45 : Int32) =>
                      some ((((10 : Int32) * (shr32 x5_45 (1 : Int32))) + (x5_45 &&& (1 : Int32))), σ36)) σ36 FU (0 : Int32)) (fun (o36 : Ob) =>
                M_two_L168 (fun (x5_47 : Int32) =>
                    some ((((10 : Int32) * (x5_47 / (2 : Int32))) + (rem32 x5_47 (2 : Int32))), o36)) o36 FU (0 : Int32)) 4 0 FU FU σ s rfl (FU_gt (by decide)) (FU_gt (by decide)) visC.rf t1 w1 v1 (fun j hj => absurd hj (by omega))
          obtain ⟨y, y1, y2⟩ := two_pick e5 4 0 FU FU rfl (FU_gt (by decide)) (FU_gt (by decide))
          exact ⟨y, τ', u', e1.trans y1, e2.trans y2, n, (H.c e3).m e4⟩

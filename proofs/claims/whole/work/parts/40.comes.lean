/-! a town on both sides, when it changes -/
def TK (n : Nat) (t u : Ob) : Prop := tok n t ∧ oS u 3 = nI n ∧ oS t 2 = oS u 8 ∧ AEq t u
/-- what of the reference is no town -/
def visR (o u : Ob) : Prop := oS u 25 = oS o 25 ∧ (∀ j, 8 ≤ j → j ≤ 12 → oA u j = oA o j) ∧ oA u 18 = oA o 18 ∧ oL u 13 = oL o 13
theorem restM.vis {o u : Ob} (r : restM o u) : visR o u := ⟨r.1 25 (by decide) (by decide), fun j a _ => r.2.1 j a, r.2.1 18 (by decide), by show u.2.2 13 = _; rw [r.2.2]; rfl⟩
theorem TH.vis {o u : Ob} (t : TH o u) : visR o u := ⟨t.2.1, t.2.2.1, t.2.2.2.1, t.2.2.2.2.1⟩
theorem Rel.tk0 {n : Nat} {σ : CS} {o : Ob} (h : Rel n σ o) : TK n (σ 1) o := ⟨h.1, h.2.1, h.2.2.1, h.2.2.2.1⟩
theorem Rel.tk {n m : Nat} {σ τ : CS} {o t u : Ob} (h0 : Rel n σ o) (v : visC σ τ) (k : TK m t u) (r : visR o u) : Rel m (va_up τ 1 t) u := by
  obtain ⟨h1, h2, h3, h4, h5, h6, h8, h9, h10⟩ := h0.c v
  obtain ⟨k1, k2, k3, k4⟩ := k
  have r25 := r.1
  refine ⟨by rw [vu_at]; exact k1, k2, by rw [vu_at]; exact k3, by rw [vu_at]; exact k4, fun a x y => by rw [vu_ne (by omega)]; exact h5 a x y, by rw [vu_ne (by decide)]; exact h6.trans r25.symm, by rw [r25]; exact h8, fun e => ?_, fun d hd => ?_⟩
  · rw [vu_ne (by decide), r.2.2.1]
    exact h9 (r25.symm.trans e)
  · rw [vu_ne (by omega)]
    have hs := h10 d hd
    unfold shR at hs ⊢
    rw [r.2.1 8 (by decide) (by decide), r.2.1 9 (by decide) (by decide), r.2.1 10 (by decide) (by decide), r.2.1 11 (by decide) (by decide), r.2.1 12 (by decide) (by decide), r.2.2.2]
    exact hs
/-! one more -/
def arrS (t : Ob) (n : Nat) (k f c : Int32) : Ob := pA (pA (pA t 4 (nI n) k) 5 (nI n) f) 6 (nI n) c
theorem arr4 {t : Ob} {n : Nat} {k f c : Int32} (hn : n < 7) (p : Nat) : oA (arrS t n k f c) 4 p = if p = n then k else oA t 4 p := by
  unfold arrS; rw [pA_ne (by decide), pA_ne (by decide), pA_at (by omega)]
theorem arr5 {t : Ob} {n : Nat} {k f c : Int32} (hn : n < 7) (p : Nat) : oA (arrS t n k f c) 5 p = if p = n then f else oA t 5 p := by
  unfold arrS; rw [pA_ne (by decide), pA_at (by omega), pA_ne (by decide)]
theorem arr6 {t : Ob} {n : Nat} {k f c : Int32} (hn : n < 7) (p : Nat) : oA (arrS t n k f c) 6 p = if p = n then c else oA t 6 p := by
  unfold arrS; rw [pA_at (by omega), pA_ne (by decide), pA_ne (by decide)]
theorem arrN {t : Ob} {n j : Nat} {k f c : Int32} (hj : j ≠ 4 ∧ j ≠ 5 ∧ j ≠ 6) : oA (arrS t n k f c) j = oA t j := by
  unfold arrS; rw [pA_ne hj.2.2, pA_ne hj.2.1, pA_ne hj.1]
theorem wfA.arr {n : Nat} {t : Ob} {k f c : Int32} (h : wfA n t) (hn : n < 7) (hk : kd8 k) (hf : ∃ j, j < 10 ∧ f = nI j) (hc : (∃ q, q < 5 ∧ c = nI q) ∨ c = nI 9) : wfA (n + 1) (arrS t n k f c) := by
  obtain ⟨h1, h2, h3, h4, h5, h6, h7, h8⟩ := h
  refine ⟨by omega, fun p hp => ?_, fun p hp => ?_, fun p hp => ?_, fun q hq => ?_, fun q hq => ?_, fun q hq => ?_, fun q hq => ?_⟩
  · rw [arr4 hn]; split
    · exact hk
    · exact h2 p (by omega)
  · rw [arr5 hn]; split
    · exact hf
    · exact h3 p (by omega)
  · rw [arr6 hn]; split
    · exact hc
    · exact h4 p (by omega)
  · rw [arrN (by decide)]
    rcases h5 q hq with ⟨x, hx, e⟩ | e
    · exact Or.inl ⟨x, by omega, e⟩
    · exact Or.inr e
  · rw [arrN (by decide)]; exact h6 q hq
  · rw [arrN (by decide)]; exact h7 q hq
  · rw [arrN (by decide)]; exact h8 q hq
theorem care_of {c : Int32} (hc : (∃ q, q < 5 ∧ c = nI q) ∨ c = nI 9) : (rng c 0 4 || c == 9) = true := by
  rcases hc with ⟨q, hq, rfl⟩ | rfl
  · have e : rng (nI q) 0 4 = true := rng_of (hi := 4) (by omega) (by decide)
    rw [e]; rfl
  · rfl
theorem gd_b {α : Type} {b : Bool} {k : Option α} (h : b = true) : gd b k = k := by subst h; rfl
theorem jn_p {α β : Type} {a : α} {k : α → Option β} : jn a k = k a := Eq.trans rfl rfl
theorem come_loop {n : Nat} {X : Ob} {K : Ob → Option (Int32 × Ob)} (hn : n < 7) (X3 : oS X 3 = nI n) (z : ∀ i, i < 5 → oA X 7 (n * 5 + i) = 0) : M_oneComes_L67 K 1 FU X 0 = K X := by
  obtain ⟨s, e, es⟩ := up_loopE (L := fun N s i => M_oneComes_L67 K 1 N s (nI i)) 5 (fun _ s => s = X) K (by
    intro N i s hi es
    subst es
    refine ⟨_, ?_, rfl⟩
    show M_oneComes_L67 K 1 (N + 1) s (nI i) = M_oneComes_L67 K 1 N s (nI (i + 1))
    have ep := pA_id (o := s) (j := 7) (i := n * 5 + i) (by omega)
    rw [z i hi] at ep
    rw [M_oneComes_L67, if_neg (by show ¬ nI 5 ≤ nI i; rw [nI_le' (by omega) (by omega)]; omega), X3, ixkn', inb_nI (show n * 5 + i < 35 by omega) (by decide), gd_t, nm_q, nm_q, nI_1, ep]) (by
    intro N s _
    rw [M_oneComes_L67, if_pos (by decide)]) X rfl FU (FU_gt (by decide))
  subst es
  exact e
theorem T_arr {n j g : Nat} {t : Ob} {c : Int32} (hn : n < 7) (h1 : oS t 1 = nI n) (hj : j < 8) (hg : g < 10) (hcb : (rng c 0 4 || c == 9) = true) : T_arrive t (nI j) (nI g) c = some (1, pS (arrS t n (nI j) (nI g) c) 1 (nI (n + 1))) := by
  have n7 : ¬ (7 : Int32) ≤ nI n := by show ¬ nI 7 ≤ nI n; rw [nI_le' (by omega) (by omega)]; omega
  have i7 : inb (nI n) 7 = true := inb_nI hn (by decide)
  have rj : rng (nI j) 0 7 = true := rng_of (hi := 7) (by omega) (by decide)
  have rg : rng (nI g) 0 9 = true := rng_of (hi := 9) (by omega) (by decide)
  unfold T_arrive
  rw [h1, if_neg n7, C_within_ok', bd_e, show (7 : Int32).toInt = 7 from rfl, rj, b1, C_within_ok', bd_e, show (9 : Int32).toInt = 9 from rfl, rg, b1, C_isCare_ok', bd_e, hcb, b1]
  have q1 : oS (pA t 4 (nI n) (nI j)) 1 = nI n := h1
  have q2 : oS (pA (pA t 4 (nI n) (nI j)) 5 (nI n) (nI g)) 1 = nI n := h1
  have q3 : pA (pA (pA t 4 (nI n) (nI j)) 5 (nI n) (nI g)) 6 (nI n) c = arrS t n (nI j) (nI g) c := rfl
  have X3 : oS (arrS t n (nI j) (nI g) c) 1 = nI n := h1
  rw [gd_b i7, nm_p, q1, gd_b i7, nm_p, q2, gd_b i7, nm_p, q3, X3, nI_1, nm_p]
theorem M_arr {n j g : Nat} {u : Ob} {c : Int32} (hn : n < 7) (k2 : oS u 3 = nI n) (z : ∀ i, n * 5 ≤ i → oA u 7 i = 0) (hj : j < 8) (hcb : (rng c 0 4 || c == 9) = true) : M_oneComes u (nI j) (nI g) c = some (1, pS (arrS u n (nI j) (nI g) c) 3 (nI (n + 1))) := by
  have n7 : ¬ (7 : Int32) ≤ nI n := by show ¬ nI 7 ≤ nI n; rw [nI_le' (by omega) (by omega)]; omega
  have n10 : ¬ (1 : Int32) = 0 := by decide
  have i7 : inb (nI n) 7 = true := inb_nI hn (by decide)
  have n8 : ¬ (8 : Int32) ≤ nI j := by show ¬ nI 8 ≤ nI j; rw [nI_le' (by omega) (by omega)]; omega
  have q1 : oS (pA u 4 (nI n) (nI j)) 3 = nI n := k2
  have q2 : oS (pA (pA u 4 (nI n) (nI j)) 5 (nI n) (nI g)) 3 = nI n := k2
  have q3 : pA (pA (pA u 4 (nI n) (nI j)) 5 (nI n) (nI g)) 6 (nI n) c = arrS u n (nI j) (nI g) c := rfl
  have X3 : oS (arrS u n (nI j) (nI g) c) 3 = nI n := k2
  unfold M_oneComes
  rw [jn_p, if_neg n8, M_isCare_ok', bd_p, hcb, b1, k2, if_neg n7, bd_p, if_neg n10, gd_b i7, nm_p, q1, gd_b i7, nm_p, q2, gd_b i7, nm_p, q3, come_loop hn X3 (fun i hi => by rw [arrN (by decide)]; exact z _ (by omega)), nm_p, X3, nI_1]
  rfl
theorem TK.arrive {n : Nat} {t u : Ob} {k f c : Int32} (h : TK n t u) (hn : n < 7) (hk : kd8 k) (hf : ∃ j, j < 10 ∧ f = nI j) (hc : (∃ q, q < 5 ∧ c = nI q) ∨ c = nI 9) : ∃ t' u', T_arrive t k f c = some (1, t') ∧ M_oneComes u k f c = some (1, u') ∧ TK (n + 1) t' u' ∧ restM u u' := by
  obtain ⟨⟨w, h1, h2, h3, h4⟩, k2, k3, k4⟩ := h
  have wn := w.arr hn hk hf hc
  have hcb := care_of hc
  obtain ⟨j, hj, rfl⟩ := hk
  obtain ⟨g, hg, rfl⟩ := hf
  refine ⟨_, _, T_arr hn h1 hj hg hcb, M_arr hn k2 (fun i hi => by rw [← k4 7 (by decide) (by decide)]; exact h3 i hi) hj hcb, ⟨⟨wn, rfl, h2, fun i hi => ?_, fun q a b i hi => ?_⟩, rfl, k3, (((k4.uA).uA).uA)⟩, ⟨fun q a b => ?_, fun q a => ?_, rfl⟩⟩
  · show oA (arrS t n (nI j) (nI g) c) 7 i = 0
    rw [arrN (by decide)]; exact h3 i (by omega)
  · show oA (arrS t n (nI j) (nI g) c) q i = 0
    by_cases c4 : q = 4
    · subst c4
      have hi' : 7 ≤ i := hi
      rw [arr4 hn, if_neg (by omega)]; exact h4 4 (by decide) (by decide) i hi
    · by_cases c5 : q = 5
      · subst c5
        have hi' : 7 ≤ i := hi
        rw [arr5 hn, if_neg (by omega)]; exact h4 5 (by decide) (by decide) i hi
      · by_cases c6 : q = 6
        · subst c6
          have hi' : 7 ≤ i := hi
          rw [arr6 hn, if_neg (by omega)]; exact h4 6 (by decide) (by decide) i hi
        · rw [arrN ⟨c4, c5, c6⟩]; exact h4 q a b i hi
  · rw [oS_pS, if_neg a]; rfl
  · show oA (arrS u n (nI j) (nI g) c) q = _
    rw [arrN (by omega)]
theorem r_comes {n : Nat} {σ : CS} {o : Ob} (h : Rel n σ o) (p c : Int32) : ok2 (C_comes σ p c) (M_comes o p c) := by
  have h7 := h.n7
  have H := h.t0
  unfold C_comes M_comes
  simp only [nm_q, jn_e]
  generalize pS o 15 0 = u at H
  rw [C_isShelf_ok', M_inI, bd_e, bd_e, show (0 : Int64).toInt = 0 from rfl, show (7 : Int64).toInt = 7 from rfl]
  cases hp : rng p 0 7 with
  | false => exact ⟨-1, σ, u, rfl, rfl, n, H⟩
  | true =>
    rw [b1, b1, C_isCare_ok', M_isCare_ok', bd_e, bd_e]
    cases hc : (rng c 0 4 || c == 9) with
    | false => exact ⟨-1, σ, u, rfl, rfl, n, H⟩
    | true =>
      rw [b1, b1]
      rcases hold1 H p with ⟨r, e1, e2, e3, e4⟩ | ⟨e1, e2, d, hd, rfl, e3⟩
      · have z0 : (0 : Int32).toInt = 0 := by decide
        have e5 : r < 0 := by rw [fa_lt]; rw [fa_le] at e4; omega
        rw [e1, e2]
        simp only [bd_e, if_neg e3, if_neg e4, if_pos e5]
        exact ⟨r, σ, u, rfl, rfl, n, H⟩
      · obtain ⟨-, -, a3, -⟩ := H.2.2.2.2.2.2.2.2 d hd
        obtain ⟨x1, x2, x3, x4⟩ := a3 e3
        have i8 : inb (nI d) 8 = true := inb_nI hd (by decide)
        have hl : d < 2 ^ 31 := by omega
        rw [e1, e2]
        simp only [bd_e, if_pos (show (0 : Int32) = 0 from rfl), if_pos (show (0 : Int32) ≤ 0 by decide), if_neg (show ¬ (0 : Int32) < 0 by decide), i8, gd_t, nI_clamp hl, ix_nI hl, ← x1, ← x2, H.2.1]
        by_cases c7 : n = 7
        · subst c7
          have eA : T_arrive (σ 1) (oS (σ (11 + d)) 1) (oS (σ (11 + d)) 2) c = some (0, σ 1) := by
            unfold T_arrive
            rw [H.1.2.1, if_pos (by decide)]
          rw [eA, if_pos (show nI 7 = (7 : Int32) from rfl), bd2_e]
          exact ⟨-2, va_up σ 1 (σ 1), u, rfl, rfl, 7, by rw [vu_self]; exact H⟩
        · obtain ⟨t', u', f1, f2, f3, f4⟩ := TK.arrive (c := c) H.tk0 (show n < 7 by omega) x3 x4 (care_rng hc)
          have n7 : ¬ nI n = (7 : Int32) := by show ¬ nI n = nI 7; rw [nI_eq' (by omega) (by omega)]; exact c7
          rw [f1, f2, if_neg n7, bd2_e, bd2_e, if_neg (show ¬ (1 : Int32) = 0 by decide), vu_at, f3.1.2.1, f3.2.1]
          exact ⟨_, _, u', rfl, rfl, n + 1, H.tk visC.rf f3 f4.vis⟩

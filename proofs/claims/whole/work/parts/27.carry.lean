/-! the reference's town, carried to a row and back -/
def encM (s : Ob) (q : Nat) : Int32 := if q = 0 then oS s 3 else if q = 1 then oS s 8 else if q < 17 then oA s ((q - 2) % 3 + 1) ((q - 2) / 3) else if q < 38 then oA s ((q - 17) % 3 + 4) ((q - 17) / 3) else oA s 7 (q - 38)
def putE (s : Ob) (q : Nat) (v : Int32) : Ob := if q = 0 then pS s 3 v else if q = 1 then pS s 8 v else if q < 17 then pA s ((q - 2) % 3 + 1) (nI ((q - 2) / 3)) v else if q < 38 then pA s ((q - 17) % 3 + 4) (nI ((q - 17) / 3)) v else pA s 7 (nI (q - 38)) v
theorem pA_id {o : Ob} {j i : Nat} (hi : i < 2 ^ 31) : pA o j (nI i) (oA o j i) = o := by
  obtain ⟨a, b, c⟩ := o
  show (a, va_up b j (upd (b j) (nI i).toNatClampNeg (b j i)), c) = (a, b, c)
  have e : upd (b j) (nI i).toNatClampNeg (b j i) = b j := by
    funext q; rw [upd_nI hi]; split
    · rename_i h; rw [h]
    · rfl
  rw [e]
  congr 2
  funext q; unfold va_up; split
  · rename_i h; rw [h]
  · rfl
theorem pS_id {o : Ob} {k : Nat} : pS o k (oS o k) = o := by
  obtain ⟨a, b, c⟩ := o
  show (va_up a k (a k), b, c) = (a, b, c)
  congr 1
  funext q; unfold va_up; split
  · rename_i h; rw [h]
  · rfl
def tkS (C : Nat) (q : Nat) (v : Int32) (s : Ob) : Ob := pS (pA s C (nI q) v) 26 (nI (q + 1))
theorem carry_take {s : Ob} {C q : Nat} {v : Int32} (hC : C = 17 ∨ C = 18) (h1 : oS s 27 = 1) (h2 : oS s 28 = nI C) (h3 : oS s 26 = nI q) (hq : q < 73) : M_carry s v = some (v, tkS C q v s) := by
  have hk : kk (nI C) = true := by rcases hC with rfl | rfl <;> rfl
  have z1 : ¬ (1 : Int32) = 0 := by decide
  have e1 : oS (pA s C (nI q) v) 26 = nI q := h3
  have e2 : oS (pS (pA s C (nI q) v) 26 (nI (q + 1))) 28 = nI C := h2
  have e3 : oS (pS (pA s C (nI q) v) 26 (nI (q + 1))) 26 = nI (q + 1) := rfl
  have hC3 : (nI C).toNatClampNeg = C := nI_clamp (by omega)
  unfold M_carry
  rw [h1, if_neg z1, h2, h3, hk, inb_nI hq (by decide), hC3]
  simp only [gd_t, nm_q, bd_e, e1, nI_1, e2, e3, hk, nI_pred, inb_nI hq (show 73 < 2 ^ 31 by decide), ix_nI (show q < 2 ^ 31 by omega), hC3]
  have e4 : oA (pS (pA s C (nI q) v) 26 (nI (q + 1))) C q = v := by
    rw [oA_pS, oA_pAq, if_pos rfl, upd_nI (by omega), if_pos rfl]
  rw [e4]
  rfl
theorem carry_back {s : Ob} {C q : Nat} {v : Int32} (hC : C = 17 ∨ C = 18) (h1 : oS s 27 = 0) (h2 : oS s 28 = nI C) (h3 : oS s 26 = nI q) (hq : q < 73) : M_carry s v = some (oA s C q, pS s 26 (nI (q + 1))) := by
  have hk : kk (nI C) = true := by rcases hC with rfl | rfl <;> rfl
  have e2 : oS (pS s 26 (nI (q + 1))) 28 = nI C := h2
  have e3 : oS (pS s 26 (nI (q + 1))) 26 = nI (q + 1) := rfl
  have hC3 : (nI C).toNatClampNeg = C := nI_clamp (by omega)
  unfold M_carry
  rw [h1, if_pos rfl]
  simp only [gd_t, nm_q, bd_e, h3, nI_1, e2, e3, hk, nI_pred, inb_nI hq (show 73 < 2 ^ 31 by decide), ix_nI (show q < 2 ^ 31 by omega), hC3, oA_pS]
/-- one place taken, or brought back -/
def tkQ (o : Ob) (C : Nat) (q : Nat) (s : Ob) : Ob := tkS C q (encM o q) s
def bkQ (C : Nat) (q : Nat) (s : Ob) : Ob := putE (pS s 26 (nI (q + 1))) q (oA s C q)
/-- what holds while it is taken -/
def tkI (o : Ob) (C : Nat) (q : Nat) (s : Ob) : Prop := oS s 27 = 1 ∧ oS s 28 = nI C ∧ oS s 26 = nI q ∧ (∀ k, k ≠ 26 → k ≠ 27 → k ≠ 28 → oS s k = oS o k) ∧ (∀ j, j ≠ C → oA s j = oA o j) ∧ (∀ i, i < q → oA s C i = encM o i) ∧ (∀ i, q ≤ i → oA s C i = oA o C i) ∧ s.2.2 = o.2.2
theorem tkI_step {o s : Ob} {C q : Nat} (hq : q < 73) (h : tkI o C q s) : tkI o C (q + 1) (tkS C q (encM o q) s) := by
  obtain ⟨h1, h2, h3, h4, h5, h6, h7, h8⟩ := h
  refine ⟨h1, h2, rfl, fun k a b c => ?_, fun j hj => ?_, fun i hi => ?_, fun i hi => ?_, h8⟩
  · show oS (pS _ 26 _) k = _
    rw [oS_pS, if_neg a]; exact h4 k a b c
  · show oA (pA s C (nI q) _) j = _
    rw [oA_pAq, if_neg hj]; exact h5 j hj
  · show oA (pA s C (nI q) _) C i = _
    rw [oA_pAq, if_pos rfl, upd_nI (by omega)]
    by_cases c : i = q
    · rw [if_pos c, c]
    · rw [if_neg c]; exact h6 i (by omega)
  · show oA (pA s C (nI q) _) C i = _
    rw [oA_pAq, if_pos rfl, upd_nI (by omega), if_neg (by omega)]
    exact h7 i (by omega)
theorem take1 {o s : Ob} {C q j i : Nat} {v : Int32} (hC : C = 17 ∨ C = 18) (hj : 1 ≤ j ∧ j ≤ 7) (hi : i < 35) (hq : q < 73) (h : tkI o C q s) (hv : v = oA s j i) (he : encM o q = oA o j i) : M_carry s v = some (v, tkS C q (encM o q) s) ∧ pA (tkS C q (encM o q) s) j (nI i) v = tkS C q (encM o q) s := by
  have e : v = encM o q := by rw [hv, he, h.2.2.2.2.1 j (by omega)]
  refine ⟨by rw [← e]; exact carry_take hC h.1 h.2.1 h.2.2.1 hq, ?_⟩
  have e2 : v = oA (tkS C q (encM o q) s) j i := by
    rw [hv]
    show _ = oA (pA s C (nI q) _) j i
    rw [oA_pAq, if_neg (by omega)]
  rw [e2]
  exact pA_id (by omega)
theorem enc3 {o : Ob} {i : Nat} (hi : i < 5) : encM o (2 + 3 * i) = oA o 1 i ∧ encM o (2 + 3 * i + 1) = oA o 2 i ∧ encM o (2 + 3 * i + 2) = oA o 3 i := by
  rcases (show i = 0 ∨ i = 1 ∨ i = 2 ∨ i = 3 ∨ i = 4 by omega) with rfl | rfl | rfl | rfl | rfl <;> exact ⟨rfl, rfl, rfl⟩
theorem enc7 {o : Ob} {i : Nat} (hi : i < 7) : encM o (17 + 3 * i) = oA o 4 i ∧ encM o (17 + 3 * i + 1) = oA o 5 i ∧ encM o (17 + 3 * i + 2) = oA o 6 i := by
  rcases (show i = 0 ∨ i = 1 ∨ i = 2 ∨ i = 3 ∨ i = 4 ∨ i = 5 ∨ i = 6 by omega) with rfl | rfl | rfl | rfl | rfl | rfl | rfl <;> exact ⟨rfl, rfl, rfl⟩
theorem enc35 {o : Ob} {i : Nat} (hi : i < 35) : encM o (38 + i) = oA o 7 i := by
  unfold encM
  rw [if_neg (by omega), if_neg (by omega), if_neg (by omega), if_neg (by omega), show 38 + i - 38 = i by omega]
/-- a loop that counts up, its state by what holds of it -/
theorem up_loopE {S R : Type} (L : Nat → S → Nat → Option R) (e : Nat) (inv : Nat → S → Prop) (exit : S → Option R)
    (hs : ∀ n i s, i < e → inv i s → ∃ s', L (n + 1) s i = L n s' (i + 1) ∧ inv (i + 1) s') (hx : ∀ n s, inv e s → L (n + 1) s e = exit s) (s0 : S) (h0 : inv 0 s0) (N : Nat) (hN : e < N) :
    ∃ s', L N s0 0 = exit s' ∧ inv e s' := by
  have key : ∀ i, i ≤ e → ∃ s', L N s0 0 = L (N - i) s' i ∧ inv i s' := by
    intro i
    induction i with
    | zero => intro _; exact ⟨s0, rfl, h0⟩
    | succ i ih =>
      intro hi
      obtain ⟨s1, h1, h2⟩ := ih (by omega)
      obtain ⟨s2, h3, h4⟩ := hs (N - (i + 1)) i s1 (by omega) h2
      exact ⟨s2, by rw [h1, show N - i = N - (i + 1) + 1 by omega, h3], h4⟩
  obtain ⟨s1, h1, h2⟩ := key e (Nat.le_refl e)
  exact ⟨s1, by rw [h1, show N - e = N - e - 1 + 1 by omega, hx _ _ h2], h2⟩
theorem take_L41 {o : Ob} {C : Nat} (hC : C = 17 ∨ C = 18) (k : Ob → Option Ob) {s : Ob} (h : tkI o C 2 s) : ∃ s', M_carryAll_L41 k FU s 0 = k s' ∧ tkI o C 17 s' := by
  refine up_loopE (fun m s i => M_carryAll_L41 k m s (nI i)) 5 (fun i s => tkI o C (2 + 3 * i) s) k (fun m i s hi h => ?_) (fun m s _ => rfl) s h FU (FU_gt (by decide))
  have i5 : inb (nI i) 5 = true := inb_nI hi (by decide)
  have x5 : ∀ f, ix f (nI i) = f i := fun f => ix_nI (by omega)
  obtain ⟨a1, b1⟩ := take1 (j := 1) (i := i) hC (by decide) (by omega) (by omega) h rfl (enc3 hi).1
  have h1 := tkI_step (by omega) h
  generalize tkS C (2 + 3 * i) (encM o (2 + 3 * i)) s = s1 at a1 b1 h1
  obtain ⟨a2, b2⟩ := take1 (j := 2) (i := i) hC (by decide) (by omega) (by omega) h1 rfl (enc3 hi).2.1
  have h2 := tkI_step (by omega) h1
  generalize tkS C (2 + 3 * i + 1) (encM o (2 + 3 * i + 1)) s1 = s2 at a2 b2 h2
  obtain ⟨a3, b3⟩ := take1 (j := 3) (i := i) hC (by decide) (by omega) (by omega) h2 rfl (enc3 hi).2.2
  have h3 := tkI_step (by omega) h2
  generalize tkS C (2 + 3 * i + 1 + 1) (encM o (2 + 3 * i + 1 + 1)) s2 = s3 at a3 b3 h3
  refine ⟨s3, ?_, by rw [show 2 + 3 * (i + 1) = 2 + 3 * i + 1 + 1 + 1 by omega]; exact h3⟩
  show M_carryAll_L41 k (m + 1) s (nI i) = M_carryAll_L41 k m s3 (nI (i + 1))
  rw [M_carryAll_L41, if_neg (by show ¬ nI 5 ≤ nI i; rw [nI_le' (by omega) (by omega)]; omega)]
  simp only [i5, x5, gd_t, nm_q, a1, bd2_e, b1, a2, b2, a3, b3, nI_1]
theorem take_L102 {o : Ob} {C : Nat} (hC : C = 17 ∨ C = 18) (k : Ob → Option Ob) {s : Ob} (h : tkI o C 17 s) : ∃ s', M_carryAll_L102 k FU s 0 = k s' ∧ tkI o C 38 s' := by
  refine up_loopE (fun m s i => M_carryAll_L102 k m s (nI i)) 7 (fun i s => tkI o C (17 + 3 * i) s) k (fun m i s hi h => ?_) (fun m s _ => rfl) s h FU (FU_gt (by decide))
  have i5 : inb (nI i) 7 = true := inb_nI hi (by decide)
  have x5 : ∀ f, ix f (nI i) = f i := fun f => ix_nI (by omega)
  obtain ⟨a1, b1⟩ := take1 (j := 4) (i := i) hC (by decide) (by omega) (by omega) h rfl (enc7 hi).1
  have h1 := tkI_step (by omega) h
  generalize tkS C (17 + 3 * i) (encM o (17 + 3 * i)) s = s1 at a1 b1 h1
  obtain ⟨a2, b2⟩ := take1 (j := 5) (i := i) hC (by decide) (by omega) (by omega) h1 rfl (enc7 hi).2.1
  have h2 := tkI_step (by omega) h1
  generalize tkS C (17 + 3 * i + 1) (encM o (17 + 3 * i + 1)) s1 = s2 at a2 b2 h2
  obtain ⟨a3, b3⟩ := take1 (j := 6) (i := i) hC (by decide) (by omega) (by omega) h2 rfl (enc7 hi).2.2
  have h3 := tkI_step (by omega) h2
  generalize tkS C (17 + 3 * i + 1 + 1) (encM o (17 + 3 * i + 1 + 1)) s2 = s3 at a3 b3 h3
  refine ⟨s3, ?_, by rw [show 17 + 3 * (i + 1) = 17 + 3 * i + 1 + 1 + 1 by omega]; exact h3⟩
  show M_carryAll_L102 k (m + 1) s (nI i) = M_carryAll_L102 k m s3 (nI (i + 1))
  rw [M_carryAll_L102, if_neg (by show ¬ nI 7 ≤ nI i; rw [nI_le' (by omega) (by omega)]; omega)]
  simp only [i5, x5, gd_t, nm_q, a1, bd2_e, b1, a2, b2, a3, b3, nI_1]
theorem take_L164 {o : Ob} {C : Nat} (hC : C = 17 ∨ C = 18) {s : Ob} (h : tkI o C 38 s) : ∃ s', M_carryAll_L164 FU s 0 = some s' ∧ tkI o C 73 s' := by
  refine up_loopE (fun m s i => M_carryAll_L164 m s (nI i)) 35 (fun i s => tkI o C (38 + i) s) some (fun m i s hi h => ?_) (fun m s _ => rfl) s h FU (FU_gt (by decide))
  have i5 : inb (nI i) 35 = true := inb_nI hi (by decide)
  have x5 : ∀ f, ix f (nI i) = f i := fun f => ix_nI (by omega)
  obtain ⟨a1, b1⟩ := take1 (j := 7) (i := i) hC (by decide) (by omega) (by omega) h rfl (enc35 hi)
  have h1 := tkI_step (by omega) h
  generalize tkS C (38 + i) (encM o (38 + i)) s = s1 at a1 b1 h1
  refine ⟨s1, ?_, h1⟩
  show M_carryAll_L164 (m + 1) s (nI i) = M_carryAll_L164 m s1 (nI (i + 1))
  rw [M_carryAll_L164, if_neg (by show ¬ nI 35 ≤ nI i; rw [nI_le' (by omega) (by omega)]; omega)]
  simp only [i5, x5, gd_t, nm_q, a1, bd2_e, b1, nI_1]
theorem M_take {o : Ob} {C : Nat} (hC : C = 17 ∨ C = 18) : ∃ s, M_carryAll o (nI C) 1 = some s ∧ tkI o C 73 s := by
  have hk : kk (nI C) = true := by rcases hC with rfl | rfl <;> rfl
  unfold M_carryAll
  rw [hk]
  simp only [gd_t, nm_q, show isZ 1 = true from rfl]
  have hI0 : tkI o C 0 (pS (pS (pS o 28 (nI C)) 27 1) 26 0) := ⟨rfl, rfl, rfl, fun k a b c => by rw [oS_pS, if_neg a, oS_pS, if_neg b, oS_pS, if_neg c], fun _ _ => rfl, fun i hi => absurd hi (by omega), fun _ _ => rfl, rfl⟩
  generalize pS (pS (pS o 28 (nI C)) 27 1) 26 0 = s0 at hI0
  have c0 := carry_take (v := oS s0 3) hC hI0.1 hI0.2.1 hI0.2.2.1 (by decide)
  have v0 : oS s0 3 = encM o 0 := hI0.2.2.2.1 3 (by decide) (by decide) (by decide)
  rw [c0, bd2_e, v0]
  have hI1 := tkI_step (by decide) hI0
  generalize tkS C 0 (encM o 0) s0 = s1 at hI1
  have v1' : oS s1 3 = encM o 0 := hI1.2.2.2.1 3 (by decide) (by decide) (by decide)
  rw [← v1', pS_id]
  have c1 := carry_take (v := oS s1 8) hC hI1.1 hI1.2.1 hI1.2.2.1 (by decide)
  have v1 : oS s1 8 = encM o 1 := hI1.2.2.2.1 8 (by decide) (by decide) (by decide)
  rw [c1, bd2_e, v1]
  have hI2 := tkI_step (by decide) hI1
  generalize tkS C (0 + 1) (encM o (0 + 1)) s1 = s2 at hI2
  have v2' : oS s2 8 = encM o 1 := hI2.2.2.2.1 8 (by decide) (by decide) (by decide)
  rw [← v2', pS_id]
  obtain ⟨s3, e3, h3⟩ := take_L41 hC (fun o32 => M_carryAll_L102 (fun o53 => M_carryAll_L164 FU o53 0) FU o32 0) hI2
  obtain ⟨s4, e4, h4⟩ := take_L102 hC (fun o53 => M_carryAll_L164 FU o53 0) h3
  obtain ⟨s5, e5, h5⟩ := take_L164 hC h4
  exact ⟨s5, by rw [e3, e4, e5], h5⟩
/-- what holds while it is brought back -/
def bkI (o : Ob) (C : Nat) (q : Nat) (s : Ob) : Prop := oS s 27 = 0 ∧ oS s 28 = nI C ∧ oS s 26 = nI q ∧ (∀ k, k ≠ 3 → k ≠ 8 → k ≠ 26 → k ≠ 27 → k ≠ 28 → oS s k = oS o k) ∧ (∀ j, 8 ≤ j → oA s j = oA o j) ∧ (∀ i, i < q → encM s i = oA o C i) ∧ (∀ j, 1 ≤ j → j ≤ 7 → ∀ i, tlen j ≤ i → oA s j i = oA o j i) ∧ s.2.2 = o.2.2
theorem enc_pA {s : Ob} {j i q : Nat} {v : Int32} (hi : i < 2 ^ 31) (hj : 1 ≤ j ∧ j ≤ 7) (h : ∀ j' i', (q = 2 + 3 * i' + (j' - 1) ∧ 1 ≤ j' ∧ j' ≤ 3 ∧ i' < 5) ∨ (q = 17 + 3 * i' + (j' - 4) ∧ 4 ≤ j' ∧ j' ≤ 6 ∧ i' < 7) ∨ (q = 38 + i' ∧ j' = 7) → ¬ (j' = j ∧ i' = i)) : encM (pA s j (nI i) v) q = encM s q := by
  unfold encM
  have key : ∀ j' i', ¬ (j' = j ∧ i' = i) → oA (pA s j (nI i) v) j' i' = oA s j' i' := by
    intro j' i' hne
    rw [oA_pAq]
    by_cases c : j' = j
    · rw [if_pos c, upd_nI hi, if_neg (fun e => hne ⟨c, e⟩), c]
    · rw [if_neg c]
  by_cases c0 : q = 0
  · rw [if_pos c0, if_pos c0]; rfl
  · rw [if_neg c0, if_neg c0]
    by_cases c1 : q = 1
    · rw [if_pos c1, if_pos c1]; rfl
    · rw [if_neg c1, if_neg c1]
      by_cases c2 : q < 17
      · rw [if_pos c2, if_pos c2]
        exact key _ _ (h _ _ (Or.inl ⟨by omega, by omega, by omega, by omega⟩))
      · rw [if_neg c2, if_neg c2]
        by_cases c3 : q < 38
        · rw [if_pos c3, if_pos c3]
          exact key _ _ (h _ _ (Or.inr (Or.inl ⟨by omega, by omega, by omega, by omega⟩)))
        · rw [if_neg c3, if_neg c3]
          exact key _ _ (h _ _ (Or.inr (Or.inr ⟨by omega, rfl⟩)))
/-- which place of the row is whose -/
def posE (q j i : Nat) : Prop := (q = 2 + 3 * i + (j - 1) ∧ 1 ≤ j ∧ j ≤ 3 ∧ i < 5) ∨ (q = 17 + 3 * i + (j - 4) ∧ 4 ≤ j ∧ j ≤ 6 ∧ i < 7) ∨ (q = 38 + i ∧ j = 7 ∧ i < 35)
theorem encE {s : Ob} {q j i : Nat} (h : posE q j i) : encM s q = oA s j i := by
  rcases h with ⟨e, h1, h2, h3⟩ | ⟨e, h1, h2, h3⟩ | ⟨e, h1, h2⟩
  · rcases (show j = 1 ∨ j = 2 ∨ j = 3 by omega) with rfl | rfl | rfl
    · rw [e]; exact (enc3 h3).1
    · rw [e]; exact (enc3 h3).2.1
    · rw [e]; exact (enc3 h3).2.2
  · rcases (show j = 4 ∨ j = 5 ∨ j = 6 by omega) with rfl | rfl | rfl
    · rw [e]; exact (enc7 h3).1
    · rw [e]; exact (enc7 h3).2.1
    · rw [e]; exact (enc7 h3).2.2
  · rw [e, h1]; exact enc35 h2
theorem bk_step {o s : Ob} {C q j i : Nat} {v : Int32} (hC : C = 17 ∨ C = 18) (hp : posE q j i) (h : bkI o C q s) : ∃ s', M_carry s v = some (oA o C q, pS s 26 (nI (q + 1))) ∧ pA (pS s 26 (nI (q + 1))) j (nI i) (oA o C q) = s' ∧ bkI o C (q + 1) s' := by
  obtain ⟨h1, h2, h3, h4, h5, h6, h7, h8⟩ := h
  have hq : q < 73 := by unfold posE at hp; omega
  have hj : 1 ≤ j ∧ j ≤ 7 := by unfold posE at hp; omega
  have hi : i < 35 := by unfold posE at hp; omega
  have hl : i < tlen j := by
    unfold posE at hp
    rcases (show j = 1 ∨ j = 2 ∨ j = 3 ∨ j = 4 ∨ j = 5 ∨ j = 6 ∨ j = 7 by omega) with rfl | rfl | rfl | rfl | rfl | rfl | rfl <;> (show i < _; simp [tlen]; omega)
  refine ⟨_, ?_, rfl, h1, h2, rfl, fun k a b c d e => ?_, fun j' hj' => ?_, fun i' hi' => ?_, fun j' a b i' hi' => ?_, h8⟩
  · rw [carry_back hC h1 h2 h3 hq, h5 C (by omega)]
  · show oS (pS s 26 _) k = _
    rw [oS_pS, if_neg c]; exact h4 k a b c d e
  · rw [oA_pAq, if_neg (by omega)]; exact h5 j' hj'
  · by_cases c : i' = q
    · rw [c, encE hp, oA_pAq, if_pos rfl, upd_nI (by omega), if_pos rfl]
    · rw [enc_pA (by omega) hj (fun j' i'' hx hy => ?_)]
      · exact (show encM (pS s 26 (nI (q + 1))) i' = encM s i' from rfl).trans (h6 i' (by omega))
      · obtain ⟨rfl, rfl⟩ := hy
        unfold posE at hp
        omega
  · rw [oA_pAq]
    by_cases c : j' = j
    · subst c
      rw [if_pos rfl, upd_nI (by omega), if_neg (by omega)]
      exact h7 j' a b i' hi'
    · rw [if_neg c]; exact h7 j' a b i' hi'
theorem back_L41 {o : Ob} {C : Nat} (hC : C = 17 ∨ C = 18) (k : Ob → Option Ob) {s : Ob} (h : bkI o C 2 s) : ∃ s', M_carryAll_L41 k FU s 0 = k s' ∧ bkI o C 17 s' := by
  refine up_loopE (fun m s i => M_carryAll_L41 k m s (nI i)) 5 (fun i s => bkI o C (2 + 3 * i) s) k (fun m i s hi h => ?_) (fun m s _ => rfl) s h FU (FU_gt (by decide))
  have i5 : inb (nI i) 5 = true := inb_nI hi (by decide)
  have x5 : ∀ f, ix f (nI i) = f i := fun f => ix_nI (by omega)
  obtain ⟨s1, a1, b1, h1⟩ := bk_step (v := oA s 1 i) hC (j := 1) (i := i) (Or.inl ⟨by omega, by omega, by omega, hi⟩) h
  obtain ⟨s2, a2, b2, h2⟩ := bk_step (v := oA s1 2 i) hC (j := 2) (i := i) (Or.inl ⟨by omega, by omega, by omega, hi⟩) h1
  obtain ⟨s3, a3, b3, h3⟩ := bk_step (v := oA s2 3 i) hC (j := 3) (i := i) (Or.inl ⟨by omega, by omega, by omega, hi⟩) h2
  refine ⟨s3, ?_, by rw [show 2 + 3 * (i + 1) = 2 + 3 * i + 1 + 1 + 1 by omega]; exact h3⟩
  show M_carryAll_L41 k (m + 1) s (nI i) = M_carryAll_L41 k m s3 (nI (i + 1))
  rw [M_carryAll_L41, if_neg (by show ¬ nI 5 ≤ nI i; rw [nI_le' (by omega) (by omega)]; omega)]
  simp only [i5, x5, gd_t, nm_q, a1, bd2_e, b1, a2, b2, a3, b3, nI_1]
theorem back_L102 {o : Ob} {C : Nat} (hC : C = 17 ∨ C = 18) (k : Ob → Option Ob) {s : Ob} (h : bkI o C 17 s) : ∃ s', M_carryAll_L102 k FU s 0 = k s' ∧ bkI o C 38 s' := by
  refine up_loopE (fun m s i => M_carryAll_L102 k m s (nI i)) 7 (fun i s => bkI o C (17 + 3 * i) s) k (fun m i s hi h => ?_) (fun m s _ => rfl) s h FU (FU_gt (by decide))
  have i5 : inb (nI i) 7 = true := inb_nI hi (by decide)
  have x5 : ∀ f, ix f (nI i) = f i := fun f => ix_nI (by omega)
  obtain ⟨s1, a1, b1, h1⟩ := bk_step (v := oA s 4 i) hC (j := 4) (i := i) (Or.inr (Or.inl ⟨by omega, by omega, by omega, hi⟩)) h
  obtain ⟨s2, a2, b2, h2⟩ := bk_step (v := oA s1 5 i) hC (j := 5) (i := i) (Or.inr (Or.inl ⟨by omega, by omega, by omega, hi⟩)) h1
  obtain ⟨s3, a3, b3, h3⟩ := bk_step (v := oA s2 6 i) hC (j := 6) (i := i) (Or.inr (Or.inl ⟨by omega, by omega, by omega, hi⟩)) h2
  refine ⟨s3, ?_, by rw [show 17 + 3 * (i + 1) = 17 + 3 * i + 1 + 1 + 1 by omega]; exact h3⟩
  show M_carryAll_L102 k (m + 1) s (nI i) = M_carryAll_L102 k m s3 (nI (i + 1))
  rw [M_carryAll_L102, if_neg (by show ¬ nI 7 ≤ nI i; rw [nI_le' (by omega) (by omega)]; omega)]
  simp only [i5, x5, gd_t, nm_q, a1, bd2_e, b1, a2, b2, a3, b3, nI_1]
theorem back_L164 {o : Ob} {C : Nat} (hC : C = 17 ∨ C = 18) {s : Ob} (h : bkI o C 38 s) : ∃ s', M_carryAll_L164 FU s 0 = some s' ∧ bkI o C 73 s' := by
  refine up_loopE (fun m s i => M_carryAll_L164 m s (nI i)) 35 (fun i s => bkI o C (38 + i) s) some (fun m i s hi h => ?_) (fun m s _ => rfl) s h FU (FU_gt (by decide))
  have i5 : inb (nI i) 35 = true := inb_nI hi (by decide)
  have x5 : ∀ f, ix f (nI i) = f i := fun f => ix_nI (by omega)
  obtain ⟨s1, a1, b1, h1⟩ := bk_step (v := oA s 7 i) hC (j := 7) (i := i) (Or.inr (Or.inr ⟨by omega, rfl, hi⟩)) h
  refine ⟨s1, ?_, h1⟩
  show M_carryAll_L164 (m + 1) s (nI i) = M_carryAll_L164 m s1 (nI (i + 1))
  rw [M_carryAll_L164, if_neg (by show ¬ nI 35 ≤ nI i; rw [nI_le' (by omega) (by omega)]; omega)]
  simp only [i5, x5, gd_t, nm_q, a1, bd2_e, b1, nI_1]
theorem M_back {o : Ob} {C : Nat} (hC : C = 17 ∨ C = 18) : ∃ s, M_carryAll o (nI C) 0 = some s ∧ bkI o C 73 s := by
  have hk : kk (nI C) = true := by rcases hC with rfl | rfl <;> rfl
  unfold M_carryAll
  rw [hk]
  simp only [gd_t, nm_q, show isZ 0 = true from rfl]
  have hI0 : bkI o C 0 (pS (pS (pS o 28 (nI C)) 27 0) 26 0) := ⟨rfl, rfl, rfl, fun k _ _ a b c => by rw [oS_pS, if_neg a, oS_pS, if_neg b, oS_pS, if_neg c], fun _ _ => rfl, fun i hi => absurd hi (by omega), fun _ _ _ _ _ => rfl, rfl⟩
  generalize pS (pS (pS o 28 (nI C)) 27 0) 26 0 = s0 at hI0
  obtain ⟨h1, h2, h3, h4, h5, h6, h7, h8⟩ := hI0
  rw [carry_back hC h1 h2 h3 (by decide), bd2_e, h5 C (by omega)]
  have hI1 : bkI o C 1 (pS (pS s0 26 (nI (0 + 1))) 3 (oA o C 0)) := ⟨h1, h2, rfl, fun k a b c d e => by rw [oS_pS, if_neg a, oS_pS, if_neg c]; exact h4 k a b c d e, h5, fun i hi => by
    have e : i = 0 := by omega
    subst e; rfl, h7, h8⟩
  generalize pS (pS s0 26 (nI (0 + 1))) 3 (oA o C 0) = s1 at hI1
  obtain ⟨h1, h2, h3, h4, h5, h6, h7, h8⟩ := hI1
  rw [carry_back hC h1 h2 h3 (by decide), bd2_e, h5 C (by omega)]
  have hI2 : bkI o C 2 (pS (pS s1 26 (nI (1 + 1))) 8 (oA o C 1)) := ⟨h1, h2, rfl, fun k a b c d e => by rw [oS_pS, if_neg b, oS_pS, if_neg c]; exact h4 k a b c d e, h5, fun i hi => by
    rcases (show i = 0 ∨ i = 1 by omega) with rfl | rfl
    · exact h6 0 (by decide)
    · rfl, h7, h8⟩
  obtain ⟨s3, e3, h3⟩ := back_L41 hC (fun o32 => M_carryAll_L102 (fun o53 => M_carryAll_L164 FU o53 0) FU o32 0) hI2
  obtain ⟨s4, e4, h4⟩ := back_L102 hC (fun o53 => M_carryAll_L164 FU o53 0) h3
  obtain ⟨s5, e5, h5⟩ := back_L164 hC h4
  exact ⟨s5, by rw [e3, e4, e5], h5⟩

/-! the class reads -/
def CX (m : Nat) (f : Nat → Int32) (s : Ob) : Prop := m ≤ 100 ∧ oS s 4 = nI m ∧ oA s 1 = f
theorem dig_C {m : Nat} {f : Nat → Int32} {σ : CS} {b : Nat} (X : CX m f (σ b)) (k83 : Option Int32) {q k : Nat} (hq : q + k < 1000) : ∀ r i N, i + r = k → r < N → gdn m f q i = i → X_statementFault_L40 k83 σ b (nI (q + k)) N (nI (q + i)) = if gdn m f q k < k then some (nI (q + gdn m f q k)) else k83 := by
  obtain ⟨x1, x2, x3⟩ := X
  intro r
  induction r with
  | zero =>
    intro i N hi hN hg
    obtain ⟨N, rfl⟩ : ∃ m, N = m + 1 := ⟨N - 1, by omega⟩
    have e : i = k := by omega
    subst e
    rw [X_statementFault_L40, if_pos (by rw [nI_le' (by omega) (by omega)]; omega), if_neg (by omega)]
  | succ r ih =>
    intro i N hi hN hg
    obtain ⟨N, rfl⟩ : ∃ m, N = m + 1 := ⟨N - 1, by omega⟩
    have stop : dgt m f (q + i) = false → gdn m f q k = i := fun z => by
      have es : gdn m f q (i + 1) = i := by rw [gdn_s, if_neg (fun w => by rw [z] at w; exact absurd w.2 (by decide)), hg]
      have := gdn_stop (m := m) (f := f) (q := q) (a := i + 1) (by omega) r
      rw [show i + 1 + r = k by omega] at this
      omega
    rw [X_statementFault_L40, x2, if_neg (by rw [nI_le' (by omega) (by omega)]; omega)]
    by_cases c : q + i < m
    · rw [if_neg (by rw [nI_le' (by omega) (by omega)]; omega), inb_nI (show q + i < 100 by omega) (by decide), gd_t, gd_t, ix_nI (by omega), x3]
      have ed : dgt m f (q + i) = rng (f (q + i)) 48 57 := by unfold dgt chI; rw [if_pos c]
      have z48 : (48 : Int32).toInt = 48 := by decide
      have z57 : (57 : Int32).toInt = 57 := by decide
      by_cases c1 : f (q + i) < 48
      · have s := stop (by rw [ed]; exact decide_eq_false (by rw [fa_lt] at c1; omega))
        rw [if_pos c1, s, if_pos (by omega)]
      · rw [if_neg c1]
        by_cases c2 : f (q + i) ≤ 57
        · have hd : dgt m f (q + i) = true := by rw [ed]; exact decide_eq_true (by rw [fa_lt] at c1; rw [fa_le] at c2; omega)
          rw [if_pos c2, nm_q, nI_1]
          exact ih (i + 1) N (by omega) (by omega) (by rw [gdn_s, if_pos ⟨hg, hd⟩])
        · have s := stop (by rw [ed]; exact decide_eq_false (by rw [fa_le] at c2; omega))
          rw [if_neg c2, s, if_pos (by omega)]
    · have s := stop (by unfold dgt chI; rw [if_neg c]; decide)
      rw [if_pos (by rw [nI_le' (by omega) (by omega)]; omega), s, if_pos (by omega)]
theorem dgN_6 (c : Int32) : dgN c ≤ 6 := by unfold dgN; split <;> (try split) <;> (try split) <;> omega
theorem sf_C {m q : Nat} {f : Nat → Int32} {σ : CS} {b : Nat} (X : CX m f (σ b)) (hq : q < 900) : X_statementFault σ b (nI q) = some (match sfR m f q with
    | some e => nI e
    | none => -1) := by
  obtain ⟨x1, x2, x3⟩ := X
  have X : CX m f (σ b) := ⟨x1, x2, x3⟩
  unfold X_statementFault sfR
  rw [x2]
  by_cases c : q < m
  · have ec : chI m f q = f q := by unfold chI; rw [if_pos c]
    rw [if_neg (by rw [nI_le' (by omega) (by omega)]; omega), inb_nI (show q < 100 by omega) (by decide), gd_p, ix_nI (by omega), x3, C_dig, bd_p, ec]
    cases hl : isL (f q) with
    | false =>
      rw [if_neg Bool.false_ne_true, if_neg Bool.false_ne_true, if_neg (show ¬ (0 : Int32) ≤ -1 by decide)]
    | true =>
      have h6 := dgN_6 (f q)
      have p0 : (0 : Int32) ≤ nI (dgN (f q)) := nI_pos' (by omega)
      have e7 : nI q + (1 : Int32) + nI (dgN (f q)) = nI (q + 1 + dgN (f q)) := by rw [nI_1, nI_add]
      have e8 : nI q + (1 : Int32) = nI (q + 1 + 0) := nI_1 q
      rw [if_pos rfl, if_pos rfl, if_pos p0, gd_p, bd_p, nm_p, nm_p, e7, e8, dig_C X _ (show q + 1 + dgN (f q) < 1000 by omega) (dgN (f q)) 0 FU (by omega) (FU_gt (by omega)) rfl]
      show (if gdn m f (q + 1) (dgN (f q)) < dgN (f q) then _ else _) = some (match (if decide (gdn m f (q + 1) (dgN (f q)) < dgN (f q)) = true ∨ ¬ chI m f (q + 1 + gdn m f (q + 1) (dgN (f q))) = 59 then some (q + 1 + gdn m f (q + 1) (dgN (f q))) else none) with
        | some e => nI e
        | none => -1)
      by_cases g : gdn m f (q + 1) (dgN (f q)) < dgN (f q)
      · rw [if_pos g, if_pos (Or.inl (decide_eq_true g))]
      · have ge : gdn m f (q + 1) (dgN (f q)) = dgN (f q) := by
          have := gdn_le (m := m) (f := f) (q := q + 1) (dgN (f q))
          omega
        rw [if_neg g, jn_p, ge]
        by_cases c2 : q + 1 + dgN (f q) < m
        · have ec2 : chI m f (q + 1 + dgN (f q)) = f (q + 1 + dgN (f q)) := by unfold chI; rw [if_pos c2]
          rw [if_neg (by rw [nI_le' (by omega) (by omega)]; omega), inb_nI (show q + 1 + dgN (f q) < 100 by omega) (by decide), gd_p, ix_nI (by omega), ec2]
          by_cases z : f (q + 1 + dgN (f q)) = 59
          · rw [if_pos z, if_neg (fun w => w.elim (fun x => absurd (of_decide_eq_true x) (by omega)) (fun x => x z))]
          · rw [if_neg z, if_pos (Or.inr z)]
        · have ec2 : ¬ chI m f (q + 1 + dgN (f q)) = 59 := by unfold chI; rw [if_neg c2]; decide
          rw [if_pos (by rw [nI_le' (by omega) (by omega)]; omega), if_pos (Or.inr ec2)]
  · have ec : isL (chI m f q) = false := by unfold chI; rw [if_neg c]; rfl
    rw [if_pos (by rw [nI_le' (by omega) (by omega)]; omega), ec, if_neg Bool.false_ne_true]
/-- what stands where a statement is as it must be -/
theorem sf_none {m q : Nat} {f : Nat → Int32} (h : sfR m f q = none) : isL (chI m f q) = true ∧ q + 2 + dgN (chI m f q) ≤ m ∧ gdn m f (q + 1) (dgN (chI m f q)) = dgN (chI m f q) := by
  unfold sfR at h
  cases hl : isL (chI m f q) with
  | false => rw [hl, if_neg Bool.false_ne_true] at h; cases h
  | true =>
    rw [hl, if_pos rfl] at h
    by_cases g : (adv m f (q + 1, false) (dgN (chI m f q))).2 = true ∨ ¬ chI m f (adv m f (q + 1, false) (dgN (chI m f q))).1 = 59
    · rw [if_pos g] at h; cases h
    · have g1 : (adv m f (q + 1, false) (dgN (chI m f q))).2 = false := by
        cases e : (adv m f (q + 1, false) (dgN (chI m f q))).2 with
        | true => exact absurd (Or.inl e) g
        | false => rfl
      obtain ⟨-, g2, g3⟩ := adv_f g1
      have g4 : chI m f (q + 1 + dgN (chI m f q)) = 59 := by
        by_cases z : chI m f (adv m f (q + 1, false) (dgN (chI m f q))).1 = 59
        · rw [g2] at z; exact z
        · exact absurd (Or.inr z) g
      refine ⟨rfl, ?_, g3⟩
      by_cases c : q + 1 + dgN (chI m f q) < m
      · omega
      · rw [show chI m f (q + 1 + dgN (chI m f q)) = -999 from if_neg c] at g4
        exact absurd g4 (by decide)
theorem behind_C {m q : Nat} {f : Nat → Int32} {σ : CS} {b : Nat} (X : CX m f (σ b)) (h : sfR m f q = none) : X_behind σ b (nI q) = some (nI (q + 2 + dgN (chI m f q))) := by
  obtain ⟨x1, x2, x3⟩ := X
  obtain ⟨h1, h2, h3⟩ := sf_none h
  have c : q < m := by omega
  have ec : chI m f q = f q := by unfold chI; rw [if_pos c]
  rw [ec] at h1 ⊢
  have h6 := dgN_6 (f q)
  have em : max32 0 (nI (dgN (f q))) = nI (dgN (f q)) := by
    rw [max32_q]
    by_cases z : nI (dgN (f q)) ≤ 0
    · have z' : nI (dgN (f q)) ≤ nI 0 := z
      rw [nI_le' (by omega) (by omega)] at z'
      have : dgN (f q) = 0 := by omega
      rw [if_pos z, this]; rfl
    · rw [if_neg z]
  unfold X_behind
  rw [inb_nI (show q < 100 by omega) (by decide), gd_p, ix_nI (by omega), x3, C_dig, bd_p, h1, if_pos rfl, em, lit32, nI_add, nI_add]
theorem num_C {m q k : Nat} {f : Nat → Int32} {σ : CS} {b : Nat} (X : CX m f (σ b)) (h : q + k ≤ m) : X_number σ b (nI q) (nI k) = some (numS f q k) := by
  obtain ⟨x1, x2, x3⟩ := X
  have e := (up_loop (L := fun N s i => X_number_L5 σ b (nI q) (nI k) N s (nI (q + i))) k (fun i s => 10 * s + f (q + i) - 48) (fun _ _ => True) some (by
    intro N i s hi _
    refine ⟨?_, trivial⟩
    show X_number_L5 σ b (nI q) (nI k) (N + 1) s (nI (q + i)) = X_number_L5 σ b (nI q) (nI k) N _ (nI (q + (i + 1)))
    rw [X_number_L5, nI_add, x2, if_neg (by rw [nI_le' (by omega) (by omega)]; omega), if_neg (by rw [nI_le' (by omega) (by omega)]; omega), inb_nI (show q + i < 100 by omega) (by decide), gd_t, nm_q, nm_q, ix_nI (by omega), x3, nI_1]
    rfl) (by
    intro N s _
    show X_number_L5 σ b (nI q) (nI k) (N + 1) s (nI (q + k)) = some s
    rw [X_number_L5, nI_add, if_pos (by rw [nI_le' (by omega) (by omega)]; omega)]) 0 trivial FU (FU_gt (by omega))).1
  have en : ∀ j, foldN (fun i s => 10 * s + f (q + i) - 48) 0 j = numS f q j := by
    intro j
    induction j with
    | zero => rfl
    | succ j ih =>
      show 10 * foldN (fun i s => 10 * s + f (q + i) - 48) 0 j + f (q + j) - 48 = 10 * numS f q j + f (q + j) - 48
      rw [ih]
  rw [← en]
  exact e
theorem dig_rng {m q : Nat} {f : Nat → Int32} (h : dgt m f q = true) : ∃ y, y < 10 ∧ f q = nI (48 + y) := by
  unfold dgt chI at h
  by_cases c : q < m
  · rw [if_pos c] at h
    have := of_decide_eq_true h
    exact ⟨(f q).toInt.toNat - 48, by omega, by rw [fa_eq, nI_toInt (by omega)]; omega⟩
  · rw [if_neg c] at h; exact absurd h (by decide)
theorem gdn_all {m q : Nat} {f : Nat → Int32} : ∀ k, gdn m f q k = k → ∀ i, i < k → dgt m f (q + i) = true
  | 0, _, i, hi => absurd hi (by omega)
  | k + 1, h, i, hi => by
    rw [gdn_s] at h
    by_cases c : gdn m f q k = k ∧ dgt m f (q + k) = true
    · by_cases e : i = k
      · subst e; exact c.2
      · exact gdn_all k c.1 i (by omega)
    · rw [if_neg c] at h
      have := gdn_le (m := m) (f := f) (q := q) k
      omega
theorem num_rng {m q : Nat} {f : Nat → Int32} : ∀ k, (∀ i, i < k → dgt m f (q + i) = true) → ∃ y, y < 10 ^ k ∧ numS f q k = nI y
  | 0, _ => ⟨0, by decide, rfl⟩
  | k + 1, h => by
    obtain ⟨y, hy, ey⟩ := num_rng (m := m) (q := q) (f := f) k (fun i hi => h i (by omega))
    obtain ⟨z, hz, ez⟩ := dig_rng (h k (by omega))
    refine ⟨10 * y + z, by rw [Nat.pow_succ]; omega, ?_⟩
    show 10 * numS f q k + f (q + k) - 48 = _
    rw [ey, ez, lit32 10, lit32 48, pk_mul, nI_add, pk_sub (by omega)]
    congr 1; omega
/-- where the statements begin -/
def pos (m : Nat) (f : Nat → Int32) : Nat → Nat
  | 0 => 0
  | k + 1 => pos m f k + 2 + dgN (chI m f (pos m f k))
theorem dgN_2 (c : Int32) : 2 ≤ dgN c := by unfold dgN; split <;> (try split) <;> (try split) <;> omega
theorem pos_4 {m : Nat} {f : Nat → Int32} : ∀ k, 4 * k ≤ pos m f k
  | 0 => by show 4 * 0 ≤ 0; omega
  | k + 1 => by
    have h1 := pos_4 (m := m) (f := f) k
    have h2 := dgN_2 (chI m f (pos m f k))
    show 4 * (k + 1) ≤ pos m f k + 2 + dgN (chI m f (pos m f k))
    omega
/-- what the reference has noted of the first k -/
def recM (m : Nat) (f : Nat → Int32) (s : Ob) (k : Nat) : Prop := ∀ j, j < k → sfR m f (pos m f j) = none ∧ oA s 14 j = nI (pos m f j) ∧ oA s 15 j = chI m f (pos m f j) ∧ toldOK f (chI m f (pos m f j)) (pos m f j + 1) s (3 * j)
theorem told_of {f : Nat → Int32} {c : Int32} {q i : Nat} {s u : Ob} (h : toldOK f c q s i) (e : ∀ j, i ≤ j → j < i + 3 → oA u 16 j = oA s 16 j) : toldOK f c q u i := by
  unfold toldOK
  rw [e i (by omega) (by omega), e (i + 1) (by omega) (by omega), e (i + 2) (by omega) (by omega)]
  exact h
theorem sf_le {m q e : Nat} {f : Nat → Int32} (h : sfR m f q = some e) : e ≤ q + 7 := by
  have h6 := dgN_6 (chI m f q)
  have hg := gdn_le (m := m) (f := f) (q := q + 1) (dgN (chI m f q))
  have ha : (adv m f (q + 1, false) (dgN (chI m f q))).1 = q + 1 + gdn m f (q + 1) (dgN (chI m f q)) := rfl
  unfold sfR at h
  split at h
  · split at h
    · cases h; omega
    · cases h
  · cases h; omega
theorem TX.v {d m : Nat} {f : Nat → Int32} {s u : Ob} (x : TX d m f s) (v : visM s u) : TX d m f u := ⟨x.1, x.2.1, by rw [v.2.2.2.1 12 (by decide) (by decide)]; exact x.2.2.1, fun i hi => by rw [v.2.2.2.2.2]; exact x.2.2.2 i hi⟩
theorem parse_loop {d m : Nat} {f : Nat → Int32} {σ : CS} {o : Ob} {b : Nat} (XC : CX m f (σ b)) (hd : d < 8) (K : Ob → Option (Int32 × Ob)) : ∀ r k N1 N2 (s : Ob), m < 4 * k + 4 * r → r < N1 → r + 1 < N2 → TX d m f s → PS d (pos m f k) false s → oS s 19 = nI k → visM o s → recM m f s k → (k = 0 ∨ pos m f k < m) → (∀ j, j < k → pos m f j < m) →
    (∃ e s', X_grammarFault_L4 σ b N1 (nI (pos m f k)) (nI k) = some (nI e) ∧ e < 1000 ∧ M_town_L57 K (nI d) N2 s = K s' ∧ oS s' 18 = 1 ∧ oS s' 17 = nI e ∧ visM o s') ∨
    (∃ k' s', X_grammarFault_L4 σ b N1 (nI (pos m f k)) (nI k) = some (-1) ∧ M_town_L57 K (nI d) N2 s = K s' ∧ oS s' 18 = 0 ∧ oS s' 19 = nI k' ∧ visM o s' ∧ recM m f s' k' ∧ k' ≤ 25 ∧ 1 ≤ k' ∧ m ≤ pos m f k' ∧ ∀ j, j < k' → pos m f j < m) := by
  obtain ⟨x1, x2, x3⟩ := XC
  have XC : CX m f (σ b) := ⟨x1, x2, x3⟩
  intro r
  induction r with
  | zero =>
    intro k N1 N2 s hm h1 h2 X P hk hv hr h0 hj
    have := pos_4 (m := m) (f := f) k
    omega
  | succ r ih =>
    intro k N1 N2 s hm h1 h2 X P hk hv hr h0 hj
    obtain ⟨N1, rfl⟩ : ∃ m, N1 = m + 1 := ⟨N1 - 1, by omega⟩
    obtain ⟨N2, rfl⟩ : ∃ m, N2 = m + 1 + 1 := ⟨N2 - 2, by omega⟩
    have h4 := pos_4 (m := m) (f := f) k
    have hp : pos m f k ≤ 100 := by
      rcases h0 with rfl | h0
      · show 0 ≤ 100; omega
      · omega
    have hk25 : k ≤ 25 := by omega
    have n100 : ¬ (100 : Int32) ≤ nI k := by show ¬ nI 100 ≤ nI k; rw [nI_le' (by omega) (by omega)]; omega
    have X12 : ix (oA s 12) (nI d) = nI m := by rw [ix_nI (by omega)]; exact X.2.2.1
    have start : M_town_L57 K (nI d) (N2 + 1 + 1) s = bd (M_readStatement s) fun (o16 : Ob) => M_town_L57 K (nI d) (N2 + 1) o16 := by
      rw [M_town_L57, if_pos (show oS s 18 = 0 from P.2.2), jn_e, hk]
      rcases h0 with rfl | h0
      · rw [if_pos (show nI 0 = (0 : Int32) from rfl)]
      · by_cases c : nI k = 0
        · rw [if_pos c]
        · rw [if_neg c, inb_nI hd (by decide), gd_t, X12, P.2.1, if_neg (by rw [nI_le' (by omega) (by omega)]; omega)]
    obtain ⟨R1, R2⟩ := rs_ok X P hk (show pos m f k < 700 by omega) (show k < 51 by omega)
    rw [start, X_grammarFault_L4, if_neg n100, sf_C XC (show pos m f k < 900 by omega), bd_e]
    cases hs : sfR m f (pos m f k) with
    | some e =>
      obtain ⟨u, u1, u2, u3, u4⟩ := R1 e hs
      have he := sf_le hs
      refine Or.inl ⟨e, u, ?_, by omega, ?_, u3, u2, hv.tr u4⟩
      · rw [if_neg (nI_pos (show e < 2 ^ 31 by omega))]
      · rw [u1, bd_e, M_town_L57, if_neg (show ¬ oS u 18 = 0 by rw [u3]; decide)]
    | none =>
      obtain ⟨u, u1, u2, u3, u4, u5, u6, u7, u8, u9⟩ := R2 hs
      have hsn := sf_none hs
      have h6 := dgN_6 (chI m f (pos m f k))
      have ep : pos m f (k + 1) = pos m f k + 2 + dgN (chI m f (pos m f k)) := rfl
      have hr' : recM m f u (k + 1) := fun j hjk => by
        by_cases c : j = k
        · subst c; exact ⟨hs, u7, u8, u9⟩
        · obtain ⟨r1, r2, r3, r4⟩ := hr j (by omega)
          obtain ⟨v1, v2⟩ := u5 j (by omega)
          exact ⟨r1, v1.trans r2, v2.trans r3, told_of r4 (fun i _ hi => u6 i (by omega))⟩
      have hpk : pos m f k < m := by omega
      have hj' : ∀ j, j < k + 1 → pos m f j < m := fun j hjk => by
        by_cases c : j = k
        · subst c; exact hpk
        · exact hj j (by omega)
      rw [if_pos (show (-1 : Int32) < 0 by decide), behind_C XC hs, bd_e, x2, u1, bd_e]
      by_cases c : pos m f (k + 1) < m
      · have c' : nI (pos m f k + 2 + dgN (chI m f (pos m f k))) < nI m := by rw [nI_lt' (by omega) (by omega)]; omega
        rw [if_pos c', nm_q, nI_1]
        exact ih (k + 1) N1 (N2 + 1) u (by omega) (by omega) (by omega) (X.v u4) u2 u3 (hv.tr u4) hr' (Or.inr c) hj'
      · have c' : ¬ nI (pos m f k + 2 + dgN (chI m f (pos m f k))) < nI m := by rw [nI_lt' (by omega) (by omega)]; omega
        rw [if_neg c']
        have n0 : ¬ nI (k + 1) = (0 : Int32) := nI_ne0 (by omega) (by omega)
        refine Or.inr ⟨k + 1, u, rfl, ?_, u2.2.2, u3, hv.tr u4, hr', by omega, by omega, by omega, hj'⟩
        have X12' : ix (oA u 12) (nI d) = nI m := by rw [ix_nI (by omega)]; exact (X.v u4).2.2.1
        rw [M_town_L57, if_pos (show oS u 18 = 0 from u2.2.2), jn_e, u3, if_neg n0, inb_nI hd (by decide), gd_t, X12', u2.2.1, if_pos (by rw [nI_le' (by omega) (by omega)]; omega)]

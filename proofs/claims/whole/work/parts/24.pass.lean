theorem fa_lt (a b : Int32) : a < b ↔ a.toInt < b.toInt := Int32.lt_iff_toInt_lt
theorem fa_le (a b : Int32) : a ≤ b ↔ a.toInt ≤ b.toInt := Int32.le_iff_toInt_le
theorem fa_eq (a b : Int32) : a = b ↔ a.toInt = b.toInt := Int32.toInt_inj.symm
/-! how long a story can be -/
theorem pc_rng {x : Int32} (h : B12 x) : ∃ j, j ≤ 12 ∧ pcI x = nI j := by
  obtain ⟨k, hk, rfl⟩ := h
  have h1 := all64 (f := fun k => decide ((pcI (nI k)).toNatClampNeg ≤ 12 ∧ pcI (nI k) = nI (pcI (nI k)).toNatClampNeg)) (by decide +kernel) k hk
  have h2 := of_decide_eq_true h1
  exact ⟨_, h2.1, h2.2⟩
theorem tell_rng {k f a b : Int32} (hk : kd8 k) (hf : ∃ j, j < 10 ∧ f = nI j) (ha : B12 a) (hb : B12 b) : ∃ m, m < 64 ∧ tellS k f a b = nI m := by
  obtain ⟨x, hx, ex⟩ := pc_rng ha
  obtain ⟨y, hy, ey⟩ := pc_rng hb
  obtain ⟨z, hz, ez⟩ := pc_rng (B12_and 4032 ha)
  obtain ⟨j, hj, rfl⟩ := hf
  have d3 : nI j / (3 : Int32) = nI (j / 3) := pk_div (d := 3) (by omega) (by decide) (by decide)
  have d2 : nI y / (2 : Int32) = nI (y / 2) := pk_div (d := 2) (by omega) (by decide) (by decide)
  rcases k8' hk with rfl | rfl | rfl | rfl | rfl | rfl | rfl | rfl
  · exact ⟨x, by omega, ex⟩
  · show ∃ m, m < 64 ∧ (K4_tells (nI j) a b).getD 0 = nI m
    unfold K4_tells
    split
    · exact ⟨0, by decide, rfl⟩
    · refine ⟨x + j / 3, by omega, ?_⟩
      rw [bitCount_some, bd_e, d3, ex, nI_add]; rfl
  · refine ⟨x + y / 2, by omega, ?_⟩
    show pcI a + pcI b / 2 = _
    rw [ex, ey, d2, nI_add]
  · refine ⟨x + z, by omega, ?_⟩
    show pcI a + pcI (a &&& 4032) = _
    rw [ex, ez, nI_add]
  · show ∃ m, m < 64 ∧ (K1_tells (nI j) a b).getD 0 = nI m
    unfold K1_tells K4_tells
    by_cases h0 : a = 0
    · exact ⟨0, by decide, by simp only [h0, if_true]; rfl⟩
    · refine ⟨x + j / 3 + 2, by omega, ?_⟩
      simp only [h0, if_false, bitCount_some, bd_e, d3, ex, nI_add]
      exact nI_add _ 2
  · refine ⟨x + y / 2, by omega, ?_⟩
    show pcI a + pcI b / 2 = _
    rw [ex, ey, d2, nI_add]
  · show ∃ m, m < 64 ∧ max32 0 (pcI a + pcI (a &&& 4032) - 1) = nI m
    rw [serv ha, ex, ez, nI_add]
    by_cases h0 : x + z = 0
    · exact ⟨0, by decide, by rw [h0]; rfl⟩
    · refine ⟨x + z - 1, by omega, ?_⟩
      rw [if_neg (by show ¬ nI (x + z) = nI 0; rw [nI_eq' (by omega) (by omega)]; exact h0)]
      exact pk_sub (b := 1) (by omega)
  · exact ⟨0, by decide, rfl⟩
theorem story_rng {n p h : Nat} {t : Ob} (w : wfA n t) (hp : p < n) (hh : h < 5) : ∃ m, m < 64 ∧ storyS t p h = nI m := by
  have h7 := w.n7
  exact tell_rng (w.kind hp) (w.fig hp) (B12_and _ (w.kno (by omega))) (B12_and _ (w.kno (by omega)))
theorem story_nn {n p h : Nat} {t : Ob} (w : wfA n t) (hp : p < n) (hh : h < 5) : 0 ≤ (storyS t p h).toInt := by
  obtain ⟨m, hm, e⟩ := story_rng w hp hh
  rw [e, nI_toInt (by omega)]
  omega
/-! who is told to own it -/
def stepC (t : Ob) (h : Nat) (p : Nat) (s : Int32 × Int32 × Int32) : Int32 × Int32 × Int32 := if nI p = oA t 3 h then (storyS t p h, s.2.1, s.2.2) else if storyS t p h ≤ s.2.1 then s else (s.1, storyS t p h, nI p)
def resC (n : Nat) (t : Ob) (h : Nat) : Int32 × Int32 × Int32 := foldN (stepC t h) (0, 0, nI 9) n
def changes (n : Nat) (t : Ob) (h : Nat) : Bool := decide ((resC n t h).1 < (resC n t h).2.1)
def settleS (n : Nat) (h : Nat) (t : Ob) : Ob := match changes n t h with
  | true => setO t h (resC n t h).2.2
  | false => t
def bI (b : Bool) : Int32 := match b with
  | true => 1
  | false => 0
theorem T_settle_L {n h : Nat} {t : Ob} (w : wfA n t) (hh : h < 5) (hn : oS t 1 = nI n) (k : Int32 → Int32 → Int32 → Option (Int32 × Ob)) : T_settle_L11 k t (nI h) FU 0 0 9 0 = k (resC n t h).1 (resC n t h).2.1 (resC n t h).2.2 := by
  have h7 := w.n7
  refine (up_loop (fun m (s : Int32 × Int32 × Int32) i => T_settle_L11 k t (nI h) m s.1 s.2.1 s.2.2 (nI i)) n (stepC t h) (fun _ _ => True) (fun s => k s.1 s.2.1 s.2.2) (fun m i s hi _ => ⟨?_, trivial⟩) (fun m s _ => ?_) (0, 0, nI 9) trivial FU (FU_gt (by omega))).1
  · have i1 : inb (nI i) 7 = true := inb_nI (by omega) (by decide)
    have i2 : inb (nI h) 5 = true := inb_nI hh (by decide)
    have i3 : inb (nI (i * 5 + h)) 35 = true := inb_nI (by omega) (by decide)
    have x4 : ∀ f, ix f (nI i) = f i := fun f => ix_nI (by omega)
    have x5 : ∀ f, ix f (nI h) = f h := fun f => ix_nI (by omega)
    have x6 : ∀ f, ix f (nI (i * 5 + h)) = f (i * 5 + h) := fun f => ix_nI (by omega)
    show T_settle_L11 k t (nI h) (m + 1) s.1 s.2.1 s.2.2 (nI i) = T_settle_L11 k t (nI h) m (stepC t h i s).1 (stepC t h i s).2.1 (stepC t h i s).2.2 (nI (i + 1))
    rw [T_settle_L11, hn, if_neg (by rw [nI_le' (by omega) (by omega)]; omega)]
    simp only [ixkn, i1, i2, i3, x4, x5, x6, gd_t, nm_q, kd8_inb (w.kind hi), tell_some (w.kind hi), bd_e, nI_1]
    show bd3 (if nI i = oA t 3 h then some (storyS t i h, s.2.1, s.2.2) else if storyS t i h ≤ s.2.1 then some (s.1, s.2.1, s.2.2) else some (s.1, storyS t i h, nI i)) _ = _
    unfold stepC
    by_cases c1 : nI i = oA t 3 h
    · rw [if_pos c1, if_pos c1]; rfl
    · rw [if_neg c1, if_neg c1]
      by_cases c2 : storyS t i h ≤ s.2.1
      · rw [if_pos c2, if_pos c2]; rfl
      · rw [if_neg c2, if_neg c2]; rfl
  · show T_settle_L11 k t (nI h) (m + 1) s.1 s.2.1 s.2.2 (nI n) = k s.1 s.2.1 s.2.2
    rw [T_settle_L11, hn, if_pos (by rw [nI_le' (by omega) (by omega)]; omega)]
theorem T_settle_ok' {n h : Nat} {t : Ob} (w : wfA n t) (hh : h < 5) (hn : oS t 1 = nI n) : T_settle t (nI h) = some (bI (changes n t h), settleS n h t) := by
  unfold T_settle
  rw [T_settle_L w hh hn]
  unfold settleS changes
  by_cases c : (resC n t h).1 < (resC n t h).2.1
  · rw [if_pos c, inb_nI hh (by decide), decide_eq_true c]; rfl
  · rw [if_neg c, decide_eq_false c]; rfl
/-- the owner's own story -/
def ownT (n : Nat) (t : Ob) (h : Nat) : Int32 := if oA t 3 h = nI 9 then 0 else storyS t (oA t 3 h).toNatClampNeg h
def stepM (t : Ob) (h : Nat) (p : Nat) (s : Int32 × Int32) : Int32 × Int32 := if nI p = oA t 3 h then s else if storyS t p h ≤ s.2 then s else (nI p, storyS t p h)
theorem M_goesTo_L {n h : Nat} {t : Ob} (w : wfA n t) (hh : h < 5) (hn : oS t 3 = nI n) (k : Int32 → Option Ob) (y : Int32) : M_goesTo_L33 k t (nI h) FU 9 y 0 = k (foldN (stepM t h) (nI 9, y) n).1 := by
  have h7 := w.n7
  refine (up_loop (fun m (s : Int32 × Int32) i => M_goesTo_L33 k t (nI h) m s.1 s.2 (nI i)) n (stepM t h) (fun _ _ => True) (fun s => k s.1) (fun m i s hi _ => ⟨?_, trivial⟩) (fun m s _ => ?_) (nI 9, y) trivial FU (FU_gt (by omega))).1
  · have i2 : inb (nI h) 5 = true := inb_nI hh (by decide)
    have x5 : ∀ f, ix f (nI h) = f h := fun f => ix_nI (by omega)
    show M_goesTo_L33 k t (nI h) (m + 1) s.1 s.2 (nI i) = M_goesTo_L33 k t (nI h) m (stepM t h i s).1 (stepM t h i s).2 (nI (i + 1))
    rw [M_goesTo_L33, hn, if_neg (by rw [nI_le' (by omega) (by omega)]; omega)]
    simp only [i2, x5, gd_t, nm_q, M_storyOf_ok' w hi hh, bd_e, nI_1]
    unfold stepM
    by_cases c1 : nI i = oA t 3 h
    · rw [if_pos c1, if_pos c1]; rfl
    · rw [if_neg c1, if_neg c1]
      by_cases c2 : storyS t i h ≤ s.2
      · rw [if_pos c2, if_pos c2]; rfl
      · rw [if_neg c2, if_neg c2]; rfl
  · show M_goesTo_L33 k t (nI h) (m + 1) s.1 s.2 (nI n) = k s.1
    rw [M_goesTo_L33, hn, if_pos (by rw [nI_le' (by omega) (by omega)]; omega)]
def relCM (t : Ob) (h : Nat) (y : Int32) (i : Nat) (C : Int32 × Int32 × Int32) (M : Int32 × Int32) : Prop :=
  0 ≤ C.2.1.toInt ∧ M = (if y < C.2.1 then (C.2.2, C.2.1) else (nI 9, y)) ∧ (0 < C.2.1.toInt → ∃ q, q < i ∧ C.2.2 = nI q) ∧ C.1 = (if (oA t 3 h).toInt < i ∧ ¬ oA t 3 h = nI 9 then storyS t (oA t 3 h).toNatClampNeg h else 0)
theorem rel_step {n h i : Nat} {t : Ob} (w : wfA n t) (hh : h < 5) {y : Int32} (hi : i < n) {C : Int32 × Int32 × Int32} {M : Int32 × Int32} (r : relCM t h y i C M) : relCM t h y (i + 1) (stepC t h i C) (stepM t h i M) := by
  have h7 := w.n7
  obtain ⟨r1, r2, r3, r4⟩ := r
  have hs := story_nn w hi hh
  unfold stepC stepM
  by_cases c1 : nI i = oA t 3 h
  · rw [if_pos c1, if_pos c1]
    refine ⟨r1, r2, fun h0 => ?_, ?_⟩
    · obtain ⟨q, hq, e⟩ := r3 h0
      exact ⟨q, by omega, e⟩
    · show storyS t i h = _
      rw [← c1, nI_toInt (by omega), if_pos ⟨by omega, by rw [nI_eq' (by omega) (by omega)]; omega⟩, nI_clamp (by omega)]
  · rw [if_neg c1, if_neg c1]
    have r4' : C.1 = (if (oA t 3 h).toInt < ((i + 1 : Nat) : Int) ∧ ¬ oA t 3 h = nI 9 then storyS t (oA t 3 h).toNatClampNeg h else 0) := by
      have hne : ¬ (oA t 3 h).toInt = i := fun e => c1 (by rw [fa_eq, e, nI_toInt (by omega)])
      have e : ((oA t 3 h).toInt < ((i + 1 : Nat) : Int) ∧ ¬ oA t 3 h = nI 9) ↔ ((oA t 3 h).toInt < (i : Int) ∧ ¬ oA t 3 h = nI 9) := by
        constructor
        · intro q; exact ⟨by omega, q.2⟩
        · intro q; exact ⟨by omega, q.2⟩
      rw [r4]
      simp only [e]
    by_cases c2 : storyS t i h ≤ C.2.1
    · rw [if_pos c2]
      have c3 : storyS t i h ≤ M.2 := by
        rw [r2]
        by_cases c4 : y < C.2.1
        · rw [if_pos c4]; exact c2
        · rw [if_neg c4]
          rw [fa_lt] at c4
          rw [fa_le] at c2 ⊢
          show _ ≤ y.toInt
          omega
      rw [if_pos c3]
      refine ⟨r1, r2, fun h0 => ?_, r4'⟩
      obtain ⟨q, hq, e⟩ := r3 h0
      exact ⟨q, by omega, e⟩
    · rw [if_neg c2]
      rw [fa_le] at c2
      refine ⟨hs, ?_, fun _ => ⟨i, by omega, rfl⟩, r4'⟩
      show (if storyS t i h ≤ M.2 then M else (nI i, storyS t i h)) = if y < storyS t i h then (nI i, storyS t i h) else (nI 9, y)
      by_cases c4 : y < C.2.1
      · rw [if_pos c4] at r2
        rw [fa_lt] at c4
        rw [if_neg (by rw [r2, fa_le]; show ¬ _ ≤ C.2.1.toInt; omega), if_pos (by rw [fa_lt]; omega)]
      · rw [if_neg c4] at r2
        subst r2
        by_cases c5 : storyS t i h ≤ y
        · rw [if_pos c5]
          rw [fa_le] at c5
          rw [if_neg (by rw [fa_lt]; omega)]
        · rw [if_neg c5]
          rw [fa_le] at c5
          rw [if_pos (by rw [fa_lt]; omega)]
theorem settle_rel {n h : Nat} {t : Ob} (w : wfA n t) (hh : h < 5) {y : Int32} (hy : 0 ≤ y.toInt) : relCM t h y n (resC n t h) (foldN (stepM t h) (nI 9, y) n) := by
  have z0 : (0 : Int32).toInt = 0 := by decide
  have ho : 0 ≤ (oA t 3 h).toInt := by
    have h7 := w.n7
    rcases w.own hh with ⟨q, hq, e⟩ | e <;> rw [e, nI_toInt (by omega)] <;> omega
  have key : ∀ i, i ≤ n → relCM t h y i (foldN (stepC t h) (0, 0, nI 9) i) (foldN (stepM t h) (nI 9, y) i) := by
    intro i
    induction i with
    | zero =>
      intro _
      refine ⟨by show 0 ≤ (0 : Int32).toInt; omega, ?_, fun h0 => ?_, ?_⟩
      · show (nI 9, y) = if y < (0 : Int32) then _ else (nI 9, y)
        rw [if_neg (by rw [fa_lt]; omega)]
      · exact absurd h0 (by show ¬ 0 < (0 : Int32).toInt; omega)
      · show (0 : Int32) = _
        rw [if_neg (by omega)]
    | succ i ih => intro hi; exact rel_step w hh (by omega) (ih (by omega))
  exact key n (Nat.le_refl n)
theorem setO_id {t : Ob} {h : Nat} (hh : h < 5) : setO t h (oA t 3 h) = t := by
  have e : upd (oA t 3) (nI h).toNatClampNeg (oA t 3 h) = oA t 3 := by
    funext j; rw [upd_nI (by omega)]; split
    · rename_i q; rw [q]
    · rfl
  obtain ⟨a, b, c⟩ := t
  show (a, va_up b 3 (upd (b 3) (nI h).toNatClampNeg (b 3 h)), c) = (a, b, c)
  have e' : upd (b 3) (nI h).toNatClampNeg (b 3 h) = b 3 := e
  rw [e']
  congr 2
  funext j; unfold va_up; split
  · rename_i q; rw [q]
  · rfl
theorem resC_1 {n h : Nat} {t : Ob} (w : wfA n t) (hh : h < 5) : (resC n t h).1 = ownT n t h := by
  have h7 := w.n7
  have r := (settle_rel w hh (y := 0) (by decide)).2.2.2
  rw [r]
  unfold ownT
  rcases w.own hh with ⟨q, hq, e⟩ | e
  · have n9 : ¬ nI q = nI 9 := by rw [nI_eq' (by omega) (by omega)]; omega
    rw [e, if_pos ⟨by rw [nI_toInt (by omega)]; omega, n9⟩, if_neg n9]
  · rw [e, if_neg (fun q => q.2 rfl), if_pos rfl]
theorem ownT_nn {n h : Nat} {t : Ob} (w : wfA n t) (hh : h < 5) : 0 ≤ (ownT n t h).toInt := by
  have h7 := w.n7
  unfold ownT
  rcases w.own hh with ⟨q, hq, e⟩ | e
  · rw [e, if_neg (by rw [nI_eq' (by omega) (by omega)]; omega), nI_clamp (by omega)]
    exact story_nn w hq hh
  · rw [e, if_pos rfl]; decide
theorem M_goesTo_ok' {n h : Nat} {t : Ob} (w : wfA n t) (hh : h < 5) (hn : oS t 3 = nI n) : M_goesTo t (nI h) = some (settleS n h t) := by
  have h7 := w.n7
  have i2 : inb (nI h) 5 = true := inb_nI hh (by decide)
  have x5 : ∀ f, ix f (nI h) = f h := fun f => ix_nI (by omega)
  have z0 : (0 : Int32).toInt = 0 := by decide
  unfold M_goesTo
  have ey : (if oA t 3 h = (9 : Int32) then some 0 else gd true (bd (M_storyOf t (oA t 3 h) (nI h)) fun r4 => some r4)) = some (ownT n t h) := by
    unfold ownT
    rcases w.own hh with ⟨q, hq, e⟩ | e
    · have n9 : ¬ nI q = nI 9 := by rw [nI_eq' (by omega) (by omega)]; omega
      have n9' : ¬ nI q = (9 : Int32) := n9
      rw [e, if_neg n9', if_neg n9, M_storyOf_ok' w hq hh, nI_clamp (by omega)]; rfl
    · have e9 : oA t 3 h = (9 : Int32) := e
      rw [if_pos e9, if_pos e]
  rw [i2, x5]
  show bd (if oA t 3 h = (9 : Int32) then some 0 else gd true (bd (M_storyOf t (oA t 3 h) (nI h)) fun r4 => some r4)) _ = _
  rw [ey, bd_e, M_goesTo_L w hh hn]
  obtain ⟨r1, r2, r3, r4⟩ := settle_rel w hh (ownT_nn w hh)
  rw [r2]
  unfold settleS changes
  rw [resC_1 w hh]
  by_cases c : ownT n t h < (resC n t h).2.1
  · rw [if_pos c, decide_eq_true c]
    have h0 := ownT_nn w hh
    obtain ⟨q, hq, e⟩ := r3 (by rw [fa_lt] at c; omega)
    have n9 : ¬ (resC n t h).2.2 = (9 : Int32) := by rw [e]; show ¬ nI q = nI 9; rw [nI_eq' (by omega) (by omega)]; omega
    show bd (if (resC n t h).2.2 = (9 : Int32) then _ else some (resC n t h).2.2) _ = _
    rw [if_neg n9]; rfl
  · rw [if_neg c, decide_eq_false c]
    show some (setO t h (oA t 3 h)) = some t
    rw [setO_id hh]
theorem wfA.settle {n h : Nat} {t : Ob} (w : wfA n t) (hh : h < 5) : wfA n (settleS n h t) := by
  unfold settleS
  cases c : changes n t h with
  | false => exact w
  | true =>
    obtain ⟨r1, r2, r3, r4⟩ := settle_rel w hh (ownT_nn w hh)
    have c2 : (resC n t h).1 < (resC n t h).2.1 := of_decide_eq_true c
    rw [resC_1 w hh, fa_lt] at c2
    have h0 := ownT_nn w hh
    obtain ⟨q, hq, e⟩ := r3 (by omega)
    exact w.setO hh (Or.inl ⟨q, hq, e⟩)

/-! days on, for good -/
def nz (n : Nat) (t : Ob) : Prop := ∀ i, n * 5 ≤ i → oA t 7 i = 0
theorem nz_pA {n : Nat} {t : Ob} {j i : Nat} {v : Int32} (h : nz n t) (hi : i < 2 ^ 31) (hl : j = 7 → i < n * 5) : nz n (pA t j (nI i) v) := by
  intro q hq
  by_cases c : j = 7
  · have := hl c
    subst c
    rw [pA_at hi, if_neg (by omega)]; exact h q hq
  · rw [pA_ne (by omega)]; exact h q hq
theorem nz_study {n p : Nat} {t : Ob} {d : Int32} (w : wfA n t) (hp : p < n) (h : nz n t) : nz n (studyS t p d) := by
  have h7 := w.n7
  rcases w.care hp with ⟨c, hc, e⟩ | e
  · exact (foldN_inv (P := fun _ s => nz n s ∧ oA s 6 p = nI c) ⟨h, e⟩ _ (fun _ s _ h => by
      rw [caresN_of hc h.2]
      exact ⟨nz_pA h.1 (by omega) (fun _ => by omega), by rw [learn1_ne (by decide)]; exact h.2⟩)).1
  · have z : lesN t p d = 0 := by unfold lesN; rw [if_pos e]
    unfold studyS; rw [z]; exact h
theorem nz_day {n : Nat} {t : Ob} {d : Int32} (w : wfA n t) (h : nz n t) : nz n (dayS n d t) := by
  have h7 := w.n7
  have h1 : wfA n (peopleS n d t) ∧ nz n (peopleS n d t) := foldN_inv (P := fun _ s => wfA n s ∧ nz n s) ⟨w, h⟩ n (fun i s hi q => by
    refine ⟨person_wf q.1 hi, ?_⟩
    have z1 := nz_study (d := d) q.1 hi q.2
    unfold personS forgetS; split
    · exact z1
    · exact foldN_inv (P := fun _ s => nz n s) z1 5 (fun j s hj q => nz_pA q (by omega) (fun _ => by omega)))
  refine foldN_inv (P := fun _ s => nz n s) h1.2 5 (fun i s hi q => ?_)
  unfold settleS; split
  · exact nz_pA q (by omega) (fun e => absurd e (by decide))
  · exact q
theorem nz_iter {n : Nat} {t : Ob} {d : Int32} (w : wfA n t) (h : nz n t) : ∀ k, nz n (iterD n d t k)
  | 0 => h
  | k + 1 => nz_day (iter_wf w k) (nz_iter w h k)
/-- both went k days on -/
theorem Rel.gone {n k : Nat} {σ : CS} {o t u : Ob} (h : Rel n σ o) (ht : isDay n (oS o 8) (σ 1) k t) (hu : isDayM n (oS o 8) (σ 1) k u) (r : restM o u) (hd : ∃ e, e ≤ 999 ∧ oS o 8 + nI k = nI e) : Rel n (va_up σ 1 t) u := by
  have hz := ht.zb h.wf h.1.2.2.2.2
  have hn : nz n t := fun i hi => by rw [ht.2.2 7 (by decide) (by decide)]; exact nz_iter h.wf h.1.2.2.2.1 k i hi
  have hw := ht.2.2.sm.wf (iter_wf h.wf k)
  obtain ⟨h1, h2, h3, h4, h5, h6, h8, h9, h10⟩ := h
  obtain ⟨e, he, ee⟩ := hd
  have r25 : oS u 25 = oS o 25 := r.1 25 (by decide) (by decide)
  refine ⟨by rw [vu_at]; exact ⟨hw, ht.1, ⟨e, he, ht.2.1.trans ee⟩, hn, hz⟩, hu.1, by rw [vu_at]; exact ht.2.1.trans hu.2.1.symm, by rw [vu_at]; exact ht.2.2.tr hu.2.2.sm, fun a x y => by rw [vu_ne (by omega)]; exact h5 a x y, by rw [vu_ne (by decide)]; exact h6.trans r25.symm, by rw [r25]; exact h8, fun e => ?_, fun d hd => ?_⟩
  · rw [vu_ne (by decide), r.2.1 18 (by decide)]
    exact h9 (r25.symm.trans e)
  · rw [vu_ne (by omega)]
    have hs := h10 d hd
    have rl : oL u 13 = oL o 13 := by show u.2.2 13 = _; rw [r.2.2]; rfl
    unfold shR at hs ⊢
    rw [r.2.1 8 (by decide), r.2.1 9 (by decide), r.2.1 10 (by decide), r.2.1 11 (by decide), r.2.1 12 (by decide), rl]
    exact hs
theorem Rel.d0 {n : Nat} {σ : CS} {o : Ob} (h : Rel n σ o) : isDay n (oS o 8) (σ 1) 0 (σ 1) := ⟨h.1.2.1, by rw [h.2.2.1, nI_0, Int32.add_zero], AEq.rf⟩
theorem Rel.m0 {n : Nat} {σ : CS} {o : Ob} (h : Rel n σ o) : isDayM n (oS o 8) (σ 1) 0 o := ⟨h.2.1, by rw [nI_0, Int32.add_zero], h.2.2.2.1.sm⟩
theorem r_days {n : Nat} {σ : CS} {o : Ob} (h : Rel n σ o) (p : Int32) : ok2 (C_days σ p) (M_days o p) := by
  have H := h.t0
  unfold C_days M_days
  simp only [nm_q]
  generalize pS o 15 0 = u at H
  have z1 : (1 : Int32).toInt = 1 := by decide
  have z60 : (60 : Int32).toInt = 60 := by decide
  rw [M_inI, bd_e, show (1 : Int64).toInt = 1 from rfl, show (60 : Int64).toInt = 60 from rfl]
  cases hp : rng p 1 60 with
  | false =>
    have hp' := of_decide_eq_false hp
    refine ⟨-1, σ, u, ?_, rfl, n, H⟩
    by_cases c : p < 1
    · rw [if_pos c]
    · rw [if_neg c, if_neg (by rw [fa_lt] at c; rw [fa_le]; omega)]
  | true =>
    have hp' := of_decide_eq_true hp
    obtain ⟨k, hk, rfl⟩ : ∃ k : Nat, (1 ≤ k ∧ k ≤ 60) ∧ p = nI k := ⟨p.toInt.toNat, by omega, by rw [fa_eq, nI_toInt (by omega)]; omega⟩
    rw [if_neg (by rw [fa_lt, nI_toInt (by omega)]; omega), if_pos (by rw [fa_le, nI_toInt (by omega)]; omega), b1]
    by_cases c : oS u 8 + nI k ≤ 999
    · obtain ⟨t, e1, e2⟩ := T_goOn_ok' H.wf hk.1 hk.2 H.d0 c
      obtain ⟨v, f1, f2, f3⟩ := M_goDays_ok' H.wf (show k < 1000 by omega) H.m0
      have hd : ∃ e, e ≤ 999 ∧ oS u 8 + nI k = nI e := by
        obtain ⟨d, hd, ed⟩ := H.1.2.2.1
        rw [← H.2.2.1, ed, nI_add] at c ⊢
        refine ⟨d + k, ?_, rfl⟩
        have c' : nI (d + k) ≤ nI 999 := c
        rw [nI_le' (by omega) (by omega)] at c'
        exact c'
      have R := H.gone e2 f2 f3 hd
      rw [if_pos c, e1, bd2_e, if_neg (by decide), f1, bd_e, vu_at]
      unfold T_ownedThings M_ownedBits
      have ea : AEq t v := e2.2.2.tr f2.2.2.sm
      have hb : B12 (31 &&& (ownS v 9 ^^^ -1)) := B12_and _ ⟨31, by decide, rfl⟩
      rw [T_ownedBy_ok', M_ownedBy_ok', bd_e, bd_e, bd_e, bd_e, ones_b _ hb, bitCount_some, bd_e, bd_e, ea.own]
      exact ⟨_, _, v, rfl, rfl, n, R⟩
    · rw [if_neg c]
      refine ⟨-3, σ, u, ?_, rfl, n, H⟩
      unfold T_goOn
      rw [if_neg (by rw [fa_lt, nI_toInt (by omega)]; omega), if_neg (by rw [fa_lt, nI_toInt (by omega)]; omega), H.2.2.1, if_neg c, bd2_e, vu_self]
      rfl
/-! the fewest facts that win -/
theorem M_taleBy {n : Nat} {t : Ob} (w : wfA n t) {p h : Nat} (hp : p < n) {a : Int32} (ha : B12 a) : M_storyBy t (nI p) a (oA t 1 h) = some (taleS t p h a) := M_storyBy_ok' t (by have := w.n7; omega) (w.kind hp) ha
def mostS (t : Ob) (a h : Nat) (n : Nat) : Int32 := foldN (fun i s => if i = a then s else if storyS t i h ≤ s then s else storyS t i h) 0 n
theorem max32_q (x y : Int32) : max32 x y = if y ≤ x then x else y := by
  unfold max32
  by_cases c : y ≤ x
  · rw [if_pos c, if_neg (by rw [fa_le] at c; rw [fa_lt]; omega)]
  · rw [if_neg c, if_pos (by rw [fa_le] at c; rw [fa_lt]; omega)]
theorem C_most {n a h : Nat} {σ : CS} (w : wfA n (σ 1)) (hn : oS (σ 1) 1 = nI n) (ha : a < n) (hh : h < 5) (k : Int32 → Option Int32) : C_win_L25 k σ (nI a) (nI h) FU 0 0 = k (mostS (σ 1) a h n) := by
  have h7 := w.n7
  refine (up_loop (L := fun N s i => C_win_L25 k σ (nI a) (nI h) N s (nI i)) n (fun i s => if i = a then s else if storyS (σ 1) i h ≤ s then s else storyS (σ 1) i h) (fun _ _ => True) k ?_ ?_ 0 trivial FU (FU_gt (by omega))).1
  · intro N i s hi _
    refine ⟨?_, trivial⟩
    rw [C_win_L25, hn, if_neg (by rw [nI_le' (by omega) (by omega)]; omega)]
    simp only [nm_q, nI_1, nI_eq' (show i < 2 ^ 31 by omega) (show a < 2 ^ 31 by omega)]
    by_cases c : i = a
    · rw [if_pos c, if_pos c, bd_e]
    · rw [if_neg c, if_neg c, T_tale_ok' w hi hh, bd_e, bd_e, max32_q]
  · intro N s _
    rw [C_win_L25, hn, if_pos (by rw [nI_le' (by omega) (by omega)]; omega)]
theorem M_most {n a h : Nat} {t : Ob} (w : wfA n t) (hn : oS t 3 = nI n) (ha : a < n) (hh : h < 5) : M_mostOfOthers t (nI a) (nI h) = some (mostS t a h n) := by
  have h7 := w.n7
  refine (up_loop (L := fun N s i => M_mostOfOthers_L5 t (nI a) (nI h) N s (nI i)) n (fun i s => if i = a then s else if storyS t i h ≤ s then s else storyS t i h) (fun _ _ => True) some ?_ ?_ 0 trivial FU (FU_gt (by omega))).1
  · intro N i s hi _
    refine ⟨?_, trivial⟩
    rw [M_mostOfOthers_L5, hn, if_neg (by rw [nI_le' (by omega) (by omega)]; omega)]
    simp only [nm_q, jn_e, nI_1, nI_eq' (show i < 2 ^ 31 by omega) (show a < 2 ^ 31 by omega)]
    by_cases c : i = a
    · rw [if_pos c, if_pos c, bd_e]
    · rw [if_neg c, if_neg c, M_storyOf_ok' w hi hh, bd_e, bd_e]
      by_cases c' : storyS t i h ≤ s
      · rw [if_pos c', if_pos c', bd_e]
      · rw [if_neg c', if_neg c', bd_e]
  · intro N s _
    rw [M_mostOfOthers_L5, hn, if_pos (by rw [nI_le' (by omega) (by omega)]; omega)]
theorem AEq.most {t o : Ob} (e : AEq t o) {a h n : Nat} : mostS t a h n = mostS o a h n := by
  unfold mostS
  have := foldN_rel (R := fun (a b : Int32) => a = b) (f := fun i s => if i = a then s else if storyS t i h ≤ s then s else storyS t i h) (g := fun i s => if i = a then s else if storyS o i h ≤ s then s else storyS o i h) (s := 0) (t := 0) rfl n (fun i s t _ q => by subst q; simp only [e.story])
  exact this
theorem win_loop {n a h : Nat} {m : Int32} {σ : CS} {o : Ob} (R : Rel n σ o) (ha : a < n) (hh : h < 5) : ∀ r d N1 N2 x, d + r = 13 → r < N1 → r < N2 → B12 x → ∃ y, C_win_L82 σ (nI a) (nI h) m N1 x (nI d) = some y ∧ M_win_L44 o (nI a) (nI h) m N2 x (nI d) = some (y, o) := by
  intro r
  induction r with
  | zero =>
    intro d N1 N2 x hd h1 h2 hx
    obtain ⟨N1, rfl⟩ : ∃ m, N1 = m + 1 := ⟨N1 - 1, by omega⟩
    obtain ⟨N2, rfl⟩ : ∃ m, N2 = m + 1 := ⟨N2 - 1, by omega⟩
    have e : (12 : Int32) < nI d := by show nI 12 < nI d; rw [nI_lt' (by omega) (by omega)]; omega
    have e' : (13 : Int32) ≤ nI d := by show nI 13 ≤ nI d; rw [nI_le' (by omega) (by omega)]; omega
    exact ⟨-4, by rw [C_win_L82, if_pos e], by rw [M_win_L44, if_pos e']⟩
  | succ r ih =>
    intro d N1 N2 x hd h1 h2 hx
    obtain ⟨N1, rfl⟩ : ∃ m, N1 = m + 1 := ⟨N1 - 1, by omega⟩
    obtain ⟨N2, rfl⟩ : ∃ m, N2 = m + 1 := ⟨N2 - 1, by omega⟩
    have e : ¬ (12 : Int32) < nI d := by show ¬ nI 12 < nI d; rw [nI_lt' (by omega) (by omega)]; omega
    have e' : ¬ (13 : Int32) ≤ nI d := by show ¬ nI 13 ≤ nI d; rw [nI_le' (by omega) (by omega)]; omega
    have i5 : inb (nI h) 5 = true := inb_nI (by omega) (by decide)
    rw [C_win_L82, M_win_L44, if_neg e, if_neg e', i5]
    simp only [nm_q, gd_t, ix_nI (show h < 2 ^ 31 by omega), T_taleWith_ok' R.wf ha hh, M_taleBy R.wfo ha hx, bd_e]
    rw [R.2.2.2.1.tale, R.2.2.2.1 1 (by decide) (by decide), nI_1]
    by_cases c : taleS o a h x ≤ m
    · rw [if_pos c, if_pos c]
      by_cases c' : oA o 1 h &&& (x ^^^ -1) = 0
      · exact ⟨-4, by rw [if_pos c'], by rw [if_pos c']⟩
      · rw [if_neg c', if_neg c']
        exact ih (d + 1) N1 N2 _ (by omega) (by omega) (by omega) (B12_or hx (B12_and _ (B12_and _ (R.wfo.tru hh))))
    · exact ⟨nI d, by rw [if_neg c], by rw [if_neg c]⟩
theorem r_win {n : Nat} {σ : CS} {o : Ob} (h : Rel n σ o) (p q : Int32) : ok1 (C_win σ p q) σ (M_win o p q) := by
  have h7 := h.n7
  have H := h.t0
  unfold C_win M_win
  simp only [nm_q]
  generalize pS o 15 0 = u at H
  rw [T_hasOne_ok' h.1.2.1 h7, M_isOne_ok' H.2.1 h7, bd_e, bd_e]
  cases hp : rng p 0 ((n : Int) - 1) with
  | false => exact ⟨-1, u, rfl, rfl, n, H⟩
  | true =>
    obtain ⟨k, hk, rfl⟩ := rng_n hp h7
    rw [b1, b1, C_isThing_ok', M_isThing_ok', bd_e, bd_e]
    cases hq : rng q 0 4 with
    | false => exact ⟨-1, u, rfl, rfl, n, H⟩
    | true =>
      obtain ⟨i, hi, rfl⟩ := rng_nI (hi := 4) hq (by decide)
      have hi5 : i < 5 := by omega
      have hl : k * 5 + i < 35 := by omega
      rw [b1, b1, C_most H.wf H.1.2.1 hk hi5, M_most H.wfo H.2.1 hk hi5, bd_e]
      simp only [ixkn, ixkn', inb_nI hl (show 35 < 2 ^ 31 by decide), ix_nI (show k * 5 + i < 2 ^ 31 by omega), gd_t]
      rw [H.2.2.2.1.most, H.2.2.2.1 7 (by decide) (by decide)]
      obtain ⟨y, e1, e2⟩ := win_loop (m := mostS u k i n) H hk hi5 13 0 FU FU (oA u 7 (k * 5 + i)) rfl (FU_gt (by decide)) (FU_gt (by decide)) (H.wfo.kno hl)
      exact ⟨y, u, e1, e2, n, H⟩
/-! whom to ask -/
def askS (t : Ob) (a h : Nat) (i : Nat) (s : Int32 × Int32) : Int32 × Int32 := if taleS t a h (oA t 7 (a * 5 + h) ||| oA t 7 (i * 5 + h)) ≤ s.1 then s else (taleS t a h (oA t 7 (a * 5 + h) ||| oA t 7 (i * 5 + h)), nI i)
theorem C_ask_L {n a h : Nat} {σ : CS} (w : wfA n (σ 1)) (hn : oS (σ 1) 1 = nI n) (ha : a < n) (hh : h < 5) (x y : Int32) : C_ask_L37 σ (nI a) (nI h) FU x y 0 = some (foldN (askS (σ 1) a h) (x, y) n).2 := by
  have h7 := w.n7
  refine (up_loop (L := fun N (s : Int32 × Int32) i => C_ask_L37 σ (nI a) (nI h) N s.1 s.2 (nI i)) n (askS (σ 1) a h) (fun _ _ => True) (fun s => some s.2) ?_ ?_ (x, y) trivial FU (FU_gt (by omega))).1
  · intro N i s hi _
    refine ⟨?_, trivial⟩
    rw [C_ask_L37, hn, if_neg (by rw [nI_le' (by omega) (by omega)]; omega)]
    simp only [ixkn, inb_nI (show a * 5 + h < 35 by omega) (show 35 < 2 ^ 31 by decide), inb_nI (show i * 5 + h < 35 by omega) (show 35 < 2 ^ 31 by decide), ix_nI (show a * 5 + h < 2 ^ 31 by omega), ix_nI (show i * 5 + h < 2 ^ 31 by omega), gd_t, nm_q, nI_1, T_taleWith_ok' w ha hh, bd_e]
    unfold askS
    split <;> rfl
  · intro N s _
    rw [C_ask_L37, hn, if_pos (by rw [nI_le' (by omega) (by omega)]; omega)]
theorem M_ask_L {n a h : Nat} {o : Ob} (w : wfA n o) (hn : oS o 3 = nI n) (ha : a < n) (hh : h < 5) (y : Int32) : M_ask_L36 o (nI a) (nI h) FU y (storyS o a h) 0 = some ((foldN (askS o a h) (storyS o a h, y) n).2, o) := by
  have h7 := w.n7
  have hs0 := story_nn w ha hh
  refine (up_loop (L := fun N (s : Int32 × Int32) i => M_ask_L36 o (nI a) (nI h) N s.2 s.1 (nI i)) n (askS o a h) (fun _ s => (storyS o a h).toInt ≤ s.1.toInt) (fun s => some (s.2, o)) ?_ ?_ (storyS o a h, y) (Int.le_refl _) FU (FU_gt (by omega))).1
  · intro N i s hi hs
    constructor
    · rw [M_ask_L36, hn, if_neg (by rw [nI_le' (by omega) (by omega)]; omega)]
      simp only [ixkn', inb_nI (show a * 5 + h < 35 by omega) (show 35 < 2 ^ 31 by decide), inb_nI (show i * 5 + h < 35 by omega) (show 35 < 2 ^ 31 by decide), inb_nI (show h < 5 by omega) (show 5 < 2 ^ 31 by decide), ix_nI (show a * 5 + h < 2 ^ 31 by omega), ix_nI (show i * 5 + h < 2 ^ 31 by omega), ix_nI (show h < 2 ^ 31 by omega), gd_t, nm_q, nI_1, M_taleBy w ha (B12_or (w.kno (show a * 5 + h < 35 by omega)) (w.kno (show i * 5 + h < 35 by omega))), bd_e, nI_eq' (show i < 2 ^ 31 by omega) (show a < 2 ^ 31 by omega)]
      by_cases c : i = a
      · subst c
        have e : taleS o i h (oA o 7 (i * 5 + h) ||| oA o 7 (i * 5 + h)) = storyS o i h := by rw [Int32.or_self]; rfl
        have z : (-1 : Int32) ≤ s.1 := by rw [fa_le, show (-1 : Int32).toInt = -1 from rfl]; omega
        rw [if_pos rfl, bd_e, if_pos z, if_pos z, bd_e, bd_e]
        unfold askS
        rw [e, if_pos (by rw [fa_le]; exact hs)]
      · rw [if_neg c, bd_e]
        unfold askS
        split <;> rfl
    · unfold askS
      split
      · exact hs
      · rename_i c
        rw [fa_le] at c
        show _ ≤ (taleS o a h _).toInt
        omega
  · intro N s _
    rw [M_ask_L36, hn, if_pos (by rw [nI_le' (by omega) (by omega)]; omega)]
theorem AEq.ask {t o : Ob} (e : AEq t o) {a h : Nat} : askS t a h = askS o a h := by
  funext i s
  unfold askS
  rw [e.tale, e 7 (by decide) (by decide)]
theorem r_ask {n : Nat} {σ : CS} {o : Ob} (h : Rel n σ o) (p q : Int32) : ok1 (C_ask σ p q) σ (M_ask o p q) := by
  have h7 := h.n7
  have H := h.t0
  unfold C_ask M_ask
  simp only [nm_q]
  generalize pS o 15 0 = u at H
  rw [T_hasOne_ok' h.1.2.1 h7, M_isOne_ok' H.2.1 h7, bd_e, bd_e]
  cases hp : rng p 0 ((n : Int) - 1) with
  | false => exact ⟨-1, u, rfl, rfl, n, H⟩
  | true =>
    obtain ⟨k, hk, rfl⟩ := rng_n hp h7
    rw [b1, b1, C_isThing_ok', M_isThing_ok', bd_e, bd_e]
    cases hq : rng q 0 4 with
    | false => exact ⟨-1, u, rfl, rfl, n, H⟩
    | true =>
      obtain ⟨i, hi, rfl⟩ := rng_nI (hi := 4) hq (by decide)
      have hi5 : i < 5 := by omega
      rw [b1, b1, T_tale_ok' H.wf hk hi5, M_storyOf_ok' H.wfo hk hi5, bd_e, bd_e, C_ask_L H.wf H.1.2.1 hk hi5, M_ask_L H.wfo H.2.1 hk hi5, H.2.2.2.1.ask, H.2.2.2.1.story]
      exact ⟨_, u, rfl, rfl, n, H⟩

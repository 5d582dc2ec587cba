/-! two pictures with the same arrays 1 .. 7 -/
def AEq (t o : Ob) : Prop := ∀ j, 1 ≤ j → j ≤ 7 → oA t j = oA o j
theorem AEq.rf {t : Ob} : AEq t t := fun _ _ _ => rfl
theorem AEq.sm {t o : Ob} (h : AEq t o) : AEq o t := fun j h1 h2 => (h j h1 h2).symm
theorem AEq.tr {t o u : Ob} (h : AEq t o) (h' : AEq o u) : AEq t u := fun j h1 h2 => (h j h1 h2).trans (h' j h1 h2)
theorem AEq.wf {n : Nat} {t o : Ob} (h : AEq t o) (w : wfA n t) : wfA n o := by
  unfold wfA at w ⊢
  rw [← h 1 (by decide) (by decide), ← h 2 (by decide) (by decide), ← h 3 (by decide) (by decide), ← h 4 (by decide) (by decide), ← h 5 (by decide) (by decide), ← h 6 (by decide) (by decide), ← h 7 (by decide) (by decide)]
  exact w
theorem AEq.story {t o : Ob} (h : AEq t o) {p i : Nat} : storyS t p i = storyS o p i := by
  unfold storyS
  rw [h 4 (by decide) (by decide), h 5 (by decide) (by decide), h 7 (by decide) (by decide), h 1 (by decide) (by decide)]
theorem AEq.tale {t o : Ob} (h : AEq t o) {p i : Nat} {k : Int32} : taleS t p i k = taleS o p i k := by
  unfold taleS
  rw [h 4 (by decide) (by decide), h 5 (by decide) (by decide), h 1 (by decide) (by decide)]
theorem AEq.les {t o : Ob} (h : AEq t o) {p : Nat} {d : Int32} : lesN t p d = lesN o p d := by
  unfold lesN caresN
  rw [h 4 (by decide) (by decide), h 5 (by decide) (by decide), h 6 (by decide) (by decide), h 3 (by decide) (by decide)]
theorem AEq.own {t o : Ob} (h : AEq t o) {p : Int32} : ownS t p = ownS o p := by
  unfold ownS
  rw [h 3 (by decide) (by decide)]
theorem AEq.worth {t o : Ob} (h : AEq t o) {p : Int32} : worthS t p = worthS o p := by
  unfold worthS
  rw [h 3 (by decide) (by decide), h 2 (by decide) (by decide)]
theorem AEq.uA {t o : Ob} (h : AEq t o) {k : Nat} {i v : Int32} : AEq (pA t k i v) (pA o k i v) := by
  intro j h1 h2
  rw [oA_pAq, oA_pAq]
  by_cases c : j = k
  · rw [if_pos c, if_pos c, ← c, h j h1 h2]
  · rw [if_neg c, if_neg c]; exact h j h1 h2
theorem AEq.uK {t o : Ob} (h : AEq t o) {i : Nat} {v : Int32} : AEq (setK t i v) (setK o i v) := h.uA
theorem AEq.uO {t o : Ob} (h : AEq t o) {i : Nat} {v : Int32} : AEq (setO t i v) (setO o i v) := h.uA
theorem AEq.uS {t o : Ob} {k : Nat} {v : Int32} (h : AEq t o) : AEq (pS t k v) o := h
theorem AEq.uSr {t o : Ob} {k : Nat} {v : Int32} (h : AEq t o) : AEq t (pS o k v) := h
theorem foldN_rel {S T : Type} {f : Nat → S → S} {g : Nat → T → T} {R : S → T → Prop} {s : S} {t : T} (h0 : R s t) : ∀ e, (∀ i s t, i < e → R s t → R (f i s) (g i t)) → R (foldN f s e) (foldN g t e) := by
  intro e
  induction e with
  | zero => intro _; exact h0
  | succ e ih => intro h; exact h e _ _ (by omega) (ih (fun i s t hi => h i s t (by omega)))
theorem AEq.ln {t o : Ob} (h : AEq t o) {p c : Nat} : AEq (learn1 t p c) (learn1 o p c) := by
  unfold learn1
  rw [h 4 (by decide) (by decide), h 7 (by decide) (by decide), h 1 (by decide) (by decide)]
  exact h.uK
theorem AEq.study {t o : Ob} (h : AEq t o) {p : Nat} {d : Int32} : AEq (studyS t p d) (studyS o p d) := by
  unfold studyS
  rw [h.les]
  refine foldN_rel (R := AEq) h _ (fun i s t _ q => ?_)
  unfold caresN
  rw [q 6 (by decide) (by decide)]
  exact q.ln
theorem AEq.forget {t o : Ob} (h : AEq t o) {p : Nat} {d : Int32} : AEq (forgetS t p d) (forgetS o p d) := by
  unfold forgetS
  rw [h 4 (by decide) (by decide)]
  split
  · exact h
  · refine foldN_rel (R := AEq) h _ (fun i s t _ q => ?_)
    rw [q 7 (by decide) (by decide)]
    exact q.uK
theorem AEq.people {t o : Ob} (h : AEq t o) {n : Nat} {d : Int32} : AEq (peopleS n d t) (peopleS n d o) := foldN_rel (R := AEq) h _ (fun _ _ _ _ q => q.study.forget)
theorem AEq.res {t o : Ob} (h : AEq t o) {n i : Nat} : resC n t i = resC n o i := by
  have e : stepC t i = stepC o i := by
    funext p s; unfold stepC; rw [h.story, h 3 (by decide) (by decide)]
  unfold resC; rw [e]
theorem AEq.chg {t o : Ob} (h : AEq t o) {n i : Nat} : changes n t i = changes n o i := by unfold changes; rw [h.res]
theorem AEq.settle {t o : Ob} (h : AEq t o) {n i : Nat} : AEq (settleS n i t) (settleS n i o) := by
  unfold settleS; rw [h.chg, h.res]; split
  · exact h.uO
  · exact h
theorem AEq.day {t o : Ob} (h : AEq t o) {n : Nat} {d : Int32} : AEq (dayS n d t) (dayS n d o) := foldN_rel (R := AEq) h.people _ (fun _ _ _ _ q => q.settle)
theorem AEq.flag {t o : Ob} (h : AEq t o) {n : Nat} {d : Int32} : (flagS n d t).1 = (flagS n d o).1 := by
  refine (foldN_rel (R := fun (s t : Int32 × Ob) => s.1 = t.1 ∧ AEq s.2 t.2) (f := fun h s => (s.1 ||| bI (changes n s.2 h), settleS n h s.2)) (g := fun h s => (s.1 ||| bI (changes n s.2 h), settleS n h s.2)) (s := (0, peopleS n d t)) (t := (0, peopleS n d o)) ⟨rfl, h.people⟩ 5 (fun i s t _ q => ⟨?_, q.2.settle⟩)).1
  show s.1 ||| bI (changes n s.2 i) = t.1 ||| bI (changes n t.2 i)
  rw [q.1, q.2.chg]
/-! days on -/
def iterD (n : Nat) (d : Int32) (t : Ob) : Nat → Ob
  | 0 => t
  | k + 1 => dayS n (d + nI (k + 1)) (iterD n d t k)
theorem AEq.iter {t o : Ob} (h : AEq t o) {n : Nat} {d : Int32} : ∀ k, AEq (iterD n d t k) (iterD n d o k)
  | 0 => h
  | k + 1 => (AEq.iter h k).day
theorem iter_wf {n : Nat} {t : Ob} (w : wfA n t) {d : Int32} : ∀ k, wfA n (iterD n d t k)
  | 0 => w
  | k + 1 => day_wf (iter_wf w k)
theorem iter_S {n j : Nat} {t : Ob} {d : Int32} : ∀ k, oS (iterD n d t k) j = oS t j
  | 0 => rfl
  | k + 1 => day_S.trans (iter_S k)
/-- what a town shows after k days: its people, its day, its arrays -/
def isDay (n : Nat) (d : Int32) (t : Ob) (k : Nat) (u : Ob) : Prop := oS u 1 = nI n ∧ oS u 2 = d + nI k ∧ AEq u (iterD n d t k)
theorem T_pass_day {n k : Nat} {d : Int32} {t u : Ob} (w : wfA n t) (h : isDay n d t k u) : ∃ f v, T_pass u = some (f, v) ∧ isDay n d t (k + 1) v ∧ f = (flagS n (d + nI (k + 1)) (iterD n d t k)).1 := by
  obtain ⟨h1, h2, h3⟩ := h
  have wu : wfA n u := h3.sm.wf (iter_wf w k)
  have e : oS u 2 + 1 = d + nI (k + 1) := by rw [h2, Int32.add_assoc, nI_1]
  refine ⟨(flagS n (oS u 2 + 1) (pS u 2 (oS u 2 + 1))).1, dayS n (oS u 2 + 1) (pS u 2 (oS u 2 + 1)), (T_pass_ok' wu h1).trans (by rw [← flag_day]), ⟨?_, ?_, ?_⟩, ?_⟩
  · rw [day_S]; exact h1
  · rw [day_S, e]; rfl
  · rw [e]; exact (h3.uS).day
  · rw [e]; exact (h3.uS).flag
theorem T_passAll_ok' {n k : Nat} {d : Int32} {t u : Ob} (w : wfA n t) (hk : k < 1000) (h : isDay n d t 0 u) : ∃ v, T_passAll u (nI k) = some v ∧ isDay n d t k v := by
  have key : ∀ i, i ≤ k → ∃ v, T_passAll u (nI k) = T_passAll_L2 (nI k) (FU - i) v (nI i) ∧ isDay n d t i v := by
    intro i
    induction i with
    | zero => intro _; exact ⟨u, rfl, h⟩
    | succ i ih =>
      intro hi
      obtain ⟨v, e, hv⟩ := ih (by omega)
      obtain ⟨f, v', e', hv', -⟩ := T_pass_day w hv
      refine ⟨v', ?_, hv'⟩
      rw [e, show FU - i = (FU - (i + 1)) + 1 by unfold FU; omega, T_passAll_L2, if_neg (by rw [nI_le' (by omega) (by omega)]; omega), e']
      simp only [bd2_e, nm_q, nI_1]
  obtain ⟨v, e, hv⟩ := key k (Nat.le_refl k)
  refine ⟨v, ?_, hv⟩
  rw [e, show FU - k = (FU - (k + 1)) + 1 by unfold FU; omega, T_passAll_L2, if_pos (by rw [nI_le' (by omega) (by omega)]; omega)]

theorem T_goOn_ok' {n k : Nat} {d : Int32} {t u : Ob} (w : wfA n t) (h1 : 1 ≤ k) (hk : k ≤ 60) (h : isDay n d t 0 u) (hd : d + nI k ≤ 999) : ∃ v, T_goOn u (nI k) = some (1, v) ∧ isDay n d t k v := by
  have hd0 : oS u 2 = d := by rw [h.2.1, nI_0, Int32.add_zero]
  have key : ∀ i, i ≤ k → ∃ v, T_goOn_L27 (nI k) FU u 0 = T_goOn_L27 (nI k) (FU - i) v (nI i) ∧ isDay n d t i v := by
    intro i
    induction i with
    | zero => intro _; exact ⟨u, rfl, h⟩
    | succ i ih =>
      intro hi
      obtain ⟨v, e, hv⟩ := ih (by omega)
      obtain ⟨f, v', e', hv', -⟩ := T_pass_day w hv
      refine ⟨v', ?_, hv'⟩
      rw [e, show FU - i = (FU - (i + 1)) + 1 by unfold FU; omega, T_goOn_L27, if_neg (by rw [nI_le' (by omega) (by omega)]; omega), e']
      simp only [bd2_e, nm_q, nI_1]
  obtain ⟨v, e, hv⟩ := key k (Nat.le_refl k)
  refine ⟨v, ?_, hv⟩
  unfold T_goOn
  rw [if_neg (by show ¬ nI k < nI 1; rw [nI_lt' (by omega) (by omega)]; omega), if_neg (by show ¬ nI 60 < nI k; rw [nI_lt' (by omega) (by omega)]; omega), hd0, if_pos hd, e, show FU - k = (FU - (k + 1)) + 1 by unfold FU; omega, T_goOn_L27, if_pos (by rw [nI_le' (by omega) (by omega)]; omega)]
/-- what the reference shows after k days -/
def isDayM (n : Nat) (d : Int32) (t : Ob) (k : Nat) (u : Ob) : Prop := oS u 3 = nI n ∧ oS u 8 = d + nI k ∧ AEq u (iterD n d t k)
/-- all else of the reference is as it was: the other numbers, the other rows -/
def restM (o u : Ob) : Prop := (∀ k, k ≠ 3 → k ≠ 8 → oS u k = oS o k) ∧ (∀ j, 8 ≤ j → oA u j = oA o j) ∧ u.2.2 = o.2.2
theorem restM.rf {o : Ob} : restM o o := ⟨fun _ _ _ => rfl, fun _ _ => rfl, rfl⟩
theorem restM.tr {o u v : Ob} (h : restM o u) (h' : restM u v) : restM o v := ⟨fun k a b => (h'.1 k a b).trans (h.1 k a b), fun j a => (h'.2.1 j a).trans (h.2.1 j a), h'.2.2.trans h.2.2⟩
theorem rest_A {o : Ob} {j : Nat} {i v : Int32} (hj : j < 8) : restM o (pA o j i v) := ⟨fun _ _ _ => rfl, fun q hq => by rw [oA_pAq, if_neg (by omega)], rfl⟩
theorem rest_day {n : Nat} {d : Int32} {o : Ob} : restM o (dayS n d o) := by
  have h1 : restM o (peopleS n d o) := foldN_inv (P := fun _ s => restM o s) restM.rf n (fun i s _ h => by
    refine h.tr (restM.tr (u := studyS s i d) ?_ ?_)
    · exact foldN_inv (P := fun _ q => restM s q) restM.rf _ (fun _ q _ h => h.tr (rest_A (by decide)))
    · unfold personS forgetS; split
      · exact restM.rf
      · exact foldN_inv (P := fun _ q => restM (studyS s i d) q) restM.rf _ (fun _ q _ h => h.tr (rest_A (by decide))))
  refine h1.tr (foldN_inv (P := fun _ s => restM (peopleS n d o) s) restM.rf 5 (fun i s _ h => h.tr ?_))
  unfold settleS; split
  · exact rest_A (by decide)
  · exact restM.rf
theorem M_dayOn_day {n k : Nat} {d : Int32} {t u : Ob} (w : wfA n t) (h : isDayM n d t k u) : ∃ v, M_dayOn u = some v ∧ isDayM n d t (k + 1) v ∧ restM u v := by
  obtain ⟨h1, h2, h3⟩ := h
  have wu : wfA n u := h3.sm.wf (iter_wf w k)
  have e : oS u 8 + 1 = d + nI (k + 1) := by rw [h2, Int32.add_assoc, nI_1]
  refine ⟨_, M_dayOn_ok' wu h1, ⟨?_, ?_, ?_⟩, restM.tr (u := pS u 8 (oS u 8 + 1)) ⟨fun k _ h8 => ?_, fun _ _ => rfl, rfl⟩ rest_day⟩
  · rw [day_S]; exact h1
  · rw [day_S, e]; rfl
  · rw [e]; exact (h3.uS).day
  · rw [oS_pS, if_neg h8]
theorem M_goDays_ok' {n k : Nat} {d : Int32} {t u : Ob} (w : wfA n t) (hk : k < 1000) (h : isDayM n d t 0 u) : ∃ v, M_goDays u (nI k) = some v ∧ isDayM n d t k v ∧ restM u v := by
  have key : ∀ i, i ≤ k → ∃ v, M_goDays u (nI k) = M_goDays_L2 (nI k) (FU - i) v (nI i) ∧ isDayM n d t i v ∧ restM u v := by
    intro i
    induction i with
    | zero => intro _; exact ⟨u, rfl, h, restM.rf⟩
    | succ i ih =>
      intro hi
      obtain ⟨v, e, hv, hr⟩ := ih (by omega)
      obtain ⟨v', e', hv', hr'⟩ := M_dayOn_day w hv
      refine ⟨v', ?_, hv', hr.tr hr'⟩
      rw [e, show FU - i = (FU - (i + 1)) + 1 by unfold FU; omega, M_goDays_L2, if_neg (by rw [nI_le' (by omega) (by omega)]; omega), e']
      simp only [bd_e, nm_q, nI_1]
  obtain ⟨v, e, hv, hr⟩ := key k (Nat.le_refl k)
  refine ⟨v, ?_, hv, hr⟩
  rw [e, show FU - k = (FU - (k + 1)) + 1 by unfold FU; omega, M_goDays_L2, if_pos (by rw [nI_le' (by omega) (by omega)]; omega)]
/-! nothing stands behind an array's end -/
def zb (t : Ob) : Prop := ∀ j, 1 ≤ j → j ≤ 7 → ∀ i, tlen j ≤ i → oA t j i = 0
theorem cpy_zb {f g : Nat → Int32} {n : Nat} (hf : ∀ i, n ≤ i → f i = 0) (hg : ∀ i, n ≤ i → g i = 0) : va_cpy f g 0 0 n = f := by
  funext i
  unfold va_cpy
  by_cases h : i < n
  · rw [if_pos ⟨Nat.zero_le _, by omega⟩]; congr 1; omega
  · rw [if_neg (by omega), hf i (by omega), hg i (by omega)]
theorem T_takeFrom_ok' {t u : Ob} (ht : zb t) (hu : zb u) : ∃ v, T_takeFrom t u = some v ∧ oS v 1 = oS u 1 ∧ oS v 2 = oS u 2 ∧ AEq v u ∧ zb v := by
  have ha : AEq (pR (pR (pR (pR (pR (pR (pR (pS (pS t 1 (oS u 1)) 2 (oS u 2)) 1 (va_cpy (oA u 1) (oA t 1) 0 0 5)) 2 (va_cpy (oA u 2) (oA t 2) 0 0 5)) 3 (va_cpy (oA u 3) (oA t 3) 0 0 5)) 4 (va_cpy (oA u 4) (oA t 4) 0 0 7)) 5 (va_cpy (oA u 5) (oA t 5) 0 0 7)) 6 (va_cpy (oA u 6) (oA t 6) 0 0 7)) 7 (va_cpy (oA u 7) (oA t 7) 0 0 35)) u := by
    intro j h1 h2
    have h3 := fun i hi => ht j h1 h2 i hi
    have h4 := fun i hi => hu j h1 h2 i hi
    rcases (show j = 1 ∨ j = 2 ∨ j = 3 ∨ j = 4 ∨ j = 5 ∨ j = 6 ∨ j = 7 by omega) with rfl | rfl | rfl | rfl | rfl | rfl | rfl <;> exact cpy_zb h4 h3
  refine ⟨_, rfl, rfl, rfl, ha, fun j h1 h2 i hi => ?_⟩
  exact (congrFun (ha j h1 h2) i).trans (hu j h1 h2 i hi)

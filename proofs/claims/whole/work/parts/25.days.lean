theorem personS_wf {n p : Nat} {t : Ob} (w : wfA n t) (hp : p < n) {d : Int32} : wfA n (studyS t p d) := by
  rcases w.care hp with ⟨c, hc, e⟩ | e
  · exact (foldN_inv (P := fun _ s => wfA n s ∧ oA s 6 p = nI c) ⟨w, e⟩ _ (fun _ s _ h => by
      rw [caresN_of hc h.2]
      exact ⟨h.1.learn1 hp hc, by rw [learn1_ne (by decide)]; exact h.2⟩)).1
  · have z : lesN t p d = 0 := by unfold lesN; rw [if_pos e]
    unfold studyS; rw [z]; exact w
theorem forget_wf {n p : Nat} {t : Ob} (w : wfA n t) (hp : p < n) {d : Int32} : wfA n (forgetS t p d) := by
  unfold forgetS; split
  · exact w
  · exact (T_forgetLatest_ok' w hp).2
theorem person_wf {n p : Nat} {t : Ob} (w : wfA n t) (hp : p < n) {d : Int32} : wfA n (personS d p t) := forget_wf (personS_wf w hp) hp
theorem people_wf {n : Nat} {t : Ob} (w : wfA n t) {d : Int32} : wfA n (peopleS n d t) := foldN_inv (P := fun _ s => wfA n s) w n (fun i s hi h => person_wf h hi)
theorem people_S {n j : Nat} {t : Ob} {d : Int32} : oS (peopleS n d t) j = oS t j := foldN_inv (P := fun _ s => oS s j = oS t j) rfl n (fun i s hi h => personS_S.trans h)
theorem settle_S {n h j : Nat} {t : Ob} : oS (settleS n h t) j = oS t j := by
  unfold settleS; split <;> rfl
/-- a day's end -/
def dayS (n : Nat) (d : Int32) (t : Ob) : Ob := foldN (settleS n) (peopleS n d t) 5
/-- whether an owner is another one -/
def flagS (n : Nat) (d : Int32) (t : Ob) : Int32 × Ob := foldN (fun h s => (s.1 ||| bI (changes n s.2 h), settleS n h s.2)) (0, peopleS n d t) 5
theorem flag_day {n : Nat} {d : Int32} {t : Ob} : (flagS n d t).2 = dayS n d t := rfl
theorem day_wf {n : Nat} {t : Ob} (w : wfA n t) {d : Int32} : wfA n (dayS n d t) := foldN_inv (P := fun _ s => wfA n s) (people_wf w) 5 (fun i s hi h => h.settle hi)
theorem day_S {n j : Nat} {t : Ob} {d : Int32} : oS (dayS n d t) j = oS t j := (foldN_inv (P := fun _ s => oS s j = oS (peopleS n d t) j) rfl 5 (fun i s hi h => settle_S.trans h)).trans people_S
theorem isZ_or {a : Int32} {b : Bool} (h : isZ a = true) : isZ (a ||| bI b) = true := by
  simp only [isZ, Bool.or_eq_true, beq_iff_eq] at h
  rcases h with rfl | rfl <;> cases b <;> rfl
theorem T_pass_ok' {n : Nat} {t : Ob} (w : wfA n t) (hn : oS t 1 = nI n) : T_pass t = some (flagS n (oS t 2 + 1) (pS t 2 (oS t 2 + 1))) := by
  have h7 := w.n7
  unfold T_pass
  rw [nm_q]
  generalize hd : oS t 2 + 1 = d
  have e1 : oS (pS t 2 d) 1 = nI n := hn
  have e2 : oS (pS t 2 d) 2 = d := rfl
  have w1 : wfA n (pS t 2 d) := w
  generalize pS t 2 d = u at e1 e2 w1
  refine ((up_loop (fun m s i => T_pass_L12 (fun t14 => T_pass_L61 FU t14 0 0) m s (nI i)) n (personS d) (fun _ s => wfA n s ∧ oS s 1 = nI n ∧ oS s 2 = d) (fun s => T_pass_L61 FU s 0 0) (fun m i s hi hs => ?_) (fun m s hs => ?_) u ⟨w1, e1, e2⟩ FU (FU_gt (by omega))).1).trans ?_
  · obtain ⟨ws, s1, s2⟩ := hs
    refine ⟨?_, person_wf ws hi, personS_S.trans s1, personS_S.trans s2⟩
    have i1 : inb (nI i) 7 = true := inb_nI (by omega) (by decide)
    have x4 : ∀ f, ix f (nI i) = f i := fun f => ix_nI (by omega)
    have wt := (T_study_ok' ws hi).2
    rw [s2] at wt
    show T_pass_L12 _ (m + 1) s (nI i) = T_pass_L12 _ m _ (nI (i + 1))
    rw [T_pass_L12, s1, if_neg (by rw [nI_le' (by omega) (by omega)]; omega), (T_study_ok' ws hi).1, bd_e, s2]
    simp only [i1, x4, gd_t, kd8_inb (wt.kind hi), frg_some (wt.kind hi), bd_e, nm_q, nI_1, (T_forgetLatest_ok' wt hi).1, studyS_S, s2]
    unfold personS forgetS
    by_cases c : frgS (oA (studyS s i d) 4 i) d = 0
    · rw [if_pos c, if_pos c]; rfl
    · rw [if_neg c, if_neg c]; rfl
  · show T_pass_L12 _ (m + 1) s (nI n) = _
    rw [T_pass_L12, hs.2.1, if_pos (by rw [nI_le' (by omega) (by omega)]; omega)]
  · have hp1 : oS (peopleS n d u) 1 = nI n := people_S.trans e1
    refine (up_loop (fun m (s : Int32 × Ob) i => T_pass_L61 m s.2 s.1 (nI i)) 5 (fun h s => (s.1 ||| bI (changes n s.2 h), settleS n h s.2)) (fun _ s => isZ s.1 = true ∧ wfA n s.2 ∧ oS s.2 1 = nI n) some (fun m i s hi hs => ?_) (fun m s hs => ?_) (0, peopleS n d u) ⟨rfl, people_wf w1, hp1⟩ FU (FU_gt (by decide))).1
    · refine ⟨?_, isZ_or hs.1, hs.2.1.settle hi, settle_S.trans hs.2.2⟩
      show T_pass_L61 (m + 1) s.2 s.1 (nI i) = T_pass_L61 m _ _ (nI (i + 1))
      rw [T_pass_L61, if_neg (by show ¬ nI 5 ≤ nI i; rw [nI_le' (by omega) (by omega)]; omega), T_settle_ok' hs.2.1 hi hs.2.2]
      simp only [bd2_e, nm_q, nI_1]
    · show T_pass_L61 (m + 1) s.2 s.1 (nI 5) = some s
      rw [T_pass_L61, if_pos (by decide), hs.1]; rfl
/-! the reference's day -/
theorem M_L32 {n p : Nat} {t : Ob} (w : wfA n t) (hp : p < n) {d : Int32} {m : Nat} (hm : m < 5) (em : lesN t p d = nI m) (k : Ob → Option Ob) : M_dayOn_L32 k (nI p) (nI m) FU t 0 = k (studyS t p d) := by
  have h7 := w.n7
  unfold studyS
  rw [em, nI_clamp (by omega)]
  rcases w.care hp with ⟨c, hc, e⟩ | e
  · refine (up_loop (fun q s i => M_dayOn_L32 k (nI p) (nI m) q s (nI i)) m (fun _ t => learn1 t p (caresN t p)) (fun _ s => wfA n s ∧ oA s 6 p = nI c) k (fun q i s hi hs => ?_) (fun q s _ => ?_) t ⟨w, e⟩ FU (FU_gt (by omega))).1
    · obtain ⟨ws, es⟩ := hs
      rw [caresN_of hc es]
      refine ⟨?_, ws.learn1 hp hc, by rw [learn1_ne (by decide)]; exact es⟩
      show M_dayOn_L32 k (nI p) (nI m) (q + 1) s (nI i) = M_dayOn_L32 k (nI p) (nI m) q _ (nI (i + 1))
      rw [M_dayOn_L32, if_neg (by rw [nI_le' (by omega) (by omega)]; omega), M_learnOne_ok' ws hp hc es]
      simp only [bd_e, nm_q, nI_1]
    · show M_dayOn_L32 k (nI p) (nI m) (q + 1) s (nI m) = k s
      rw [M_dayOn_L32, if_pos (by rw [nI_le' (by omega) (by omega)]; omega)]
  · have z : m = 0 := by
      have h1 : lesN t p d = nI 0 := by unfold lesN; rw [if_pos e]; rfl
      rw [em, nI_eq' (by omega) (by omega)] at h1
      exact h1
    subst z
    rfl
theorem M_isOld_ok' {n p : Nat} {t : Ob} (w : wfA n t) (hp : p < n) : M_isOld t (nI p) = some (if oA t 4 p = 1 then 1 else if oA t 4 p = 4 then 1 else if oA t 4 p = 7 then 1 else 0) := by
  have h7 := w.n7
  have i1 : inb (nI p) 7 = true := inb_nI (by omega) (by decide)
  have x4 : ∀ f, ix f (nI p) = f p := fun f => ix_nI (by omega)
  unfold M_isOld
  simp only [i1, x4, gd_t, jn_e, it_sm]
theorem M_L50 {n p : Nat} {t : Ob} (w : wfA n t) (hp : p < n) {d : Int32} (hd : oS t 8 = d) (k : Ob → Option Ob) : M_dayOn_L50 k (nI p) FU t 0 = k (forgetS t p d) := by
  have h7 := w.n7
  have z1 : ¬ (1 : Int32) = 0 := by decide
  have old : ∀ kd : Int32, (kd = 1 ∨ kd = 4 ∨ kd = 7) → oA t 4 p = kd → M_dayOn_L50 k (nI p) FU t 0 = k (forgetS t p d) := by
    intro kd hkd ek
    have ef : frgS kd d = if rem32 d 7 = 0 then 1 else 0 := by
      rcases hkd with rfl | rfl | rfl
      · show (K4_forgets d).getD 0 = _
        unfold K4_forgets; split <;> rfl
      · show (K4_forgets d).getD 0 = _
        unfold K4_forgets; split <;> rfl
      · show (K4_forgets d).getD 0 = _
        unfold K4_forgets; split <;> rfl
    have eo : (if kd = 1 then (1 : Int32) else if kd = 4 then 1 else if kd = 7 then 1 else 0) = 1 := by rcases hkd with rfl | rfl | rfl <;> rfl
    unfold forgetS
    rw [ek, ef]
    by_cases c : rem32 d 7 = 0
    · rw [if_pos c, if_neg z1]
      refine (up_loop (fun q s i => M_dayOn_L50 k (nI p) q s (nI i)) 5 (fun h t => setK t (p * 5 + h) (noTop (oA t 7 (p * 5 + h)))) (fun _ s => wfA n s ∧ oA s 4 p = kd ∧ oS s 8 = d) k (fun q i s hi hs => ?_) (fun q s _ => ?_) t ⟨w, ek, hd⟩ FU (FU_gt (by decide))).1
      · obtain ⟨ws, es, ds⟩ := hs
        have i3 : inb (nI (p * 5 + i)) 35 = true := inb_nI (by omega) (by decide)
        have x6 : ∀ f, ix f (nI (p * 5 + i)) = f (p * 5 + i) := fun f => ix_nI (by omega)
        refine ⟨?_, ws.setK (by omega) (B12_noTop (ws.kno (by omega))), by rw [setK_ne (by decide)]; exact es, ds⟩
        show M_dayOn_L50 k (nI p) (q + 1) s (nI i) = M_dayOn_L50 k (nI p) q _ (nI (i + 1))
        rw [M_dayOn_L50, if_neg (by show ¬ nI 5 ≤ nI i; rw [nI_le' (by omega) (by omega)]; omega), M_isOld_ok' ws hp, bd_e, es, eo, if_neg z1, ds, if_pos c]
        simp only [ixkn', i3, x6, gd_t, noTop_b s (ws.kno (show p * 5 + i < 35 by omega)), bd_e, nm_q, nI_1]
        rfl
      · show M_dayOn_L50 k (nI p) (q + 1) s (nI 5) = k s
        rw [M_dayOn_L50, if_pos (by decide)]
    · rw [if_neg c, if_pos rfl]
      show M_dayOn_L50 k (nI p) (9999 + 1) t 0 = k t
      rw [M_dayOn_L50, if_neg (by decide), M_isOld_ok' w hp, bd_e, ek, eo, if_neg z1, hd, if_neg c]
  have young : ∀ kd : Int32, (kd = 0 ∨ kd = 2 ∨ kd = 3 ∨ kd = 5 ∨ kd = 6) → oA t 4 p = kd → M_dayOn_L50 k (nI p) FU t 0 = k (forgetS t p d) := by
    intro kd hkd ek
    have ef : frgS kd d = 0 := by rcases hkd with rfl | rfl | rfl | rfl | rfl <;> rfl
    have eo : (if kd = 1 then (1 : Int32) else if kd = 4 then 1 else if kd = 7 then 1 else 0) = 0 := by rcases hkd with rfl | rfl | rfl | rfl | rfl <;> rfl
    unfold forgetS
    rw [ek, ef, if_pos rfl]
    show M_dayOn_L50 k (nI p) (9999 + 1) t 0 = k t
    rw [M_dayOn_L50, if_neg (by decide), M_isOld_ok' w hp, bd_e, ek, eo, if_pos rfl]
  rcases k8' (w.kind hp) with e | e | e | e | e | e | e | e
  · exact young _ (by decide) e
  · exact old _ (by decide) e
  · exact young _ (by decide) e
  · exact young _ (by decide) e
  · exact old _ (by decide) e
  · exact young _ (by decide) e
  · exact young _ (by decide) e
  · exact old _ (by decide) e
theorem M_dayOn_ok' {n : Nat} {t : Ob} (w : wfA n t) (hn : oS t 3 = nI n) : M_dayOn t = some (dayS n (oS t 8 + 1) (pS t 8 (oS t 8 + 1))) := by
  have h7 := w.n7
  unfold M_dayOn
  rw [nm_q]
  generalize hd : oS t 8 + 1 = d
  have e1 : oS (pS t 8 d) 3 = nI n := hn
  have e2 : oS (pS t 8 d) 8 = d := rfl
  have w1 : wfA n (pS t 8 d) := w
  generalize pS t 8 d = u at e1 e2 w1
  refine ((up_loop (fun m s i => M_dayOn_L12 (fun o23 => M_dayOn_L110 FU o23 0) m s (nI i)) n (personS d) (fun _ s => wfA n s ∧ oS s 3 = nI n ∧ oS s 8 = d) (fun s => M_dayOn_L110 FU s 0) (fun m i s hi hs => ?_) (fun m s hs => ?_) u ⟨w1, e1, e2⟩ FU (FU_gt (by omega))).1).trans ?_
  · obtain ⟨ws, s1, s2⟩ := hs
    refine ⟨?_, person_wf ws hi, personS_S.trans s1, personS_S.trans s2⟩
    obtain ⟨q, hq, eq⟩ := lesN_rng ws hi d
    show M_dayOn_L12 _ (m + 1) s (nI i) = M_dayOn_L12 _ m _ (nI (i + 1))
    rw [M_dayOn_L12, s1, if_neg (by rw [nI_le' (by omega) (by omega)]; omega), s2, M_learnsOn_ok' ws hi, bd_e, eq, M_L32 ws hi hq eq, M_L50 (personS_wf ws hi) hi (studyS_S.trans s2)]
    simp only [nm_q, nI_1]
    rfl
  · show M_dayOn_L12 _ (m + 1) s (nI n) = _
    rw [M_dayOn_L12, hs.2.1, if_pos (by rw [nI_le' (by omega) (by omega)]; omega)]
  · have hp1 : oS (peopleS n d u) 3 = nI n := people_S.trans e1
    refine (up_loop (fun m s i => M_dayOn_L110 m s (nI i)) 5 (settleS n) (fun _ s => wfA n s ∧ oS s 3 = nI n) some (fun m i s hi hs => ?_) (fun m s hs => ?_) (peopleS n d u) ⟨people_wf w1, hp1⟩ FU (FU_gt (by decide))).1
    · refine ⟨?_, hs.1.settle hi, settle_S.trans hs.2⟩
      show M_dayOn_L110 (m + 1) s (nI i) = M_dayOn_L110 m _ (nI (i + 1))
      rw [M_dayOn_L110, if_neg (by show ¬ nI 5 ≤ nI i; rw [nI_le' (by omega) (by omega)]; omega), M_goesTo_ok' hs.1 hi hs.2]
      simp only [bd_e, nm_q, nI_1]
    · rfl

/-! a town as it must be: n people -/
def wfA (n : Nat) (t : Ob) : Prop := n ≤ 7 ∧ (∀ p, p < n → kd8 (oA t 4 p)) ∧ (∀ p, p < n → ∃ f, f < 10 ∧ oA t 5 p = nI f) ∧ (∀ p, p < n → (∃ c, c < 5 ∧ oA t 6 p = nI c) ∨ oA t 6 p = nI 9) ∧ (∀ h, h < 5 → (∃ q, q < n ∧ oA t 3 h = nI q) ∨ oA t 3 h = nI 9) ∧ (∀ h, h < 5 → B12 (oA t 1 h)) ∧ (∀ i, i < 35 → B12 (oA t 7 i)) ∧ (∀ h, h < 5 → ∃ v, v < 10 ∧ oA t 2 h = nI v)
theorem wfA.n7 {n : Nat} {t : Ob} (h : wfA n t) : n ≤ 7 := h.1
theorem wfA.kind {n p : Nat} {t : Ob} (h : wfA n t) (hp : p < n) : kd8 (oA t 4 p) := h.2.1 p hp
theorem wfA.fig {n p : Nat} {t : Ob} (h : wfA n t) (hp : p < n) : ∃ f, f < 10 ∧ oA t 5 p = nI f := h.2.2.1 p hp
theorem wfA.care {n p : Nat} {t : Ob} (h : wfA n t) (hp : p < n) : (∃ c, c < 5 ∧ oA t 6 p = nI c) ∨ oA t 6 p = nI 9 := h.2.2.2.1 p hp
theorem wfA.own {n i : Nat} {t : Ob} (h : wfA n t) (hi : i < 5) : (∃ q, q < n ∧ oA t 3 i = nI q) ∨ oA t 3 i = nI 9 := h.2.2.2.2.1 i hi
theorem wfA.tru {n i : Nat} {t : Ob} (h : wfA n t) (hi : i < 5) : B12 (oA t 1 i) := h.2.2.2.2.2.1 i hi
theorem wfA.kno {n i : Nat} {t : Ob} (h : wfA n t) (hi : i < 35) : B12 (oA t 7 i) := h.2.2.2.2.2.2.1 i hi
theorem wfA.wor {n i : Nat} {t : Ob} (h : wfA n t) (hi : i < 5) : ∃ v, v < 10 ∧ oA t 2 i = nI v := h.2.2.2.2.2.2.2 i hi
theorem kd8_inb {k : Int32} (h : kd8 k) : inb k 8 = true := by
  obtain ⟨j, hj, rfl⟩ := h
  exact inb_nI hj (by decide)
/-- what is known there becomes other -/
def setK (t : Ob) (i : Nat) (v : Int32) : Ob := pA t 7 (nI i) v
def setO (t : Ob) (h : Nat) (v : Int32) : Ob := pA t 3 (nI h) v
theorem upd_nI {f : Nat → Int32} {i j : Nat} {v : Int32} (hi : i < 2 ^ 31) : upd f (nI i).toNatClampNeg v j = if j = i then v else f j := by
  rw [nI_clamp hi]; rfl
theorem setK_at {t : Ob} {i j : Nat} {v : Int32} (hi : i < 35) : oA (setK t i v) 7 j = if j = i then v else oA t 7 j := by
  have e : oA (setK t i v) 7 = upd (oA t 7) (nI i).toNatClampNeg v := oA_pA
  rw [e]
  exact upd_nI (by omega)
theorem setK_ne {t : Ob} {i j : Nat} {v : Int32} (hj : j ≠ 7) : oA (setK t i v) j = oA t j := va_up_ne _ _ hj
theorem setK_S {t : Ob} {i j : Nat} {v : Int32} : oS (setK t i v) j = oS t j := rfl
theorem setO_at {t : Ob} {i j : Nat} {v : Int32} (hi : i < 5) : oA (setO t i v) 3 j = if j = i then v else oA t 3 j := by
  have e : oA (setO t i v) 3 = upd (oA t 3) (nI i).toNatClampNeg v := oA_pA
  rw [e]
  exact upd_nI (by omega)
theorem setO_ne {t : Ob} {i j : Nat} {v : Int32} (hj : j ≠ 3) : oA (setO t i v) j = oA t j := va_up_ne _ _ hj
theorem setO_S {t : Ob} {i j : Nat} {v : Int32} : oS (setO t i v) j = oS t j := rfl
theorem wfA.setK {n i : Nat} {t : Ob} {v : Int32} (h : wfA n t) (hi : i < 35) (hv : B12 v) : wfA n (setK t i v) := by
  obtain ⟨h1, h2, h3, h4, h5, h6, h7, h8⟩ := h
  refine ⟨h1, ?_, ?_, ?_, ?_, ?_, ?_, ?_⟩
  · rw [setK_ne (by decide)]; exact h2
  · rw [setK_ne (by decide)]; exact h3
  · rw [setK_ne (by decide)]; exact h4
  · rw [setK_ne (by decide)]; exact h5
  · rw [setK_ne (by decide)]; exact h6
  · intro j hj
    rw [setK_at hi]
    split
    · exact hv
    · exact h7 j hj
  · rw [setK_ne (by decide)]; exact h8
theorem wfA.setO {n i : Nat} {t : Ob} {v : Int32} (h : wfA n t) (hi : i < 5) (hv : (∃ q, q < n ∧ v = nI q) ∨ v = nI 9) : wfA n (setO t i v) := by
  obtain ⟨h1, h2, h3, h4, h5, h6, h7, h8⟩ := h
  refine ⟨h1, ?_, ?_, ?_, ?_, ?_, ?_, ?_⟩
  · rw [setO_ne (by decide)]; exact h2
  · rw [setO_ne (by decide)]; exact h3
  · rw [setO_ne (by decide)]; exact h4
  · intro j hj
    rw [setO_at hi]
    split
    · exact hv
    · exact h5 j hj
  · rw [setO_ne (by decide)]; exact h6
  · rw [setO_ne (by decide)]; exact h7
  · rw [setO_ne (by decide)]; exact h8
theorem wfA.pS {n k : Nat} {t : Ob} {v : Int32} (h : wfA n t) : wfA n (pS t k v) := h
/-! stories -/
def storyS (t : Ob) (p h : Nat) : Int32 := tellS (oA t 4 p) (oA t 5 p) (oA t 7 (p * 5 + h) &&& oA t 1 h) (oA t 7 (p * 5 + h) &&& (oA t 1 h ^^^ (-1)))
def taleS (t : Ob) (p h : Nat) (k : Int32) : Int32 := tellS (oA t 4 p) (oA t 5 p) (k &&& oA t 1 h) (k &&& (oA t 1 h ^^^ (-1)))
theorem T_taleWith_ok' {n : Nat} {t : Ob} (w : wfA n t) {p h : Nat} (hp : p < n) (hh : h < 5) (k : Int32) : T_taleWith t (nI p) (nI h) k = some (taleS t p h k) := by
  have h7 := w.n7
  have i1 : inb (nI p) 7 = true := inb_nI (by omega) (by decide)
  have i2 : inb (nI h) 5 = true := inb_nI hh (by decide)
  have x4 : ∀ f, ix f (nI p) = f p := fun f => ix_nI (by omega)
  have x5 : ∀ f, ix f (nI h) = f h := fun f => ix_nI (by omega)
  unfold T_taleWith
  simp only [i1, i2, x4, x5, kd8_inb (w.kind hp), gd_t, tell_some (w.kind hp), bd_e]
  rfl
theorem ixkn {p h : Nat} : nI p * (5 : Int32) + nI h = nI (p * 5 + h) := by
  rw [lit32, pk_mul, nI_add]
theorem ixkn' {p h : Nat} : (5 : Int32) * nI p + nI h = nI (p * 5 + h) := by
  rw [lit32, pk_mul, nI_add, Nat.mul_comm]
theorem T_tale_ok' {n : Nat} {t : Ob} (w : wfA n t) {p h : Nat} (hp : p < n) (hh : h < 5) : T_tale t (nI p) (nI h) = some (storyS t p h) := by
  have h7 := w.n7
  unfold T_tale
  rw [ixkn, inb_nI (show p * 5 + h < 35 by omega) (by decide), ix_nI (by omega), T_taleWith_ok' w hp hh]
  rfl
theorem M_storyOf_ok' {n : Nat} {t : Ob} (w : wfA n t) {p h : Nat} (hp : p < n) (hh : h < 5) : M_storyOf t (nI p) (nI h) = some (storyS t p h) := by
  have h7 := w.n7
  unfold M_storyOf
  rw [ixkn', inb_nI (show p * 5 + h < 35 by omega) (by decide), inb_nI hh (by decide), ix_nI (by omega), ix_nI (by omega), M_storyBy_ok' t (by omega) (w.kind hp) (w.kno (by omega))]
  rfl
/-! learning -/
theorem isThing_nI {c : Nat} (h : c < 5) : C_isThing (nI c) = some 1 := by
  rcases (show c = 0 ∨ c = 1 ∨ c = 2 ∨ c = 3 ∨ c = 4 by omega) with rfl | rfl | rfl | rfl | rfl <;> rfl
theorem isThing_9 : C_isThing (nI 9) = some 0 := rfl
def caresN (t : Ob) (p : Nat) : Nat := (oA t 6 p).toNatClampNeg
/-- how many lessons -/
def lesN (t : Ob) (p : Nat) (d : Int32) : Int32 := if oA t 6 p = nI 9 then 0 else lesS (oA t 4 p) (oA t 5 p) d (if oA t 3 (caresN t p) = nI p then 1 else 0)
theorem T_lessons_ok' {n : Nat} {t : Ob} (w : wfA n t) {p : Nat} (hp : p < n) (d : Int32) : T_lessons t (nI p) d = some (lesN t p d) := by
  have h7 := w.n7
  have i1 : inb (nI p) 7 = true := inb_nI (by omega) (by decide)
  have x4 : ∀ f, ix f (nI p) = f p := fun f => ix_nI (by omega)
  unfold T_lessons lesN caresN
  rcases w.care hp with ⟨c, hc, e⟩ | e
  · have i2 : inb (nI c) 5 = true := inb_nI hc (by decide)
    have x5 : ∀ f, ix f (nI c) = f c := fun f => ix_nI (by omega)
    have n9 : ¬ nI c = nI 9 := by rw [nI_eq' (by omega) (by omega)]; omega
    have z : ¬ (1 : Int32) = 0 := by decide
    simp only [i1, x4, e, i2, x5, gd_t, nm_q, isThing_nI hc, bd_e, if_neg z, it_sm, kd8_inb (w.kind hp), les_some (w.kind hp), if_neg n9, nI_clamp (show c < 2 ^ 31 by omega)]
  · simp only [i1, x4, e, gd_t, nm_q, isThing_9, bd_e, if_true]
theorem M_learnsOn_ok' {n : Nat} {t : Ob} (w : wfA n t) {p : Nat} (hp : p < n) (d : Int32) : M_learnsOn t (nI p) d = some (lesN t p d) := by
  have h7 := w.n7
  have i1 : inb (nI p) 7 = true := inb_nI (by omega) (by decide)
  have x4 : ∀ f, ix f (nI p) = f p := fun f => ix_nI (by omega)
  unfold M_learnsOn lesN caresN
  rcases w.care hp with ⟨c, hc, e⟩ | e
  · have i2 : inb (nI c) 5 = true := inb_nI hc (by decide)
    have x5 : ∀ f, ix f (nI c) = f c := fun f => ix_nI (by omega)
    have n9 : ¬ nI c = nI 9 := by rw [nI_eq' (by omega) (by omega)]; omega
    have n9' : ¬ nI c = (9 : Int32) := n9
    simp only [i1, x4, e, i2, x5, gd_t, jn_e, if_neg n9, if_neg n9', nI_clamp (show c < 2 ^ 31 by omega)]
    rcases k8' (w.kind hp) with k | k | k | k | k | k | k | k <;> rw [k]
    · rfl
    · show (if rem32 d 2 = 0 then some 1 else some 0) = some ((K4_lessons (oA t 5 p) d (if oA t 3 c = nI p then 1 else 0)).getD 0)
      unfold K4_lessons
      split <;> rfl
    · rfl
    · show (if oA t 3 c = nI p then some 1 else some 2) = some ((K6_lessons (oA t 5 p) d (if oA t 3 c = nI p then 1 else 0)).getD 0)
      by_cases h : oA t 3 c = nI p
      · simp only [h, if_true]; rfl
      · simp only [h, if_false]; rfl
    · show (if rem32 d 2 = 0 then some 1 else some 0) = some ((K4_lessons (oA t 5 p) d (if oA t 3 c = nI p then 1 else 0)).getD 0)
      unfold K4_lessons
      split <;> rfl
    · rfl
    · rfl
    · rfl
  · have e9 : oA t 6 p = (9 : Int32) := e
    simp only [i1, x4, e9, gd_t, if_true]
    rfl
/-- one lesson -/
def learn1 (t : Ob) (p c : Nat) : Ob := setK t (p * 5 + c) (oA t 7 (p * 5 + c) ||| nxtS (oA t 4 p) (oA t 1 c) (oA t 7 (p * 5 + c)))
theorem B12_nxt {k a b : Int32} (hk : kd8 k) (ha : B12 a) : B12 (nxtS k a b) := by
  rcases k8' hk with rfl | rfl | rfl | rfl | rfl | rfl | rfl | rfl
  · exact B12_and _ (B12_and _ ha)
  · exact B12_and _ (B12_and _ ha)
  · exact B12_and _ (B12_and _ B12_all)
  · exact B12_and _ (B12_and _ ha)
  · exact B12_and _ (B12_and _ ha)
  · exact B12_and _ (B12_and _ B12_all)
  · exact B12_and _ (B12_and _ ha)
  · exact B12_and _ (B12_and _ ha)
theorem wfA.learn1 {n p c : Nat} {t : Ob} (w : wfA n t) (hp : p < n) (hc : c < 5) : wfA n (learn1 t p c) := by
  have h7 := w.n7
  exact w.setK (by omega) (B12_or (w.kno (by omega)) (B12_nxt (w.kind hp) (w.tru hc)))
theorem M_isLiar_ok' {n p : Nat} {t : Ob} (w : wfA n t) (hp : p < n) : M_isLiar t (nI p) = some (if oA t 4 p = 2 then 1 else if oA t 4 p = 5 then 1 else 0) := by
  have h7 := w.n7
  have i1 : inb (nI p) 7 = true := inb_nI (by omega) (by decide)
  have x4 : ∀ f, ix f (nI p) = f p := fun f => ix_nI (by omega)
  unfold M_isLiar
  simp only [i1, x4, gd_t, jn_e, it_sm]
theorem M_learnOne_ok' {n p c : Nat} {t : Ob} (w : wfA n t) (hp : p < n) (hc : c < 5) (e : oA t 6 p = nI c) : M_learnOne t (nI p) = some (learn1 t p c) := by
  have h7 := w.n7
  have i1 : inb (nI p) 7 = true := inb_nI (by omega) (by decide)
  have x4 : ∀ f, ix f (nI p) = f p := fun f => ix_nI (by omega)
  have i2 : inb (nI c) 5 = true := inb_nI hc (by decide)
  have x5 : ∀ f, ix f (nI c) = f c := fun f => ix_nI (by omega)
  have i3 : inb (nI (p * 5 + c)) 35 = true := inb_nI (by omega) (by decide)
  have x6 : ∀ f, ix f (nI (p * 5 + c)) = f (p * 5 + c) := fun f => ix_nI (by omega)
  unfold M_learnOne
  simp only [i1, x4, e, i2, x5, ixkn', i3, x6, gd_t, nm_q, M_isLiar_ok' w hp, bd_e, it_sm]
  rcases k8' (w.kind hp) with k | k | k | k | k | k | k | k <;> simp only [learn1, k] <;> rfl

theorem foldN_inv {S : Type} {step : Nat → S → S} {s : S} {P : Nat → S → Prop} (h0 : P 0 s) : ∀ e, (∀ i s, i < e → P i s → P (i + 1) (step i s)) → P e (foldN step s e) := by
  intro e
  induction e with
  | zero => intro _; exact h0
  | succ e ih => intro hs; exact hs e _ (by omega) (ih (fun i s hi => hs i s (by omega)))
theorem learn1_ne {t : Ob} {p c j : Nat} (hj : j ≠ 7) : oA (learn1 t p c) j = oA t j := setK_ne hj
/-- the lessons of a day -/
def studyS (t : Ob) (p : Nat) (d : Int32) : Ob := foldN (fun _ t => learn1 t p (caresN t p)) t (lesN t p d).toNatClampNeg
theorem les_rng {k f d v : Int32} (hk : kd8 k) (hf : ∃ j, j < 10 ∧ f = nI j) : ∃ m, m < 5 ∧ lesS k f d v = nI m := by
  obtain ⟨j, hj, rfl⟩ := hf
  rcases k8' hk with rfl | rfl | rfl | rfl | rfl | rfl | rfl | rfl
  · exact ⟨1, by decide, rfl⟩
  · show ∃ m, m < 5 ∧ (K4_lessons (nI j) d v).getD 0 = nI m
    unfold K4_lessons
    split
    · exact ⟨1, by decide, rfl⟩
    · exact ⟨0, by decide, rfl⟩
  · exact ⟨2, by decide, rfl⟩
  · show ∃ m, m < 5 ∧ (K6_lessons (nI j) d v).getD 0 = nI m
    unfold K6_lessons
    split
    · exact ⟨2, by decide, rfl⟩
    · exact ⟨1, by decide, rfl⟩
  · show ∃ m, m < 5 ∧ (K4_lessons (nI j) d v).getD 0 = nI m
    unfold K4_lessons
    split
    · exact ⟨1, by decide, rfl⟩
    · exact ⟨0, by decide, rfl⟩
  · refine ⟨j / 2, by omega, ?_⟩
    show nI j / nI 2 = _
    rw [pk_div (by omega) (by decide) (by decide)]
  · exact ⟨3, by decide, rfl⟩
  · exact ⟨0, by decide, rfl⟩
theorem lesN_rng {n p : Nat} {t : Ob} (w : wfA n t) (hp : p < n) (d : Int32) : ∃ m, m < 5 ∧ lesN t p d = nI m := by
  unfold lesN
  split
  · exact ⟨0, by decide, rfl⟩
  · exact les_rng (w.kind hp) (w.fig hp)
theorem caresN_of {t : Ob} {p c : Nat} (hc : c < 5) (e : oA t 6 p = nI c) : caresN t p = c := by
  unfold caresN; rw [e, nI_clamp (by omega)]
theorem T_study_ok' {n p : Nat} {t : Ob} (w : wfA n t) (hp : p < n) : T_study t (nI p) = some (studyS t p (oS t 2)) ∧ wfA n (studyS t p (oS t 2)) := by
  have h7 := w.n7
  have i1 : inb (nI p) 7 = true := inb_nI (by omega) (by decide)
  have x4 : ∀ f, ix f (nI p) = f p := fun f => ix_nI (by omega)
  obtain ⟨m, hm, em⟩ := lesN_rng w hp (oS t 2)
  unfold T_study studyS
  simp only [i1, x4, gd_t, nm_q, T_lessons_ok' w hp, bd_e, em, nI_clamp (show m < 2 ^ 31 by omega)]
  rcases w.care hp with ⟨c, hc, e⟩ | e
  · have i2 : inb (nI c) 5 = true := inb_nI hc (by decide)
    have x5 : ∀ f, ix f (nI c) = f c := fun f => ix_nI (by omega)
    have i3 : inb (nI (p * 5 + c)) 35 = true := inb_nI (by omega) (by decide)
    have x6 : ∀ f, ix f (nI (p * 5 + c)) = f (p * 5 + c) := fun f => ix_nI (by omega)
    rw [e]
    refine up_loop (fun k s i => T_study_L20 (nI p) (nI c) (nI m) k s (nI i)) m (fun _ t => learn1 t p (caresN t p)) (fun _ s => wfA n s ∧ oA s 6 p = nI c) some (fun k i s hi hs => ?_) (fun k s _ => ?_) t ⟨w, e⟩ FU (FU_gt (by omega)) |>.imp_right And.left
    · obtain ⟨ws, es⟩ := hs
      rw [caresN_of hc es]
      refine ⟨?_, ws.learn1 hp hc, by rw [learn1_ne (by decide)]; exact es⟩
      show T_study_L20 (nI p) (nI c) (nI m) (k + 1) s (nI i) = T_study_L20 (nI p) (nI c) (nI m) k _ (nI (i + 1))
      rw [T_study_L20, if_neg (by rw [nI_le' (by omega) (by omega)]; omega)]
      simp only [ixkn, i1, i2, i3, x4, x5, x6, gd_t, nm_q, kd8_inb (ws.kind hp), nxt_some (ws.kind hp), bd_e, nI_1]
      rfl
    · show T_study_L20 (nI p) (nI c) (nI m) (k + 1) s (nI m) = some s
      rw [T_study_L20, if_pos (by rw [nI_le' (by omega) (by omega)]; omega)]
  · have z : m = 0 := by
      have h1 : lesN t p (oS t 2) = nI 0 := by unfold lesN; rw [if_pos e]; rfl
      rw [em, nI_eq' (by omega) (by omega)] at h1
      exact h1
    subst z
    exact ⟨rfl, w⟩
/-- what is forgotten -/
def forgetS (t : Ob) (p : Nat) (d : Int32) : Ob := if frgS (oA t 4 p) d = 0 then t else foldN (fun h t => setK t (p * 5 + h) (noTop (oA t 7 (p * 5 + h)))) t 5
theorem T_forgetLatest_ok' {n p : Nat} {t : Ob} (w : wfA n t) (hp : p < n) : T_forgetLatest t (nI p) = some (foldN (fun h t => setK t (p * 5 + h) (noTop (oA t 7 (p * 5 + h)))) t 5) ∧ wfA n (foldN (fun h t => setK t (p * 5 + h) (noTop (oA t 7 (p * 5 + h)))) t 5) := by
  have h7 := w.n7
  refine up_loop (fun k s i => T_forgetLatest_L2 (nI p) k s (nI i)) 5 (fun h t => setK t (p * 5 + h) (noTop (oA t 7 (p * 5 + h)))) (fun _ s => wfA n s) some (fun k i s hi ws => ?_) (fun k s _ => ?_) t w FU (FU_gt (by decide))
  · have i3 : inb (nI (p * 5 + i)) 35 = true := inb_nI (by omega) (by decide)
    have x6 : ∀ f, ix f (nI (p * 5 + i)) = f (p * 5 + i) := fun f => ix_nI (by omega)
    refine ⟨?_, ws.setK (by omega) (B12_noTop (ws.kno (by omega)))⟩
    show T_forgetLatest_L2 (nI p) (k + 1) s (nI i) = T_forgetLatest_L2 (nI p) k _ (nI (i + 1))
    rw [T_forgetLatest_L2, if_neg (by show ¬ nI 5 ≤ nI i; rw [nI_le' (by omega) (by omega)]; omega)]
    simp only [ixkn, i3, x6, gd_t, nm_q, nI_1]
    rfl
  · rfl
def personS (d : Int32) (p : Nat) (t : Ob) : Ob := forgetS (studyS t p d) p d
def peopleS (n : Nat) (d : Int32) (t : Ob) : Ob := foldN (personS d) t n
theorem studyS_ne {n p j : Nat} {t : Ob} (w : wfA n t) (hp : p < n) {d : Int32} (hj : j ≠ 7) : oA (studyS t p d) j = oA t j :=
  foldN_inv (P := fun _ s => oA s j = oA t j) rfl _ (fun _ s _ h => (learn1_ne hj).trans h)
theorem studyS_S {p j : Nat} {t : Ob} {d : Int32} : oS (studyS t p d) j = oS t j :=
  foldN_inv (P := fun _ s => oS s j = oS t j) rfl _ (fun _ s _ h => setK_S.trans h)
theorem forget_S {p j : Nat} {t : Ob} {d : Int32} : oS (forgetS t p d) j = oS t j := by
  unfold forgetS; split
  · rfl
  · exact foldN_inv (P := fun _ s => oS s j = oS t j) rfl _ (fun _ s _ h => setK_S.trans h)
theorem personS_S {p j : Nat} {t : Ob} {d : Int32} : oS (personS d p t) j = oS t j := forget_S.trans studyS_S

theorem zb_pA {t : Ob} {j i : Nat} {v : Int32} (h : zb t) (hi : i < 2 ^ 31) (hl : i < tlen j ∨ 8 ≤ j) : zb (pA t j (nI i) v) := by
  intro k a b q hq
  rw [oA_pAq]
  by_cases c : k = j
  · subst c
    rw [if_pos rfl, upd_nI hi, if_neg (by omega)]; exact h k a b q hq
  · rw [if_neg c]; exact h k a b q hq
theorem AEq.zb {t o : Ob} (e : AEq t o) (h : zb t) : Jvm.Pilot.@@N@@.zb o := fun j a b i hi => by rw [← e j a b]; exact h j a b i hi
theorem zb_study {n p : Nat} {t : Ob} {d : Int32} (w : wfA n t) (hp : p < n) (h : zb t) : zb (studyS t p d) := by
  have h7 := w.n7
  rcases w.care hp with ⟨c, hc, e⟩ | e
  · exact (foldN_inv (P := fun _ s => zb s ∧ oA s 6 p = nI c) ⟨h, e⟩ _ (fun _ s _ h => by
      rw [caresN_of hc h.2]
      exact ⟨zb_pA h.1 (by omega) (Or.inl (show p * 5 + c < 35 by omega)), by rw [learn1_ne (by decide)]; exact h.2⟩)).1
  · have z : lesN t p d = 0 := by unfold lesN; rw [if_pos e]
    unfold studyS; rw [z]; exact h
theorem zb_day {n : Nat} {t : Ob} {d : Int32} (w : wfA n t) (h : zb t) : zb (dayS n d t) := by
  have h7 := w.n7
  have h1 : wfA n (peopleS n d t) ∧ zb (peopleS n d t) := foldN_inv (P := fun _ s => wfA n s ∧ zb s) ⟨w, h⟩ n (fun i s hi q => by
    refine ⟨person_wf q.1 hi, ?_⟩
    have z1 := zb_study (d := d) q.1 hi q.2
    unfold personS forgetS; split
    · exact z1
    · exact foldN_inv (P := fun _ s => zb s) z1 5 (fun j s hj q => zb_pA q (by omega) (Or.inl (show i * 5 + j < 35 by omega))))
  refine foldN_inv (P := fun _ s => zb s) h1.2 5 (fun i s hi q => ?_)
  unfold settleS; split
  · exact zb_pA q (by omega) (Or.inl (show i < 5 by omega))
  · exact q
theorem zb_iter {n : Nat} {t : Ob} {d : Int32} (w : wfA n t) (h : zb t) : ∀ k, zb (iterD n d t k)
  | 0 => h
  | k + 1 => zb_day (iter_wf w k) (zb_iter w h k)
/-- the class thinks of now -/
theorem mind_take {n : Nat} {σ : CS} {o : Ob} (h : Rel n σ o) {a : Nat} (ha : 3 ≤ a ∧ a ≤ 10) {τ : CS} (hv : visC σ τ) : ∃ v, T_takeFrom (τ a) (τ 1) = some v ∧ isDay n (oS o 8) (σ 1) 0 v ∧ zb v := by
  obtain ⟨v, e1, e2, e3, e4, e5⟩ := T_takeFrom_ok' (t := τ a) (u := τ 1) (hv.2.2.2.1 a ha.1 ha.2 (h.2.2.2.2.1 a (by omega) ha.2)) (by rw [hv.1]; exact h.1.2.2.2.2)
  rw [hv.1] at e2 e3 e4
  exact ⟨v, e1, ⟨e2.trans h.1.2.1, by rw [e3, h.2.2.1, nI_0, Int32.add_zero], e4⟩, e5⟩
theorem isDay.zb {n k : Nat} {d : Int32} {t u : Ob} (w : wfA n t) (hz : zb t) (h : isDay n d t k u) : Jvm.Pilot.@@N@@.zb u := h.2.2.sm.zb (zb_iter w hz k)
theorem isDayM.zb {n k : Nat} {d : Int32} {t u : Ob} (w : wfA n t) (hz : zb t) (h : isDayM n d t k u) : Jvm.Pilot.@@N@@.zb u := h.2.2.sm.zb (zb_iter w hz k)
theorem C_thinkOn_ok' {n k : Nat} {σ : CS} {o : Ob} (h : Rel n σ o) (hk : k ≤ 60) : ∃ τ, C_thinkOn σ (nI k) = some τ ∧ visC σ τ ∧ isDay n (oS o 8) (σ 1) k (τ 3) := by
  obtain ⟨v, e1, e2, e3⟩ := mind_take h (a := 3) (by decide) visC.rf
  obtain ⟨u, f1, f2⟩ := T_passAll_ok' h.wf (show k < 1000 by omega) e2
  refine ⟨va_up (va_up σ 3 v) 3 u, ?_, (visC_mind (by decide) e3).tr (visC_mind (by decide) (f2.zb h.wf h.1.2.2.2.2)), by rw [vu_at]; exact f2⟩
  unfold C_thinkOn
  rw [e1, bd_e, nm_q, vu_at, f1, bd_e, nm_q]
/-! the reference thinks, and puts back -/
def TH (o u : Ob) : Prop := (∀ i, i < 73 → oA u 17 i = encM o i) ∧ oS u 25 = oS o 25 ∧ (∀ j, 8 ≤ j → j ≤ 12 → oA u j = oA o j) ∧ oA u 18 = oA o 18 ∧ oL u 13 = oL o 13 ∧ zb u
theorem TH.rest {o u v : Ob} (h : TH o u) (r : restM u v) (z : zb v) : TH o v := by
  obtain ⟨h1, h2, h3, h4, h5, h6⟩ := h
  refine ⟨by rw [r.2.1 17 (by decide)]; exact h1, (r.1 25 (by decide) (by decide)).trans h2, fun j a b => (r.2.1 j a).trans (h3 j a b), (r.2.1 18 (by decide)).trans h4, ?_, z⟩
  show v.2.2 13 = _
  rw [r.2.2]; exact h5
theorem TH.pA {o u : Ob} {j i : Nat} {v : Int32} (h : TH o u) (hi : i < 2 ^ 31) (hj : (1 ≤ j ∧ j ≤ 7 ∧ i < tlen j) ∨ (13 ≤ j ∧ j ≠ 17 ∧ j ≠ 18)) : TH o (pA u j (nI i) v) := by
  obtain ⟨h1, h2, h3, h4, h5, h6⟩ := h
  refine ⟨by rw [pA_ne (by omega)]; exact h1, h2, fun q a b => by rw [pA_ne (by omega)]; exact h3 q a b, by rw [pA_ne (by omega)]; exact h4, h5, zb_pA h6 hi (by omega)⟩
theorem TH.pS {o u : Ob} {k : Nat} {v : Int32} (h : TH o u) (hk : k ≠ 25) : TH o (pS u k v) := by
  obtain ⟨h1, h2, h3, h4, h5, h6⟩ := h
  exact ⟨h1, by rw [oS_pS, if_neg (by omega)]; exact h2, h3, h4, h5, h6⟩
theorem M_think_ok' {o : Ob} (hz : zb o) : ∃ s, M_think o = some s ∧ TH o s ∧ visM o s ∧ AEq s o := by
  obtain ⟨s, e, t⟩ := M_take (o := o) (C := 17) (Or.inl rfl)
  obtain ⟨h1, h2, h3, h4, h5, h6, h7, h8⟩ := t
  have ha : AEq s o := fun j a b => h5 j (by omega)
  refine ⟨s, ?_, ⟨h6, h4 25 (by decide) (by decide) (by decide), fun j a b => h5 j (by omega), h5 18 (by decide), ?_, ha.sm.zb hz⟩, ⟨h4 3 (by decide) (by decide) (by decide), h4 8 (by decide) (by decide) (by decide), h4 25 (by decide) (by decide) (by decide), fun j a b => h5 j (by omega), h5 18 (by decide), ?_⟩, ha⟩
  · unfold M_think
    rw [show ((17 : Int32)) = nI 17 from rfl, e]; rfl
  · show s.2.2 13 = _
    rw [h8]; rfl
  · show s.2.2 13 = _
    rw [h8]; rfl
theorem posE_ex {j i : Nat} (h1 : 1 ≤ j) (h2 : j ≤ 7) (hi : i < tlen j) : ∃ q, q < 73 ∧ posE q j i := by
  unfold posE
  rcases (show j = 1 ∨ j = 2 ∨ j = 3 ∨ j = 4 ∨ j = 5 ∨ j = 6 ∨ j = 7 by omega) with rfl | rfl | rfl | rfl | rfl | rfl | rfl <;> simp [tlen] at hi
  · exact ⟨2 + 3 * i, by omega, Or.inl ⟨by omega, by omega, by omega, hi⟩⟩
  · exact ⟨2 + 3 * i + 1, by omega, Or.inl ⟨by omega, by omega, by omega, hi⟩⟩
  · exact ⟨2 + 3 * i + 2, by omega, Or.inl ⟨by omega, by omega, by omega, hi⟩⟩
  · exact ⟨17 + 3 * i, by omega, Or.inr (Or.inl ⟨by omega, by omega, by omega, hi⟩)⟩
  · exact ⟨17 + 3 * i + 1, by omega, Or.inr (Or.inl ⟨by omega, by omega, by omega, hi⟩)⟩
  · exact ⟨17 + 3 * i + 2, by omega, Or.inr (Or.inl ⟨by omega, by omega, by omega, hi⟩)⟩
  · exact ⟨38 + i, by omega, Or.inr (Or.inr ⟨rfl, rfl, hi⟩)⟩
/-- two pictures with one row are the same town -/
theorem enc_AEq {o v : Ob} (hz : zb o) (hv : zb v) (h : ∀ i, i < 73 → encM v i = encM o i) : AEq v o := by
  intro j a b
  funext i
  by_cases c : i < tlen j
  · obtain ⟨q, hq, hp⟩ := posE_ex a b c
    rw [← encE hp, ← encE hp]
    exact h q hq
  · rw [hz j a b i (by omega), hv j a b i (by omega)]
theorem M_again_ok' {o u : Ob} (hz : zb o) (t : TH o u) : ∃ v, M_again u = some v ∧ TH o v ∧ visM o v ∧ AEq v o := by
  obtain ⟨v, e, k⟩ := M_back (o := u) (C := 17) (Or.inl rfl)
  obtain ⟨h1, h2, h3, h4, h5, h6, h7, h8⟩ := k
  obtain ⟨t1, t2, t3, t4, t5, t6⟩ := t
  have he : ∀ i, i < 73 → encM v i = encM o i := fun i hi => (h6 i hi).trans (t1 i hi)
  have hv : zb v := fun j a b i hi => (h7 j a b i hi).trans (t6 j a b i hi)
  have ha := enc_AEq hz hv he
  have hl : oL v 13 = oL o 13 := by show v.2.2 13 = _; rw [h8]; exact t5
  have h25 : oS v 25 = oS o 25 := (h4 25 (by decide) (by decide) (by decide) (by decide) (by decide)).trans t2
  refine ⟨v, ?_, ⟨fun i hi => (congrFun (h5 17 (by decide)) i).trans (t1 i hi), h25, fun j a b => (h5 j a).trans (t3 j a b), (h5 18 (by decide)).trans t4, hl, hv⟩, ⟨he 0 (by decide), he 1 (by decide), h25, fun j a b => ?_, (h5 18 (by decide)).trans t4, hl⟩, ha⟩
  · unfold M_again
    rw [show ((17 : Int32)) = nI 17 from rfl, e]; rfl
  · by_cases c : j ≤ 7
    · exact ha j a c
    · exact (h5 j (by omega)).trans (t3 j (by omega) b)
theorem Rel.zo {n : Nat} {σ : CS} {o : Ob} (h : Rel n σ o) : Jvm.Pilot.@@N@@.zb o := h.2.2.2.1.zb h.1.2.2.2.2
/-- from a thought on, k days -/
theorem M_days_on {n k : Nat} {σ : CS} {o u : Ob} (h : Rel n σ o) (hk : k < 1000) (t : TH o u) (hu : isDayM n (oS o 8) (σ 1) 0 u) : ∃ v, M_goDays u (nI k) = some v ∧ isDayM n (oS o 8) (σ 1) k v ∧ TH o v := by
  obtain ⟨v, e, hv, r⟩ := M_goDays_ok' h.wf hk hu
  exact ⟨v, e, hv, t.rest r (hv.zb h.wf h.1.2.2.2.2)⟩
theorem think_day {n : Nat} {σ : CS} {o s : Ob} (h : Rel n σ o) (hv : visM o s) (ha : AEq s o) : isDayM n (oS o 8) (σ 1) 0 s := ⟨hv.1.trans h.2.1, by rw [hv.2.1, nI_0, Int32.add_zero], ha.tr h.2.2.2.1.sm⟩

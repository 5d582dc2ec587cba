/-! the text of a town: m bytes f -/
def chI (m : Nat) (f : Nat → Int32) (i : Nat) : Int32 := if i < m then f i else -999
def dgt (m : Nat) (f : Nat → Int32) (i : Nat) : Bool := rng (chI m f i) 48 57
/-- how many digits stand there one behind the other, k at most -/
def gdn (m : Nat) (f : Nat → Int32) (q : Nat) : Nat → Nat
  | 0 => 0
  | k + 1 => if gdn m f q k = k ∧ dgt m f (q + k) = true then k + 1 else gdn m f q k
theorem gdn_s {m : Nat} {f : Nat → Int32} {q k : Nat} : gdn m f q (k + 1) = if gdn m f q k = k ∧ dgt m f (q + k) = true then k + 1 else gdn m f q k := rfl
theorem gdn_le {m : Nat} {f : Nat → Int32} {q : Nat} : ∀ k, gdn m f q k ≤ k
  | 0 => Nat.le_refl _
  | k + 1 => by
    have h := gdn_le (m := m) (f := f) (q := q) k
    rw [gdn_s]
    split
    · exact Nat.le_refl _
    · exact Nat.le_succ_of_le h
theorem gdn_stop {m : Nat} {f : Nat → Int32} {q a : Nat} (h : gdn m f q a < a) : ∀ b, gdn m f q (a + b) = gdn m f q a
  | 0 => rfl
  | b + 1 => by
    have ih := gdn_stop h b
    rw [← Nat.add_assoc, gdn_s, ih, if_neg (by omega)]
theorem gdn_add {m : Nat} {f : Nat → Int32} {q a : Nat} (h : gdn m f q a = a) : ∀ b, gdn m f q (a + b) = a + gdn m f (q + a) b
  | 0 => h
  | b + 1 => by
    have ih := gdn_add h b
    rw [← Nat.add_assoc, gdn_s, gdn_s, ih, ← Nat.add_assoc q a b]
    by_cases c : gdn m f (q + a) b = b ∧ dgt m f (q + a + b) = true
    · rw [if_pos c, if_pos ⟨by omega, c.2⟩]; omega
    · rw [if_neg c, if_neg (fun z => c ⟨by omega, z.2⟩)]
/-- reading on: a place, and whether it has failed -/
def adv (m : Nat) (f : Nat → Int32) (p : Nat × Bool) (k : Nat) : Nat × Bool := if p.2 = true then p else (p.1 + gdn m f p.1 k, decide (gdn m f p.1 k < k))
theorem adv_f {m : Nat} {f : Nat → Int32} {p : Nat × Bool} {k : Nat} (h : (adv m f p k).2 = false) : p.2 = false ∧ (adv m f p k).1 = p.1 + k ∧ gdn m f p.1 k = k := by
  unfold adv at h ⊢
  by_cases c : p.2 = true
  · rw [if_pos c] at h; rw [c] at h; cases h
  · rw [if_neg c] at h ⊢
    have h1 := of_decide_eq_false h
    have h2 := gdn_le (m := m) (f := f) (q := p.1) k
    have h3 : gdn m f p.1 k = k := by omega
    exact ⟨by cases e : p.2 with
      | true => exact absurd e c
      | false => rfl, by show p.1 + gdn m f p.1 k = _; rw [h3], h3⟩
theorem adv_adv {m : Nat} {f : Nat → Int32} {p : Nat × Bool} {a b : Nat} : adv m f (adv m f p a) b = adv m f p (a + b) := by
  unfold adv
  by_cases c : p.2 = true
  · rw [if_pos c, if_pos c]
    rw [if_pos c]
  · rw [if_neg c]
    rw [if_neg c]
    have h1 := gdn_le (m := m) (f := f) (q := p.1) a
    by_cases d : gdn m f p.1 a < a
    · rw [if_pos (decide_eq_true d), gdn_stop d b, decide_eq_true d, decide_eq_true (by omega)]
    · have e : gdn m f p.1 a = a := by omega
      rw [if_neg (by rw [decide_eq_false d]; exact Bool.false_ne_true), gdn_add e b]
      show (p.1 + gdn m f p.1 a + gdn m f (p.1 + gdn m f p.1 a) b, decide (gdn m f (p.1 + gdn m f p.1 a) b < b)) = _
      rw [e, Nat.add_assoc]
      congr 1
      exact decide_eq_decide.mpr (by omega)
/-- the number that the digits tell -/
def numS (f : Nat → Int32) (q : Nat) : Nat → Int32
  | 0 => 0
  | k + 1 => 10 * numS f q k + f (q + k) - 48
/-! the reference reads -/
def TX (d m : Nat) (f : Nat → Int32) (s : Ob) : Prop := d < 8 ∧ m ≤ 100 ∧ oA s 12 d = nI m ∧ ∀ i, i < 100 → oL s 13 (100 * d + i) = (f i).toInt64
def PS (d q : Nat) (b : Bool) (s : Ob) : Prop := oS s 16 = nI d ∧ oS s 17 = nI q ∧ oS s 18 = bI b
def psR (s u : Ob) : Prop := (∀ k, k ≠ 17 → k ≠ 18 → oS u k = oS s k) ∧ (∀ j, oA u j = oA s j) ∧ u.2.2 = s.2.2
theorem psR.rf {s : Ob} : psR s s := ⟨fun _ _ _ => rfl, fun _ => rfl, rfl⟩
theorem psR.tr {s u v : Ob} (h : psR s u) (h' : psR u v) : psR s v := ⟨fun k a b => (h'.1 k a b).trans (h.1 k a b), fun j => (h'.2.1 j).trans (h.2.1 j), h'.2.2.trans h.2.2⟩
theorem TX.ps {d m : Nat} {f : Nat → Int32} {s u : Ob} (x : TX d m f s) (h : psR s u) : TX d m f u := ⟨x.1, x.2.1, by rw [h.2.1]; exact x.2.2.1, fun i hi => by
  show u.2.2 13 _ = _
  rw [h.2.2]; exact x.2.2.2 i hi⟩
theorem here_ok {d m q : Nat} {f : Nat → Int32} {s : Ob} (x : TX d m f s) (h16 : oS s 16 = nI d) (h17 : oS s 17 = nI q) (hq : q < 1000) : M_here s = some (chI m f q) := by
  obtain ⟨x1, x2, x3, x4⟩ := x
  unfold M_here chI
  rw [h16, h17, inb_nI x1 (by decide), gd_t, ix_nI (by omega), x3]
  by_cases c : q < m
  · rw [if_neg (show ¬ nI m ≤ nI q by rw [nI_le' (by omega) (by omega)]; omega), if_pos c, ix100, inb_nI (show 100 * d + q < 800 by omega) (by decide), gd_t, ixL_nI (by omega), x4 q (by omega), Int32.toInt32_toInt64]
  · rw [if_pos (show nI m ≤ nI q by rw [nI_le' (by omega) (by omega)]; omega), if_neg c]
def rdS (s : Ob) (v x : Int32) : Ob := pS (pS s 18 v) 17 (oS s 17 + x)
theorem rdS_R {s : Ob} {v x : Int32} : psR s (rdS s v x) := ⟨fun k a b => by
  show oS (pS (pS s 18 v) 17 _) k = _
  rw [oS_pS, if_neg a, oS_pS, if_neg b], fun _ => rfl, rfl⟩
theorem rd_bad {s : Ob} {x : Int32} {j k N : Nat} (hb : oS s 18 = 1) (hj : j < k) (hk : k < 100) : M_readDigits_L4 (nI k) (N + 1) s x (nI j) = M_readDigits_L4 (nI k) N (rdS s 1 0) 0 (nI (j + 1)) := by
  have c : ¬ oS s 18 = 0 := by rw [hb]; decide
  have c2 : ¬ oS (pS s 18 1) 18 = 0 := (show ¬ (1 : Int32) = 0 by decide)
  rw [M_readDigits_L4, if_neg (by rw [nI_le' (by omega) (by omega)]; omega), jn_e, if_neg c, bd_e, show isZ 1 = true from rfl, gd_t, nm_q, if_neg c2, bd_e, if_neg c2, bd_e, nm_q, nm_q, nI_1]
  rfl
theorem rd_one {d m q j k N : Nat} {f : Nat → Int32} {s : Ob} {x : Int32} (X : TX d m f s) (h : PS d q false s) (hq : q < 1000) (hj : j < k) (hk : k < 100) : M_readDigits_L4 (nI k) (N + 1) s x (nI j) = if dgt m f q = true then M_readDigits_L4 (nI k) N (rdS s 0 1) (10 * x + chI m f q - 48) (nI (j + 1)) else M_readDigits_L4 (nI k) N (rdS s 1 0) 0 (nI (j + 1)) := by
  have c : oS s 18 = 0 := h.2.2
  rw [M_readDigits_L4, if_neg (by rw [nI_le' (by omega) (by omega)]; omega), jn_e, if_pos c, here_ok X h.1 h.2.1 hq, bd_e, M_inI, bd_e, show (48 : Int64).toInt = 48 from rfl, show (57 : Int64).toInt = 57 from rfl]
  show (bd (if bI (dgt m f q) = 0 then some 1 else some 0) _) = _
  cases e : dgt m f q with
  | false =>
    have c2 : ¬ oS (pS s 18 1) 18 = 0 := (show ¬ (1 : Int32) = 0 by decide)
    rw [b0, bd_e, show isZ 1 = true from rfl, gd_t, nm_q, if_neg c2, bd_e, if_neg c2, bd_e, nm_q, nm_q, nI_1, if_neg (by decide)]
    rfl
  | true =>
    have c2 : oS (pS s 18 0) 18 = 0 := rfl
    have X2 : TX d m f (pS s 18 0) := X
    have h16 : oS (pS s 18 0) 16 = nI d := h.1
    have h17 : oS (pS s 18 0) 17 = nI q := h.2.1
    rw [b1, bd_e, show isZ 0 = true from rfl, gd_t, nm_q, if_pos c2, here_ok X2 h16 h17 hq, bd_e, bd_e, if_pos c2, bd_e, nm_q, nm_q, nI_1, if_pos rfl]
    rfl
theorem rd_ok {d m k : Nat} {p : Nat × Bool} {f : Nat → Int32} {s : Ob} (X : TX d m f s) (h : PS d p.1 p.2 s) (hk : k < 10) (hq : p.1 < 900) : ∃ v u, M_readDigits s (nI k) = some (v, u) ∧ PS d (adv m f p k).1 (adv m f p k).2 u ∧ psR s u ∧ ((adv m f p k).2 = false → v = numS f p.1 k) := by
  obtain ⟨q, b⟩ := p
  cases b with
  | true =>
    obtain ⟨t, e, h1, h2⟩ := up_loopE (S := Ob × Int32) (L := fun N t i => M_readDigits_L4 (nI k) N t.1 t.2 (nI i)) k (fun _ t => PS d q true t.1 ∧ psR s t.1) (fun t => some (t.2, t.1)) (by
      intro N i t hi ⟨q1, q2⟩
      refine ⟨(rdS t.1 1 0, 0), rd_bad q1.2.2 hi (by omega), ⟨q1.1, ?_, rfl⟩, q2.tr rdS_R⟩
      show oS t.1 17 + 0 = nI q
      rw [q1.2.1, Int32.add_zero]) (by
      intro N t _
      show M_readDigits_L4 (nI k) (N + 1) t.1 t.2 (nI k) = _
      rw [M_readDigits_L4, if_pos (by rw [nI_le' (by omega) (by omega)]; omega)]) (s, 0) ⟨h, psR.rf⟩ FU (FU_gt (by omega))
    have ea : adv m f (q, true) k = (q, true) := rfl
    refine ⟨t.2, t.1, e, ?_, h2, fun z => ?_⟩
    · rw [ea]; exact h1
    · rw [ea] at z; cases z
  | false =>
    obtain ⟨t, e, h1, h2, h3⟩ := up_loopE (S := Ob × Int32) (L := fun N t i => M_readDigits_L4 (nI k) N t.1 t.2 (nI i)) k (fun i t => PS d (q + gdn m f q i) (decide (gdn m f q i < i)) t.1 ∧ psR s t.1 ∧ (gdn m f q i = i → t.2 = numS f q i)) (fun t => some (t.2, t.1)) (by
      intro N i t hi ⟨q1, q2, q3⟩
      have hle := gdn_le (m := m) (f := f) (q := q) i
      show ∃ s' : Ob × Int32, M_readDigits_L4 (nI k) (N + 1) t.1 t.2 (nI i) = M_readDigits_L4 (nI k) N s'.1 s'.2 (nI (i + 1)) ∧ _
      by_cases g : gdn m f q i < i
      · rw [decide_eq_true g] at q1
        have es : gdn m f q (i + 1) = gdn m f q i := gdn_stop g 1
        refine ⟨(rdS t.1 1 0, 0), rd_bad q1.2.2 hi (by omega), ?_, q2.tr rdS_R, fun z => absurd z (by omega)⟩
        rw [es, decide_eq_true (by omega)]
        refine ⟨q1.1, ?_, rfl⟩
        show oS t.1 17 + 0 = _
        rw [q1.2.1, Int32.add_zero]
      · have ge : gdn m f q i = i := by omega
        rw [decide_eq_false g, ge] at q1
        rw [rd_one (X.ps q2) q1 (by omega) hi (by omega)]
        by_cases e : dgt m f (q + i) = true
        · have es : gdn m f q (i + 1) = i + 1 := by rw [gdn_s, if_pos ⟨ge, e⟩]
          rw [if_pos e]
          refine ⟨(rdS t.1 0 1, 10 * t.2 + chI m f (q + i) - 48), rfl, ?_, q2.tr rdS_R, fun _ => ?_⟩
          · rw [es, decide_eq_false (by omega)]
            refine ⟨q1.1, ?_, rfl⟩
            show oS t.1 17 + 1 = _
            rw [q1.2.1, nI_1, Nat.add_assoc]
          · have hm : q + i < m := by
              unfold dgt chI at e
              by_cases c : q + i < m
              · exact c
              · rw [if_neg c] at e; exact absurd e (by decide)
            show 10 * t.2 + chI m f (q + i) - 48 = 10 * numS f q i + f (q + i) - 48
            unfold chI
            rw [if_pos hm, q3 ge]
        · have es : gdn m f q (i + 1) = i := by rw [gdn_s, if_neg (fun z => e z.2), ge]
          rw [if_neg e]
          refine ⟨(rdS t.1 1 0, 0), rfl, ?_, q2.tr rdS_R, fun z => absurd z (by omega)⟩
          rw [es, decide_eq_true (by omega)]
          refine ⟨q1.1, ?_, rfl⟩
          show oS t.1 17 + 0 = _
          rw [q1.2.1, Int32.add_zero]) (by
      intro N t _
      show M_readDigits_L4 (nI k) (N + 1) t.1 t.2 (nI k) = _
      rw [M_readDigits_L4, if_pos (by rw [nI_le' (by omega) (by omega)]; omega)]) (s, 0) ⟨h, psR.rf, fun _ => rfl⟩ FU (FU_gt (by omega))
    have ea : adv m f (q, false) k = (q + gdn m f q k, decide (gdn m f q k < k)) := rfl
    refine ⟨t.2, t.1, e, ?_, h2, fun z => ?_⟩
    · rw [ea]; exact h1
    · exact h3 (adv_f z).2.2
/-- a number is read and noted -/
def nmR (s u : Ob) (i : Nat) : Prop := (∀ k, k ≠ 17 → k ≠ 18 → oS u k = oS s k) ∧ (∀ j, j ≠ 16 → oA u j = oA s j) ∧ (∀ q, q ≠ i → oA u 16 q = oA s 16 q) ∧ u.2.2 = s.2.2
theorem TX.nm {d m i : Nat} {f : Nat → Int32} {s u : Ob} (x : TX d m f s) (h : nmR s u i) : TX d m f u := ⟨x.1, x.2.1, by rw [h.2.1 12 (by decide)]; exact x.2.2.1, fun i hi => by
  show u.2.2 13 _ = _
  rw [h.2.2.2]; exact x.2.2.2 i hi⟩
theorem grp {d m k i : Nat} {p : Nat × Bool} {f : Nat → Int32} {s : Ob} (X : TX d m f s) (h : PS d p.1 p.2 s) (hk : k < 10) (hq : p.1 < 900) (hi : i < 153) : ∃ v u, M_readDigits s (nI k) = some (v, u) ∧ PS d (adv m f p k).1 (adv m f p k).2 (pA u 16 (nI i) v) ∧ nmR s (pA u 16 (nI i) v) i ∧ ((adv m f p k).2 = false → oA (pA u 16 (nI i) v) 16 i = numS f p.1 k) := by
  obtain ⟨v, u, e, h1, h2, h3⟩ := rd_ok X h hk hq
  refine ⟨v, u, e, h1, ⟨h2.1, fun j hj => by rw [pA_ne hj]; exact h2.2.1 j, fun q hq => by rw [pA_at (by omega), if_neg hq, h2.2.1], h2.2.2⟩, fun z => ?_⟩
  rw [pA_at (by omega), if_pos rfl]
  exact h3 z
/-! letters -/
def isL (c : Int32) : Bool := c == 116 || (c == 112 || (c == 108 || (c == 111 || (c == 99 || c == 100))))
def dgN (c : Int32) : Nat := if c = 116 then 6 else if c = 108 then 4 else if c = 112 then 3 else 2
theorem isL_iff {c : Int32} : isL c = true ↔ c = 116 ∨ c = 112 ∨ c = 108 ∨ c = 111 ∨ c = 99 ∨ c = 100 := by
  unfold isL
  simp only [Bool.or_eq_true, beq_iff_eq]
theorem M_isL (o : Ob) (c : Int32) : M_isLetter o c = some (bI (isL c)) := by
  unfold M_isLetter
  rw [jn_e]
  by_cases h : isL c = true
  · rw [h]
    rcases isL_iff.mp h with rfl | rfl | rfl | rfl | rfl | rfl <;> rfl
  · have h' : ¬ (c = 116 ∨ c = 112 ∨ c = 108 ∨ c = 111 ∨ c = 99 ∨ c = 100) := fun z => h (isL_iff.mpr z)
    have e : isL c = false := by
      cases q : isL c with
      | true => exact absurd q h
      | false => rfl
    rw [e, if_neg (fun z => h' (Or.inl z)), if_neg (fun z => h' (Or.inr (Or.inl z))), if_neg (fun z => h' (Or.inr (Or.inr (Or.inl z)))), if_neg (fun z => h' (Or.inr (Or.inr (Or.inr (Or.inl z))))), if_neg (fun z => h' (Or.inr (Or.inr (Or.inr (Or.inr (Or.inl z)))))), if_neg (fun z => h' (Or.inr (Or.inr (Or.inr (Or.inr (Or.inr z))))))]
    rfl
theorem C_dig (c : Int32) : X_digitsOf c = some (if isL c = true then nI (dgN c) else -1) := by
  by_cases h : isL c = true
  · rw [if_pos h]
    rcases isL_iff.mp h with rfl | rfl | rfl | rfl | rfl | rfl <;> rfl
  · have h' : ¬ (c = 116 ∨ c = 112 ∨ c = 108 ∨ c = 111 ∨ c = 99 ∨ c = 100) := fun z => h (isL_iff.mpr z)
    rw [if_neg h]
    unfold X_digitsOf
    rw [if_neg (show ¬ c = 99 from fun z => h' (Or.inr (Or.inr (Or.inr (Or.inr (Or.inl z)))))), if_neg (show ¬ c = 100 from fun z => h' (Or.inr (Or.inr (Or.inr (Or.inr (Or.inr z))))))]
    rw [if_neg (show ¬ c = 108 from fun z => h' (Or.inr (Or.inr (Or.inl z)))), if_neg (show ¬ c = 111 from fun z => h' (Or.inr (Or.inr (Or.inr (Or.inl z))))), if_neg (show ¬ c = 112 from fun z => h' (Or.inr (Or.inl z))), if_neg (show ¬ c = 116 from fun z => h' (Or.inl z))]
    simp only [ite_self]
/-- what is told of a statement at place q (behind its letter) -/
def toldOK (f : Nat → Int32) (c : Int32) (q : Nat) (s : Ob) (i : Nat) : Prop := (c = 100 → oA s 16 i = numS f q 2) ∧ (c ≠ 100 → oA s 16 i = numS f q 1) ∧ (c = 116 → oA s 16 (i + 1) = numS f (q + 1) 4 ∧ oA s 16 (i + 2) = numS f (q + 5) 1) ∧ (c ≠ 100 → c ≠ 116 → oA s 16 (i + 1) = numS f (q + 1) 1) ∧ (c = 112 → oA s 16 (i + 2) = numS f (q + 2) 1) ∧ (c = 108 → oA s 16 (i + 2) = numS f (q + 2) 2)
def numR (s u : Ob) (i : Nat) : Prop := (∀ k, k ≠ 17 → k ≠ 18 → oS u k = oS s k) ∧ (∀ j, j ≠ 16 → oA u j = oA s j) ∧ (∀ q, q < i → oA u 16 q = oA s 16 q) ∧ u.2.2 = s.2.2
theorem nmR.num {s u : Ob} {i j : Nat} (h : nmR s u j) (hj : i ≤ j) : numR s u i := ⟨h.1, h.2.1, fun q hq => h.2.2.1 q (by omega), h.2.2.2⟩
theorem numR.tr {s u v : Ob} {i : Nat} (h : numR s u i) (h' : numR u v i) : numR s v i := ⟨fun k a b => (h'.1 k a b).trans (h.1 k a b), fun j a => (h'.2.1 j a).trans (h.2.1 j a), fun q hq => (h'.2.2.1 q hq).trans (h.2.2.1 q hq), h'.2.2.2.trans h.2.2.2⟩
theorem rn_ok {d m q i : Nat} {f : Nat → Int32} {s : Ob} {c : Int32} (X : TX d m f s) (h : PS d q false s) (hq : q < 800) (hi : i + 2 < 153) (hc : isL c = true) : ∃ u, M_readNumbers s c (nI i) = some u ∧ PS d (adv m f (q, false) (dgN c)).1 (adv m f (q, false) (dgN c)).2 u ∧ numR s u i ∧ ((adv m f (q, false) (dgN c)).2 = false → toldOK f c q u i) := by
  have hi0 : inb (nI i) 153 = true := inb_nI (by omega) (by decide)
  have hi1 : inb (nI i + (1 : Int32)) 153 = true := by rw [nI_1]; exact inb_nI (by omega) (by decide)
  have hi2 : inb (nI i + (2 : Int32)) 153 = true := by rw [lit32, nI_add]; exact inb_nI (by omega) (by decide)
  have e1 : nI i + (1 : Int32) = nI (i + 1) := nI_1 _
  have e2 : nI i + (2 : Int32) = nI (i + 2) := by rw [lit32, nI_add]
  have bd9 : ∀ (p : Nat × Bool) k, p.1 < 890 → k < 10 → (adv m f p k).1 < 900 := fun p k a b => by
    unfold adv
    split
    · omega
    · have := gdn_le (m := m) (f := f) (q := p.1) k
      show p.1 + gdn m f p.1 k < 900
      omega
  unfold M_readNumbers
  by_cases c100 : c = 100
  · subst c100
    obtain ⟨v, u, g1, g2, g3, g4⟩ := grp (p := (q, false)) (k := 2) (i := i) X h (by decide) (show q < 900 by omega) (by omega)
    have g1' : M_readDigits s (2 : Int32) = some (v, u) := g1
    refine ⟨pA u 16 (nI i) v, ?_, g2, g3.num (Nat.le_refl _), fun z => ⟨fun _ => g4 z, fun z => absurd rfl z, fun z => absurd z (by decide), fun z => absurd rfl z, fun z => absurd z (by decide), fun z => absurd z (by decide)⟩⟩
    rw [if_pos rfl, bd_e, g1', bd2_e, hi0, gd_t, nm_q, if_pos rfl, bd_e, jn_e, if_neg (by decide), if_neg (by decide), if_neg (by decide)]
  · rw [if_neg c100, bd_e]
    obtain ⟨v, u, g1, g2, g3, g4⟩ := grp (p := (q, false)) (k := 1) (i := i) X h (by decide) (show q < 900 by omega) (by omega)
    have g1' : M_readDigits s (1 : Int32) = some (v, u) := g1
    rw [g1', bd2_e, hi0, gd_t, nm_q, if_neg c100]
    generalize pA u 16 (nI i) v = s1 at g2 g3 g4
    have X1 := X.nm g3
    have q1 := bd9 (q, false) 1 (by show q < 890; omega) (by decide)
    by_cases c116 : c = 116
    · subst c116
      obtain ⟨v2, u2, k1, k2, k3, k4⟩ := grp (k := 4) (i := i + 1) X1 g2 (by decide) q1 (by omega)
      have k1' : M_readDigits s1 (4 : Int32) = some (v2, u2) := k1
      rw [if_pos rfl, bd_e, k1', bd2_e, hi1, gd_t, nm_q, e1, bd_e, jn_e, if_pos rfl, if_neg (by decide), bd_e]
      generalize pA u2 16 (nI (i + 1)) v2 = s2 at k2 k3 k4
      have X2 := X1.nm k3
      have q2 : (adv m f (adv m f (q, false) 1) 4).1 < 900 := by rw [adv_adv]; exact bd9 (q, false) 5 (by show q < 890; omega) (by decide)
      obtain ⟨v3, u3, l1, l2, l3, l4⟩ := grp (k := 1) (i := i + 2) X2 k2 (by decide) q2 (by omega)
      have l1' : M_readDigits s2 (1 : Int32) = some (v3, u3) := l1
      rw [l1', bd2_e, hi2, gd_t, nm_q, e2]
      have ea : adv m f (adv m f (adv m f (q, false) 1) 4) 1 = adv m f (q, false) (dgN 116) := by rw [adv_adv, adv_adv]; rfl
      rw [ea] at l2 l4
      refine ⟨_, rfl, l2, ((g3.num (Nat.le_refl _)).tr (k3.num (by omega))).tr (l3.num (by omega)), fun z => ?_⟩
      have z3 := l4 z
      rw [← ea] at z
      obtain ⟨a1, a2, a3⟩ := adv_f z
      obtain ⟨b1', b2, b3⟩ := adv_f a1
      obtain ⟨c1, c2, c3⟩ := adv_f b1'
      have w1 := g4 b1'
      have w2 := k4 a1
      rw [b2, c2] at z3
      rw [c2] at w2
      refine ⟨fun z => absurd z (by decide), fun _ => ?_, fun _ => ⟨?_, z3⟩, fun _ z => absurd rfl z, fun z => absurd z (by decide), fun z => absurd z (by decide)⟩
      · rw [l3.2.2.1 i (by omega), k3.2.2.1 i (by omega)]; exact w1
      · rw [l3.2.2.1 (i + 1) (by omega)]; exact w2
    · obtain ⟨v2, u2, k1, k2, k3, k4⟩ := grp (k := 1) (i := i + 1) X1 g2 (by decide) q1 (by omega)
      have k1' : M_readDigits s1 (1 : Int32) = some (v2, u2) := k1
      rw [if_neg c116, bd_e, k1', bd2_e, hi1, gd_t, nm_q, e1, bd_e, jn_e, if_neg c116]
      generalize pA u2 16 (nI (i + 1)) v2 = s2 at k2 k3 k4
      have X2 := X1.nm k3
      have q2 : (adv m f (adv m f (q, false) 1) 1).1 < 900 := by rw [adv_adv]; exact bd9 (q, false) 2 (by show q < 890; omega) (by decide)
      by_cases c112 : c = 112
      · subst c112
        rw [if_pos rfl, if_neg (by decide), bd_e]
        obtain ⟨v3, u3, l1, l2, l3, l4⟩ := grp (k := 1) (i := i + 2) X2 k2 (by decide) q2 (by omega)
        have l1' : M_readDigits s2 (1 : Int32) = some (v3, u3) := l1
        rw [l1', bd2_e, hi2, gd_t, nm_q, e2]
        have ea : adv m f (adv m f (adv m f (q, false) 1) 1) 1 = adv m f (q, false) (dgN 112) := by rw [adv_adv, adv_adv]; rfl
        rw [ea] at l2 l4
        refine ⟨_, rfl, l2, ((g3.num (Nat.le_refl _)).tr (k3.num (by omega))).tr (l3.num (by omega)), fun z => ?_⟩
        have z3 := l4 z
        rw [← ea] at z
        obtain ⟨a1, a2, a3⟩ := adv_f z
        obtain ⟨b1', b2, b3⟩ := adv_f a1
        obtain ⟨c1, c2, c3⟩ := adv_f b1'
        have w1 := g4 b1'
        have w2 := k4 a1
        rw [b2, c2] at z3
        rw [c2] at w2
        refine ⟨fun z => absurd z (by decide), fun _ => ?_, fun z => absurd z (by decide), fun _ _ => ?_, fun _ => z3, fun z => absurd z (by decide)⟩
        · rw [l3.2.2.1 i (by omega), k3.2.2.1 i (by omega)]; exact w1
        · rw [l3.2.2.1 (i + 1) (by omega)]; exact w2
      · rw [if_neg c112]
        by_cases c108 : c = 108
        · subst c108
          rw [if_pos rfl, if_pos rfl, bd_e]
          obtain ⟨v3, u3, l1, l2, l3, l4⟩ := grp (k := 2) (i := i + 2) X2 k2 (by decide) q2 (by omega)
          have l1' : M_readDigits s2 (2 : Int32) = some (v3, u3) := l1
          rw [l1', bd2_e, hi2, gd_t, nm_q, e2]
          have ea : adv m f (adv m f (adv m f (q, false) 1) 1) 2 = adv m f (q, false) (dgN 108) := by rw [adv_adv, adv_adv]; rfl
          rw [ea] at l2 l4
          refine ⟨_, rfl, l2, ((g3.num (Nat.le_refl _)).tr (k3.num (by omega))).tr (l3.num (by omega)), fun z => ?_⟩
          have z3 := l4 z
          rw [← ea] at z
          obtain ⟨a1, a2, a3⟩ := adv_f z
          obtain ⟨b1', b2, b3⟩ := adv_f a1
          obtain ⟨c1, c2, c3⟩ := adv_f b1'
          have w1 := g4 b1'
          have w2 := k4 a1
          rw [b2, c2] at z3
          rw [c2] at w2
          refine ⟨fun z => absurd z (by decide), fun _ => ?_, fun z => absurd z (by decide), fun _ _ => ?_, fun z => absurd z (by decide), fun _ => z3⟩
          · rw [l3.2.2.1 i (by omega), k3.2.2.1 i (by omega)]; exact w1
          · rw [l3.2.2.1 (i + 1) (by omega)]; exact w2
        · rw [if_neg c108]
          have ed : dgN c = 1 + 1 := by unfold dgN; rw [if_neg c116, if_neg c108, if_neg c112]
          have ea : adv m f (adv m f (q, false) 1) 1 = adv m f (q, false) (dgN c) := by rw [adv_adv, ed]
          rw [← ea]
          refine ⟨_, rfl, k2, (g3.num (Nat.le_refl _)).tr (k3.num (by omega)), fun z => ?_⟩
          obtain ⟨b1', b2, b3⟩ := adv_f z
          obtain ⟨c1, c2, c3⟩ := adv_f b1'
          have w1 := g4 b1'
          have w2 := k4 z
          rw [c2] at w2
          refine ⟨fun z => absurd z c100, fun _ => ?_, fun z => absurd z c116, fun _ _ => w2, fun z => absurd z c112, fun z => absurd z c108⟩
          rw [k3.2.2.1 i (by omega)]; exact w1
/-- the place of a statement's fault, if it has one -/
def sfR (m : Nat) (f : Nat → Int32) (q : Nat) : Option Nat :=
  if isL (chI m f q) = true then (if (adv m f (q + 1, false) (dgN (chI m f q))).2 = true ∨ ¬ chI m f (adv m f (q + 1, false) (dgN (chI m f q))).1 = 59 then some (adv m f (q + 1, false) (dgN (chI m f q))).1 else none) else some q
def tlS (u : Ob) (v w : Int32) : Ob := pS (pS (pS u 18 v) 17 (oS u 17 + w)) 19 (oS u 19 + 1)
theorem tail1 {u : Ob} (hb : oS u 18 = 1) : (bd (
    jn (
      some (1 : Int32)) fun j103 =>
    if (oS u 18) = (0 : Int32) then
      bd (M_here u) fun (r20 : Int32) =>
      if r20 = (59 : Int32) then
        some (0 : Int32)
      else
        j103
    else
      j103) fun (s22 : Int32) =>
  gd (isZ s22) <|
  nm (pS u 18 s22) fun o24 =>
  bd (
    if (oS o24 18) = (0 : Int32) then
      some (1 : Int32)
    else
      some (0 : Int32)) fun (s26 : Int32) =>
  nm (pS o24 17 ((oS o24 17) + s26)) fun o27 =>
  nm (pS o27 19 ((oS o27 19) + (1 : Int32))) fun o28 =>
  some o28) = some (tlS u 1 0) := by
  have c : ¬ oS u 18 = 0 := by rw [hb]; decide
  have c2 : ¬ oS (pS u 18 1) 18 = 0 := (show ¬ (1 : Int32) = 0 by decide)
  rw [jn_e, if_neg c, bd_e, show isZ 1 = true from rfl, gd_t, nm_q, if_neg c2, bd_e, nm_q, nm_q]
  rfl
theorem tail2 {d m e : Nat} {f : Nat → Int32} {u : Ob} (X : TX d m f u) (h : PS d e false u) (he : e < 1000) : (bd (
    jn (
      some (1 : Int32)) fun j103 =>
    if (oS u 18) = (0 : Int32) then
      bd (M_here u) fun (r20 : Int32) =>
      if r20 = (59 : Int32) then
        some (0 : Int32)
      else
        j103
    else
      j103) fun (s22 : Int32) =>
  gd (isZ s22) <|
  nm (pS u 18 s22) fun o24 =>
  bd (
    if (oS o24 18) = (0 : Int32) then
      some (1 : Int32)
    else
      some (0 : Int32)) fun (s26 : Int32) =>
  nm (pS o24 17 ((oS o24 17) + s26)) fun o27 =>
  nm (pS o27 19 ((oS o27 19) + (1 : Int32))) fun o28 =>
  some o28) = some (if chI m f e = 59 then tlS u 0 1 else tlS u 1 0) := by
  have c : oS u 18 = 0 := h.2.2
  rw [jn_e, if_pos c, here_ok X h.1 h.2.1 he, bd_e]
  by_cases z : chI m f e = 59
  · have c2 : oS (pS u 18 0) 18 = 0 := rfl
    rw [if_pos z, if_pos z, bd_e, show isZ 0 = true from rfl, gd_t, nm_q, if_pos c2, bd_e, nm_q, nm_q]
    rfl
  · have c2 : ¬ oS (pS u 18 1) 18 = 0 := (show ¬ (1 : Int32) = 0 by decide)
    rw [if_neg z, if_neg z, bd_e, show isZ 1 = true from rfl, gd_t, nm_q, if_neg c2, bd_e, nm_q, nm_q]
    rfl
theorem vis_tl {u : Ob} {v w : Int32} : visM u (tlS u v w) := ((visM_S (o := u) (k := 18) (v := v) (by decide)).tr (visM_S (by decide))).tr (visM_S (by decide))
theorem tl_17 {u : Ob} {v w : Int32} : oS (tlS u v w) 17 = oS u 17 + w := rfl
theorem tl_18 {u : Ob} {v w : Int32} : oS (tlS u v w) 18 = v := rfl
theorem tl_A {u : Ob} {v w : Int32} {j : Nat} : oA (tlS u v w) j = oA u j := rfl
theorem numR.vis {s u : Ob} {i : Nat} (h : numR s u i) : visM s u := ⟨h.1 3 (by decide) (by decide), h.1 8 (by decide) (by decide), h.1 25 (by decide) (by decide), fun j a b => h.2.1 j (by omega), h.2.1 18 (by decide), by show u.2.2 13 = _; rw [h.2.2.2]; rfl⟩
theorem rs_ok {d m q k : Nat} {f : Nat → Int32} {s : Ob} (X : TX d m f s) (h : PS d q false s) (hk : oS s 19 = nI k) (hq : q < 700) (hk5 : k < 51) :
    (∀ e, sfR m f q = some e → ∃ u, M_readStatement s = some u ∧ oS u 17 = nI e ∧ oS u 18 = 1 ∧ visM s u) ∧
    (sfR m f q = none → ∃ u, M_readStatement s = some u ∧ PS d (q + 2 + dgN (chI m f q)) false u ∧ oS u 19 = nI (k + 1) ∧ visM s u ∧ (∀ j, j < k → oA u 14 j = oA s 14 j ∧ oA u 15 j = oA s 15 j) ∧ (∀ j, j < 3 * k → oA u 16 j = oA s 16 j) ∧ oA u 14 k = nI q ∧ oA u 15 k = chI m f q ∧ toldOK f (chI m f q) (q + 1) u (3 * k)) := by
  have hh := here_ok X h.1 h.2.1 (show q < 1000 by omega)
  have i51 : inb (nI k) 51 = true := inb_nI hk5 (by decide)
  have e3 : (3 : Int32) * nI k = nI (3 * k) := by rw [lit32, pk_mul]
  unfold M_readStatement sfR
  rw [nm_q, hh, bd_e, hk, i51, gd_t, nm_q, gd_t, nm_q, h.2.1]
  have v1 : visM s (pA (pA s 14 (nI k) (nI q)) 15 (nI k) (chI m f q)) := (visM_A (by decide)).tr (visM_A (by decide))
  have a14 : ∀ j, oA (pA (pA s 14 (nI k) (nI q)) 15 (nI k) (chI m f q)) 14 j = if j = k then nI q else oA s 14 j := fun j => by rw [pA_ne (by decide), pA_at (by omega)]
  have a15 : ∀ j, oA (pA (pA s 14 (nI k) (nI q)) 15 (nI k) (chI m f q)) 15 j = if j = k then chI m f q else oA s 15 j := fun j => by rw [pA_at (by omega), pA_ne (by decide)]
  have a16 : oA (pA (pA s 14 (nI k) (nI q)) 15 (nI k) (chI m f q)) 16 = oA s 16 := by rw [pA_ne (by decide), pA_ne (by decide)]
  have P1 : PS d q false (pA (pA s 14 (nI k) (nI q)) 15 (nI k) (chI m f q)) := h
  have k1 : oS (pA (pA s 14 (nI k) (nI q)) 15 (nI k) (chI m f q)) 19 = nI k := hk
  have X1 : TX d m f (pA (pA s 14 (nI k) (nI q)) 15 (nI k) (chI m f q)) := ⟨X.1, X.2.1, by rw [pA_ne (by decide), pA_ne (by decide)]; exact X.2.2.1, X.2.2.2⟩
  generalize pA (pA s 14 (nI k) (nI q)) 15 (nI k) (chI m f q) = S at v1 a14 a15 a16 P1 k1 X1
  rw [jn_e, if_pos (show oS S 18 = 0 from P1.2.2), M_isL, bd_e]
  cases hc : isL (chI m f q) with
  | false =>
    have c2 : ¬ oS (pS S 18 1) 18 = 0 := (show ¬ (1 : Int32) = 0 by decide)
    have c3 : ¬ oS (pS (pS S 18 1) 17 (oS (pS S 18 1) 17 + 0)) 18 = 0 := (show ¬ (1 : Int32) = 0 by decide)
    rw [b0, bd_e, show isZ 1 = true from rfl, gd_t, nm_q, if_neg c2, bd_e, nm_q, if_neg c3, bd_e, tail1 rfl, if_neg Bool.false_ne_true]
    refine ⟨fun e he => ?_, fun z => by cases z⟩
    cases he
    refine ⟨_, rfl, ?_, rfl, (v1.tr ((visM_S (by decide)).tr (visM_S (by decide)))).tr vis_tl⟩
    show oS S 17 + 0 + 0 = nI q
    rw [P1.2.1, Int32.add_zero, Int32.add_zero]
  | true =>
    have c2 : oS (pS S 18 0) 18 = 0 := rfl
    have c3 : oS (pS (pS S 18 0) 17 (oS (pS S 18 0) 17 + 1)) 18 = 0 := rfl
    rw [b1, bd_e, show isZ 0 = true from rfl, gd_t, nm_q, if_pos c2, bd_e, nm_q, if_pos c3, e3, if_pos rfl]
    have P2 : PS d (q + 1) false (pS (pS S 18 0) 17 (oS (pS S 18 0) 17 + 1)) := ⟨P1.1, by show oS S 17 + 1 = _; rw [P1.2.1, nI_1], rfl⟩
    have X2 : TX d m f (pS (pS S 18 0) 17 (oS (pS S 18 0) 17 + 1)) := X1
    have v2 : visM s (pS (pS S 18 0) 17 (oS (pS S 18 0) 17 + 1)) := v1.tr ((visM_S (by decide)).tr (visM_S (by decide)))
    have k2 : oS (pS (pS S 18 0) 17 (oS (pS S 18 0) 17 + 1)) 19 = nI k := k1
    have A : ∀ j, oA (pS (pS S 18 0) 17 (oS (pS S 18 0) 17 + 1)) j = oA S j := fun _ => rfl
    generalize pS (pS S 18 0) 17 (oS (pS S 18 0) 17 + 1) = S2 at P2 X2 v2 k2 A
    obtain ⟨u, u1, u2, u3, u4⟩ := rn_ok (i := 3 * k) X2 P2 (by omega) (by omega) hc
    have Xu : TX d m f u := ⟨X2.1, X2.2.1, by rw [u3.2.1 12 (by decide)]; exact X2.2.2.1, fun i hi => by show u.2.2 13 _ = _; rw [u3.2.2.2]; exact X2.2.2.2 i hi⟩
    have hd6 : dgN (chI m f q) ≤ 6 := by unfold dgN; split <;> (try split) <;> (try split) <;> omega
    have he7 : (adv m f (q + 1, false) (dgN (chI m f q))).1 ≤ q + 7 := by
      have := gdn_le (m := m) (f := f) (q := q + 1) (dgN (chI m f q))
      show q + 1 + gdn m f (q + 1) (dgN (chI m f q)) ≤ q + 7
      omega
    rw [u1, bd_e, bd_e]
    cases hb : (adv m f (q + 1, false) (dgN (chI m f q))).2 with
    | true =>
      rw [hb] at u2
      rw [tail1 u2.2.2, if_pos (Or.inl rfl)]
      refine ⟨fun e he => ?_, fun z => by cases z⟩
      cases he
      refine ⟨_, rfl, ?_, rfl, (v2.tr u3.vis).tr vis_tl⟩
      rw [tl_17, u2.2.1, Int32.add_zero]
    | false =>
      rw [hb] at u2
      rw [tail2 Xu u2 (by omega)]
      by_cases z : chI m f (adv m f (q + 1, false) (dgN (chI m f q))).1 = 59
      · rw [if_pos z, if_neg (fun w => w.elim (fun x => Bool.false_ne_true x) (fun x => x z))]
        refine ⟨fun e he => (by cases he), fun _ => ?_⟩
        obtain ⟨-, w2, -⟩ := adv_f hb
        have w3 := u4 hb
        refine ⟨_, rfl, ⟨(u3.1 16 (by decide) (by decide)).trans P2.1, ?_, rfl⟩, ?_, (v2.tr u3.vis).tr vis_tl, fun j hj => ?_, fun j hj => ?_, ?_, ?_, w3⟩
        · rw [tl_17, u2.2.1, w2, nI_1]
          show nI (q + 1 + dgN (chI m f q) + 1) = _
          congr 1; omega
        · show oS u 19 + 1 = _
          rw [u3.1 19 (by decide) (by decide), k2, nI_1]
        · rw [tl_A, tl_A, u3.2.1 14 (by decide), u3.2.1 15 (by decide), A, A, a14, a15, if_neg (by omega), if_neg (by omega)]
          exact ⟨rfl, rfl⟩
        · rw [tl_A, u3.2.2.1 j hj, A, a16]
        · rw [tl_A, u3.2.1 14 (by decide), A, a14, if_pos rfl]
        · rw [tl_A, u3.2.1 15 (by decide), A, a15, if_pos rfl]
      · rw [if_neg z, if_pos (Or.inr z)]
        refine ⟨fun e he => ?_, fun z => by cases z⟩
        cases he
        refine ⟨_, rfl, ?_, rfl, (v2.tr u3.vis).tr vis_tl⟩
        rw [tl_17, u2.2.1, Int32.add_zero]

/-! the class: its world (the object, eight kinds, ten towns, eight shelves, three arrays), and its rows -/
abbrev CS : Type := Nat → Ob
def okT (a : Nat) : Prop := 1 ≤ a ∧ a ≤ 10
def okS (b : Nat) : Prop := 11 ≤ b ∧ b ≤ 18
/-- the class of a kind, by its place among the worlds' classes -/
def kci (k : Nat) : Nat := [3, 4, 2, 6, 1, 5, 0, 8].getD k 0
def tlen (j : Nat) : Nat := [0, 5, 5, 5, 7, 7, 7, 35].getD j 0
def clen (j : Nat) : Nat := [0, 768, 35, 8].getD j 0
/-- whose cell it is -/
def dm (q : Nat) : Nat := if q < 10 then 0 else if q < 90 then (q - 2) / 8 else if q < 92 then 0 else if q < 108 then (q - 70) / 2 else 0
def tcell (cy : Nat → ClassId) (ad : Nat → Nat) (t : Ob) (a j : Nat) : va_E := if j = 0 then .inr (9, [.ref (ad 1), .int (oS t 1), .int (oS t 2), .ref (ad (8 * a + 3)), .ref (ad (8 * a + 4)), .ref (ad (8 * a + 5)), .ref (ad (8 * a + 6)), .ref (ad (8 * a + 7)), .ref (ad (8 * a + 8)), .ref (ad (8 * a + 9))]) else .inl (cy 0, tlen j, .inl (oA t j))
def scell (cy : Nat → ClassId) (ad : Nat → Nat) (s : Ob) (b j : Nat) : va_E := if j = 0 then .inr (7, [.int (oS s 0), .int (oS s 1), .int (oS s 2), .int (oS s 3), .int (oS s 4), .ref (ad (2 * b + 71))]) else .inl (cy 0, 100, .inl (oA s 1))
def cellD (cy : Nat → ClassId) (ad : Nat → Nat) (o : Ob) (q : Nat) : va_E :=
  if q = 0 then .inr (10, [.ref (ad 10), .ref (ad 18), .int (oS o 2), .ref (ad 90), .ref (ad 26), .ref (ad 91), .ref (ad 108), .ref (ad 109), .ref (ad 110)])
  else if q = 1 then .inl (cy 2, 8, .inr (.inr (.inr (.inr (fun k => some (ad (2 + k)))))))
  else if q < 10 then .inr (kci (q - 2), [])
  else if q < 90 then tcell cy ad o ((q - 2) / 8) ((q - 2) % 8)
  else if q = 90 then .inl (cy 4, 8, .inr (.inr (.inr (.inr (fun k => some (ad (8 * (3 + k) + 2)))))))
  else if q = 91 then .inl (cy 3, 8, .inr (.inr (.inr (.inr (fun k => some (ad (2 * (11 + k) + 70)))))))
  else if q < 108 then scell cy ad o ((q - 70) / 2) ((q - 70) % 2)
  else .inl (cy 0, clen (q - 107), .inl (oA o (q - 107)))
def cellC (cy : Nat → ClassId) (ad : Nat → Nat) (w : CS) (q : Nat) : va_E := cellD cy ad (w (dm q)) q
def ΓC (ad : Nat → Nat) (cy : Nat → ClassId) : Wl CS := (111, cellC cy ad, ad, cy)
theorem dm_t {a j : Nat} (ha : okT a) (hj : j < 8) : dm (8 * a + 2 + j) = a := by
  unfold okT at ha; unfold dm
  rw [if_neg (by omega), if_pos (by omega)]; omega
theorem dm_s {b j : Nat} (hb : okS b) (hj : j < 2) : dm (2 * b + 70 + j) = b := by
  unfold okS at hb; unfold dm
  rw [if_neg (by omega), if_neg (by omega), if_neg (by omega), if_pos (by omega)]; omega
theorem cD_t {cy : Nat → ClassId} {ad : Nat → Nat} {t : Ob} {a j : Nat} (ha : okT a) (hj : j < 8) : cellD cy ad t (8 * a + 2 + j) = tcell cy ad t a j := by
  unfold okT at ha; unfold cellD
  rw [if_neg (by omega), if_neg (by omega), if_neg (by omega), if_pos (by omega)]
  have e1 : (8 * a + 2 + j - 2) / 8 = a := by omega
  have e2 : (8 * a + 2 + j - 2) % 8 = j := by omega
  rw [e1, e2]
theorem cD_s {cy : Nat → ClassId} {ad : Nat → Nat} {t : Ob} {b j : Nat} (hb : okS b) (hj : j < 2) : cellD cy ad t (2 * b + 70 + j) = scell cy ad t b j := by
  unfold okS at hb; unfold cellD
  rw [if_neg (by omega), if_neg (by omega), if_neg (by omega), if_neg (by omega), if_neg (by omega), if_neg (by omega), if_pos (by omega)]
  have e1 : (2 * b + 70 + j - 70) / 2 = b := by omega
  have e2 : (2 * b + 70 + j - 70) % 2 = j := by omega
  rw [e1, e2]
theorem cC_t {cy : Nat → ClassId} {ad : Nat → Nat} {w : CS} {t : Ob} {a j : Nat} (ha : okT a) (ht : w a = t) (hj : j < 8) : cellC cy ad w (8 * a + 2 + j) = tcell cy ad t a j := by
  unfold cellC; rw [dm_t ha hj, ht, cD_t ha hj]
theorem cC_s {cy : Nat → ClassId} {ad : Nat → Nat} {w : CS} {t : Ob} {b j : Nat} (hb : okS b) (ht : w b = t) (hj : j < 2) : cellC cy ad w (2 * b + 70 + j) = scell cy ad t b j := by
  unfold cellC; rw [dm_s hb hj, ht, cD_s hb hj]
theorem vu_at {σ : CS} {a : Nat} {t : Ob} : (va_up σ a t) a = t := by simp [va_up]
theorem vu_ne {σ : CS} {a b : Nat} {t : Ob} (h : b ≠ a) : (va_up σ a t) b = σ b := va_up_ne _ _ h
theorem vu_vu {σ : CS} {a : Nat} {t u : Ob} : va_up (va_up σ a t) a u = va_up σ a u := bx_uu _ _ _ _
theorem vu_self {σ : CS} {a : Nat} : va_up σ a (σ a) = σ := by
  funext b; by_cases h : b = a
  · subst h; exact vu_at
  · exact vu_ne h
/-- one town is another: only its cells may differ, and of these only the one at place j -/
theorem cC_tset {cy : Nat → ClassId} {ad : Nat → Nat} {w w' : CS} {t t' : Ob} {a j : Nat} (ha : okT a) (ht : w a = t) (ht' : w' a = t') (ho : ∀ b, b ≠ a → w' b = w b) (hc : ∀ i, i < 8 → i ≠ j → tcell cy ad t' a i = tcell cy ad t a i) : ∀ q, q < 111 → q ≠ 8 * a + 2 + j → cellC cy ad w' q = cellC cy ad w q := by
  intro q hq hne
  by_cases hd : dm q = a
  · have hr : ∃ i, i < 8 ∧ q = 8 * a + 2 + i := by
      unfold okT at ha; unfold dm at hd
      refine ⟨q - (8 * a + 2), ?_⟩
      split at hd
      · omega
      · split at hd
        · omega
        · split at hd
          · omega
          · split at hd <;> omega
    obtain ⟨i, hi, rfl⟩ := hr
    rw [cC_t ha ht hi, cC_t ha ht' hi]
    exact hc i hi (fun e => hne (by rw [e]))
  · unfold cellC; rw [ho _ hd]
theorem cC_sset {cy : Nat → ClassId} {ad : Nat → Nat} {w w' : CS} {t t' : Ob} {b j : Nat} (hb : okS b) (ht : w b = t) (ht' : w' b = t') (ho : ∀ c, c ≠ b → w' c = w c) (hc : ∀ i, i < 2 → i ≠ j → scell cy ad t' b i = scell cy ad t b i) : ∀ q, q < 111 → q ≠ 2 * b + 70 + j → cellC cy ad w' q = cellC cy ad w q := by
  intro q hq hne
  by_cases hd : dm q = b
  · have hr : ∃ i, i < 2 ∧ q = 2 * b + 70 + i := by
      unfold okS at hb; unfold dm at hd
      refine ⟨q - (2 * b + 70), ?_⟩
      split at hd
      · omega
      · split at hd
        · omega
        · split at hd
          · omega
          · split at hd <;> omega
    obtain ⟨i, hi, rfl⟩ := hr
    rw [cC_s hb ht hi, cC_s hb ht' hi]
    exact hc i hi (fun e => hne (by rw [e]))
  · unfold cellC; rw [ho _ hd]
theorem tc_A {cy : Nat → ClassId} {ad : Nat → Nat} {t : Ob} {a j i : Nat} {f : Nat → Int32} (hi : i ≠ j) : tcell cy ad (pR t j f) a i = tcell cy ad t a i := by
  unfold tcell
  by_cases h0 : i = 0
  · subst h0; rfl
  · rw [if_neg h0, if_neg h0]
    show Sum.inl (cy 0, tlen i, Sum.inl (va_up _ j _ i)) = _
    rw [va_up_ne _ _ hi]; rfl
theorem sc_A {cy : Nat → ClassId} {ad : Nat → Nat} {t : Ob} {a i : Nat} {f : Nat → Int32} (hi : i < 2) (h1 : i ≠ 1) : scell cy ad (pR t 1 f) a i = scell cy ad t a i := by
  have h0 : i = 0 := by omega
  subst h0; rfl
theorem pA_pR {o : Ob} {k : Nat} {i v : Int32} : pA o k i v = pR o k (upd (oA o k) i.toNatClampNeg v) := rfl
theorem oA_pR {o : Ob} {k : Nat} {f : Nat → Int32} : oA (pR o k f) k = f := by
  show va_up _ k _ k = _
  simp [va_up]
theorem cC_s1 {cy : Nat → ClassId} {ad : Nat → Nat} {w : CS} {t : Ob} {b : Nat} (hb : okS b) (ht : w b = t) : cellC cy ad w (2 * b + 70 + 1) = .inl (cy 0, 100, .inl (oA t 1)) := cC_s (j := 1) hb ht (by decide)
theorem hT {a j : Nat} (ha : okT a) (hj : j < 8) : 8 * a + 2 + j < 111 := by unfold okT at ha; omega
theorem hS {b j : Nat} (hb : okS b) (hj : j < 2) : 2 * b + 70 + j < 111 := by unfold okS at hb; omega
theorem tc_0 {cy : Nat → ClassId} {ad : Nat → Nat} {t : Ob} {a j n : Nat} (hj : j ≠ 0) (hn : tlen j = n) : tcell cy ad t a j = .inl (cy 0, n, .inl (oA t j)) := by
  subst hn; unfold tcell; rw [if_neg hj]
theorem okT_m {i : Int32} (h : inb i 8 = true) : okT (3 + i.toNatClampNeg) := by
  simp only [inb, Bool.not_eq_true', Bool.or_eq_false_iff, decide_eq_false_iff_not] at h
  unfold okT; omega
theorem okS_m {i : Int32} (h : inb i 8 = true) : okS (11 + i.toNatClampNeg) := by
  simp only [inb, Bool.not_eq_true', Bool.or_eq_false_iff, decide_eq_false_iff_not] at h
  unfold okS; omega
theorem inb_lt {i : Int32} {n : Nat} (h : inb i n = true) : i.toNatClampNeg < n := by
  simp only [inb, Bool.not_eq_true', Bool.or_eq_false_iff, decide_eq_false_iff_not] at h
  omega
section
variable {E : Ec} {ad : Nat → Nat} {cy : Nat → ClassId} {own : String} {cc : ByteArray} {nL : Nat} {rt : Option FieldType} {r : Option Value × CS} {pc : Nat} {lv : List (Nat × Value)} {st : List Value} {w : CS}
/-! arrays: e is j + 2 -/
theorem aT_ld {a j e n : Nat} {t : Ob} {i : Int32} (hd : decode cc pc = .ok (.iaload, 1)) (ha : okT a) (ht : w a = t) (he : e = j + 2 ∧ j < 8 ∧ j ≠ 0) (hn : tlen j = n) (hb : inb i n = true) (k : Jw E (ΓC ad cy) own cc nL rt r (pc + 1) lv (.int (ix (oA t j) i) :: st) w) : Jw E (ΓC ad cy) own cc nL rt r pc lv (.int i :: .ref (ad (8 * a + e)) :: st) w := by
  have e1 : 8 * a + e = 8 * a + 2 + j := by omega
  rw [e1]
  exact J_iald (Γ := ΓC ad cy) (h := 8 * a + 2 + j) hd hb (hT ha he.2.1) ((cC_t ha ht he.2.1).trans (tc_0 he.2.2 hn)) k
theorem aT_st {a j e n : Nat} {t : Ob} {i x : Int32} {w' : CS} (hd : decode cc pc = .ok (.iastore, 1)) (ha : okT a) (ht : w a = t) (ht' : w' a = pA t j i x) (ho : ∀ b, b ≠ a → w' b = w b) (he : e = j + 2 ∧ j < 8 ∧ j ≠ 0) (hn : tlen j = n) (hb : inb i n = true) (k : Jw E (ΓC ad cy) own cc nL rt r (pc + 1) lv st w') : Jw E (ΓC ad cy) own cc nL rt r pc lv (.int x :: .int i :: .ref (ad (8 * a + e)) :: st) w := by
  have e1 : 8 * a + e = 8 * a + 2 + j := by omega
  rw [e1]
  exact J_iast (Γ := ΓC ad cy) (h := 8 * a + 2 + j) hd hb (hT ha he.2.1) ((cC_t ha ht he.2.1).trans (tc_0 he.2.2 hn)) ((cC_t ha ht' he.2.1).trans ((tc_0 he.2.2 hn).trans (by rw [oA_pA]; rfl))) (cC_tset ha ht ht' ho (fun i _ h9 => by rw [pA_pR]; exact tc_A h9)) k
theorem aS_ld {b : Nat} {t : Ob} {i : Int32} (hd : decode cc pc = .ok (.iaload, 1)) (hb : okS b) (ht : w b = t) (hi : inb i 100 = true) (k : Jw E (ΓC ad cy) own cc nL rt r (pc + 1) lv (.int (ix (oA t 1) i) :: st) w) : Jw E (ΓC ad cy) own cc nL rt r pc lv (.int i :: .ref (ad (2 * b + 71)) :: st) w :=
  J_iald (Γ := ΓC ad cy) (h := 2 * b + 70 + 1) hd hi (hS (j := 1) hb (by decide)) (cC_s1 hb ht) k
theorem aS_st {b : Nat} {t : Ob} {i x : Int32} {w' : CS} (hd : decode cc pc = .ok (.iastore, 1)) (hb : okS b) (ht : w b = t) (ht' : w' b = pA t 1 i x) (ho : ∀ c, c ≠ b → w' c = w c) (hi : inb i 100 = true) (k : Jw E (ΓC ad cy) own cc nL rt r (pc + 1) lv st w') : Jw E (ΓC ad cy) own cc nL rt r pc lv (.int x :: .int i :: .ref (ad (2 * b + 71)) :: st) w :=
  J_iast (Γ := ΓC ad cy) (h := 2 * b + 70 + 1) hd hi (hS (j := 1) hb (by decide)) (cC_s1 hb ht) ((cC_s1 hb ht').trans (by rw [oA_pA]; rfl)) (cC_sset hb ht ht' ho (fun i h8 h9 => by rw [pA_pR]; exact sc_A h8 h9)) k
theorem cC_m {j n : Nat} (hj : 1 ≤ j ∧ j ≤ 3) (hn : clen j = n) : cellC cy ad w (107 + j) = .inl (cy 0, n, .inl (oA (w 0) j)) := by
  subst hn
  have e0 : dm (107 + j) = 0 := by unfold dm; rw [if_neg (by omega), if_neg (by omega), if_neg (by omega), if_neg (by omega)]
  have e1 : 107 + j - 107 = j := by omega
  unfold cellC; rw [e0]; unfold cellD
  rw [if_neg (by omega), if_neg (by omega), if_neg (by omega), if_neg (by omega), if_neg (by omega), if_neg (by omega), if_neg (by omega), e1]
theorem cC_mset {w' : CS} {j : Nat} {f : Nat → Int32} (hj : 1 ≤ j ∧ j ≤ 3) (hw : w' 0 = pR (w 0) j f) (ho : ∀ b, b ≠ 0 → w' b = w b) : ∀ q, q < 111 → q ≠ 107 + j → cellC cy ad w' q = cellC cy ad w q := by
  intro q hq hne
  by_cases hd : dm q = 0
  · unfold cellC; rw [hd, hw]
    by_cases h8 : 108 ≤ q
    · unfold cellD
      rw [if_neg (by omega), if_neg (by omega), if_neg (by omega), if_neg (by omega), if_neg (by omega), if_neg (by omega), if_neg (by omega), if_neg (by omega), if_neg (by omega), if_neg (by omega), if_neg (by omega), if_neg (by omega), if_neg (by omega), if_neg (by omega)]
      show Sum.inl (cy 0, clen (q - 107), Sum.inl (va_up _ j _ (q - 107))) = _
      rw [va_up_ne _ _ (by omega)]; rfl
    · have hc : q < 10 ∨ q = 90 ∨ q = 91 := by
        unfold dm at hd
        split at hd
        · omega
        · split at hd
          · omega
          · split at hd
            · omega
            · split at hd <;> omega
      unfold cellD
      rcases hc with h | h | h
      · by_cases h0 : q = 0
        · rw [if_pos h0, if_pos h0]; rfl
        · rw [if_neg h0, if_neg h0]
          by_cases h1 : q = 1
          · rw [if_pos h1, if_pos h1]
          · rw [if_neg h1, if_neg h1, if_pos h, if_pos h]
      · subst h; rfl
      · subst h; rfl
  · unfold cellC; rw [ho _ hd]
theorem aC_ld {j e n : Nat} {i : Int32} (hd : decode cc pc = .ok (.iaload, 1)) (he : e = 107 + j) (hj : 1 ≤ j ∧ j ≤ 3) (hn : clen j = n) (hb : inb i n = true) (k : Jw E (ΓC ad cy) own cc nL rt r (pc + 1) lv (.int (ix (oA (w 0) j) i) :: st) w) : Jw E (ΓC ad cy) own cc nL rt r pc lv (.int i :: .ref (ad e) :: st) w := by
  subst he
  exact J_iald (Γ := ΓC ad cy) (h := 107 + j) hd hb (by show 107 + j < 111; omega) (cC_m hj hn) k
theorem aC_st {j e n : Nat} {i x : Int32} (hd : decode cc pc = .ok (.iastore, 1)) (he : e = 107 + j) (hj : 1 ≤ j ∧ j ≤ 3) (hn : clen j = n) (hb : inb i n = true) (k : Jw E (ΓC ad cy) own cc nL rt r (pc + 1) lv st (va_up w 0 (pA (w 0) j i x))) : Jw E (ΓC ad cy) own cc nL rt r pc lv (.int x :: .int i :: .ref (ad e) :: st) w := by
  subst he
  exact J_iast (Γ := ΓC ad cy) (h := 107 + j) hd hb (by show 107 + j < 111; omega) (cC_m hj hn) ((cC_m hj hn).trans (by rw [vu_at, oA_pA]; rfl)) (cC_mset hj (by rw [vu_at, pA_pR]) (fun b h9 => vu_ne h9)) k
/-- the kinds' row -/
theorem aK_ld {i : Int32} (hd : decode cc pc = .ok (.aaload, 1)) (hb : inb i 8 = true) (k : Jw E (ΓC ad cy) own cc nL rt r (pc + 1) lv (.ref (ad (2 + i.toNatClampNeg)) :: st) w) : Jw E (ΓC ad cy) own cc nL rt r pc lv (.int i :: .ref (ad 1) :: st) w :=
  J_aald (Γ := ΓC ad cy) (h := 1) (t := 2) (C := RX3) hd hb (by show 1 < 111; decide) rfl rfl rfl k
theorem aM_mind {i : Int32} (hd : decode cc pc = .ok (.aaload, 1)) (hb : inb i 8 = true) (k : Jw E (ΓC ad cy) own cc nL rt r (pc + 1) lv (.ref (ad (8 * (3 + i.toNatClampNeg) + 2)) :: st) w) : Jw E (ΓC ad cy) own cc nL rt r pc lv (.int i :: .ref (ad 90) :: st) w :=
  J_aald (Γ := ΓC ad cy) (h := 90) (t := 4) (C := RX10) hd hb (by show 90 < 111; decide) rfl rfl rfl k
theorem aM_shelf {i : Int32} (hd : decode cc pc = .ok (.aaload, 1)) (hb : inb i 8 = true) (k : Jw E (ΓC ad cy) own cc nL rt r (pc + 1) lv (.ref (ad (2 * (11 + i.toNatClampNeg) + 70)) :: st) w) : Jw E (ΓC ad cy) own cc nL rt r pc lv (.int i :: .ref (ad 91) :: st) w :=
  J_aald (Γ := ΓC ad cy) (h := 91) (t := 3) (C := RX7) hd hb (by show 91 < 111; decide) rfl rfl rfl k
end

/-! what the calls ask of their arguments -/
def rng (x : Int32) (lo hi : Int) : Bool := decide (lo ≤ x.toInt ∧ x.toInt ≤ hi)
theorem rng_nI {x : Int32} {hi : Nat} (h : rng x 0 hi = true) (hh : hi < 2 ^ 31) : ∃ k, k ≤ hi ∧ x = nI k := by
  have h1 := of_decide_eq_true h
  refine ⟨x.toInt.toNat, by omega, ?_⟩
  rw [fa_eq, nI_toInt (by omega)]
  omega
theorem rng_of {k hi : Nat} (h : k ≤ hi) (hh : hi < 2 ^ 31) : rng (nI k) 0 hi = true := by
  unfold rng
  rw [nI_toInt (by omega)]
  exact decide_eq_true ⟨by omega, by omega⟩
theorem bI_0 {b : Bool} : (bI b = 0) = (b = false) := by cases b <;> simp [bI]
theorem bI_isZ {b : Bool} : isZ (bI b) = true := by cases b <;> rfl
theorem C_within_ok' (x m : Int32) : C_within x m = some (bI (rng x 0 m.toInt)) := by
  have z : (0 : Int32).toInt = 0 := by decide
  unfold C_within rng
  by_cases h1 : x < 0
  · rw [if_pos h1, decide_eq_false (by rw [fa_lt] at h1; omega)]; rfl
  · rw [if_neg h1]
    by_cases h2 : m < x
    · rw [if_pos h2, decide_eq_false (by rw [fa_lt] at h2; omega)]; rfl
    · rw [if_neg h2, decide_eq_true (by rw [fa_lt] at h1 h2; omega)]; rfl
theorem C_isThing_ok' (x : Int32) : C_isThing x = some (bI (rng x 0 4)) := by
  have z : (0 : Int32).toInt = 0 := by decide
  have z5 : (5 : Int32).toInt = 5 := by decide
  unfold C_isThing rng
  by_cases h1 : x < 0
  · rw [if_pos h1, decide_eq_false (by rw [fa_lt] at h1; omega)]; rfl
  · rw [if_neg h1]
    by_cases h2 : (5 : Int32) ≤ x
    · rw [if_pos h2, decide_eq_false (by rw [fa_le] at h2; omega)]; rfl
    · rw [if_neg h2, decide_eq_true (by rw [fa_lt] at h1; rw [fa_le] at h2; omega)]; rfl
theorem C_isShelf_ok' (x : Int32) : C_isShelf x = some (bI (rng x 0 7)) := by
  have z : (0 : Int32).toInt = 0 := by decide
  have z5 : (8 : Int32).toInt = 8 := by decide
  unfold C_isShelf rng
  by_cases h1 : x < 0
  · rw [if_pos h1, decide_eq_false (by rw [fa_lt] at h1; omega)]; rfl
  · rw [if_neg h1]
    by_cases h2 : (8 : Int32) ≤ x
    · rw [if_pos h2, decide_eq_false (by rw [fa_le] at h2; omega)]; rfl
    · rw [if_neg h2, decide_eq_true (by rw [fa_lt] at h1; rw [fa_le] at h2; omega)]; rfl
theorem T_hasOne_ok' {n : Nat} {t : Ob} (hn : oS t 1 = nI n) (h7 : n ≤ 7) (x : Int32) : T_hasOne t x = some (bI (rng x 0 ((n : Int) - 1))) := by
  have z : (0 : Int32).toInt = 0 := by decide
  have zn : (nI n).toInt = n := nI_toInt (by omega)
  unfold T_hasOne rng
  rw [hn]
  by_cases h1 : x < 0
  · rw [if_pos h1, decide_eq_false (by rw [fa_lt] at h1; omega)]; rfl
  · rw [if_neg h1]
    by_cases h2 : nI n ≤ x
    · rw [if_pos h2, decide_eq_false (by rw [fa_le] at h2; omega)]; rfl
    · rw [if_neg h2, decide_eq_true (by rw [fa_lt] at h1; rw [fa_le] at h2; omega)]; rfl
theorem C_isCare_ok' (x : Int32) : C_isCare x = some (bI (rng x 0 4 || x == 9)) := by
  unfold C_isCare
  rw [C_isThing_ok', bd_e, jn_e]
  cases rng x 0 4
  · show (if x = 9 then some (1 : Int32) else some 0) = _
    by_cases h : x = 9
    · rw [if_pos h, h]; rfl
    · rw [if_neg h, beq_false_of_ne h]; rfl
  · rfl
theorem lc_lt {x y : Int64} : (lg_cmp x y < 0) = (x < y) := by
  unfold lg_cmp
  by_cases h1 : x > y
  · rw [if_pos h1]
    have h2 : ¬ x < y := by rw [Int64.lt_iff_toInt_lt]; have := Int64.lt_iff_toInt_lt.mp h1; omega
    simp [h2]
  · rw [if_neg h1]
    by_cases h2 : x = y
    · rw [if_pos h2, h2]; simp [Int64.lt_iff_toInt_lt]
    · rw [if_neg h2]
      have h3 : x < y := by
        rw [Int64.lt_iff_toInt_lt]
        have a : ¬ y.toInt < x.toInt := fun q => h1 (Int64.lt_iff_toInt_lt.mpr q)
        have b : ¬ x.toInt = y.toInt := fun q => h2 (Int64.toInt_inj.mp q)
        omega
      simp [h3]
theorem lc_gt {x y : Int64} : (0 < lg_cmp x y) = (y < x) := by
  unfold lg_cmp
  by_cases h1 : x > y
  · rw [if_pos h1]; simp [h1]
  · rw [if_neg h1]
    have h2 : ¬ y < x := h1
    by_cases h3 : x = y
    · rw [if_pos h3]; simp [h3, Int64.lt_iff_toInt_lt]
    · rw [if_neg h3]; simp [h2]
theorem M_in_ok' (o : Ob) (x lo hi : Int64) : M_in o x lo hi = some (bI (decide (lo.toInt ≤ x.toInt ∧ x.toInt ≤ hi.toInt))) := by
  unfold M_in
  simp only [lc_lt, lc_gt]
  by_cases h1 : x < lo
  · rw [if_pos h1, decide_eq_false (by rw [Int64.lt_iff_toInt_lt] at h1; omega)]; rfl
  · rw [if_neg h1]
    by_cases h2 : hi < x
    · rw [if_pos h2, decide_eq_false (by rw [Int64.lt_iff_toInt_lt] at h2; omega)]; rfl
    · rw [if_neg h2, decide_eq_true (by rw [Int64.lt_iff_toInt_lt] at h1 h2; omega)]; rfl
theorem M_inI (o : Ob) (x : Int32) (lo hi : Int64) : M_in o x.toInt64 lo hi = some (bI (rng x lo.toInt hi.toInt)) := by
  rw [M_in_ok', Int32.toInt_toInt64]; rfl
theorem M_isThing_ok' (o : Ob) (x : Int32) : M_isThing o x = some (bI (rng x 0 4)) := by
  unfold M_isThing
  rw [M_inI, bd_e, bI_isZ]; rfl
theorem M_isOne_ok' {n : Nat} {o : Ob} (hn : oS o 3 = nI n) (h7 : n ≤ 7) (x : Int32) : M_isOne o x = some (bI (rng x 0 ((n : Int) - 1))) := by
  unfold M_isOne
  rw [M_inI, bd_e, bI_isZ, hn]
  have e : ((nI n - 1).toInt64).toInt = (n : Int) - 1 := by
    rw [Int32.toInt_toInt64]
    exact pk_sub_toInt (b := 1) (by omega) (by decide)
  rw [e]; rfl
theorem M_isCare_ok' (o : Ob) (x : Int32) : M_isCare o x = some (bI (rng x 0 4 || x == 9)) := by
  unfold M_isCare
  rw [M_isThing_ok', bd_e, jn_e]
  cases rng x 0 4
  · show (if x = 9 then some (1 : Int32) else some 0) = _
    by_cases h : x = 9
    · rw [if_pos h, h]; rfl
    · rw [if_neg h, beq_false_of_ne h]; rfl
  · rfl
def noneI (p : Int32) : Int32 := if p = 9 then -4 else p
theorem C_none_ok' (p : Int32) : C_noneIfNobody p = some (noneI p) := by unfold C_noneIfNobody noneI; split <;> rfl
theorem M_none_ok' (o : Ob) (p : Int32) : M_orNone o p = some (noneI p) := by unfold M_orNone noneI; split <;> rfl
/-! the relation of the two worlds -/
def tok (n : Nat) (t : Ob) : Prop := wfA n t ∧ oS t 1 = nI n ∧ (∃ d, d ≤ 999 ∧ oS t 2 = nI d) ∧ (∀ i, n * 5 ≤ i → oA t 7 i = 0) ∧ zb t
def encC (t : Ob) (q : Nat) : Int32 := if q = 0 then oS t 1 else if q = 1 then oS t 2 else encM t q
/-- one shelf on both sides -/
def shR (s : Ob) (o : Ob) (d : Nat) : Prop := oS s 0 = oA o 8 d ∧ (∃ k, k < 3 ∧ oS s 0 = nI k) ∧ (oS s 0 = 1 → oS s 1 = oA o 9 d ∧ oS s 2 = oA o 10 d ∧ kd8 (oS s 1) ∧ ∃ f, f < 10 ∧ oS s 2 = nI f) ∧ oS s 3 = oA o 11 d ∧ (∃ k, k < 3 ∧ oS s 3 = nI k) ∧ oS s 4 = oA o 12 d ∧ (∃ m, m ≤ 100 ∧ oS s 4 = nI m) ∧ ∀ i, i < 100 → (oA s 1 i).toInt64 = oL o 13 (100 * d + i)
def Rel (n : Nat) (σ : CS) (o : Ob) : Prop := tok n (σ 1) ∧ oS o 3 = nI n ∧ oS (σ 1) 2 = oS o 8 ∧ AEq (σ 1) o ∧ (∀ a, 2 ≤ a → a ≤ 10 → zb (σ a)) ∧ oS (σ 0) 2 = oS o 25 ∧ (oS o 25 = 0 ∨ oS o 25 = 1) ∧ (oS o 25 = 1 → (∃ n', tok n' (σ 2)) ∧ ∀ q, q < 73 → oA o 18 q = encC (σ 2) q) ∧ ∀ d, d < 8 → shR (σ (11 + d)) o d
def RelE (σ : CS) (o : Ob) : Prop := ∃ n, Rel n σ o
/-- the reference's inner numbers and rows may be other -/
def visM (o u : Ob) : Prop := oS u 3 = oS o 3 ∧ oS u 8 = oS o 8 ∧ oS u 25 = oS o 25 ∧ (∀ j, 1 ≤ j → j ≤ 12 → oA u j = oA o j) ∧ oA u 18 = oA o 18 ∧ oL u 13 = oL o 13
theorem visM.rf {o : Ob} : visM o o := ⟨rfl, rfl, rfl, fun _ _ _ => rfl, rfl, rfl⟩
theorem visM.tr {o u v : Ob} (h : visM o u) (h' : visM u v) : visM o v := ⟨h'.1.trans h.1, h'.2.1.trans h.2.1, h'.2.2.1.trans h.2.2.1, fun j a b => (h'.2.2.2.1 j a b).trans (h.2.2.2.1 j a b), h'.2.2.2.2.1.trans h.2.2.2.2.1, h'.2.2.2.2.2.trans h.2.2.2.2.2⟩
theorem visM_S {o : Ob} {k : Nat} {v : Int32} (hk : k ≠ 3 ∧ k ≠ 8 ∧ k ≠ 25) : visM o (pS o k v) := ⟨by rw [oS_pS, if_neg (by omega)], by rw [oS_pS, if_neg (by omega)], by rw [oS_pS, if_neg (by omega)], fun _ _ _ => rfl, rfl, rfl⟩
theorem visM_A {o : Ob} {k : Nat} {i v : Int32} (hk : 13 ≤ k ∧ k ≠ 18) : visM o (pA o k i v) := ⟨rfl, rfl, rfl, fun j _ _ => by rw [oA_pAq, if_neg (by omega)], by rw [oA_pAq, if_neg (by omega)], rfl⟩
theorem visM_L {o : Ob} {k : Nat} {i : Int32} {v : Int64} (hk : k ≠ 13) : visM o (pL o k i v) := ⟨rfl, rfl, rfl, fun _ _ _ => rfl, rfl, va_up_ne _ _ (by omega)⟩
theorem shR.m {s o u : Ob} {d : Nat} (h : shR s o d) (v : visM o u) : shR s u d := by
  unfold shR at h ⊢
  rw [v.2.2.2.1 8 (by decide) (by decide), v.2.2.2.1 9 (by decide) (by decide), v.2.2.2.1 10 (by decide) (by decide), v.2.2.2.1 11 (by decide) (by decide), v.2.2.2.1 12 (by decide) (by decide), v.2.2.2.2.2]
  exact h
theorem Rel.m {n : Nat} {σ : CS} {o u : Ob} (h : Rel n σ o) (v : visM o u) : Rel n σ u := by
  obtain ⟨h1, h2, h3, h4, h5, h6, h7, h8, h9⟩ := h
  refine ⟨h1, v.1.trans h2, h3.trans v.2.1.symm, fun j a b => (h4 j a b).trans (v.2.2.2.1 j a (by omega)).symm, h5, h6.trans v.2.2.1.symm, by rw [v.2.2.1]; exact h7, fun e => ?_, fun d hd => (h9 d hd).m v⟩
  rw [v.2.2.2.2.1]; exact h8 (by rw [← v.2.2.1]; exact e)
/-- the class's inner towns and rows may be other -/
def visC (σ τ : CS) : Prop := τ 1 = σ 1 ∧ τ 2 = σ 2 ∧ oS (τ 0) 2 = oS (σ 0) 2 ∧ (∀ a, 3 ≤ a → a ≤ 10 → zb (σ a) → zb (τ a)) ∧ ∀ d, d < 8 → τ (11 + d) = σ (11 + d)
theorem visC.rf {σ : CS} : visC σ σ := ⟨rfl, rfl, rfl, fun _ _ _ h => h, fun _ _ => rfl⟩
theorem visC.tr {σ τ υ : CS} (h : visC σ τ) (h' : visC τ υ) : visC σ υ := ⟨h'.1.trans h.1, h'.2.1.trans h.2.1, h'.2.2.1.trans h.2.2.1, fun a x y z => h'.2.2.2.1 a x y (h.2.2.2.1 a x y z), fun d hd => (h'.2.2.2.2 d hd).trans (h.2.2.2.2 d hd)⟩
theorem visC_mind {σ : CS} {a : Nat} {t : Ob} (ha : 3 ≤ a ∧ a ≤ 10) (hz : zb t) : visC σ (va_up σ a t) := ⟨vu_ne (by omega), vu_ne (by omega), by rw [vu_ne (by omega)], fun b h1 h2 h3 => by
  by_cases c : b = a
  · subst c; rw [vu_at]; exact hz
  · rw [vu_ne c]; exact h3, fun d _ => vu_ne (by omega)⟩
theorem Rel.c {n : Nat} {σ τ : CS} {o : Ob} (h : Rel n σ o) (v : visC σ τ) : Rel n τ o := by
  obtain ⟨h1, h2, h3, h4, h5, h6, h7, h8, h9⟩ := h
  refine ⟨by rw [v.1]; exact h1, h2, by rw [v.1]; exact h3, by rw [v.1]; exact h4, fun a x y => ?_, v.2.2.1.trans h6, h7, by rw [v.2.1]; exact h8, fun d hd => by rw [v.2.2.2.2 d hd]; exact h9 d hd⟩
  by_cases c : a = 2
  · subst c; rw [v.2.1]; exact h5 2 x y
  · exact v.2.2.2.1 a (by omega) y (h5 a x y)
/-- both answer alike, and stay related -/
def ok1 {α : Type} (c : Option α) (σ : CS) (m : Option (α × Ob)) : Prop := ∃ r o', c = some r ∧ m = some (r, o') ∧ RelE σ o'
def ok2 {α : Type} (c : Option (α × CS)) (m : Option (α × Ob)) : Prop := ∃ r σ' o', c = some (r, σ') ∧ m = some (r, o') ∧ RelE σ' o'
theorem Rel.n7 {n : Nat} {σ : CS} {o : Ob} (h : Rel n σ o) : n ≤ 7 := h.1.1.1
theorem Rel.wf {n : Nat} {σ : CS} {o : Ob} (h : Rel n σ o) : wfA n (σ 1) := h.1.1
theorem Rel.wfo {n : Nat} {σ : CS} {o : Ob} (h : Rel n σ o) : wfA n o := h.2.2.2.1.wf h.1.1
theorem Rel.t0 {n : Nat} {σ : CS} {o : Ob} (h : Rel n σ o) : Rel n σ (pS o 15 0) := h.m (visM_S (by decide))

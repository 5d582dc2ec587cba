/-! numbers as they are used: nI k -/
theorem lit32 (n : Nat) : (OfNat.ofNat n : Int32) = nI n := rfl
theorem inb_nI {i n : Nat} (h : i < n) (hn : n < 2 ^ 31) : inb (nI i) n = true := by
  have h1 := nI_pos (show i < 2 ^ 31 by omega)
  have h2 := nI_clamp (show i < 2 ^ 31 by omega)
  simp only [inb, h1, h2, decide_false, Bool.false_or, Bool.not_eq_true', decide_eq_false_iff_not]
  omega
theorem ix_nI {i : Nat} {f : Nat → Int32} (h : i < 2 ^ 31) : ix f (nI i) = f i := by rw [ix, nI_clamp h]
theorem ixL_nI {i : Nat} {f : Nat → Int64} (h : i < 2 ^ 31) : ixL f (nI i) = f i := by rw [ixL, nI_clamp h]
theorem nI_le' {a b : Nat} (ha : a < 2 ^ 31) (hb : b < 2 ^ 31) : (nI a ≤ nI b) = (a ≤ b) := propext (nI_leI ha hb)
theorem nI_lt' {a b : Nat} (ha : a < 2 ^ 31) (hb : b < 2 ^ 31) : (nI a < nI b) = (a < b) := propext (nI_ltI ha hb)
theorem nI_eq' {a b : Nat} (ha : a < 2 ^ 31) (hb : b < 2 ^ 31) : (nI a = nI b) = (a = b) := propext (nI_eq ha hb)
theorem oS_pS {o : Ob} {k j : Nat} {v : Int32} : oS (pS o k v) j = if j = k then v else oS o j := rfl
theorem oS_pA {o : Ob} {k j : Nat} {i v : Int32} : oS (pA o k i v) j = oS o j := rfl
theorem oS_pR {o : Ob} {k j : Nat} {f : Nat → Int32} : oS (pR o k f) j = oS o j := rfl
theorem oA_pS {o : Ob} {k j : Nat} {v : Int32} : oA (pS o k v) j = oA o j := rfl
theorem oA_pAq {o : Ob} {k j : Nat} {i v : Int32} : oA (pA o k i v) j = if j = k then upd (oA o k) i.toNatClampNeg v else oA o j := rfl
theorem oA_pRq {o : Ob} {k j : Nat} {f : Nat → Int32} : oA (pR o k f) j = if j = k then f else oA o j := rfl
theorem oL_pS {o : Ob} {k j : Nat} {v : Int32} : oL (pS o k v) j = oL o j := rfl
theorem oL_pA {o : Ob} {k j : Nat} {i v : Int32} : oL (pA o k i v) j = oL o j := rfl
/-- one step after the other, from 0 on -/
def foldN {S : Type} (step : Nat → S → S) (s : S) : Nat → S
  | 0 => s
  | n + 1 => step n (foldN step s n)
/-- a loop that counts up -/
theorem up_loop {S R : Type} (L : Nat → S → Nat → Option R) (e : Nat) (step : Nat → S → S) (inv : Nat → S → Prop) (exit : S → Option R)
    (hs : ∀ n i s, i < e → inv i s → L (n + 1) s i = L n (step i s) (i + 1) ∧ inv (i + 1) (step i s)) (hx : ∀ n s, inv e s → L (n + 1) s e = exit s) (s0 : S) (h0 : inv 0 s0) (N : Nat) (hN : e < N) :
    L N s0 0 = exit (foldN step s0 e) ∧ inv e (foldN step s0 e) := by
  have key : ∀ i, i ≤ e → L N s0 0 = L (N - i) (foldN step s0 i) i ∧ inv i (foldN step s0 i) := by
    intro i
    induction i with
    | zero => intro _; exact ⟨rfl, h0⟩
    | succ i ih =>
      intro hi
      obtain ⟨h1, h2⟩ := ih (by omega)
      obtain ⟨h3, h4⟩ := hs (N - (i + 1)) i _ (by omega) h2
      refine ⟨?_, h4⟩
      rw [h1, show N - i = N - (i + 1) + 1 by omega, h3]
      rfl
  obtain ⟨h1, h2⟩ := key e (Nat.le_refl e)
  refine ⟨?_, h2⟩
  rw [h1, show N - e = N - e - 1 + 1 by omega, hx _ _ h2]
theorem FU_gt {e : Nat} (h : e < 10000) : e < FU := h
theorem gd_t {α : Type} {k : Option α} : gd true k = k := rfl
theorem nm_q {α β : Type} {a : α} {k : α → Option β} : nm a k = k a := rfl
theorem jn_e {α β : Type} {a : α} {k : α → Option β} : jn a k = k a := rfl
theorem bd_e {α β : Type} {a : α} {k : α → Option β} : bd (some a) k = k a := rfl
theorem bd2_e {α α2 β : Type} {a : α} {b : α2} {k : α → α2 → Option β} : bd2 (some (a, b)) k = k a b := rfl
theorem bd3_e {α α2 α3 β : Type} {a : α} {b : α2} {c : α3} {k : α → α2 → α3 → Option β} : bd3 (some (a, b, c)) k = k a b c := rfl
theorem bd4_e {α α2 α3 α4 β : Type} {a : α} {b : α2} {c : α3} {d : α4} {k : α → α2 → α3 → α4 → Option β} : bd4 (some (a, b, c, d)) k = k a b c d := rfl
theorem bd_if {c : Prop} [Decidable c] {α β : Type} {x y : Option α} {k : α → Option β} : bd (if c then x else y) k = if c then bd x k else bd y k := by split <;> rfl
theorem bd2_if {c : Prop} [Decidable c] {α α2 β : Type} {x y : Option (α × α2)} {k : α → α2 → Option β} : bd2 (if c then x else y) k = if c then bd2 x k else bd2 y k := by split <;> rfl
theorem bd3_if {c : Prop} [Decidable c] {α α2 α3 β : Type} {x y : Option (α × α2 × α3)} {k : α → α2 → α3 → Option β} : bd3 (if c then x else y) k = if c then bd3 x k else bd3 y k := by split <;> rfl
theorem bd4_if {c : Prop} [Decidable c] {α α2 α3 α4 β : Type} {x y : Option (α × α2 × α3 × α4)} {k : α → α2 → α3 → α4 → Option β} : bd4 (if c then x else y) k = if c then bd4 x k else bd4 y k := by split <;> rfl
/-! what one owns, and its worth -/
def worthS (t : Ob) (p : Int32) : Int32 := foldN (fun i s => if oA t 3 i = p then s + oA t 2 i else s) 0 5
theorem T_wealth_ok' (t : Ob) (p : Int32) : T_wealth t p = some (worthS t p) := by
  refine (up_loop (fun n s i => T_wealth_L4 t p n s (nI i)) 5 (fun i s => if oA t 3 i = p then s + oA t 2 i else s) (fun _ _ => True) some (fun n i s hi _ => ⟨?_, trivial⟩) (fun n s _ => ?_) 0 trivial FU (FU_gt (by decide))).1
  · show T_wealth_L4 t p (n + 1) s (nI i) = T_wealth_L4 t p n _ (nI (i + 1))
    rw [T_wealth_L4]
    simp (disch := omega) only [lit32, inb_nI, ix_nI, nI_le', nI_lt', nI_eq', nI_add, pk_mul, gd_t, nm_q, jn_e, bd_e, bd2_e, bd3_e, bd4_e, bd_if, bd2_if, bd3_if, bd4_if]
    rw [if_neg (by omega)]
    by_cases h : oA t 3 i = p <;> simp only [h, if_true, if_false]
  · rfl
theorem M_worthOf_ok' (o : Ob) (p : Int32) : M_worthOf o p = some (worthS o p) := by
  refine (up_loop (fun n s i => M_worthOf_L4 o p n s (nI i)) 5 (fun i s => if oA o 3 i = p then s + oA o 2 i else s) (fun _ _ => True) some (fun n i s hi _ => ⟨?_, trivial⟩) (fun n s _ => ?_) 0 trivial FU (FU_gt (by decide))).1
  · show M_worthOf_L4 o p (n + 1) s (nI i) = M_worthOf_L4 o p n _ (nI (i + 1))
    rw [M_worthOf_L4]
    simp (disch := omega) only [lit32, inb_nI, ix_nI, nI_le', nI_lt', nI_eq', nI_add, pk_mul, gd_t, nm_q, jn_e, bd_e, bd2_e, bd3_e, bd4_e, bd_if, bd2_if, bd3_if, bd4_if]
    rw [if_neg (by omega)]
    by_cases h : oA o 3 i = p <;> simp only [h, if_true, if_false, nI_0, Int32.add_zero]
  · rfl
def ownS (t : Ob) (p : Int32) : Int32 := foldN (fun i s => if oA t 3 i = p then s ||| shl32 1 (nI i) else s) 0 5
theorem T_ownedBy_ok' (t : Ob) (p : Int32) : T_ownedBy t p = some (ownS t p) := by
  refine (up_loop (fun n s i => T_ownedBy_L4 t p n s (nI i)) 5 (fun i s => if oA t 3 i = p then s ||| shl32 1 (nI i) else s) (fun _ _ => True) some (fun n i s hi _ => ⟨?_, trivial⟩) (fun n s _ => ?_) 0 trivial FU (FU_gt (by decide))).1
  · show T_ownedBy_L4 t p (n + 1) s (nI i) = T_ownedBy_L4 t p n _ (nI (i + 1))
    rw [T_ownedBy_L4]
    simp (disch := omega) only [lit32, inb_nI, ix_nI, nI_le', nI_lt', nI_eq', nI_add, pk_mul, gd_t, nm_q, jn_e, bd_e, bd2_e, bd3_e, bd4_e, bd_if, bd2_if, bd3_if, bd4_if]
    rw [if_neg (by omega)]
    by_cases h : oA t 3 i = p <;> simp only [h, if_true, if_false]
  · rfl
theorem M_ownedBy_ok' (o : Ob) (p : Int32) : M_ownedBy o p = some (ownS o p) := by
  refine (up_loop (fun n s i => M_ownedBy_L4 o p n s (nI i)) 5 (fun i s => if oA o 3 i = p then s ||| shl32 1 (nI i) else s) (fun _ _ => True) some (fun n i s hi _ => ⟨?_, trivial⟩) (fun n s _ => ?_) 0 trivial FU (FU_gt (by decide))).1
  · show M_ownedBy_L4 o p (n + 1) s (nI i) = M_ownedBy_L4 o p n _ (nI (i + 1))
    rw [M_ownedBy_L4]
    simp (disch := omega) only [lit32, inb_nI, ix_nI, nI_le', nI_lt', nI_eq', nI_add, pk_mul, gd_t, nm_q, jn_e, bd_e, bd2_e, bd3_e, bd4_e, bd_if, bd2_if, bd3_if, bd4_if]
    rw [if_neg (by omega)]
    by_cases h : oA o 3 i = p <;> simp only [h, if_true, if_false, nI_0, Int32.or_zero]
  · rfl

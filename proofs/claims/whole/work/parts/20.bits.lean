/-! bits of twelve, counted -/
def o0 : Ob := (fun _ => 0, fun _ _ => 0, fun _ _ => 0)
/-- how many bits: the JDK's own way -/
def pcI (x : Int32) : Int32 := (B_bitCount x).getD 0
theorem bitCount_some (x : Int32) : B_bitCount x = some (pcI x) := rfl
theorem ones_L (o o' : Ob) : ∀ n x1 x2, M_onesOf_L4 o n x1 x2 = M_onesOf_L4 o' n x1 x2 := by
  intro n
  induction n with
  | zero => intro x1 x2; rw [M_onesOf_L4, M_onesOf_L4]
  | succ n ih => intro x1 x2; rw [M_onesOf_L4, M_onesOf_L4]; simp only [nm, ih]
theorem all64 {f : Nat → Bool} (h : ((List.range 64).all fun i => (List.range 64).all fun j => f (64 * i + j)) = true) : ∀ k, k < 4096 → f k = true := by
  intro k hk
  have h1 := List.all_eq_true.mp h (k / 64) (List.mem_range.mpr (by omega))
  have h2 := List.all_eq_true.mp h1 (k % 64) (List.mem_range.mpr (by omega))
  have e : 64 * (k / 64) + k % 64 = k := by omega
  rw [e] at h2
  exact h2
theorem ones12 (o : Ob) {k : Nat} (hk : k < 4096) : M_onesOf o (nI k) = some (pcI (nI k)) := by
  have h := all64 (f := fun k => M_onesOf o0 (nI k) == some (pcI (nI k))) (by decide +kernel) k hk
  have h1 : M_onesOf o (nI k) = M_onesOf o0 (nI k) := ones_L _ _ _ _ _
  rw [h1]
  exact eq_of_beq h
/-- all bits but the greatest -/
def noTop (x : Int32) : Int32 :=
  let a := x ||| shr32 x 1
  let b := a ||| shr32 a 2
  let c := b ||| shr32 b 4
  let d := c ||| shr32 c 8
  x &&& shr32 d 1
theorem noTop_L (o o' : Ob) (kx : Int32 → Option Int32) (a0 : Int32) : ∀ n x1, M_withoutGreatest_L3 kx o a0 n x1 = M_withoutGreatest_L3 kx o' a0 n x1 := by
  intro n
  induction n with
  | zero => intro x1; rw [M_withoutGreatest_L3, M_withoutGreatest_L3]
  | succ n ih => intro x1; rw [M_withoutGreatest_L3, M_withoutGreatest_L3]; simp only [nm, ih]; rfl
theorem noTop12 (o : Ob) {k : Nat} (hk : k < 4096) : M_withoutGreatest o (nI k) = some (noTop (nI k)) := by
  have h := all64 (f := fun k => M_withoutGreatest o0 (nI k) == some (noTop (nI k))) (by decide +kernel) k hk
  have h1 : M_withoutGreatest o (nI k) = M_withoutGreatest o0 (nI k) := noTop_L _ _ _ _ _ _
  rw [h1]
  exact eq_of_beq h

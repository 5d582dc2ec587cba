/-! the start: both sides as their constructors leave them -/
def t0 : Ob := (fun _ => 0, fun j => if j = 1 then fl5 (fun _ => 0) (4095 : Int32) else if j = 2 then fl5 (fun _ => 0) (1 : Int32) else if j = 3 then fl5 (fun _ => 0) (9 : Int32) else fun _ => 0, fun _ _ => 0)
def z0 : Ob := (fun _ => 0, fun _ _ => 0, fun _ _ => 0)
def σ0 : CS := fun a => if a = 0 then z0 else if a < 11 then t0 else z0
theorem fl5_at {x : Int32} {i : Nat} : fl5 (fun _ => 0) x i = if i < 5 then x else 0 := by
  have e1 : (1 : Int32).toNatClampNeg = 1 := by decide
  have e2 : (2 : Int32).toNatClampNeg = 2 := by decide
  have e3 : (3 : Int32).toNatClampNeg = 3 := by decide
  have e4 : (4 : Int32).toNatClampNeg = 4 := by decide
  have e0 : (0 : Int32).toNatClampNeg = 0 := by decide
  unfold fl5
  simp only [e0, e1, e2, e3, e4, upd]
  by_cases h0 : i = 0
  · subst h0; simp
  by_cases h1 : i = 1
  · subst h1; simp
  by_cases h2 : i = 2
  · subst h2; simp
  by_cases h3 : i = 3
  · subst h3; simp
  by_cases h4 : i = 4
  · subst h4; simp
  · rw [if_neg (show ¬ i < 5 by omega)]
    simp [h0, h1, h2, h3, h4]
theorem t0_zb : zb t0 := by
  intro j h1 h7 i hi
  show (if j = 1 then fl5 (fun _ => 0) (4095 : Int32) else if j = 2 then fl5 (fun _ => 0) (1 : Int32) else if j = 3 then fl5 (fun _ => 0) (9 : Int32) else fun _ => 0) i = 0
  have hl : j ≤ 3 → 5 ≤ i := by
    intro h
    rcases (show j = 1 ∨ j = 2 ∨ j = 3 by omega) with rfl | rfl | rfl <;> exact hi
  split
  · rw [fl5_at, if_neg (by have := hl (by omega); omega)]
  · split
    · rw [fl5_at, if_neg (by have := hl (by omega); omega)]
    · split
      · rw [fl5_at, if_neg (by have := hl (by omega); omega)]
      · rfl
theorem rel0 : RelE σ0 t0 := by
  refine ⟨0, ⟨?_, rfl, ⟨0, by decide, rfl⟩, fun _ _ => rfl, t0_zb⟩, rfl, rfl, fun _ _ _ => rfl, fun a h2 h10 => ?_, rfl, Or.inl rfl, fun h => absurd h (by decide), fun d hd => ?_⟩
  · exact ⟨by decide, fun p h => absurd h (Nat.not_lt_zero p), fun p h => absurd h (Nat.not_lt_zero p), fun p h => absurd h (Nat.not_lt_zero p), fun h hh => Or.inr (by show fl5 (fun _ => 0) 9 h = nI 9; rw [fl5_at, if_pos hh]; rfl), fun h hh => ⟨4095, by decide, by show fl5 (fun _ => 0) 4095 h = nI 4095; rw [fl5_at, if_pos hh]; rfl⟩, fun i _ => ⟨0, by decide, rfl⟩, fun h hh => ⟨1, by decide, by show fl5 (fun _ => 0) 1 h = nI 1; rw [fl5_at, if_pos hh]; rfl⟩⟩
  · show zb (if a = 0 then z0 else if a < 11 then t0 else z0)
    rw [if_neg (by omega), if_pos (by omega)]
    exact t0_zb
  · have e : σ0 (11 + d) = z0 := by
      show (if 11 + d = 0 then z0 else if 11 + d < 11 then t0 else z0) = z0
      rw [if_neg (by omega), if_neg (by omega)]
    rw [e]
    exact ⟨rfl, ⟨0, by decide, rfl⟩, fun h => absurd h (by decide), rfl, ⟨0, by decide, rfl⟩, rfl, ⟨0, by decide, rfl⟩, fun _ _ => rfl⟩

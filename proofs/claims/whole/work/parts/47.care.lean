/-! who should look after what -/
def mxI (x y : Int32) : Int32 := if y ≤ x then x else y
def careStep (t : Ob) (h c : Nat) (f : Nat → Int32) (p : Nat) (s : Int32) : Int32 := if c.testBit p = true then s else mxI s (storyS t p h + f (c ||| 2 ^ p))
/-- the most that the last k things can have when a crowd is taken -/
def careW (t : Ob) (n : Nat) : Nat → Nat → Int32
  | 0, _ => 0
  | k + 1, c => foldN (careStep t (4 - k) c (careW t n k)) (careW t n k c) n
theorem care_rng_ {n : Nat} {t : Ob} (w : wfA n t) : ∀ k, k ≤ 5 → ∀ c, ∃ m, m ≤ 64 * k ∧ careW t n k c = nI m
  | 0, _, c => ⟨0, by omega, rfl⟩
  | k + 1, hk, c => by
    obtain ⟨m0, hm0, e0⟩ := care_rng_ w k (by omega) c
    show ∃ m, m ≤ 64 * (k + 1) ∧ foldN (careStep t (4 - k) c (careW t n k)) (careW t n k c) n = nI m
    refine foldN_inv (P := fun _ (s : Int32) => ∃ m, m ≤ 64 * (k + 1) ∧ s = nI m) ⟨m0, by omega, e0⟩ n (fun p s hp q => ?_)
    obtain ⟨m, hm, rfl⟩ := q
    obtain ⟨x, hx, ex⟩ := story_rng w hp (show 4 - k < 5 by omega)
    obtain ⟨y, hy, ey⟩ := care_rng_ w k (by omega) (c ||| 2 ^ p)
    unfold careStep mxI
    rw [ex, ey, nI_add]
    split
    · exact ⟨m, hm, rfl⟩
    · split
      · exact ⟨m, hm, rfl⟩
      · exact ⟨x + y, by omega, rfl⟩
theorem AEq.careW {t o : Ob} (e : AEq t o) {n : Nat} : ∀ k c, Jvm.Pilot.@@N@@.careW t n k c = Jvm.Pilot.@@N@@.careW o n k c
  | 0, _ => rfl
  | k + 1, c => by
    have ih : Jvm.Pilot.@@N@@.careW t n k = Jvm.Pilot.@@N@@.careW o n k := funext (AEq.careW e k)
    show foldN (careStep t (4 - k) c (Jvm.Pilot.@@N@@.careW t n k)) _ n = foldN (careStep o (4 - k) c (Jvm.Pilot.@@N@@.careW o n k)) _ n
    have es : careStep t (4 - k) c (Jvm.Pilot.@@N@@.careW o n k) = careStep o (4 - k) c (Jvm.Pilot.@@N@@.careW o n k) := by
      funext p s; unfold careStep; rw [e.story]
    rw [ih, es]
theorem bit7 {c p : Nat} (hc : c < 128) (hp : p < 7) : (shr32 (nI c) (nI p) &&& 1) = if c.testBit p = true then 1 else 0 := by
  have h := (List.all_eq_true.mp (List.all_eq_true.mp (show ((List.range 128).all fun c => (List.range 7).all fun p => decide ((shr32 (nI c) (nI p) &&& 1) = if c.testBit p = true then 1 else 0)) = true by decide +kernel) c (List.mem_range.mpr hc))) p (List.mem_range.mpr hp)
  exact of_decide_eq_true h
theorem or7 {c p : Nat} (hc : c < 128) (hp : p < 7) : nI c ||| shl32 1 (nI p) = nI (c ||| 2 ^ p) := by
  have h := (List.all_eq_true.mp (List.all_eq_true.mp (show ((List.range 128).all fun c => (List.range 7).all fun p => decide (nI c ||| shl32 1 (nI p) = nI (c ||| 2 ^ p))) = true by decide +kernel) c (List.mem_range.mpr hc))) p (List.mem_range.mpr hp)
  exact of_decide_eq_true h
theorem orlt {n c p : Nat} (hc : c < 2 ^ n) (hp : p < n) : c ||| 2 ^ p < 2 ^ n := Nat.or_lt_two_pow hc (Nat.pow_lt_pow_right (by decide) hp)
theorem shl7 {n : Nat} (h7 : n ≤ 7) : shl32 1 (nI n) = nI (2 ^ n) := by
  rcases (show n = 0 ∨ n = 1 ∨ n = 2 ∨ n = 3 ∨ n = 4 ∨ n = 5 ∨ n = 6 ∨ n = 7 by omega) with rfl | rfl | rfl | rfl | rfl | rfl | rfl | rfl <;> decide
theorem pow7 {n : Nat} (h7 : n ≤ 7) : 2 ^ n ≤ 128 := Nat.pow_le_pow_right (n := 2) (by decide) h7
/-! the class's tables -/
def CI (n : Nat) (σ τ : CS) : Prop := visC σ τ ∧ ∀ p, p < n → ∀ h, h < 5 → oA (τ 0) 2 (p * 5 + h) = storyS (σ 1) p h
theorem visC.set0 {σ τ : CS} {k : Nat} {i v : Int32} (h : visC σ τ) : visC σ (va_up τ 0 (pA (τ 0) k i v)) := h.tr visC_0
theorem note_in {n p : Nat} {σ τ : CS} {o : Ob} (R : Rel n σ o) (hp : p < n) (hv : visC σ τ) (hq : ∀ q, q < p → ∀ h, h < 5 → oA (τ 0) 2 (q * 5 + h) = storyS (σ 1) q h) (K : CS → Option CS) : ∃ τ', C_noteStories_L15 K (nI p) FU τ 0 = K τ' ∧ visC σ τ' ∧ ∀ q, q < p + 1 → ∀ h, h < 5 → oA (τ' 0) 2 (q * 5 + h) = storyS (σ 1) q h := by
  have h7 := R.n7
  obtain ⟨τ', e, h1, h2, h3⟩ := up_loopE (L := fun N s i => C_noteStories_L15 K (nI p) N s (nI i)) 5 (fun i s => visC σ s ∧ (∀ q, q < p → ∀ h, h < 5 → oA (s 0) 2 (q * 5 + h) = storyS (σ 1) q h) ∧ ∀ h, h < i → oA (s 0) 2 (p * 5 + h) = storyS (σ 1) p h) K (by
    intro N i s hi ⟨q1, q2, q3⟩
    refine ⟨va_up s 0 (pA (s 0) 2 (nI (p * 5 + i)) (storyS (σ 1) p i)), ?_, q1.set0, fun q hq h hh => ?_, fun h hh => ?_⟩
    · show C_noteStories_L15 K (nI p) (N + 1) s (nI i) = C_noteStories_L15 K (nI p) N _ (nI (i + 1))
      rw [C_noteStories_L15, if_neg (by show ¬ nI 5 ≤ nI i; rw [nI_le' (by omega) (by omega)]; omega), q1.1, T_tale_ok' R.wf hp hi, bd_e, ixkn, inb_nI (show p * 5 + i < 35 by omega) (by decide), gd_t, nm_q, nm_q, nI_1]
    · rw [vu_at, pA_at (by omega), if_neg (by omega)]; exact q2 q hq h hh
    · rw [vu_at, pA_at (by omega)]
      by_cases c : h = i
      · rw [c, if_pos rfl]
      · rw [if_neg (by omega)]; exact q3 h (by omega)) (by
    intro N s _
    show C_noteStories_L15 K (nI p) (N + 1) s (nI 5) = K s
    rw [C_noteStories_L15, if_pos (by decide)]) τ ⟨hv, hq, fun h hh => absurd hh (by omega)⟩ FU (FU_gt (by decide))
  refine ⟨τ', e, h1, fun q hq h hh => ?_⟩
  by_cases c : q = p
  · subst c; exact h3 h hh
  · exact h2 q (by omega) h hh
theorem note_ok {n : Nat} {σ : CS} {o : Ob} (R : Rel n σ o) : ∃ τ, C_noteStories σ = some τ ∧ CI n σ τ := by
  have h7 := R.n7
  obtain ⟨τ, e, h⟩ := up_loopE (L := fun N s i => C_noteStories_L2 N s (nI i)) n (fun i s => visC σ s ∧ ∀ q, q < i → ∀ h, h < 5 → oA (s 0) 2 (q * 5 + h) = storyS (σ 1) q h) some (by
    intro N i s hi ⟨q1, q2⟩
    obtain ⟨s', g1, g2, g3⟩ := note_in R hi q1 q2 (fun (σ8 : CS) => nm (nI i + (1 : Int32)) fun v9 => C_noteStories_L2 N σ8 v9)
    refine ⟨s', ?_, g2, g3⟩
    show C_noteStories_L2 (N + 1) s (nI i) = C_noteStories_L2 N s' (nI (i + 1))
    rw [C_noteStories_L2, q1.1, R.1.2.1, if_neg (by rw [nI_le' (by omega) (by omega)]; omega), g1, nm_q, nI_1]) (by
    intro N s hs
    show C_noteStories_L2 (N + 1) s (nI n) = some s
    rw [C_noteStories_L2, hs.1.1, R.1.2.1, if_pos (by rw [nI_le' (by omega) (by omega)]; omega)]) σ ⟨visC.rf, fun q hq => absurd hq (by omega)⟩ FU (FU_gt (by omega))
  exact ⟨τ, e, h⟩
theorem ix128 {k c : Nat} : (nI k + (1 : Int32)) * (128 : Int32) + nI c = nI ((k + 1) * 128 + c) := by
  rw [nI_1, lit32, pk_mul, nI_add]
theorem ix128' {k c : Nat} : nI k * (128 : Int32) + nI c = nI (k * 128 + c) := by
  rw [lit32, pk_mul, nI_add]
theorem ix128m {k c : Nat} : (128 : Int32) * (nI k + (1 : Int32)) + nI c = nI ((k + 1) * 128 + c) := by
  rw [nI_1, lit32, pk_mul, nI_add, Nat.mul_comm]
theorem ix128m' {k c : Nat} : (128 : Int32) * nI k + nI c = nI (k * 128 + c) := by
  rw [lit32, pk_mul, nI_add, Nat.mul_comm]
/-- the rows from one on stand -/
def rowsC (n : Nat) (σ τ : CS) (k : Nat) : Prop := ∀ h, k ≤ h → h ≤ 5 → ∀ c, c < 2 ^ n → oA (τ 0) 1 (h * 128 + c) = careW (σ 1) n (5 - h) c
theorem most_ok {n p k c : Nat} {σ τ : CS} {o : Ob} (R : Rel n σ o) (hI : CI n σ τ) (hr : rowsC n σ τ (k + 1)) (hp : p < n) (hk : k < 5) (hc : c < 2 ^ n) : C_mostWith τ (nI p) (nI k) (nI c) = some (storyS (σ 1) p k + careW (σ 1) n (4 - k) (c ||| 2 ^ p)) := by
  have h7 := R.n7
  have p7 := pow7 h7
  have hl := orlt hc hp
  unfold C_mostWith
  rw [or7 (show c < 128 by omega) (by omega), ixkn, ix128, inb_nI (show p * 5 + k < 35 by omega) (by decide), inb_nI (show (k + 1) * 128 + (c ||| 2 ^ p) < 768 by omega) (by decide), gd_t, gd_t, ix_nI (by omega), ix_nI (by omega), hI.2 p hp k hk, hr (k + 1) (by omega) (by omega) _ hl, show 5 - (k + 1) = 4 - k by omega]
theorem best_ok {n k c : Nat} {σ τ : CS} {o : Ob} {a1 : Int32} (R : Rel n σ o) (hI : CI n σ τ) (hr : rowsC n σ τ (k + 1)) (hk : k < 5) (hc : c < 2 ^ n) (K : Int32 → Option CS) : C_weighCrowds_L66 K τ a1 (nI k) (nI c) FU (careW (σ 1) n (4 - k) c) 0 = K (careW (σ 1) n (5 - k) c) := by
  have h7 := R.n7
  have p7 := pow7 h7
  have e := (up_loop (L := fun N s i => C_weighCrowds_L66 K τ a1 (nI k) (nI c) N s (nI i)) n (careStep (σ 1) k c (careW (σ 1) n (4 - k))) (fun _ _ => True) K (by
    intro N p s hp _
    refine ⟨?_, trivial⟩
    show C_weighCrowds_L66 K τ a1 (nI k) (nI c) (N + 1) s (nI p) = C_weighCrowds_L66 K τ a1 (nI k) (nI c) N _ (nI (p + 1))
    rw [C_weighCrowds_L66, hI.1.1, R.1.2.1, if_neg (by rw [nI_le' (by omega) (by omega)]; omega), bit7 (show c < 128 by omega) (by omega), most_ok R hI hr hp hk hc, bd_e, nm_q, nI_1]
    unfold careStep
    by_cases b : c.testBit p = true
    · rw [if_pos b, if_pos b, if_neg (by decide), bd_e, nm_q]
    · rw [if_neg b, if_neg b, if_pos rfl, bd_e, nm_q, max32_q]; rfl) (by
    intro N s _
    show C_weighCrowds_L66 K τ a1 (nI k) (nI c) (N + 1) s (nI n) = K s
    rw [C_weighCrowds_L66, hI.1.1, R.1.2.1, if_pos (by rw [nI_le' (by omega) (by omega)]; omega)]) (careW (σ 1) n (4 - k) c) trivial FU (FU_gt (by omega))).1
  have ew : careW (σ 1) n (5 - k) c = foldN (careStep (σ 1) k c (careW (σ 1) n (4 - k))) (careW (σ 1) n (4 - k) c) n := by
    rw [show 5 - k = (4 - k) + 1 by omega]
    show foldN (careStep (σ 1) (4 - (4 - k)) c (careW (σ 1) n (4 - k))) (careW (σ 1) n (4 - k) c) n = _
    rw [show 4 - (4 - k) = k by omega]
  rw [ew]
  exact e
theorem CI.set1 {n : Nat} {σ τ : CS} {i v : Int32} (h : CI n σ τ) : CI n σ (va_up τ 0 (pA (τ 0) 1 i v)) := ⟨h.1.set0, fun p hp q hq => by rw [vu_at, pA_ne (by decide)]; exact h.2 p hp q hq⟩
theorem crowd_row {n k : Nat} {σ τ : CS} {o : Ob} (R : Rel n σ o) (hI : CI n σ τ) (hr : rowsC n σ τ (k + 1)) (hk : k < 5) (K : CS → Option CS) : ∃ τ', C_weighCrowds_L42 K (nI (2 ^ n)) (nI k) FU τ 0 = K τ' ∧ CI n σ τ' ∧ rowsC n σ τ' k := by
  have h7 := R.n7
  have p7 := pow7 h7
  obtain ⟨τ', e, h1, h2, h3⟩ := up_loopE (L := fun N s i => C_weighCrowds_L42 K (nI (2 ^ n)) (nI k) N s (nI i)) (2 ^ n) (fun i s => CI n σ s ∧ rowsC n σ s (k + 1) ∧ ∀ c, c < i → oA (s 0) 1 (k * 128 + c) = careW (σ 1) n (5 - k) c) K (by
    intro N i s hi ⟨q1, q2, q3⟩
    refine ⟨va_up s 0 (pA (s 0) 1 (nI (k * 128 + i)) (careW (σ 1) n (5 - k) i)), ?_, q1.set1, fun h a b c hc => ?_, fun c hc => ?_⟩
    · show C_weighCrowds_L42 K (nI (2 ^ n)) (nI k) (N + 1) s (nI i) = C_weighCrowds_L42 K (nI (2 ^ n)) (nI k) N _ (nI (i + 1))
      rw [C_weighCrowds_L42, if_neg (by rw [nI_le' (by omega) (by omega)]; omega), ix128, inb_nI (show (k + 1) * 128 + i < 768 by omega) (by decide), gd_p, nm_p, ix_nI (by omega), q2 (k + 1) (by omega) (by omega) i hi, show 5 - (k + 1) = 4 - k by omega, best_ok R q1 q2 hk hi, ix128', inb_nI (show k * 128 + i < 768 by omega) (by decide), gd_t, nm_q, nm_q, nI_1]
    · rw [vu_at, pA_at (by omega), if_neg (by omega)]; exact q2 h a b c hc
    · rw [vu_at, pA_at (by omega)]
      by_cases g : c = i
      · rw [g, if_pos rfl]
      · rw [if_neg (by omega)]; exact q3 c (by omega)) (by
    intro N s _
    show C_weighCrowds_L42 K (nI (2 ^ n)) (nI k) (N + 1) s (nI (2 ^ n)) = K s
    rw [C_weighCrowds_L42, if_pos (by rw [nI_le' (by omega) (by omega)]; omega)]) τ ⟨hI, hr, fun c hc => absurd hc (by omega)⟩ FU (FU_gt (by omega))
  refine ⟨τ', e, h1, fun h a b c hc => ?_⟩
  by_cases g : h = k
  · subst g; exact h3 c hc
  · exact h2 h (by omega) b c hc
theorem crowd_all {n : Nat} {σ : CS} {o : Ob} (R : Rel n σ o) : ∀ k N (τ : CS), k ≤ 5 → k < N → CI n σ τ → rowsC n σ τ k → ∃ τ', C_weighCrowds_L36 (nI (2 ^ n)) N τ (nI k + (-1)) = some τ' ∧ CI n σ τ' ∧ rowsC n σ τ' 0 := by
  intro k
  induction k with
  | zero =>
    intro N τ hk h1 hI hr
    obtain ⟨N, rfl⟩ : ∃ m, N = m + 1 := ⟨N - 1, by omega⟩
    exact ⟨τ, by rw [C_weighCrowds_L36, if_pos (by decide)], hI, hr⟩
  | succ k ih =>
    intro N τ hk h1 hI hr
    obtain ⟨N, rfl⟩ : ∃ m, N = m + 1 := ⟨N - 1, by omega⟩
    obtain ⟨τ1, e1, e2, e3⟩ := crowd_row R hI hr (show k < 5 by omega) (fun (σ22 : CS) => nm (nI k + (-1 : Int32)) fun v23 => C_weighCrowds_L36 (nI (2 ^ n)) N σ22 v23)
    obtain ⟨τ2, f1, f2, f3⟩ := ih N τ1 (by omega) (by omega) e2 e3
    refine ⟨τ2, ?_, f2, f3⟩
    rw [pk_m1, C_weighCrowds_L36, if_neg (nI_pos (by omega)), e1, nm_q, f1]
theorem weigh_ok {n : Nat} {σ τ : CS} {o : Ob} (R : Rel n σ o) (hI : CI n σ τ) : ∃ τ', C_weighCrowds τ = some τ' ∧ CI n σ τ' ∧ rowsC n σ τ' 0 := by
  have h7 := R.n7
  have p7 := pow7 h7
  unfold C_weighCrowds
  rw [hI.1.1, R.1.2.1, shl7 h7, nm_p]
  obtain ⟨τ1, e1, e2, e3⟩ := up_loopE (L := fun N s i => C_weighCrowds_L12 (fun (σ6 : CS) => C_weighCrowds_L36 (nI (2 ^ n)) FU σ6 (4 : Int32)) (nI (2 ^ n)) N s (nI i)) (2 ^ n) (fun i s => CI n σ s ∧ ∀ c, c < i → oA (s 0) 1 (640 + c) = 0) (fun (σ6 : CS) => C_weighCrowds_L36 (nI (2 ^ n)) FU σ6 (4 : Int32)) (by
    intro N i s hi ⟨q1, q2⟩
    refine ⟨va_up s 0 (pA (s 0) 1 (nI (640 + i)) 0), ?_, q1.set1, fun c hc => ?_⟩
    · show C_weighCrowds_L12 _ (nI (2 ^ n)) (N + 1) s (nI i) = C_weighCrowds_L12 _ (nI (2 ^ n)) N _ (nI (i + 1))
      rw [C_weighCrowds_L12, if_neg (by rw [nI_le' (by omega) (by omega)]; omega), show (640 : Int32) + nI i = nI (640 + i) by rw [lit32, nI_add], inb_nI (show 640 + i < 768 by omega) (by decide), gd_t, nm_q, nm_q, nI_1]
    · rw [vu_at, pA_at (by omega)]
      by_cases g : c = i
      · rw [g, if_pos rfl]
      · rw [if_neg (by omega)]; exact q2 c (by omega)) (by
    intro N s _
    show C_weighCrowds_L12 _ (nI (2 ^ n)) (N + 1) s (nI (2 ^ n)) = _
    rw [C_weighCrowds_L12, if_pos (by rw [nI_le' (by omega) (by omega)]; omega)]) τ ⟨hI, fun c hc => absurd hc (by omega)⟩ FU (FU_gt (by omega))
  obtain ⟨τ2, f1, f2, f3⟩ := crowd_all R 5 FU τ1 (by omega) (FU_gt (by decide)) e2 (fun h a b c hc => by
    have : h = 5 := by omega
    subst this
    exact e3 c hc)
  have f1' : C_weighCrowds_L36 (nI (2 ^ n)) FU τ1 (4 : Int32) = some τ2 := f1
  refine ⟨τ2, ?_, f2, f3⟩
  rw [← nI_0]
  exact e1.trans f1'
/-! the reference's table -/
def rowsM (n : Nat) (o s : Ob) (k : Nat) : Prop := ∀ q, k ≤ q → q < 768 → oA s 19 q = careW o n (5 - q / 128) (q % 128)
theorem hb7 {c p : Nat} (o : Ob) (hc : c < 128) (hp : p < 7) : M_hasBit o (nI c) (nI p) = some (if c.testBit p = true then 1 else 0) := by
  rw [hb_ok, bit7 hc hp]
  split <;> rfl
theorem visM.AEq {o u : Ob} (v : visM o u) : Jvm.Pilot.@@N@@.AEq u o := fun j a b => v.2.2.2.1 j a (by omega)
theorem lay_in {n k : Nat} {σ : CS} {o u : Ob} (R : Rel n σ o) (hk : k < 640) (hv : visM o u) (hr : rowsM n o u (k + 1)) (K : Ob → Option Ob) : ∃ s, M_layCare_L52 K (nI k) (nI (k / 128)) (nI (k % 128)) FU (pA u 19 (nI k) (careW o n (4 - k / 128) (k % 128))) 0 = K s ∧ visM o s ∧ rowsM n o s k := by
  have h7 := R.n7
  have ht : k / 128 < 5 := by omega
  have hc : k % 128 < 128 := by omega
  have ew : careW o n (5 - k / 128) (k % 128) = foldN (careStep o (k / 128) (k % 128) (careW o n (4 - k / 128))) (careW o n (4 - k / 128) (k % 128)) n := by
    rw [show 5 - k / 128 = (4 - k / 128) + 1 by omega]
    show foldN (careStep o (4 - (4 - k / 128)) (k % 128) (careW o n (4 - k / 128))) (careW o n (4 - k / 128) (k % 128)) n = _
    rw [show 4 - (4 - k / 128) = k / 128 by omega]
  obtain ⟨s, e, h1, h2, h3⟩ := up_loopE (L := fun N s i => M_layCare_L52 K (nI k) (nI (k / 128)) (nI (k % 128)) N s (nI i)) n (fun i s => visM o s ∧ rowsM n o s (k + 1) ∧ oA s 19 k = foldN (careStep o (k / 128) (k % 128) (careW o n (4 - k / 128))) (careW o n (4 - k / 128) (k % 128)) i) K (by
    intro N p s hp ⟨q1, q2, q3⟩
    have hl : (k % 128 ||| 2 ^ p) < 128 := orlt (n := 7) hc (by omega)
    obtain ⟨m, hm, em⟩ := foldN_inv (P := fun _ (s : Int32) => ∃ m, m ≤ 64 * 5 ∧ s = nI m) (step := careStep o (k / 128) (k % 128) (careW o n (4 - k / 128))) (s := careW o n (4 - k / 128) (k % 128)) (by
      obtain ⟨m0, hm0, e0⟩ := care_rng_ R.wfo (4 - k / 128) (by omega) (k % 128)
      exact ⟨m0, by omega, e0⟩) p (fun p' s hp' q => by
      obtain ⟨m, hm, rfl⟩ := q
      obtain ⟨x, hx, ex⟩ := story_rng R.wfo (show p' < n by omega) ht
      obtain ⟨y, hy, ey⟩ := care_rng_ R.wfo (4 - k / 128) (by omega) (k % 128 ||| 2 ^ p')
      unfold careStep mxI
      rw [ex, ey, nI_add]
      split
      · exact ⟨m, hm, rfl⟩
      · split
        · exact ⟨m, hm, rfl⟩
        · exact ⟨x + y, by omega, rfl⟩)
    have wfs : wfA n s := q1.AEq.sm.wf R.wfo
    have e19 : oA s 19 ((k / 128 + 1) * 128 + (k % 128 ||| 2 ^ p)) = careW o n (4 - k / 128) (k % 128 ||| 2 ^ p) := by
      rw [q2 _ (by omega) (by omega), show 5 - ((k / 128 + 1) * 128 + (k % 128 ||| 2 ^ p)) / 128 = 4 - k / 128 by omega, show ((k / 128 + 1) * 128 + (k % 128 ||| 2 ^ p)) % 128 = (k % 128 ||| 2 ^ p) by omega]
    refine ⟨pA s 19 (nI k) (careStep o (k / 128) (k % 128) (careW o n (4 - k / 128)) p (oA s 19 k)), ?_, q1.tr (visM_A (by decide)), fun q a b => ?_, ?_⟩
    · show M_layCare_L52 K (nI k) (nI (k / 128)) (nI (k % 128)) (N + 1) s (nI p) = M_layCare_L52 K (nI k) (nI (k / 128)) (nI (k % 128)) N _ (nI (p + 1))
      rw [M_layCare_L52, q1.1.trans R.2.1, if_neg (by rw [nI_le' (by omega) (by omega)]; omega), if_neg (by show ¬ nI 5 ≤ nI (k / 128); rw [nI_le' (by omega) (by omega)]; omega), hb7 s hc (by omega), bd_e, M_storyOf_ok' wfs hp ht, bd_e, or7 hc (by omega), ix128m, inb_nI (show (k / 128 + 1) * 128 + (k % 128 ||| 2 ^ p) < 768 by omega) (by decide), inb_nI (show k < 768 by omega) (by decide), ix_nI (by omega), ix_nI (by omega), e19, q1.AEq.story]
      simp only [gd_t, nm_q, nI_1]
      unfold careStep mxI
      by_cases b : (k % 128).testBit p = true
      · have z : (-1 : Int32) ≤ oA s 19 k := by rw [q3, em, fa_le, nI_toInt (by omega), show (-1 : Int32).toInt = -1 from rfl]; omega
        rw [if_pos b, if_pos b, if_neg (by decide), bd_e, if_pos z, bd_e]
      · rw [if_neg b, if_neg b, if_pos rfl, bd_e]
        by_cases z : storyS o p (k / 128) + careW o n (4 - k / 128) (k % 128 ||| 2 ^ p) ≤ oA s 19 k
        · rw [if_pos z, if_pos z, bd_e]
        · rw [if_neg z, if_neg z, bd_e]
    · rw [pA_at (by omega), if_neg (by omega)]; exact q2 q a b
    · rw [pA_at (by omega), if_pos rfl, q3]; rfl) (by
    intro N s hs
    show M_layCare_L52 K (nI k) (nI (k / 128)) (nI (k % 128)) (N + 1) s (nI n) = K s
    rw [M_layCare_L52, hs.1.1.trans R.2.1, if_pos (by rw [nI_le' (by omega) (by omega)]; omega)]) (pA u 19 (nI k) (careW o n (4 - k / 128) (k % 128))) ⟨hv.tr (visM_A (by decide)), fun q a b => by rw [pA_at (by omega), if_neg (by omega)]; exact hr q a b, by rw [pA_at (by omega), if_pos rfl]; rfl⟩ FU (FU_gt (by omega))
  refine ⟨s, e, h1, fun q a b => ?_⟩
  by_cases g : q = k
  · subst g; rw [h3, ew]
  · exact h2 q (by omega) b
theorem lay_all {n : Nat} {σ : CS} {o : Ob} (R : Rel n σ o) : ∀ k N (u : Ob), k ≤ 768 → k < N → visM o u → rowsM n o u k → ∃ s, M_layCare_L4 N u (nI k + (-1)) = some s ∧ visM o s ∧ rowsM n o s 0 := by
  have h7 := R.n7
  intro k
  induction k with
  | zero =>
    intro N u hk h1 hv hr
    obtain ⟨N, rfl⟩ : ∃ m, N = m + 1 := ⟨N - 1, by omega⟩
    exact ⟨u, by rw [M_layCare_L4, if_pos (by decide)], hv, hr⟩
  | succ k ih =>
    intro N u hk h1 hv hr
    obtain ⟨N, rfl⟩ : ∃ m, N = m + 1 := ⟨N - 1, by omega⟩
    have d1 : nI k / (128 : Int32) = nI (k / 128) := pk_div (d := 128) (by omega) (by decide) (by decide)
    have d2 : rem32 (nI k) (128 : Int32) = nI (k % 128) := pk_rem (d := 128) (by omega) (by decide) (by decide)
    rw [pk_m1, M_layCare_L4, if_neg (nI_pos (by omega)), d1, d2, nm_p, nm_p]
    by_cases c5 : k / 128 = 5
    · have e5 : nI (k / 128) = (5 : Int32) := by rw [c5]; rfl
      have hr' : rowsM n o (pA u 19 (nI k) 0) k := fun q a b => by
        rw [pA_at (by omega)]
        by_cases g : q = k
        · rw [if_pos g, g, c5]; rfl
        · rw [if_neg g]; exact hr q (by omega) b
      obtain ⟨s, f1, f2, f3⟩ := ih N (pA u 19 (nI k) 0) (by omega) (by omega) (hv.tr (visM_A (by decide))) hr'
      refine ⟨s, ?_, f2, f3⟩
      rw [if_pos e5, bd_p, inb_nI (show k < 768 by omega) (by decide), gd_p, nm_p, show FU = 9999 + 1 from rfl, M_layCare_L52, if_pos (show (5 : Int32) ≤ nI (k / 128) by rw [e5]; decide), ite_self, nm_q, f1]
    · have hk6 : k < 640 := by omega
      have e5 : ¬ nI (k / 128) = (5 : Int32) := by show ¬ nI (k / 128) = nI 5; rw [nI_eq' (by omega) (by omega)]; exact c5
      have e19 : oA u 19 ((k / 128 + 1) * 128 + k % 128) = careW o n (4 - k / 128) (k % 128) := by
        rw [hr _ (by omega) (by omega), show 5 - ((k / 128 + 1) * 128 + k % 128) / 128 = 4 - k / 128 by omega, show ((k / 128 + 1) * 128 + k % 128) % 128 = k % 128 by omega]
      obtain ⟨s1, g1, g2, g3⟩ := lay_in R hk6 hv hr (fun (o25 : Ob) => nm (nI k + (-1 : Int32)) fun v26 => M_layCare_L4 N o25 v26)
      obtain ⟨s, f1, f2, f3⟩ := ih N s1 (by omega) (by omega) g2 g3
      refine ⟨s, ?_, f2, f3⟩
      rw [if_neg e5, ix128m, inb_nI (show (k / 128 + 1) * 128 + k % 128 < 768 by omega) (by decide), gd_p, ix_nI (by omega), e19, bd_p, inb_nI (show k < 768 by omega) (by decide), gd_p, nm_p, g1, nm_q, f1]
theorem lay_ok {n : Nat} {σ : CS} {o : Ob} (R : Rel n σ o) : ∃ s, M_layCare o = some s ∧ visM o s ∧ rowsM n o s 0 := lay_all R 768 FU o (by omega) (FU_gt (by decide)) visM.rf (fun q a b => absurd b (by omega))
/-! whom a thing has -/
theorem carer_loop {n h c : Nat} {σ τ : CS} {o s : Ob} (R : Rel n σ o) (hI : CI n σ τ) (hr : rowsC n σ τ 0) (hv : visM o s) (hm : rowsM n o s 0) (hh : h < 5) (hc : c < 2 ^ n) : ∀ r p N1 N2, p + r = n → r < N1 → r < N2 → ∃ y, C_firstCarer_L2 τ (nI h) (nI c) N1 (nI p) = some y ∧ M_carerOf_L2 s (nI h) (nI c) N2 (nI p) = some y ∧ (y = 9 ∨ ∃ q, q < n ∧ y = nI q) := by
  have h7 := R.n7
  have p7 := pow7 h7
  intro r
  induction r with
  | zero =>
    intro p N1 N2 hp h1 h2
    obtain ⟨N1, rfl⟩ : ∃ m, N1 = m + 1 := ⟨N1 - 1, by omega⟩
    obtain ⟨N2, rfl⟩ : ∃ m, N2 = m + 1 := ⟨N2 - 1, by omega⟩
    have e : nI n ≤ nI p := by rw [nI_le' (by omega) (by omega)]; omega
    exact ⟨9, by rw [C_firstCarer_L2, hI.1.1, R.1.2.1, if_pos e], by rw [M_carerOf_L2, hv.1.trans R.2.1, if_pos e], Or.inl rfl⟩
  | succ r ih =>
    intro p N1 N2 hp h1 h2
    obtain ⟨N1, rfl⟩ : ∃ m, N1 = m + 1 := ⟨N1 - 1, by omega⟩
    obtain ⟨N2, rfl⟩ : ∃ m, N2 = m + 1 := ⟨N2 - 1, by omega⟩
    have e : ¬ nI n ≤ nI p := by rw [nI_le' (by omega) (by omega)]; omega
    have hl := orlt hc (show p < n by omega)
    have hpn : p < n := by omega
    have wfs : wfA n s := hv.AEq.sm.wf R.wfo
    have e1 : oA (τ 0) 1 (h * 128 + c) = careW o n (5 - h) c := by rw [hr h (by omega) (by omega) c hc, R.2.2.2.1.careW]
    have e2 : oA s 19 (h * 128 + c) = careW o n (5 - h) c := by rw [hm _ (by omega) (by omega), show 5 - (h * 128 + c) / 128 = 5 - h by omega, show (h * 128 + c) % 128 = c by omega]
    have e3 : oA s 19 ((h + 1) * 128 + (c ||| 2 ^ p)) = careW o n (4 - h) (c ||| 2 ^ p) := by rw [hm _ (by omega) (by omega), show 5 - ((h + 1) * 128 + (c ||| 2 ^ p)) / 128 = 4 - h by omega, show ((h + 1) * 128 + (c ||| 2 ^ p)) % 128 = (c ||| 2 ^ p) by omega]
    have go := ih (p + 1) N1 N2 (by omega) (by omega) (by omega)
    rw [C_firstCarer_L2, M_carerOf_L2, hI.1.1, R.1.2.1, hv.1.trans R.2.1, if_neg e, if_neg e, jn_e, nm_q, nI_1, bit7 (show c < 128 by omega) (by omega), hb7 s (show c < 128 by omega) (by omega), bd_e, jn_e, nm_q, nI_1, most_ok R hI (fun h' a b => hr h' (by omega) b) hpn hh hc, bd_e, ix128', inb_nI (show h * 128 + c < 768 by omega) (by decide), gd_t, ix_nI (by omega), M_storyOf_ok' wfs hpn hh, bd_e, or7 (show c < 128 by omega) (by omega), ix128m', ix128m', inb_nI (show (h + 1) * 128 + (c ||| 2 ^ p) < 768 by omega) (by decide), inb_nI (show h * 128 + c < 768 by omega) (by decide), gd_t, gd_t, ix_nI (by omega), ix_nI (by omega), e1, e2, e3, hv.AEq.story, R.2.2.2.1.story, R.2.2.2.1.careW]
    by_cases b : c.testBit p = true
    · rw [if_pos b, if_neg (by decide), if_neg (by decide)]
      exact go
    · rw [if_neg b, if_pos rfl, if_pos rfl]
      by_cases z : storyS o p h + careW o n (4 - h) (c ||| 2 ^ p) = careW o n (5 - h) c
      · rw [if_pos z, if_pos z]; exact ⟨nI p, rfl, rfl, Or.inr ⟨p, hpn, rfl⟩⟩
      · rw [if_neg z, if_neg z]; exact go
theorem care_loop {n t : Nat} {σ τ : CS} {o s : Ob} (R : Rel n σ o) (hI : CI n σ τ) (hr : rowsC n σ τ 0) (hv : visM o s) (hm : rowsM n o s 0) (ht : t < 5) (KC : Int32 → Option (Int32 × CS)) (KM : Int32 → Option (Int32 × Ob)) : ∀ r i N1 N2 c x, i + r = t + 1 → r < N1 → r < N2 → c < 2 ^ n → ∃ y, C_care_L39 KC τ (nI t) N1 (nI c) x (nI i) = KC y ∧ M_care_L33 KM s (nI t) N2 (nI c) x (nI i) = KM y := by
  have h7 := R.n7
  have p7 := pow7 h7
  intro r
  induction r with
  | zero =>
    intro i N1 N2 c x hi h1 h2 hc
    obtain ⟨N1, rfl⟩ : ∃ m, N1 = m + 1 := ⟨N1 - 1, by omega⟩
    obtain ⟨N2, rfl⟩ : ∃ m, N2 = m + 1 := ⟨N2 - 1, by omega⟩
    have e : nI t < nI i := by rw [nI_lt' (by omega) (by omega)]; omega
    exact ⟨x, by rw [C_care_L39, if_pos e], by rw [M_care_L33, if_pos e]⟩
  | succ r ih =>
    intro i N1 N2 c x hi h1 h2 hc
    obtain ⟨N1, rfl⟩ : ∃ m, N1 = m + 1 := ⟨N1 - 1, by omega⟩
    obtain ⟨N2, rfl⟩ : ∃ m, N2 = m + 1 := ⟨N2 - 1, by omega⟩
    have e : ¬ nI t < nI i := by rw [nI_lt' (by omega) (by omega)]; omega
    obtain ⟨y, y1, y2, y3⟩ := carer_loop R hI hr hv hm (show i < 5 by omega) hc n 0 FU FU (by omega) (FU_gt (by omega)) (FU_gt (by omega))
    have y1' : C_firstCarer τ (nI i) (nI c) = some y := y1
    have y2' : M_carerOf s (nI i) (nI c) = some y := y2
    rw [C_care_L39, M_care_L33, if_neg e, if_neg e, y1', y2', bd_e, bd_e]
    rcases y3 with rfl | ⟨p, hp, rfl⟩
    · rw [if_pos rfl, if_pos rfl, bd_e, bd_e, nm_q, nm_q, nm_q, nI_1, Int32.or_zero]
      exact ih (i + 1) N1 N2 c 9 (by omega) (by omega) (by omega) hc
    · have n9 : ¬ nI p = (9 : Int32) := by show ¬ nI p = nI 9; rw [nI_eq' (by omega) (by omega)]; omega
      rw [if_neg n9, if_neg n9, nm_q, bd_e, bd_e, nm_q, nm_q, nm_q, nI_1, or7 (show c < 128 by omega) (by omega)]
      exact ih (i + 1) N1 N2 _ (nI p) (by omega) (by omega) (by omega) (orlt hc hp)
theorem r_care {n : Nat} {σ : CS} {o : Ob} (h : Rel n σ o) (p : Int32) : ok2 (C_care σ p) (M_care o p) := by
  have h7 := h.n7
  have H := h.t0
  unfold C_care M_care
  simp only [nm_p]
  generalize pS o 15 0 = u at H
  have zm : (-1 : Int32).toInt = -1 := by decide
  have z0 : (0 : Int32).toInt = 0 := by decide
  have z5 : (5 : Int32).toInt = 5 := by decide
  rw [M_inI, bd_p, show (-1 : Int64).toInt = -1 from rfl, show (4 : Int64).toInt = 4 from rfl]
  cases hp : rng p (-1) 4 with
  | false =>
    have hp' := of_decide_eq_false hp
    rw [b0]
    refine ⟨-1, σ, u, ?_, rfl, n, H⟩
    by_cases c : p < -1
    · rw [if_pos c]
    · have c' : ¬ p < 5 := by rw [fa_lt] at c ⊢; omega
      rw [if_neg c, if_neg c']
  | true =>
    have hp' := of_decide_eq_true hp
    have c1 : ¬ p < -1 := by rw [fa_lt]; omega
    have c2 : p < 5 := by rw [fa_lt]; omega
    obtain ⟨τ1, a1, a2⟩ := note_ok H
    obtain ⟨τ2, d1, d2, d3⟩ := weigh_ok H a2
    obtain ⟨s, m1, m2, m3⟩ := lay_ok H
    have R' : Rel n τ2 s := (H.c d2.1).m m2
    rw [b1, if_neg c1, if_pos c2, a1, bd_p, d1, bd_p, m1, bd_p]
    have p7 := pow7 h7
    have hpos : 0 < 2 ^ n := Nat.pow_pos (by decide)
    by_cases c0 : 0 ≤ p
    · obtain ⟨t, ht, rfl⟩ : ∃ t : Nat, t < 5 ∧ p = nI t := by
        rw [fa_le] at c0
        exact ⟨p.toInt.toNat, by omega, by rw [fa_eq, nI_toInt (by omega)]; omega⟩
      rw [if_pos c0]
      obtain ⟨y, y1, y2⟩ := care_loop H d2 d3 m2 m3 ht (fun (x3_13 : Int32) =>
            bd (C_noneIfNobody x3_13) fun (r14 : Int32) =>
            some (r14, τ2)) (fun (x3_12 : Int32) =>
        if (0 : Int32) ≤ nI t then
          bd (M_orNone s x3_12) fun (r14 : Int32) =>
          some (r14, s)
        else
          gd (inb (0 : Int32) 768) <|
          some ((ix (oA s 19) (0 : Int32)), s)) (t + 1) 0 FU FU 0 9 (by omega) (FU_gt (by omega)) (FU_gt (by omega)) hpos
      rw [nI_0] at y1 y2
      refine ⟨noneI y, τ2, s, ?_, ?_, n, R'⟩
      · rw [y1, C_none_ok', bd_e]
      · rw [y2, if_pos c0, M_none_ok', bd_e]
    · have ep : p = -1 := by
        rw [fa_le] at c0
        rw [fa_eq]; omega
      subst ep
      rw [if_neg c0]
      refine ⟨careW u n 5 0, τ2, s, ?_, ?_, n, R'⟩
      · have e := d3 0 (by omega) (by omega) 0 hpos
        rw [show inb (0 : Int32) 768 = true from by decide, gd_p, show ix (oA (τ2 0) 1) (0 : Int32) = oA (τ2 0) 1 0 from ix_nI (i := 0) (by decide), ← H.2.2.2.1.careW]
        exact congrArg (fun x => some (x, τ2)) e
      · have e := m3 0 (by omega) (by omega)
        rw [show FU = 9999 + 1 from rfl, M_care_L33, if_pos (show (-1 : Int32) < 0 by decide), if_neg (show ¬ (0 : Int32) ≤ -1 by decide), show inb (0 : Int32) 768 = true from by decide, gd_p, show ix (oA s 19) (0 : Int32) = oA s 19 0 from ix_nI (i := 0) (by decide)]
        exact congrArg (fun x => some (x, s)) e

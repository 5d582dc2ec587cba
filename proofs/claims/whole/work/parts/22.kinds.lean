/-! twelve bits -/
def B12 (x : Int32) : Prop := ∃ k, k < 4096 ∧ x = nI k
theorem nI_bv (x : Int32) : x = nI x.toBitVec.toNat := by
  apply Int32.toBitVec_inj.mp
  show x.toBitVec = BitVec.ofNat 32 x.toBitVec.toNat
  simp
theorem B12_and {x : Int32} (y : Int32) (h : B12 x) : B12 (x &&& y) := by
  obtain ⟨k, hk, rfl⟩ := h
  refine ⟨(nI k &&& y).toBitVec.toNat, ?_, nI_bv _⟩
  have e : (nI k &&& y).toBitVec = (nI k).toBitVec &&& y.toBitVec := rfl
  rw [e, BitVec.toNat_and]
  have h1 := pk_tn (n := k) (by omega)
  rw [h1]
  exact Nat.lt_of_le_of_lt Nat.and_le_left hk
theorem B12_or {x y : Int32} (h : B12 x) (h2 : B12 y) : B12 (x ||| y) := by
  obtain ⟨k, hk, rfl⟩ := h
  obtain ⟨j, hj, rfl⟩ := h2
  refine ⟨(nI k ||| nI j).toBitVec.toNat, ?_, nI_bv _⟩
  have e : (nI k ||| nI j).toBitVec = (nI k).toBitVec ||| (nI j).toBitVec := rfl
  rw [e, BitVec.toNat_or, pk_tn (by omega), pk_tn (by omega)]
  exact Nat.or_lt_two_pow (n := 12) hk hj
theorem B12_xor {x y : Int32} (h : B12 x) (h2 : B12 y) : B12 (x ^^^ y) := by
  obtain ⟨k, hk, rfl⟩ := h
  obtain ⟨j, hj, rfl⟩ := h2
  refine ⟨(nI k ^^^ nI j).toBitVec.toNat, ?_, nI_bv _⟩
  have e : (nI k ^^^ nI j).toBitVec = (nI k).toBitVec ^^^ (nI j).toBitVec := rfl
  rw [e, BitVec.toNat_xor, pk_tn (by omega), pk_tn (by omega)]
  exact Nat.xor_lt_two_pow (n := 12) hk hj
theorem B12_0 : B12 0 := ⟨0, by decide, rfl⟩
theorem B12_all : B12 4095 := ⟨4095, by decide, rfl⟩
theorem B12_bit {f : Nat} (h : f < 12) : B12 (shl32 1 (nI f)) := by
  rcases (show f = 0 ∨ f = 1 ∨ f = 2 ∨ f = 3 ∨ f = 4 ∨ f = 5 ∨ f = 6 ∨ f = 7 ∨ f = 8 ∨ f = 9 ∨ f = 10 ∨ f = 11 by omega) with rfl | rfl | rfl | rfl | rfl | rfl | rfl | rfl | rfl | rfl | rfl | rfl
  · exact ⟨1, by decide, by decide⟩
  · exact ⟨2, by decide, by decide⟩
  · exact ⟨4, by decide, by decide⟩
  · exact ⟨8, by decide, by decide⟩
  · exact ⟨16, by decide, by decide⟩
  · exact ⟨32, by decide, by decide⟩
  · exact ⟨64, by decide, by decide⟩
  · exact ⟨128, by decide, by decide⟩
  · exact ⟨256, by decide, by decide⟩
  · exact ⟨512, by decide, by decide⟩
  · exact ⟨1024, by decide, by decide⟩
  · exact ⟨2048, by decide, by decide⟩
theorem ones_b (o : Ob) {x : Int32} (h : B12 x) : M_onesOf o x = some (pcI x) := by
  obtain ⟨k, hk, rfl⟩ := h
  exact ones12 o hk
theorem noTop_b (o : Ob) {x : Int32} (h : B12 x) : M_withoutGreatest o x = some (noTop x) := by
  obtain ⟨k, hk, rfl⟩ := h
  exact noTop12 o hk
theorem B12_noTop {x : Int32} (h : B12 x) : B12 (noTop x) := B12_and _ h
theorem pc_0 {x : Int32} (h : B12 x) : (pcI x = 0) = (x = 0) := by
  obtain ⟨k, hk, rfl⟩ := h
  have h1 := all64 (f := fun k => decide ((pcI (nI k) = 0) ↔ (nI k = 0))) (by decide +kernel) k hk
  exact propext (of_decide_eq_true h1)
theorem serv {x : Int32} (h : B12 x) : max32 0 (pcI x + pcI (x &&& 4032) - 1) = if pcI x + pcI (x &&& 4032) = 0 then 0 else pcI x + pcI (x &&& 4032) - 1 := by
  obtain ⟨k, hk, rfl⟩ := h
  have h1 := all64 (f := fun k => decide (max32 0 (pcI (nI k) + pcI (nI k &&& 4032) - 1) = if pcI (nI k) + pcI (nI k &&& 4032) = 0 then 0 else pcI (nI k) + pcI (nI k &&& 4032) - 1)) (by decide +kernel) k hk
  exact of_decide_eq_true h1
/-! the kinds: their words are the class's own -/
def tellS (k f a b : Int32) : Int32 := (KD_tells k f a b).getD 0
def lesS (k f d w : Int32) : Int32 := (KD_lessons k f d w).getD 0
def nxtS (k a b : Int32) : Int32 := (KD_nextFact k a b).getD 0
def frgS (k d : Int32) : Int32 := (KD_forgets k d).getD 0
def priS (k f : Int32) : Int32 := (KD_price k f).getD 0
def kd8 (k : Int32) : Prop := ∃ j, j < 8 ∧ k = nI j
theorem k8' {k : Int32} (h : kd8 k) : k = 0 ∨ k = 1 ∨ k = 2 ∨ k = 3 ∨ k = 4 ∨ k = 5 ∨ k = 6 ∨ k = 7 := by
  obtain ⟨j, hj, rfl⟩ := h
  rcases (show j = 0 ∨ j = 1 ∨ j = 2 ∨ j = 3 ∨ j = 4 ∨ j = 5 ∨ j = 6 ∨ j = 7 by omega) with rfl | rfl | rfl | rfl | rfl | rfl | rfl | rfl <;> decide
theorem tell_some {k : Int32} (h : kd8 k) (f a b : Int32) : KD_tells k f a b = some (tellS k f a b) := by
  rcases k8' h with rfl | rfl | rfl | rfl | rfl | rfl | rfl | rfl
  · rfl
  · show K4_tells f a b = some ((K4_tells f a b).getD 0)
    unfold K4_tells; split <;> rfl
  · rfl
  · rfl
  · show K1_tells f a b = some ((K1_tells f a b).getD 0)
    unfold K1_tells K4_tells; split <;> rfl
  · rfl
  · rfl
  · rfl
theorem les_some {k : Int32} (h : kd8 k) (f d w : Int32) : KD_lessons k f d w = some (lesS k f d w) := by
  rcases k8' h with rfl | rfl | rfl | rfl | rfl | rfl | rfl | rfl
  · rfl
  · show K4_lessons f d w = some ((K4_lessons f d w).getD 0)
    unfold K4_lessons; split <;> rfl
  · rfl
  · show K6_lessons f d w = some ((K6_lessons f d w).getD 0)
    unfold K6_lessons; split <;> rfl
  · show K4_lessons f d w = some ((K4_lessons f d w).getD 0)
    unfold K4_lessons; split <;> rfl
  · rfl
  · rfl
  · rfl
theorem nxt_some {k : Int32} (h : kd8 k) (a b : Int32) : KD_nextFact k a b = some (nxtS k a b) := by
  rcases k8' h with rfl | rfl | rfl | rfl | rfl | rfl | rfl | rfl <;> rfl
theorem frg_some {k : Int32} (h : kd8 k) (d : Int32) : KD_forgets k d = some (frgS k d) := by
  rcases k8' h with rfl | rfl | rfl | rfl | rfl | rfl | rfl | rfl
  · rfl
  · show K4_forgets d = some ((K4_forgets d).getD 0)
    unfold K4_forgets; split <;> rfl
  · rfl
  · rfl
  · show K4_forgets d = some ((K4_forgets d).getD 0)
    unfold K4_forgets; split <;> rfl
  · rfl
  · rfl
  · show K4_forgets d = some ((K4_forgets d).getD 0)
    unfold K4_forgets; split <;> rfl
theorem pri_some {k : Int32} (h : kd8 k) (f : Int32) : KD_price k f = some (priS k f) := by
  rcases k8' h with rfl | rfl | rfl | rfl | rfl | rfl | rfl | rfl <;> rfl
theorem it_sm {c : Prop} [Decidable c] {α : Type} {a b : α} : (if c then some a else some b) = some (if c then a else b) := by split <;> rfl
/-- the reference's story is the class's -/
theorem M_storyBy_ok' (o : Ob) {p : Nat} {a b : Int32} (hp : p < 7) (hk : kd8 (oA o 4 p)) (ha : B12 a) : M_storyBy o (nI p) a b = some (tellS (oA o 4 p) (oA o 5 p) (a &&& b) (a &&& (b ^^^ (-1)))) := by
  have h1 := B12_and b ha
  have h2 := B12_and 4032 h1
  have h3 := B12_and (b ^^^ (-1)) ha
  unfold M_storyBy
  have i1 : inb (nI p) 7 = true := inb_nI hp (by decide)
  have x4 : ix (oA o 4) (nI p) = oA o 4 p := ix_nI (by omega)
  have x5 : ix (oA o 5) (nI p) = oA o 5 p := ix_nI (by omega)
  rw [ones_b o h1, ones_b o h2, ones_b o h3, i1, x4, x5]
  show bd (if pcI (a &&& b) = 0 then some 0 else some (pcI (a &&& b) + oA o 5 p / 3)) _ = _
  rw [it_sm]
  rcases k8' hk with e | e | e | e | e | e | e | e <;> rw [e]
  · rfl
  · show some (if pcI (a &&& b) = 0 then 0 else pcI (a &&& b) + oA o 5 p / 3) = some ((K4_tells (oA o 5 p) (a &&& b) (a &&& (b ^^^ (-1)))).getD 0)
    unfold K4_tells
    simp only [pc_0 h1, bitCount_some, bd_e]
    by_cases h0 : a &&& b = 0 <;> simp only [h0, if_true, if_false, Option.getD_some]
  · rfl
  · rfl
  · show (if pcI (a &&& b) = 0 then some 0 else some ((if pcI (a &&& b) = 0 then 0 else pcI (a &&& b) + oA o 5 p / 3) + 2)) = some ((K1_tells (oA o 5 p) (a &&& b) (a &&& (b ^^^ (-1)))).getD 0)
    unfold K1_tells K4_tells
    simp only [pc_0 h1, bitCount_some, bd_e]
    by_cases h0 : a &&& b = 0 <;> simp only [h0, if_true, if_false, bd_e, Option.getD_some]
  · rfl
  · show (if pcI (a &&& b) + pcI (a &&& b &&& 4032) = 0 then some 0 else some (pcI (a &&& b) + pcI (a &&& b &&& 4032) - 1)) = some ((K0_tells (oA o 5 p) (a &&& b) (a &&& (b ^^^ (-1)))).getD 0)
    unfold K0_tells K6_tells
    simp only [bitCount_some, bd_e, serv h1, Option.getD_some, it_sm]
  · rfl

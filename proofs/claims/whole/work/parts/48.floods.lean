/-! floods by odds -/
def floodStep (i : Nat) (t : Ob) : Ob := setK t i (oA t 7 i &&& (oA t 7 i - 1))
def floodS (n : Nat) (t : Ob) : Ob := foldN floodStep t (5 * n)
theorem flood_S {n j : Nat} {t : Ob} : oS (floodS n t) j = oS t j := foldN_inv (P := fun _ s => oS s j = oS t j) rfl _ (fun _ s _ h => setK_S.trans h)
theorem AEq.flood {t o : Ob} (e : AEq t o) {n : Nat} : AEq (floodS n t) (floodS n o) := foldN_rel (R := AEq) e _ (fun i s t _ q => by
  unfold floodStep
  rw [q 7 (by decide) (by decide)]
  exact q.uK)
theorem flood_wf {n : Nat} {t : Ob} (w : wfA n t) : wfA n (floodS n t) := by
  have h7 := w.n7
  exact foldN_inv (P := fun _ s => wfA n s) w _ (fun i s hi q => q.setK (by omega) (B12_and _ (q.kno (by omega))))
theorem zb_flood {n : Nat} {t : Ob} (h7 : n ≤ 7) (z : zb t) : zb (floodS n t) := foldN_inv (P := fun _ s => zb s) z _ (fun i s hi q => zb_pA q (by omega) (Or.inl (show i < 35 by omega)))
theorem TH.flood {n : Nat} {o u : Ob} (h7 : n ≤ 7) (t : TH o u) : TH o (floodS n u) := foldN_inv (P := fun _ s => TH o s) t _ (fun i s hi q => q.pA (by omega) (Or.inl ⟨by decide, by decide, show i < 35 by omega⟩))
theorem T_flood_ok' {n : Nat} {t : Ob} (h7 : n ≤ 7) (hn : oS t 1 = nI n) : T_flood t = some (floodS n t) := by
  have e5 : nI n * (5 : Int32) = nI (5 * n) := by rw [lit32, pk_mul, Nat.mul_comm]
  refine (up_loop (L := fun N s i => T_flood_L2 N s (nI i)) (5 * n) floodStep (fun _ s => oS s 1 = nI n) some ?_ ?_ t hn FU (FU_gt (by omega))).1
  · intro N i s hi hs
    refine ⟨?_, setK_S.trans hs⟩
    show T_flood_L2 (N + 1) s (nI i) = T_flood_L2 N _ (nI (i + 1))
    rw [T_flood_L2, hs, e5, if_neg (by rw [nI_le' (by omega) (by omega)]; omega), inb_nI (show i < 35 by omega) (by decide), gd_t, gd_t, gd_t, nm_q, nm_q, nI_1, ix_nI (by omega)]
    rfl
  · intro N s hs
    show T_flood_L2 (N + 1) s (nI (5 * n)) = some s
    rw [T_flood_L2, hs, e5, if_pos (by rw [nI_le' (by omega) (by omega)]; omega)]
/-- in how many ways one owns it at last -/
def FV (n U : Nat) (P : Int32) (h : Nat) : Nat → Int32 → Ob → Nat
  | 0, _, T => if oA T 3 h = P then 1 else 0
  | k + 1, d, T => (U - 1) * FV n U P h k (d + nI 1) (iterD n d T 1) + FV n U P h k (d + nI 1) (iterD n d (floodS n T) 1)
theorem FV_le {n U : Nat} {P : Int32} {h : Nat} (hU : 1 ≤ U) : ∀ k d T, FV n U P h k d T ≤ U ^ k
  | 0, d, T => by
    show (if oA T 3 h = P then 1 else 0) ≤ 1
    split <;> omega
  | k + 1, d, T => by
    have a := FV_le (n := n) (P := P) (h := h) hU k (d + nI 1) (iterD n d T 1)
    have b := FV_le (n := n) (P := P) (h := h) hU k (d + nI 1) (iterD n d (floodS n T) 1)
    show (U - 1) * FV n U P h k (d + nI 1) (iterD n d T 1) + FV n U P h k (d + nI 1) (iterD n d (floodS n T) 1) ≤ U ^ k * U
    have e : U ^ k * U = (U - 1) * U ^ k + U ^ k := by
      rw [Nat.mul_comm (U ^ k) U]
      have := Nat.succ_mul (U - 1) (U ^ k)
      rw [show (U - 1).succ = U by omega] at this
      exact this
    rw [e]
    exact Nat.add_le_add (Nat.mul_le_mul_left _ a) b
theorem isDay.one {n : Nat} {d : Int32} {t u : Ob} (h : isDay n d t 1 u) : isDay n (d + nI 1) (iterD n d t 1) 0 u := ⟨h.1, by rw [h.2.1, nI_0, Int32.add_zero], h.2.2⟩
theorem isDayM.one {n : Nat} {d : Int32} {t u : Ob} (h : isDayM n d t 1 u) : isDayM n (d + nI 1) (iterD n d t 1) 0 u := ⟨h.1, by rw [h.2.1, nI_0, Int32.add_zero], h.2.2⟩
theorem isDay.fl {n : Nat} {d : Int32} {t u : Ob} (h : isDay n d t 0 u) : isDay n d (floodS n t) 0 (floodS n u) := ⟨flood_S.trans h.1, flood_S.trans h.2.1, h.2.2.flood⟩
theorem isDayM.fl {n : Nat} {d : Int32} {t u : Ob} (h : isDayM n d t 0 u) : isDayM n d (floodS n t) 0 (floodS n u) := ⟨flood_S.trans h.1, flood_S.trans h.2.1, h.2.2.flood⟩
theorem ways_ok {n U p h : Nat} {σ : CS} {o : Ob} (R : Rel n σ o) (hU : 1 ≤ U ∧ U ≤ 20) (hh : h < 5) : ∀ k dep N d T (τ : CS), dep + k ≤ 7 → k < N → visC σ τ → wfA n T → zb T → isDay n d T 0 (τ (3 + dep)) → ∃ τ', C_floodWays N τ (nI dep) (nI k) (nI U) (nI p) (nI h) = some (lN (FV n U (nI p) h k d T), τ') ∧ visC σ τ' ∧ ∀ a, 3 ≤ a → a ≤ 3 + dep → τ' a = τ a := by
  have h7 := R.n7
  intro k
  induction k with
  | zero =>
    intro dep N d T τ hd hN hv w z hc
    obtain ⟨N, rfl⟩ : ∃ m, N = m + 1 := ⟨N - 1, by omega⟩
    refine ⟨τ, ?_, hv, fun _ _ _ => rfl⟩
    have e3 : oA (τ (3 + dep)) 3 = oA T 3 := hc.2.2 3 (by decide) (by decide)
    rw [C_floodWays, inb_nI (show dep < 8 by omega) (by decide), gd_t, jn_e, if_pos (show nI 0 ≤ (0 : Int32) by decide), inb_nI hh (by decide), gd_t, nI_clamp (by omega), ix_nI (by omega), e3]
    show (if oA T 3 h = nI p then some ((1 : Int64), τ) else some ((0 : Int64), τ)) = some (lN (if oA T 3 h = nI p then 1 else 0), τ)
    split <;> rfl
  | succ k ih =>
    intro dep N d T τ hd hN hv w z hc
    obtain ⟨N, rfl⟩ : ∃ m, N = m + 1 := ⟨N - 1, by omega⟩
    have zh : zb (τ (3 + dep)) := hv.2.2.2.1 _ (by omega) (by omega) (R.2.2.2.2.1 _ (by omega) (by omega))
    have zn : zb (τ (3 + (dep + 1))) := hv.2.2.2.1 _ (by omega) (by omega) (R.2.2.2.2.1 _ (by omega) (by omega))
    obtain ⟨v, a1, a2, a3, a4, a5⟩ := T_takeFrom_ok' zn zh
    have dv : isDay n d T 0 v := ⟨a2.trans hc.1, a3.trans hc.2.1, a4.tr hc.2.2⟩
    obtain ⟨f, v1, c1, c2, -⟩ := T_pass_day w dv
    have zv1 : zb v1 := c2.zb w z
    have hv1 : visC σ (va_up τ (3 + (dep + 1)) v1) := hv.tr (visC_mind (by omega) zv1)
    have w1 : wfA n (iterD n d T 1) := iter_wf w 1
    have z1 : zb (iterD n d T 1) := zb_iter w z 1
    obtain ⟨τ1, g1, g2, g3⟩ := ih (dep + 1) N (d + nI 1) (iterD n d T 1) (va_up τ (3 + (dep + 1)) v1) (by omega) (by omega) hv1 w1 z1 (by rw [vu_at]; exact c2.one)
    have e0 : τ1 (3 + dep) = τ (3 + dep) := (g3 _ (by omega) (by omega)).trans (vu_ne (by omega))
    have e1 : τ1 (3 + (dep + 1)) = v1 := (g3 _ (by omega) (by omega)).trans vu_at
    obtain ⟨x, b1, b2, b3, b4, b5⟩ := T_takeFrom_ok' (t := τ1 (3 + (dep + 1))) (u := τ1 (3 + dep)) (by rw [e1]; exact zv1) (by rw [e0]; exact zh)
    rw [e0] at b2 b3 b4
    have dx : isDay n d T 0 x := ⟨b2.trans hc.1, b3.trans hc.2.1, b4.tr hc.2.2⟩
    have wf : wfA n (floodS n T) := flood_wf w
    have zf : zb (floodS n T) := zb_flood h7 z
    obtain ⟨f2, x1, k1, k2, -⟩ := T_pass_day wf dx.fl
    have zx1 : zb x1 := k2.zb wf zf
    have hx1 : visC σ (va_up τ1 (3 + (dep + 1)) x1) := g2.tr (visC_mind (by omega) zx1)
    have w2 : wfA n (iterD n d (floodS n T) 1) := iter_wf wf 1
    have z2 : zb (iterD n d (floodS n T) 1) := zb_iter wf zf 1
    obtain ⟨τ2, l1, l2, l3⟩ := ih (dep + 1) N (d + nI 1) (iterD n d (floodS n T) 1) (va_up τ1 (3 + (dep + 1)) x1) (by omega) (by omega) hx1 w2 z2 (by rw [vu_at]; exact k2.one)
    refine ⟨τ2, ?_, l2, fun a h3 hle => ?_⟩
    · have n0 : ¬ nI (k + 1) ≤ (0 : Int32) := nI_nle (by omega) (by omega)
      have l7 : nI dep < (7 : Int32) := by show nI dep < nI 7; rw [nI_lt' (by omega) (by omega)]; omega
      have eU : (nI U - (1 : Int32)).toInt64 = lN (U - 1) := by
        rw [show (1 : Int32) = nI 1 from rfl, pk_sub hU.1, nI_l (by omega)]
      rw [C_floodWays, inb_nI (show dep < 8 by omega) (by decide), gd_t, jn_e, if_neg n0, if_pos l7, nI_1, inb_nI (show dep + 1 < 8 by omega) (by decide), gd_t, nI_clamp (show dep < 2 ^ 31 by omega), nI_clamp (show dep + 1 < 2 ^ 31 by omega), a1, bd_e, nm_q, vu_at, c1, bd2_e, nm_q, vu_vu, nI_pred, g1, bd2_e, b1, bd_e, nm_q, vu_at, T_flood_ok' h7 dx.1, bd_e, nm_q, vu_vu, vu_at, k1, bd2_e, nm_q, vu_vu, l1, bd2_e, eU, lN_mul, lN_add]
      rfl
    · rw [l3 a h3 (by omega), vu_ne (by omega), g3 a h3 (by omega), vu_ne (by omega)]
/-! the reference: over all the ways of the days -/
def term (n U : Nat) (P : Int32) (h : Nat) : Nat → Nat → Int32 → Ob → Nat
  | 0, _, _, T => if oA T 3 h = P then 1 else 0
  | k + 1, w, d, T => if w % 2 = 1 then term n U P h k (w / 2) (d + nI 1) (iterD n d (floodS n T) 1) else (U - 1) * term n U P h k (w / 2) (d + nI 1) (iterD n d T 1)
def sumN (f : Nat → Nat) (m : Nat) : Nat := foldN (fun w s => s + f w) 0 m
theorem sumN_s (f : Nat → Nat) (m : Nat) : sumN f (m + 1) = sumN f m + f m := rfl
theorem sum2 (f : Nat → Nat) : ∀ m, sumN f (2 * m) = sumN (fun w => f (2 * w)) m + sumN (fun w => f (2 * w + 1)) m
  | 0 => rfl
  | m + 1 => by
    have ih := sum2 f m
    rw [show 2 * (m + 1) = 2 * m + 1 + 1 by omega, sumN_s, sumN_s, sumN_s, sumN_s, ih]
    omega
theorem sum_c (f g : Nat → Nat) (h : ∀ w, f w = g w) (m : Nat) : sumN f m = sumN g m := by
  rw [show f = g from funext h]
theorem sum_m (c : Nat) (f : Nat → Nat) : ∀ m, sumN (fun w => c * f w) m = c * sumN f m
  | 0 => rfl
  | m + 1 => by
    rw [sumN_s, sumN_s, sum_m c f m, Nat.mul_add]
theorem FV_sum {n U : Nat} {P : Int32} {h : Nat} : ∀ k d T, FV n U P h k d T = sumN (fun w => term n U P h k w d T) (2 ^ k)
  | 0, d, T => by
    show _ = 0 + (if oA T 3 h = P then 1 else 0)
    rw [Nat.zero_add]; rfl
  | k + 1, d, T => by
    rw [Nat.pow_succ, Nat.mul_comm (2 ^ k) 2, sum2]
    rw [sum_c _ (fun w => (U - 1) * term n U P h k w (d + nI 1) (iterD n d T 1)) (fun w => by
      show (if 2 * w % 2 = 1 then _ else _) = _
      rw [if_neg (by omega), show 2 * w / 2 = w by omega])]
    rw [sum_c (fun w => term n U P h (k + 1) (2 * w + 1) d T) (fun w => term n U P h k w (d + nI 1) (iterD n d (floodS n T) 1)) (fun w => by
      show (if (2 * w + 1) % 2 = 1 then _ else _) = _
      rw [if_pos (by omega), show (2 * w + 1) / 2 = w by omega])]
    rw [sum_m, ← FV_sum k, ← FV_sum k]
    rfl
theorem bitq {c p : Nat} (hc : c < 128) (hp : p < 7) : (c.testBit p = true) = (c / 2 ^ p % 2 = 1) := by
  have h := (List.all_eq_true.mp (List.all_eq_true.mp (show ((List.range 128).all fun c => (List.range 7).all fun p => decide (c.testBit p = true ↔ c / 2 ^ p % 2 = 1)) = true by decide +kernel) c (List.mem_range.mpr hc))) p (List.mem_range.mpr hp)
  exact propext (of_decide_eq_true h)
theorem wet_fl {n j wet : Nat} {s : Ob} {a1 a2 a3 a4 a5 : Int32} {a6 a8 a11 : Int64} (h7 : n ≤ 7) (hn : oS s 3 = nI n) (hw : wet < 128) (hj : j < 7) (K : Ob → Option (Int64 × Ob)) : M_floods_L145 K a1 a2 a3 a4 a5 a6 a8 (nI wet) a11 (nI j) FU s 0 = K (if wet.testBit j = true then floodS n s else s) := by
  have e5 : (5 : Int32) * nI n = nI (5 * n) := by rw [lit32, pk_mul]
  by_cases b : wet.testBit j = true
  · rw [if_pos b]
    refine (up_loop (L := fun N s i => M_floods_L145 K a1 a2 a3 a4 a5 a6 a8 (nI wet) a11 (nI j) N s (nI i)) (5 * n) floodStep (fun _ s => oS s 3 = nI n) K ?_ ?_ s hn FU (FU_gt (by omega))).1
    · intro N i s hi hs
      refine ⟨?_, setK_S.trans hs⟩
      show M_floods_L145 K a1 a2 a3 a4 a5 a6 a8 (nI wet) a11 (nI j) (N + 1) s (nI i) = M_floods_L145 K a1 a2 a3 a4 a5 a6 a8 (nI wet) a11 (nI j) N _ (nI (i + 1))
      rw [M_floods_L145, hs, e5, if_neg (by rw [nI_le' (by omega) (by omega)]; omega), hb7 s hw hj, bd_e, if_pos b, if_neg (by decide), inb_nI (show i < 35 by omega) (by decide), gd_t, gd_t, gd_t, nm_q, nm_q, nI_1, ix_nI (by omega)]
      rfl
    · intro N s hs
      show M_floods_L145 K a1 a2 a3 a4 a5 a6 a8 (nI wet) a11 (nI j) (N + 1) s (nI (5 * n)) = K s
      rw [M_floods_L145, hs, e5, if_pos (by rw [nI_le' (by omega) (by omega)]; omega)]
  · rw [if_neg b, show FU = 9999 + 1 from rfl, M_floods_L145, hb7 s hw hj, bd_e, if_neg b, if_pos rfl, ite_self]
theorem wet_days {n U p h m wet : Nat} {σ : CS} {o : Ob} {a5 : Int32} {a6 a8 : Int64} (R : Rel n σ o) (hU : 1 ≤ U ∧ U ≤ 20) (hm : m ≤ 7) (hw : wet < 128) (K : Int64 → Ob → Option (Int64 × Ob)) : ∀ r j N (s : Ob) (acc : Nat) d T, j + r = m → r < N → TH o s → wfA n T → zb T → isDayM n d T 0 s →
    ∃ s' acc', M_floods_L112 K (nI p) (nI h) (nI m) (nI U) a5 a6 a8 (nI wet) N s (lN acc) (nI j) = K (lN acc') s' ∧ TH o s' ∧ acc' * (if oA s' 3 h = nI p then 1 else 0) = acc * term n U (nI p) h r (wet / 2 ^ j) d T := by
  have h7 := R.n7
  intro r
  induction r with
  | zero =>
    intro j N s acc d T hj hN ht w z hd
    obtain ⟨N, rfl⟩ : ∃ m, N = m + 1 := ⟨N - 1, by omega⟩
    refine ⟨s, acc, ?_, ht, ?_⟩
    · rw [M_floods_L112, if_pos (by rw [nI_le' (by omega) (by omega)]; omega)]
    · have e3 : oA s 3 = oA T 3 := hd.2.2 3 (by decide) (by decide)
      rw [e3]; rfl
  | succ r ih =>
    intro j N s acc d T hj hN ht w z hd
    obtain ⟨N, rfl⟩ : ∃ m, N = m + 1 := ⟨N - 1, by omega⟩
    have eU : (nI U - (1 : Int32)).toInt64 = lN (U - 1) := by
      rw [show (1 : Int32) = nI 1 from rfl, pk_sub hU.1, nI_l (by omega)]
    have ed : wet / 2 ^ j / 2 = wet / 2 ^ (j + 1) := by rw [Nat.div_div_eq_div_mul, Nat.pow_succ]
    rw [M_floods_L112, if_neg (by rw [nI_le' (by omega) (by omega)]; omega), hb7 s hw (show j < 7 by omega), bd_e]
    by_cases b : wet.testBit j = true
    · have bq : wet / 2 ^ j % 2 = 1 := by rw [bitq hw (by omega)] at b; exact b
      have wf : wfA n (floodS n T) := flood_wf w
      have zf : zb (floodS n T) := zb_flood h7 z
      obtain ⟨v, v1, v2, v3⟩ := M_dayOn_day wf hd.fl
      have tv : TH o v := (ht.flood h7).rest v3 (v2.zb wf zf)
      obtain ⟨s', acc', g1, g2, g3⟩ := ih (j + 1) N v acc (d + nI 1) (iterD n d (floodS n T) 1) (by omega) (by omega) tv (iter_wf wf 1) (zb_iter wf zf 1) v2.one
      refine ⟨s', acc', ?_, g2, ?_⟩
      · rw [if_pos b, if_neg (by decide), bd_e, nm_q, wet_fl h7 hd.1 hw (show j < 7 by omega), if_pos b, v1, bd_e, nm_q, nI_1, show lN acc * (1 : Int64) = lN acc by rw [show (1 : Int64) = lN 1 from rfl, lN_mul, Nat.mul_one]]
        exact g1
      · rw [g3, ← ed]
        show _ = acc * (if wet / 2 ^ j % 2 = 1 then _ else _)
        rw [if_pos bq]
    · have bq : ¬ wet / 2 ^ j % 2 = 1 := by rw [bitq hw (by omega)] at b; exact b
      obtain ⟨v, v1, v2, v3⟩ := M_dayOn_day w hd
      have tv : TH o v := ht.rest v3 (v2.zb w z)
      obtain ⟨s', acc', g1, g2, g3⟩ := ih (j + 1) N v (acc * (U - 1)) (d + nI 1) (iterD n d T 1) (by omega) (by omega) tv (iter_wf w 1) (zb_iter w z 1) v2.one
      refine ⟨s', acc', ?_, g2, ?_⟩
      · rw [if_neg b, if_pos rfl, bd_e, nm_q, wet_fl h7 hd.1 hw (show j < 7 by omega), if_neg b, v1, bd_e, nm_q, nI_1, eU, lN_mul]
        exact g1
      · rw [g3, ← ed]
        show _ = acc * (if wet / 2 ^ j % 2 = 1 then _ else _)
        rw [if_neg bq, Nat.mul_assoc]
theorem wet_all {n U p h m : Nat} {σ : CS} {o s : Ob} {a5 : Int32} {a8 : Int64} (R : Rel n σ o) (hU : 1 ≤ U ∧ U ≤ 20) (hm : m ≤ 7) (hh : h < 5) (ht : TH o s) (ha : AEq s o) (hv : visM o s) (K : Int64 → Ob → Option (Int64 × Ob)) : ∃ s', M_floods_L98 K (nI p) (nI h) (nI m) (nI U) a5 a8 FU s 0 0 = K (lN (FV n U (nI p) h m (oS o 8) (σ 1))) s' ∧ visM o s' := by
  have h7 := R.n7
  have p7 := pow7 hm
  obtain ⟨s', e, h1, h2, h3, h4⟩ := up_loopE (S := Ob × Int64) (L := fun N s i => M_floods_L98 K (nI p) (nI h) (nI m) (nI U) a5 a8 N s.1 s.2 (nI i)) (2 ^ m) (fun i s => TH o s.1 ∧ AEq s.1 o ∧ visM o s.1 ∧ s.2 = lN (sumN (fun w => term n U (nI p) h m w (oS o 8) (σ 1)) i)) (fun s => K s.2 s.1) (by
    intro N i s hi ⟨q1, q2, q3, q4⟩
    have dM : isDayM n (oS o 8) (σ 1) 0 s.1 := think_day R q3 q2
    obtain ⟨s1, acc, g1, g2, g3⟩ := wet_days (p := p) (h := h) (a5 := a5) (a6 := s.2) (a8 := a8) R hU hm (show i < 128 by omega) (fun (x11_37 : Int64) (o38 : Ob) =>
          gd (inb (nI h) 5) <|
          bd (
            if (ix (oA o38 3) (nI h)) = nI p then
              some x11_37
            else
              some (0 : Int64)) fun (s41 : Int64) =>
          nm (s.2 + s41) fun v42 =>
          bd (M_again o38) fun (o43 : Ob) =>
          nm (nI i + (1 : Int32)) fun v44 =>
          M_floods_L98 K (nI p) (nI h) (nI m) (nI U) a5 a8 N o43 v42 v44) m 0 FU s.1 1 (oS o 8) (σ 1) (by omega) (FU_gt (by omega)) q1 R.wf R.1.2.2.2.2 dM
    obtain ⟨x, x1, x2, x3, x4⟩ := M_again_ok' R.zo g2
    have e0 : i / 2 ^ 0 = i := by rw [Nat.pow_zero, Nat.div_one]
    rw [e0, Nat.one_mul] at g3
    refine ⟨(x, lN (sumN (fun w => term n U (nI p) h m w (oS o 8) (σ 1)) (i + 1))), ?_, x2, x4, x3, rfl⟩
    show M_floods_L98 K (nI p) (nI h) (nI m) (nI U) a5 a8 (N + 1) s.1 s.2 (nI i) = M_floods_L98 K (nI p) (nI h) (nI m) (nI U) a5 a8 N x _ (nI (i + 1))
    rw [M_floods_L98, shl7 hm, if_neg (by rw [nI_le' (by omega) (by omega)]; omega)]
    have g1' := g1
    rw [nI_0, show lN 1 = (1 : Int64) from rfl] at g1'
    rw [g1', inb_nI hh (by decide), gd_t, ix_nI (by omega)]
    have ei : (if oA s1 3 h = nI p then some (lN acc) else some (0 : Int64)) = some (lN (acc * (if oA s1 3 h = nI p then 1 else 0))) := by
      by_cases c : oA s1 3 h = nI p
      · rw [if_pos c, if_pos c, Nat.mul_one]
      · rw [if_neg c, if_neg c, Nat.mul_zero]; rfl
    rw [ei, g3, bd_e, nm_q, x1, bd_e, nm_q, nI_1, q4, lN_add]
    rfl) (by
    intro N s _
    show M_floods_L98 K (nI p) (nI h) (nI m) (nI U) a5 a8 (N + 1) s.1 s.2 (nI (2 ^ m)) = K s.2 s.1
    rw [M_floods_L98, shl7 hm, if_pos (by rw [nI_le' (by omega) (by omega)]; omega)]) (s, 0) ⟨ht, ha, hv, rfl⟩ FU (FU_gt (by omega))
  refine ⟨s'.1, ?_, h3⟩
  rw [FV_sum, ← h4]
  exact e
theorem pow_loopC {σ : CS} {U m : Nat} {a1 a2 a5 : Int32} (hU : U < 2 ^ 31) (hm : m ≤ 7) (K : Int64 → Option (Int64 × CS)) : C_floods_L59 K σ a1 a2 (nI m) (nI U) a5 FU 1 0 = K (lN (U ^ m)) := by
  obtain ⟨s, e, es⟩ := up_loopE (L := fun N s i => C_floods_L59 K σ a1 a2 (nI m) (nI U) a5 N s (nI i)) m (fun i s => s = lN (U ^ i)) K (by
    intro N i s hi es
    refine ⟨lN (U ^ (i + 1)), ?_, rfl⟩
    show C_floods_L59 K σ a1 a2 (nI m) (nI U) a5 (N + 1) s (nI i) = C_floods_L59 K σ a1 a2 (nI m) (nI U) a5 N _ (nI (i + 1))
    rw [C_floods_L59, if_neg (by rw [nI_le' (by omega) (by omega)]; omega), es, nI_l hU, lN_mul, nm_q, nm_q, nI_1, Nat.pow_succ]) (by
    intro N s _
    show C_floods_L59 K σ a1 a2 (nI m) (nI U) a5 (N + 1) s (nI m) = K s
    rw [C_floods_L59, if_pos (by rw [nI_le' (by omega) (by omega)]; omega)]) 1 rfl FU (FU_gt (by omega))
  rw [← es]
  exact e
theorem pow_loopM {o : Ob} {U m : Nat} {a1 a2 a5 : Int32} {a6 : Int64} (hU : U < 2 ^ 31) (hm : m ≤ 7) (K : Int64 → Option (Int64 × Ob)) : M_floods_L71 K o a1 a2 (nI m) (nI U) a5 a6 FU 1 0 = K (lN (U ^ m)) := by
  obtain ⟨s, e, es⟩ := up_loopE (L := fun N s i => M_floods_L71 K o a1 a2 (nI m) (nI U) a5 a6 N s (nI i)) m (fun i s => s = lN (U ^ i)) K (by
    intro N i s hi es
    refine ⟨lN (U ^ (i + 1)), ?_, rfl⟩
    show M_floods_L71 K o a1 a2 (nI m) (nI U) a5 a6 (N + 1) s (nI i) = M_floods_L71 K o a1 a2 (nI m) (nI U) a5 a6 N _ (nI (i + 1))
    rw [M_floods_L71, if_neg (by rw [nI_le' (by omega) (by omega)]; omega), es, nI_l hU, lN_mul, nm_q, nm_q, nI_1, Nat.pow_succ]) (by
    intro N s _
    show M_floods_L71 K o a1 a2 (nI m) (nI U) a5 a6 (N + 1) s (nI m) = K s
    rw [M_floods_L71, if_pos (by rw [nI_le' (by omega) (by omega)]; omega)]) 1 rfl FU (FU_gt (by omega))
  rw [← es]
  exact e
theorem r_floods {n : Nat} {σ : CS} {o : Ob} (h : Rel n σ o) (p1 p2 p3 p4 p5 : Int32) : ok2 (C_floods σ p1 p2 p3 p4 p5) (M_floods o p1 p2 p3 p4 p5) := by
  have h7 := h.n7
  have H := h.t0
  unfold C_floods M_floods
  simp only [nm_p]
  generalize pS o 15 0 = u at H
  have z2 : (2 : Int32).toInt = 2 := by decide
  have z20 : (20 : Int32).toInt = 20 := by decide
  rw [T_hasOne_ok' h.1.2.1 h7, M_isOne_ok' H.2.1 h7, bd_e, bd_e]
  cases hp : rng p1 0 ((n : Int) - 1) with
  | false => exact ⟨1000000001, σ, u, rfl, rfl, n, H⟩
  | true =>
    rw [b1, b1, C_isThing_ok', M_isThing_ok', bd_e, bd_e]
    cases hq : rng p2 0 4 with
    | false => exact ⟨1000000001, σ, u, rfl, rfl, n, H⟩
    | true =>
      rw [b1, b1, C_within_ok', M_inI, bd_e, bd_e, show (7 : Int32).toInt = 7 from rfl, show (0 : Int64).toInt = 0 from rfl, show (7 : Int64).toInt = 7 from rfl]
      cases hm : rng p3 0 7 with
      | false => exact ⟨1000000001, σ, u, rfl, rfl, n, H⟩
      | true =>
        rw [b1, b1, M_inI, bd_e, show (2 : Int64).toInt = 2 from rfl, show (20 : Int64).toInt = 20 from rfl]
        cases hu : rng p4 2 20 with
        | false =>
          have hu' := of_decide_eq_false hu
          rw [b0]
          refine ⟨1000000001, σ, u, ?_, rfl, n, H⟩
          by_cases c : p4 < 2
          · rw [if_pos c]
          · have c' : 20 < p4 := by rw [fa_lt] at c ⊢; omega
            rw [if_neg c, if_pos c']
        | true =>
          have hu' := of_decide_eq_true hu
          have c1 : ¬ p4 < 2 := by rw [fa_lt]; omega
          have c2 : ¬ 20 < p4 := by rw [fa_lt]; omega
          rw [b1, if_neg c1, if_neg c2, C_within_ok', M_inI, bd_e, bd_e, show (1 : Int32).toInt = 1 from rfl, show (0 : Int64).toInt = 0 from rfl, show (1 : Int64).toInt = 1 from rfl]
          cases hw : rng p5 0 1 with
          | false => rw [b0, b0]; exact ⟨1000000001, σ, u, rfl, rfl, n, H⟩
          | true =>
            obtain ⟨p, hpn, rfl⟩ := rng_n hp h7
            obtain ⟨i, hi, rfl⟩ := rng_nI (hi := 4) hq (by decide)
            obtain ⟨m, hm7, rfl⟩ := rng_nI (hi := 7) hm (by decide)
            obtain ⟨U, hU, rfl⟩ : ∃ U : Nat, U ≤ 20 ∧ p4 = nI U := ⟨p4.toInt.toNat, by omega, by rw [fa_eq, nI_toInt (by omega)]; omega⟩
            rw [nI_toInt (by omega)] at hu'
            obtain ⟨j, hj, rfl⟩ := rng_nI (hi := 1) hw (by decide)
            have hp' : nI j = 0 ∨ nI j = 1 := by
              rcases (show j = 0 ∨ j = 1 by omega) with rfl | rfl
              · exact Or.inl rfl
              · exact Or.inr rfl
            have hU1 : 1 ≤ U ∧ U ≤ 20 := ⟨by omega, hU⟩
            have hb : U ^ m ≤ 20 ^ 7 := Nat.le_trans (Nat.pow_le_pow_left hU m) (Nat.pow_le_pow_right (by decide) hm7)
            have hF := FV_le (n := n) (U := U) (P := nI p) (h := i) hU1.1 m (oS u 8) (σ 1)
            rw [b1, b1, pow_loopC (by omega) hm7, pow_loopM (by omega) hm7]
            obtain ⟨t, t1, t2, t3⟩ := mind_take H (a := 3) (by decide) visC.rf
            obtain ⟨s, f1, f2, f3, f4⟩ := M_think_ok' H.zo
            obtain ⟨τ, g1, g2, -⟩ := ways_ok (p := p) H hU1 (show i < 5 by omega) m 0 9 (oS u 8) (σ 1) (va_up σ 3 t) (by omega) (by omega) (visC_mind (by decide) t3) H.wf H.1.2.2.2.2 (by rw [vu_at]; exact t2)
            obtain ⟨s', k1, k2⟩ := wet_all (p := p) (a5 := nI j) (a8 := lN (U ^ m)) H hU1 hm7 (show i < 5 by omega) f2 f4 f3 (fun (x6_46 : Int64) (o47 : Ob) =>
                    bd (M_partOf o47 x6_46 (lN (U ^ m)) (nI j)) fun (r48 : Int64) =>
                    some (r48, o47))
            obtain ⟨v, v1, v2⟩ := part_ok (o := s') (a := FV n U (nI p) i m (oS u 8) (σ 1)) (b := U ^ m) (p := nI j) (by omega) (by omega) hp'
            refine ⟨v, τ, s', ?_, ?_, n, (H.c g2).m k2⟩
            · have g1' : C_floodWays 9 (va_up σ 3 t) (0 : Int32) (nI m) (nI U) (nI p) (nI i) = some (lN (FV n U (nI p) i m (oS u 8) (σ 1)), τ) := g1
              rw [t1, bd_e, g1', bd2_e, v1, bd_e]
            · rw [f1, bd_e, k1, v2, bd_e]

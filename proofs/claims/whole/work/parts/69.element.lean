/-! element: it throws with a text -/
def spE (σ : CS) (p q k : Int32) (v : Int64) : Prop := (rng p 0 7 = false ∧ k = 1) ∨ (∃ d, d < 8 ∧ p = nI d ∧ (¬ oS (σ (11 + d)) 0 = 2 ∨ (oS (σ (11 + d)) 0 = 2 ∧ S_hasPlaces (σ (11 + d)) q 1 = some 0)) ∧ k = 2) ∨ (∃ d j, d < 8 ∧ j < 100 ∧ p = nI d ∧ q = nI j ∧ oS (σ (11 + d)) 0 = 2 ∧ S_hasPlaces (σ (11 + d)) q 1 = some 1 ∧ k = 0 ∧ v = (oA (σ (11 + d)) 1 j).toInt64)
def QE (D : va_G) (ad : Nat → Nat) (cy : Nat → ClassId) (σ : CS) (k : Int32) (v : Int64) : Array Value → State → Outcome → State → Prop := fun a st o t => k = 0 ∧ wl_Q D (ΓC ad cy) (some (.long v), σ) a st o t
def XE (D : va_G) (ad : Nat → Nat) (cy : Nat → ClassId) (σ : CS) (k : Int32) : String → State → State → Prop := fun X st t => ((X = eA ∧ k = 1) ∨ (X = eS ∧ k = 2)) ∧ va_P D vwCl (wl_ws (ΓC ad cy) σ) t.heap ∧ va_F (wl_A (ΓC ad cy)) st t
def finE (ad : Nat → Nat) (cy : Nat → ClassId) (σ : CS) (k : Int32) (v : Int64) : Ec → State → Prop := fun E => match E with
  | (p, l, e, R, s, m, args, below, meth, c, D) => vx_MQ below (QE D ad cy σ k v) (XE D ad cy σ k) args s 1 6 (wl_A (ΓC ad cy))
section
variable {E : Ec} {ad : Nat → Nat} {cy : Nat → ClassId} {own : String} {cc : ByteArray} {nL : Nat} {rt : Option FieldType} {pc : Nat} {lv : List (Nat × Value)} {σ : CS} {k : Int32} {v : Int64}
theorem Y_eret (hd : decode cc pc = .ok (.lreturn, 1)) (hk : k = 0) : Jx E (ΓC ad cy) (wl_A (ΓC ad cy)) (finE ad cy σ k v) 0 0 own cc nL (some .long) pc lv [.long v] σ := by
  obtain ⟨p, l, e, R, s, m, args, below, meth, c, D⟩ := E
  intro F HK hlk hrt hinj hcs H locs ls hP hS hl
  refine W.widen (k := 1) (n := 6) (by decide) (by decide) (vx_ret ?_)
  exact W.lret F.1 F.2.1 hrt (fun t ht hW => ⟨hk, rfl, by rw [ht]; exact hP, hS.F ht⟩) hS.2.2 hd hlk
theorem Y_ethrow {X text : String} {ik is ic z N sa : Nat} (hl0 : (El E).stackTraces = false) (hX : (X = eA ∧ k = 1) ∨ (X = eS ∧ k = 2)) (hfit : Bundle.fit X = true) (hlink : Cond.classLink RX11 ik X ∈ wU) (hini : Cond.initialized X ∈ wU) (hat : ∀ w ∈ vx_atS RX11 ic X exN, w ∈ wU ∨ w ∈ badL) (hg : ∀ w ∈ Cond.classLink RX11 ik X :: Cond.initialized X :: vx_atS RX11 ic X exN, vx_ot w = true)
    (hstr : vk_R RX11 is text sa (Est E)) (hZ : wl_Z z (Est E)) (hT : wl_T (Est E)) (hzA : ∀ q, wl_A (ΓC ad cy) q → z ≤ q) (hex : ∀ x ∈ (Exc E).exceptionTable.toList, False) (hL : Lv E N) (hN : 6 ≤ N) (hc1 : (Er E).cells = 1) (hs6 : (Er E).slots = 6)
    (d0 : decode cc pc = .ok (.new ik, 3)) (d3 : decode cc (pc + 3) = .ok (.dup, 1)) (d4 : decode cc (pc + 4) = .ok (.ldc_w is, 3)) (d7 : decode cc (pc + 7) = .ok (.invokespecial ic, 3)) (d10 : decode cc (pc + 10) = .ok (.athrow, 1)) : Jx E (ΓC ad cy) (wl_A (ΓC ad cy)) (finE ad cy σ k v) 0 0 RX11 cc nL rt pc lv [] σ := by
  obtain ⟨p, l, e, R, s, m, args, below, meth, c, D⟩ := E
  intro F HK hlk hrt hinj hcs H locs ls hP hS hl
  have g1 : N ≤ R.frames := hL.1
  have g2 : 40 * N ≤ R.locals := hL.2
  have g3 : R.cells = 1 := hc1
  have g4 : R.slots = 6 := hs6
  have hSz : va_S (fun q => z ≤ q) s.heap H locs := ⟨hS.1, fun q a b => hS.2.1 q a (fun h => b (hzA q h)), fun q h => hzA _ (hS.2.2 q h)⟩
  exact vx_throwSW F.1 F.2.1 hl0 (A := fun q => z ≤ q) (names := exN) F.2.2.2.1 hfit (by decide) (F.2.2.2.2 _ hlink) (F.2.2.2.2 _ hini) hstr (fun w hw => (hat w hw).elim (fun h => F.2.2.2.2 _ h) (fun h => va_Nw.use (bad_ot w h) (hT.1 w h))) hg hZ.1 hZ.2 hSz (hl.1.trans F.2.2.1.symm) d0 d3 d4 d7 d10 (fun x hx => (hex x hx).elim) (by show 2 + 3 < R.frames; omega) (by show 0 + (13 * (2 + 1) + 43) ≤ R.locals; omega) (by omega) (by omega) hlk
    (fun t hA hz hk => ⟨hX, hP.kept (fun i q hi => hk q.1 (hP i q hi).lt), Nat.le_trans hS.1 hz, fun q a b => by rw [hk q (Nat.lt_of_lt_of_le a hS.1)]; exact hS.2.1 q a b⟩) hS.2.2 (by decide) (by decide)
theorem element_ok {z : Nat} {p1 p2 : Int32} (hi : wl_inj (ΓC ad cy)) (hl0 : (El E).stackTraces = false) (hz : ∀ h, h < 111 → z ≤ ad h) (hL : Lv E 6) (hc1 : (Er E).cells = 1) (hs6 : (Er E).slots = 6) (hZ : wl_Z z (Est E)) (hT : wl_T (Est E)) (hex : ∀ x ∈ (Exc E).exceptionTable.toList, False) (h : spE σ p1 p2 k v) : Jx E (ΓC ad cy) (wl_A (ΓC ad cy)) (finE ad cy σ k v) 0 0 RX11 cX11_element 4 (some .long) 0 [(0, .ref (ad 0)), (1, .int p1), (2, .int p2)] [] σ := by
  have hzA : ∀ q, wl_A (ΓC ad cy) q → z ≤ q := fun q ⟨i, h1, h2⟩ => by rw [h2]; exact hz i h1
  refine Y_iload_n (q := 1) dX11_element_0 rfl rfl ?_
  refine ykx_X11_146 hi dX11_element_1 (C_isShelf_ok' p1) hL (by decide) (Nat.le_of_ble_eq_true rfl) ?_
  rcases h with ⟨hp, hk⟩ | ⟨d, hd, rfl, hw, hk⟩ | ⟨d, j, hd, hj, rfl, rfl, hw, hs, hk, hv⟩
  · rw [hp]
    refine Y_if_ne (tgt := 18) dX11_element_4 (by decide) (fun c => absurd rfl c) (fun _ => ?_)
    obtain ⟨a, ha⟩ := hT.2.2.1
    exact Y_ethrow hl0 (Or.inl ⟨rfl, hk⟩) (by decide) tw_4_4 tw_1_21 at_A atg_A ha hZ hT hzA hex hL (by decide) hc1 hs6 dX11_element_7 dX11_element_10 dX11_element_11 dX11_element_14 dX11_element_17
  all_goals
    have hr : rng (nI d) 0 7 = true := rng_of (hi := 7) (by omega) (by decide)
    have hi8 : inb (nI d) 8 = true := inb_nI (by omega) (by decide)
    have ed : (nI d).toNatClampNeg = d := nI_clamp (by omega)
    rw [hr]
    refine Y_if_ne (tgt := 18) dX11_element_4 (by decide) (fun _ => ?_) (fun c => absurd c (show ¬ (1 : Int32) = 0 by decide))
    refine Y_aload_n (q := 0) dX11_element_18 rfl rfl ?_
    refine ygC_shelves dX11_element_19 ?_
    refine Y_iload_n (q := 1) dX11_element_22 rfl rfl ?_
    refine yaM_shelf dX11_element_23 hi8 ?_
    rw [ed]
    have hb : okS (11 + d) := by unfold okS; omega
  · refine Y_astore_n (lv' := [(3, .ref (ad (2 * (11 + d) + 70))), (0, .ref (ad 0)), (1, .int (nI d)), (2, .int p2)]) dX11_element_24 rfl (by decide) rfl ?_
    refine Y_aload_n (q := 0) dX11_element_25 rfl rfl ?_
    refine ygS_X11_holds dX11_element_26 hb rfl ?_
    refine Y_iconst (v := (2 : Int32)) dX11_element_29 (by decide) ?_
    rcases hw with hw | ⟨hw, hs⟩
    · refine Y_icmp_eq (tgt := 44) dX11_element_30 (by decide) (fun c => absurd c hw) (fun _ => ?_)
      obtain ⟨a, ha⟩ := hT.2.2.2.1
      exact Y_ethrow hl0 (Or.inr ⟨rfl, hk⟩) (by decide) tw_4_3 tw_1_22 at_S atg_S ha hZ hT hzA hex hL (by decide) hc1 hs6 dX11_element_33 dX11_element_36 dX11_element_37 dX11_element_40 dX11_element_43
    · refine Y_icmp_eq (tgt := 44) dX11_element_30 (by decide) (fun _ => ?_) (fun c => absurd hw c)
      refine Y_aload_n (q := 0) dX11_element_44 rfl rfl ?_
      refine Y_iload_n (q := 3) dX11_element_45 rfl rfl ?_
      refine Y_iconst (v := (1 : Int32)) dX11_element_46 (by decide) ?_
      refine ykx_X11_280 hi hb dX11_element_47 hs hL (by decide) (Nat.le_of_ble_eq_true rfl) ?_
      refine Y_if_ne (tgt := 64) dX11_element_50 (by decide) (fun c => absurd rfl c) (fun _ => ?_)
      obtain ⟨a, ha⟩ := hT.2.2.2.2
      exact Y_ethrow hl0 (Or.inr ⟨rfl, hk⟩) (by decide) tw_4_3 tw_1_22 at_S atg_S ha hZ hT hzA hex hL (by decide) hc1 hs6 dX11_element_53 dX11_element_56 dX11_element_57 dX11_element_60 dX11_element_63
  · refine Y_astore_n (lv' := [(3, .ref (ad (2 * (11 + d) + 70))), (0, .ref (ad 0)), (1, .int (nI d)), (2, .int (nI j))]) dX11_element_24 rfl (by decide) rfl ?_
    refine Y_aload_n (q := 0) dX11_element_25 rfl rfl ?_
    refine ygS_X11_holds dX11_element_26 hb rfl ?_
    refine Y_iconst (v := (2 : Int32)) dX11_element_29 (by decide) ?_
    refine Y_icmp_eq (tgt := 44) dX11_element_30 (by decide) (fun _ => ?_) (fun c => absurd hw c)
    refine Y_aload_n (q := 0) dX11_element_44 rfl rfl ?_
    refine Y_iload_n (q := 3) dX11_element_45 rfl rfl ?_
    refine Y_iconst (v := (1 : Int32)) dX11_element_46 (by decide) ?_
    refine ykx_X11_280 hi hb dX11_element_47 hs hL (by decide) (Nat.le_of_ble_eq_true rfl) ?_
    refine Y_if_ne (tgt := 64) dX11_element_50 (by decide) (fun _ => ?_) (fun c => absurd c (show ¬ (1 : Int32) = 0 by decide))
    refine Y_aload_n (q := 0) dX11_element_64 rfl rfl ?_
    refine ygS_X11_cells dX11_element_65 hb rfl ?_
    refine Y_iload_n (q := 3) dX11_element_68 rfl rfl ?_
    refine yaS_ld dX11_element_69 hb rfl (inb_nI (by omega) (by decide)) ?_
    refine Y_i2l dX11_element_70 ?_
    have ev : (ix (oA (σ (11 + d)) 1) (nI j)).toInt64 = v := by rw [hv, ix_nI (show j < 2 ^ 31 by omega)]
    rw [ev]
    exact Y_eret dX11_element_71 hk
end

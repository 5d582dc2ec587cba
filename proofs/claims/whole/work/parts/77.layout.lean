/-! where the constructors' cells lie in the law's layout -/
def adL (q0 : Nat) (f : Nat → Nat) (q1 : Nat) (g : Nat → Nat) (q2 : Nat) : Nat → Nat := fun h => if h = 0 then q0 else if h < 26 then f (h - 1) else if h < 90 then f h else if h = 90 then f 25 else if h < 111 then f (h - 1) else if h = 111 then q1 else if h < 134 then g (h - 112) else q2
def posL (h : Nat) : Nat := if h = 0 then 0 else if h < 26 then h else if h < 90 then h + 1 else if h = 90 then 26 else h
theorem posL_inj {i j : Nat} (h : posL i = posL j) : i = j := by
  unfold posL at h
  split at h <;> (split at h <;> first | omega | (split at h <;> first | omega | (split at h <;> first | omega | (split at h <;> first | omega | (split at h <;> first | omega | (split at h <;> first | omega | (split at h <;> omega)))))))
def wsL (cy : Nat → ClassId) (q0 : Nat) (f : Nat → Nat) (q1 : Nat) (g : Nat → Nat) (q2 : Nat) : va_W := ((q0, (rX11 cy f).1) :: (rX11 cy f).2) ++ (((q1, (rX12 cy g).1) :: (rX12 cy g).2) ++ [(q2, .inl (cy 1, 1, .inr (.inl (fun _ => 0))))])
def w0 : W3 := (σ0, t0, fun _ => 0)
theorem arr_ext {D : va_G} {cl : List vw_C} {H : Heap} {a n : Nat} {cA : ClassId} {f g : Nat → Option Nat} (hfg : ∀ j, j < n → f j = g j) (h : va_at D cl (a, .inl (cA, n, .inr (.inr (.inr (.inr f))))) H) : va_at D cl (a, .inl (cA, n, .inr (.inr (.inr (.inr g))))) H := by
  have e : vp_cell cA (n, .inr (.inr (.inr (.inr f)))) = vp_cell cA (n, .inr (.inr (.inr (.inr g)))) := by
    rw [vp_cell_q, vp_cell_q]
    show ({ cls := cA, slots := Array.ofFn (n := n) fun j => va_rf (f j.val), vm := .none } : Cell) = { cls := cA, slots := Array.ofFn (n := n) fun j => va_rf (g j.val), vm := .none }
    have e2 : (fun j : Fin n => va_rf (f j.val)) = fun j : Fin n => va_rf (g j.val) := by
      funext j
      rw [hfg j.val j.isLt]
    rw [e2]
  show H[a]? = some (vp_cell cA (n, .inr (.inr (.inr (.inr g)))))
  rw [← e]
  exact h
def iniP (cy : Nat → ClassId) (q0 : Nat) (f : Nat → Nat) (q1 : Nat) (g : Nat → Nat) (q2 h : Nat) : Prop := ∃ e : va_E, (wsL cy q0 f q1 g q2)[posL h]? = some (adL q0 f q1 g q2 h, e) ∧ ∀ (D : va_G) (H : Heap), va_at D vwCl (adL q0 f q1 g q2 h, e) H → va_at D vwCl (adL q0 f q1 g q2 h, (Γ3 (adL q0 f q1 g q2) cy).2.1 w0 h) H
section
variable {cy : Nat → ClassId} {q0 : Nat} {f : Nat → Nat} {q1 : Nat} {g : Nat → Nat} {q2 : Nat}
theorem ini_0 : iniP cy q0 f q1 g q2 0 := ⟨_, rfl, fun _ _ x => x⟩
theorem ini_1 : iniP cy q0 f q1 g q2 1 := ⟨_, rfl, fun _ _ x => arr_ext (fun j hj => by match j, hj with
    | 0, _ => rfl
    | 1, _ => rfl
    | 2, _ => rfl
    | 3, _ => rfl
    | 4, _ => rfl
    | 5, _ => rfl
    | 6, _ => rfl
    | 7, _ => rfl
    | j + 8, hj => exact absurd hj (by omega)) x⟩
theorem ini_2 : iniP cy q0 f q1 g q2 2 := ⟨_, rfl, fun _ _ x => x⟩
theorem ini_3 : iniP cy q0 f q1 g q2 3 := ⟨_, rfl, fun _ _ x => x⟩
theorem ini_4 : iniP cy q0 f q1 g q2 4 := ⟨_, rfl, fun _ _ x => x⟩
theorem ini_5 : iniP cy q0 f q1 g q2 5 := ⟨_, rfl, fun _ _ x => x⟩
theorem ini_6 : iniP cy q0 f q1 g q2 6 := ⟨_, rfl, fun _ _ x => x⟩
theorem ini_7 : iniP cy q0 f q1 g q2 7 := ⟨_, rfl, fun _ _ x => x⟩
theorem ini_8 : iniP cy q0 f q1 g q2 8 := ⟨_, rfl, fun _ _ x => x⟩
theorem ini_9 : iniP cy q0 f q1 g q2 9 := ⟨_, rfl, fun _ _ x => x⟩
theorem ini_10 : iniP cy q0 f q1 g q2 10 := ⟨_, rfl, fun _ _ x => x⟩
theorem ini_11 : iniP cy q0 f q1 g q2 11 := ⟨_, rfl, fun _ _ x => x⟩
theorem ini_12 : iniP cy q0 f q1 g q2 12 := ⟨_, rfl, fun _ _ x => x⟩
theorem ini_13 : iniP cy q0 f q1 g q2 13 := ⟨_, rfl, fun _ _ x => x⟩
theorem ini_14 : iniP cy q0 f q1 g q2 14 := ⟨_, rfl, fun _ _ x => x⟩
theorem ini_15 : iniP cy q0 f q1 g q2 15 := ⟨_, rfl, fun _ _ x => x⟩
theorem ini_16 : iniP cy q0 f q1 g q2 16 := ⟨_, rfl, fun _ _ x => x⟩
theorem ini_17 : iniP cy q0 f q1 g q2 17 := ⟨_, rfl, fun _ _ x => x⟩
theorem ini_18 : iniP cy q0 f q1 g q2 18 := ⟨_, rfl, fun _ _ x => x⟩
theorem ini_19 : iniP cy q0 f q1 g q2 19 := ⟨_, rfl, fun _ _ x => x⟩
theorem ini_20 : iniP cy q0 f q1 g q2 20 := ⟨_, rfl, fun _ _ x => x⟩
theorem ini_21 : iniP cy q0 f q1 g q2 21 := ⟨_, rfl, fun _ _ x => x⟩
theorem ini_22 : iniP cy q0 f q1 g q2 22 := ⟨_, rfl, fun _ _ x => x⟩
theorem ini_23 : iniP cy q0 f q1 g q2 23 := ⟨_, rfl, fun _ _ x => x⟩
theorem ini_24 : iniP cy q0 f q1 g q2 24 := ⟨_, rfl, fun _ _ x => x⟩
theorem ini_25 : iniP cy q0 f q1 g q2 25 := ⟨_, rfl, fun _ _ x => x⟩
theorem ini_26 : iniP cy q0 f q1 g q2 26 := ⟨_, rfl, fun _ _ x => x⟩
theorem ini_27 : iniP cy q0 f q1 g q2 27 := ⟨_, rfl, fun _ _ x => x⟩
theorem ini_28 : iniP cy q0 f q1 g q2 28 := ⟨_, rfl, fun _ _ x => x⟩
theorem ini_29 : iniP cy q0 f q1 g q2 29 := ⟨_, rfl, fun _ _ x => x⟩
theorem ini_30 : iniP cy q0 f q1 g q2 30 := ⟨_, rfl, fun _ _ x => x⟩
theorem ini_31 : iniP cy q0 f q1 g q2 31 := ⟨_, rfl, fun _ _ x => x⟩
theorem ini_32 : iniP cy q0 f q1 g q2 32 := ⟨_, rfl, fun _ _ x => x⟩
theorem ini_33 : iniP cy q0 f q1 g q2 33 := ⟨_, rfl, fun _ _ x => x⟩
theorem ini_34 : iniP cy q0 f q1 g q2 34 := ⟨_, rfl, fun _ _ x => x⟩
theorem ini_35 : iniP cy q0 f q1 g q2 35 := ⟨_, rfl, fun _ _ x => x⟩
theorem ini_36 : iniP cy q0 f q1 g q2 36 := ⟨_, rfl, fun _ _ x => x⟩
theorem ini_37 : iniP cy q0 f q1 g q2 37 := ⟨_, rfl, fun _ _ x => x⟩
theorem ini_38 : iniP cy q0 f q1 g q2 38 := ⟨_, rfl, fun _ _ x => x⟩
theorem ini_39 : iniP cy q0 f q1 g q2 39 := ⟨_, rfl, fun _ _ x => x⟩
theorem ini_40 : iniP cy q0 f q1 g q2 40 := ⟨_, rfl, fun _ _ x => x⟩
theorem ini_41 : iniP cy q0 f q1 g q2 41 := ⟨_, rfl, fun _ _ x => x⟩
theorem ini_42 : iniP cy q0 f q1 g q2 42 := ⟨_, rfl, fun _ _ x => x⟩
theorem ini_43 : iniP cy q0 f q1 g q2 43 := ⟨_, rfl, fun _ _ x => x⟩
theorem ini_44 : iniP cy q0 f q1 g q2 44 := ⟨_, rfl, fun _ _ x => x⟩
theorem ini_45 : iniP cy q0 f q1 g q2 45 := ⟨_, rfl, fun _ _ x => x⟩
theorem ini_46 : iniP cy q0 f q1 g q2 46 := ⟨_, rfl, fun _ _ x => x⟩
theorem ini_47 : iniP cy q0 f q1 g q2 47 := ⟨_, rfl, fun _ _ x => x⟩
theorem ini_48 : iniP cy q0 f q1 g q2 48 := ⟨_, rfl, fun _ _ x => x⟩
theorem ini_49 : iniP cy q0 f q1 g q2 49 := ⟨_, rfl, fun _ _ x => x⟩
theorem ini_50 : iniP cy q0 f q1 g q2 50 := ⟨_, rfl, fun _ _ x => x⟩
theorem ini_51 : iniP cy q0 f q1 g q2 51 := ⟨_, rfl, fun _ _ x => x⟩
theorem ini_52 : iniP cy q0 f q1 g q2 52 := ⟨_, rfl, fun _ _ x => x⟩
theorem ini_53 : iniP cy q0 f q1 g q2 53 := ⟨_, rfl, fun _ _ x => x⟩
theorem ini_54 : iniP cy q0 f q1 g q2 54 := ⟨_, rfl, fun _ _ x => x⟩
theorem ini_55 : iniP cy q0 f q1 g q2 55 := ⟨_, rfl, fun _ _ x => x⟩
theorem ini_56 : iniP cy q0 f q1 g q2 56 := ⟨_, rfl, fun _ _ x => x⟩
theorem ini_57 : iniP cy q0 f q1 g q2 57 := ⟨_, rfl, fun _ _ x => x⟩
theorem ini_58 : iniP cy q0 f q1 g q2 58 := ⟨_, rfl, fun _ _ x => x⟩
theorem ini_59 : iniP cy q0 f q1 g q2 59 := ⟨_, rfl, fun _ _ x => x⟩
theorem ini_60 : iniP cy q0 f q1 g q2 60 := ⟨_, rfl, fun _ _ x => x⟩
theorem ini_61 : iniP cy q0 f q1 g q2 61 := ⟨_, rfl, fun _ _ x => x⟩
theorem ini_62 : iniP cy q0 f q1 g q2 62 := ⟨_, rfl, fun _ _ x => x⟩
theorem ini_63 : iniP cy q0 f q1 g q2 63 := ⟨_, rfl, fun _ _ x => x⟩
theorem ini_64 : iniP cy q0 f q1 g q2 64 := ⟨_, rfl, fun _ _ x => x⟩
theorem ini_65 : iniP cy q0 f q1 g q2 65 := ⟨_, rfl, fun _ _ x => x⟩
theorem ini_66 : iniP cy q0 f q1 g q2 66 := ⟨_, rfl, fun _ _ x => x⟩
theorem ini_67 : iniP cy q0 f q1 g q2 67 := ⟨_, rfl, fun _ _ x => x⟩
theorem ini_68 : iniP cy q0 f q1 g q2 68 := ⟨_, rfl, fun _ _ x => x⟩
theorem ini_69 : iniP cy q0 f q1 g q2 69 := ⟨_, rfl, fun _ _ x => x⟩
theorem ini_70 : iniP cy q0 f q1 g q2 70 := ⟨_, rfl, fun _ _ x => x⟩
theorem ini_71 : iniP cy q0 f q1 g q2 71 := ⟨_, rfl, fun _ _ x => x⟩
theorem ini_72 : iniP cy q0 f q1 g q2 72 := ⟨_, rfl, fun _ _ x => x⟩
theorem ini_73 : iniP cy q0 f q1 g q2 73 := ⟨_, rfl, fun _ _ x => x⟩
theorem ini_74 : iniP cy q0 f q1 g q2 74 := ⟨_, rfl, fun _ _ x => x⟩
theorem ini_75 : iniP cy q0 f q1 g q2 75 := ⟨_, rfl, fun _ _ x => x⟩
theorem ini_76 : iniP cy q0 f q1 g q2 76 := ⟨_, rfl, fun _ _ x => x⟩
theorem ini_77 : iniP cy q0 f q1 g q2 77 := ⟨_, rfl, fun _ _ x => x⟩
theorem ini_78 : iniP cy q0 f q1 g q2 78 := ⟨_, rfl, fun _ _ x => x⟩
theorem ini_79 : iniP cy q0 f q1 g q2 79 := ⟨_, rfl, fun _ _ x => x⟩
theorem ini_80 : iniP cy q0 f q1 g q2 80 := ⟨_, rfl, fun _ _ x => x⟩
theorem ini_81 : iniP cy q0 f q1 g q2 81 := ⟨_, rfl, fun _ _ x => x⟩
theorem ini_82 : iniP cy q0 f q1 g q2 82 := ⟨_, rfl, fun _ _ x => x⟩
theorem ini_83 : iniP cy q0 f q1 g q2 83 := ⟨_, rfl, fun _ _ x => x⟩
theorem ini_84 : iniP cy q0 f q1 g q2 84 := ⟨_, rfl, fun _ _ x => x⟩
theorem ini_85 : iniP cy q0 f q1 g q2 85 := ⟨_, rfl, fun _ _ x => x⟩
theorem ini_86 : iniP cy q0 f q1 g q2 86 := ⟨_, rfl, fun _ _ x => x⟩
theorem ini_87 : iniP cy q0 f q1 g q2 87 := ⟨_, rfl, fun _ _ x => x⟩
theorem ini_88 : iniP cy q0 f q1 g q2 88 := ⟨_, rfl, fun _ _ x => x⟩
theorem ini_89 : iniP cy q0 f q1 g q2 89 := ⟨_, rfl, fun _ _ x => x⟩
theorem ini_90 : iniP cy q0 f q1 g q2 90 := ⟨_, rfl, fun _ _ x => arr_ext (fun j hj => by match j, hj with
    | 0, _ => rfl
    | 1, _ => rfl
    | 2, _ => rfl
    | 3, _ => rfl
    | 4, _ => rfl
    | 5, _ => rfl
    | 6, _ => rfl
    | 7, _ => rfl
    | j + 8, hj => exact absurd hj (by omega)) x⟩
theorem ini_91 : iniP cy q0 f q1 g q2 91 := ⟨_, rfl, fun _ _ x => arr_ext (fun j hj => by match j, hj with
    | 0, _ => rfl
    | 1, _ => rfl
    | 2, _ => rfl
    | 3, _ => rfl
    | 4, _ => rfl
    | 5, _ => rfl
    | 6, _ => rfl
    | 7, _ => rfl
    | j + 8, hj => exact absurd hj (by omega)) x⟩
theorem ini_92 : iniP cy q0 f q1 g q2 92 := ⟨_, rfl, fun _ _ x => x⟩
theorem ini_93 : iniP cy q0 f q1 g q2 93 := ⟨_, rfl, fun _ _ x => x⟩
theorem ini_94 : iniP cy q0 f q1 g q2 94 := ⟨_, rfl, fun _ _ x => x⟩
theorem ini_95 : iniP cy q0 f q1 g q2 95 := ⟨_, rfl, fun _ _ x => x⟩
theorem ini_96 : iniP cy q0 f q1 g q2 96 := ⟨_, rfl, fun _ _ x => x⟩
theorem ini_97 : iniP cy q0 f q1 g q2 97 := ⟨_, rfl, fun _ _ x => x⟩
theorem ini_98 : iniP cy q0 f q1 g q2 98 := ⟨_, rfl, fun _ _ x => x⟩
theorem ini_99 : iniP cy q0 f q1 g q2 99 := ⟨_, rfl, fun _ _ x => x⟩
theorem ini_100 : iniP cy q0 f q1 g q2 100 := ⟨_, rfl, fun _ _ x => x⟩
theorem ini_101 : iniP cy q0 f q1 g q2 101 := ⟨_, rfl, fun _ _ x => x⟩
theorem ini_102 : iniP cy q0 f q1 g q2 102 := ⟨_, rfl, fun _ _ x => x⟩
theorem ini_103 : iniP cy q0 f q1 g q2 103 := ⟨_, rfl, fun _ _ x => x⟩
theorem ini_104 : iniP cy q0 f q1 g q2 104 := ⟨_, rfl, fun _ _ x => x⟩
theorem ini_105 : iniP cy q0 f q1 g q2 105 := ⟨_, rfl, fun _ _ x => x⟩
theorem ini_106 : iniP cy q0 f q1 g q2 106 := ⟨_, rfl, fun _ _ x => x⟩
theorem ini_107 : iniP cy q0 f q1 g q2 107 := ⟨_, rfl, fun _ _ x => x⟩
theorem ini_108 : iniP cy q0 f q1 g q2 108 := ⟨_, rfl, fun _ _ x => x⟩
theorem ini_109 : iniP cy q0 f q1 g q2 109 := ⟨_, rfl, fun _ _ x => x⟩
theorem ini_110 : iniP cy q0 f q1 g q2 110 := ⟨_, rfl, fun _ _ x => x⟩
theorem ini_111 : iniP cy q0 f q1 g q2 111 := ⟨_, rfl, fun _ _ x => x⟩
theorem ini_112 : iniP cy q0 f q1 g q2 112 := ⟨_, rfl, fun _ _ x => x⟩
theorem ini_113 : iniP cy q0 f q1 g q2 113 := ⟨_, rfl, fun _ _ x => x⟩
theorem ini_114 : iniP cy q0 f q1 g q2 114 := ⟨_, rfl, fun _ _ x => x⟩
theorem ini_115 : iniP cy q0 f q1 g q2 115 := ⟨_, rfl, fun _ _ x => x⟩
theorem ini_116 : iniP cy q0 f q1 g q2 116 := ⟨_, rfl, fun _ _ x => x⟩
theorem ini_117 : iniP cy q0 f q1 g q2 117 := ⟨_, rfl, fun _ _ x => x⟩
theorem ini_118 : iniP cy q0 f q1 g q2 118 := ⟨_, rfl, fun _ _ x => x⟩
theorem ini_119 : iniP cy q0 f q1 g q2 119 := ⟨_, rfl, fun _ _ x => x⟩
theorem ini_120 : iniP cy q0 f q1 g q2 120 := ⟨_, rfl, fun _ _ x => x⟩
theorem ini_121 : iniP cy q0 f q1 g q2 121 := ⟨_, rfl, fun _ _ x => x⟩
theorem ini_122 : iniP cy q0 f q1 g q2 122 := ⟨_, rfl, fun _ _ x => x⟩
theorem ini_123 : iniP cy q0 f q1 g q2 123 := ⟨_, rfl, fun _ _ x => x⟩
theorem ini_124 : iniP cy q0 f q1 g q2 124 := ⟨_, rfl, fun _ _ x => x⟩
theorem ini_125 : iniP cy q0 f q1 g q2 125 := ⟨_, rfl, fun _ _ x => x⟩
theorem ini_126 : iniP cy q0 f q1 g q2 126 := ⟨_, rfl, fun _ _ x => x⟩
theorem ini_127 : iniP cy q0 f q1 g q2 127 := ⟨_, rfl, fun _ _ x => x⟩
theorem ini_128 : iniP cy q0 f q1 g q2 128 := ⟨_, rfl, fun _ _ x => x⟩
theorem ini_129 : iniP cy q0 f q1 g q2 129 := ⟨_, rfl, fun _ _ x => x⟩
theorem ini_130 : iniP cy q0 f q1 g q2 130 := ⟨_, rfl, fun _ _ x => x⟩
theorem ini_131 : iniP cy q0 f q1 g q2 131 := ⟨_, rfl, fun _ _ x => x⟩
theorem ini_132 : iniP cy q0 f q1 g q2 132 := ⟨_, rfl, fun _ _ x => x⟩
theorem ini_133 : iniP cy q0 f q1 g q2 133 := ⟨_, rfl, fun _ _ x => x⟩
theorem ini_134 : iniP cy q0 f q1 g q2 134 := ⟨_, rfl, fun _ _ x => x⟩
theorem ini_all : ∀ h, h < 135 → iniP cy q0 f q1 g q2 h := fun h hh => match h, hh with
  | 0, _ => ini_0
  | 1, _ => ini_1
  | 2, _ => ini_2
  | 3, _ => ini_3
  | 4, _ => ini_4
  | 5, _ => ini_5
  | 6, _ => ini_6
  | 7, _ => ini_7
  | 8, _ => ini_8
  | 9, _ => ini_9
  | 10, _ => ini_10
  | 11, _ => ini_11
  | 12, _ => ini_12
  | 13, _ => ini_13
  | 14, _ => ini_14
  | 15, _ => ini_15
  | 16, _ => ini_16
  | 17, _ => ini_17
  | 18, _ => ini_18
  | 19, _ => ini_19
  | 20, _ => ini_20
  | 21, _ => ini_21
  | 22, _ => ini_22
  | 23, _ => ini_23
  | 24, _ => ini_24
  | 25, _ => ini_25
  | 26, _ => ini_26
  | 27, _ => ini_27
  | 28, _ => ini_28
  | 29, _ => ini_29
  | 30, _ => ini_30
  | 31, _ => ini_31
  | 32, _ => ini_32
  | 33, _ => ini_33
  | 34, _ => ini_34
  | 35, _ => ini_35
  | 36, _ => ini_36
  | 37, _ => ini_37
  | 38, _ => ini_38
  | 39, _ => ini_39
  | 40, _ => ini_40
  | 41, _ => ini_41
  | 42, _ => ini_42
  | 43, _ => ini_43
  | 44, _ => ini_44
  | 45, _ => ini_45
  | 46, _ => ini_46
  | 47, _ => ini_47
  | 48, _ => ini_48
  | 49, _ => ini_49
  | 50, _ => ini_50
  | 51, _ => ini_51
  | 52, _ => ini_52
  | 53, _ => ini_53
  | 54, _ => ini_54
  | 55, _ => ini_55
  | 56, _ => ini_56
  | 57, _ => ini_57
  | 58, _ => ini_58
  | 59, _ => ini_59
  | 60, _ => ini_60
  | 61, _ => ini_61
  | 62, _ => ini_62
  | 63, _ => ini_63
  | 64, _ => ini_64
  | 65, _ => ini_65
  | 66, _ => ini_66
  | 67, _ => ini_67
  | 68, _ => ini_68
  | 69, _ => ini_69
  | 70, _ => ini_70
  | 71, _ => ini_71
  | 72, _ => ini_72
  | 73, _ => ini_73
  | 74, _ => ini_74
  | 75, _ => ini_75
  | 76, _ => ini_76
  | 77, _ => ini_77
  | 78, _ => ini_78
  | 79, _ => ini_79
  | 80, _ => ini_80
  | 81, _ => ini_81
  | 82, _ => ini_82
  | 83, _ => ini_83
  | 84, _ => ini_84
  | 85, _ => ini_85
  | 86, _ => ini_86
  | 87, _ => ini_87
  | 88, _ => ini_88
  | 89, _ => ini_89
  | 90, _ => ini_90
  | 91, _ => ini_91
  | 92, _ => ini_92
  | 93, _ => ini_93
  | 94, _ => ini_94
  | 95, _ => ini_95
  | 96, _ => ini_96
  | 97, _ => ini_97
  | 98, _ => ini_98
  | 99, _ => ini_99
  | 100, _ => ini_100
  | 101, _ => ini_101
  | 102, _ => ini_102
  | 103, _ => ini_103
  | 104, _ => ini_104
  | 105, _ => ini_105
  | 106, _ => ini_106
  | 107, _ => ini_107
  | 108, _ => ini_108
  | 109, _ => ini_109
  | 110, _ => ini_110
  | 111, _ => ini_111
  | 112, _ => ini_112
  | 113, _ => ini_113
  | 114, _ => ini_114
  | 115, _ => ini_115
  | 116, _ => ini_116
  | 117, _ => ini_117
  | 118, _ => ini_118
  | 119, _ => ini_119
  | 120, _ => ini_120
  | 121, _ => ini_121
  | 122, _ => ini_122
  | 123, _ => ini_123
  | 124, _ => ini_124
  | 125, _ => ini_125
  | 126, _ => ini_126
  | 127, _ => ini_127
  | 128, _ => ini_128
  | 129, _ => ini_129
  | 130, _ => ini_130
  | 131, _ => ini_131
  | 132, _ => ini_132
  | 133, _ => ini_133
  | 134, _ => ini_134
  | h + 135, hh => absurd hh (by omega)
theorem lay_P {D : va_G} {H : Heap} (hP : va_P D vwCl (wsL cy q0 f q1 g q2) H) : va_P D vwCl (wl_ws (Γ3 (adL q0 f q1 g q2) cy) w0) H := by
  intro k x hx
  obtain ⟨h1, rfl⟩ := wl_lt hx
  obtain ⟨e, he, h2⟩ := ini_all (cy := cy) (q0 := q0) (f := f) (q1 := q1) (g := g) (q2 := q2) k h1
  exact h2 D H (hP _ _ he)
theorem lay_inj {A : Nat → Prop} (hD : va_D A (wsL cy q0 f q1 g q2)) : wl_inj (Γ3 (adL q0 f q1 g q2) cy) := by
  intro i j hi hj hij
  obtain ⟨e, he, -⟩ := ini_all (cy := cy) (q0 := q0) (f := f) (q1 := q1) (g := g) (q2 := q2) i hi
  obtain ⟨e', he', -⟩ := ini_all (cy := cy) (q0 := q0) (f := f) (q1 := q1) (g := g) (q2 := q2) j hj
  exact posL_inj (hD.1 _ _ _ _ he he' hij)
theorem lay_A {A : Nat → Prop} (hD : va_D A (wsL cy q0 f q1 g q2)) : ∀ h, h < 135 → A (adL q0 f q1 g q2 h) := by
  intro i hi
  obtain ⟨e, he, -⟩ := ini_all (cy := cy) (q0 := q0) (f := f) (q1 := q1) (g := g) (q2 := q2) i hi
  exact hD.2 _ _ he
end

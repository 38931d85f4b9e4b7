/-- the memory when the law's loop begins -/
def ms_0 : ms_T := (fun i j => match qz_gd qz_jk k_all i with
    | .inl (_, _, .inl g) => g j
    | .inr (_, fs) => (match qz_at fs j with
      | some (.int x) => x
      | _ => 0)
    | _ => 0, fun _ _ => 0, fun i j => match qz_gd qz_jk k_all i with
    | .inr (_, fs) => (match qz_at fs j with
      | some (.ref q) => q
      | _ => 0)
    | .inl (_, _, .inr (.inr (.inr (.inr g)))) => (g j).getD 0
    | _ => 0)
theorem up_some {g : Nat → Option Nat} {k v : Nat} {n : Nat} (h : k < n) (hg : ∀ j, n ≤ j → g j = none) : ∀ j, n ≤ j → va_up g k (some v) j = none := by
  intro j hj
  unfold va_up
  rw [if_neg (by omega)]
  exact hg j hj
theorem rf_eq {C : String} {n : Nat} {g : Nat → Option Nat} (h : ∀ j, n ≤ j → g j = none) (h2 : ∀ j, j < n → (g j).isSome = true) : (.inl (.object C, n, .inr (.inr (.inr (.inr g)))) : qz_E) = .inl (.object C, n, .inr (.inr (.inr (.inr (fun j => if j < n then some ((g j).getD 0) else none))))) := by
  have e : g = fun j => if j < n then some ((g j).getD 0) else none := by
    funext j
    by_cases hj : j < n
    · rw [if_pos hj]
      have := h2 j hj
      cases hg : g j with
      | none => rw [hg] at this; cases this
      | some q => rfl
    · rw [if_neg hj]
      exact h j (Nat.not_lt.mp hj)
  rw [← e]
set_option maxRecDepth 100000 in
theorem m0_0 : qz_gd qz_jk k_all 0 = ms_c ms_0 0 := rfl
set_option maxRecDepth 100000 in
theorem m0_1 : qz_gd qz_jk k_all 1 = ms_c ms_0 1 := rfl
set_option maxRecDepth 100000 in
theorem m0_2 : qz_gd qz_jk k_all 2 = ms_c ms_0 2 := rfl
set_option maxRecDepth 100000 in
theorem m0_3 : qz_gd qz_jk k_all 3 = ms_c ms_0 3 := rfl
set_option maxRecDepth 100000 in
theorem m0_4 : qz_gd qz_jk k_all 4 = ms_c ms_0 4 := rf_eq (up_some (by decide) (up_some (by decide) (up_some (by decide) (up_some (by decide) (up_some (by decide) (up_some (by decide) (fun _ _ => rfl))))))) (by decide)
set_option maxRecDepth 100000 in
theorem m0_5 : qz_gd qz_jk k_all 5 = ms_c ms_0 5 := rfl
set_option maxRecDepth 100000 in
theorem m0_6 : qz_gd qz_jk k_all 6 = ms_c ms_0 6 := rfl
set_option maxRecDepth 100000 in
theorem m0_7 : qz_gd qz_jk k_all 7 = ms_c ms_0 7 := rfl
set_option maxRecDepth 100000 in
theorem m0_8 : qz_gd qz_jk k_all 8 = ms_c ms_0 8 := rfl
set_option maxRecDepth 100000 in
theorem m0_9 : qz_gd qz_jk k_all 9 = ms_c ms_0 9 := rfl
set_option maxRecDepth 100000 in
theorem m0_10 : qz_gd qz_jk k_all 10 = ms_c ms_0 10 := rfl
set_option maxRecDepth 100000 in
theorem m0_11 : qz_gd qz_jk k_all 11 = ms_c ms_0 11 := rfl
set_option maxRecDepth 100000 in
theorem m0_12 : qz_gd qz_jk k_all 12 = ms_c ms_0 12 := rfl
set_option maxRecDepth 100000 in
theorem m0_13 : qz_gd qz_jk k_all 13 = ms_c ms_0 13 := rfl
set_option maxRecDepth 100000 in
theorem m0_14 : qz_gd qz_jk k_all 14 = ms_c ms_0 14 := rfl
set_option maxRecDepth 100000 in
theorem m0_15 : qz_gd qz_jk k_all 15 = ms_c ms_0 15 := rfl
set_option maxRecDepth 100000 in
theorem m0_16 : qz_gd qz_jk k_all 16 = ms_c ms_0 16 := rfl
set_option maxRecDepth 100000 in
theorem m0_17 : qz_gd qz_jk k_all 17 = ms_c ms_0 17 := rfl
set_option maxRecDepth 100000 in
theorem m0_18 : qz_gd qz_jk k_all 18 = ms_c ms_0 18 := rfl
set_option maxRecDepth 100000 in
theorem m0_19 : qz_gd qz_jk k_all 19 = ms_c ms_0 19 := rfl
set_option maxRecDepth 100000 in
theorem m0_20 : qz_gd qz_jk k_all 20 = ms_c ms_0 20 := rfl
set_option maxRecDepth 100000 in
theorem m0_21 : qz_gd qz_jk k_all 21 = ms_c ms_0 21 := rfl
set_option maxRecDepth 100000 in
theorem m0_22 : qz_gd qz_jk k_all 22 = ms_c ms_0 22 := rfl
set_option maxRecDepth 100000 in
theorem m0_23 : qz_gd qz_jk k_all 23 = ms_c ms_0 23 := rfl
set_option maxRecDepth 100000 in
theorem m0_24 : qz_gd qz_jk k_all 24 = ms_c ms_0 24 := rfl
set_option maxRecDepth 100000 in
theorem m0_25 : qz_gd qz_jk k_all 25 = ms_c ms_0 25 := rfl
set_option maxRecDepth 100000 in
theorem m0_26 : qz_gd qz_jk k_all 26 = ms_c ms_0 26 := rfl
set_option maxRecDepth 100000 in
theorem m0_27 : qz_gd qz_jk k_all 27 = ms_c ms_0 27 := rfl
set_option maxRecDepth 100000 in
theorem m0_28 : qz_gd qz_jk k_all 28 = ms_c ms_0 28 := rfl
set_option maxRecDepth 100000 in
theorem m0_29 : qz_gd qz_jk k_all 29 = ms_c ms_0 29 := rfl
set_option maxRecDepth 100000 in
theorem m0_30 : qz_gd qz_jk k_all 30 = ms_c ms_0 30 := rfl
set_option maxRecDepth 100000 in
theorem m0_31 : qz_gd qz_jk k_all 31 = ms_c ms_0 31 := rfl
set_option maxRecDepth 100000 in
theorem m0_32 : qz_gd qz_jk k_all 32 = ms_c ms_0 32 := rfl
set_option maxRecDepth 100000 in
theorem m0_33 : qz_gd qz_jk k_all 33 = ms_c ms_0 33 := rfl
set_option maxRecDepth 100000 in
theorem m0_34 : qz_gd qz_jk k_all 34 = ms_c ms_0 34 := rfl
set_option maxRecDepth 100000 in
theorem m0_35 : qz_gd qz_jk k_all 35 = ms_c ms_0 35 := rfl
set_option maxRecDepth 100000 in
theorem m0_36 : qz_gd qz_jk k_all 36 = ms_c ms_0 36 := rfl
set_option maxRecDepth 100000 in
theorem m0_37 : qz_gd qz_jk k_all 37 = ms_c ms_0 37 := rfl
set_option maxRecDepth 100000 in
theorem m0_38 : qz_gd qz_jk k_all 38 = ms_c ms_0 38 := rfl
set_option maxRecDepth 100000 in
theorem m0_39 : qz_gd qz_jk k_all 39 = ms_c ms_0 39 := rfl
set_option maxRecDepth 100000 in
theorem m0_40 : qz_gd qz_jk k_all 40 = ms_c ms_0 40 := rfl
set_option maxRecDepth 100000 in
theorem m0_41 : qz_gd qz_jk k_all 41 = ms_c ms_0 41 := rfl
set_option maxRecDepth 100000 in
theorem m0_42 : qz_gd qz_jk k_all 42 = ms_c ms_0 42 := rfl
set_option maxRecDepth 100000 in
theorem m0_43 : qz_gd qz_jk k_all 43 = ms_c ms_0 43 := rfl
set_option maxRecDepth 100000 in
theorem m0_44 : qz_gd qz_jk k_all 44 = ms_c ms_0 44 := rfl
set_option maxRecDepth 100000 in
theorem m0_45 : qz_gd qz_jk k_all 45 = ms_c ms_0 45 := rfl
set_option maxRecDepth 100000 in
theorem m0_46 : qz_gd qz_jk k_all 46 = ms_c ms_0 46 := rfl
set_option maxRecDepth 100000 in
theorem m0_47 : qz_gd qz_jk k_all 47 = ms_c ms_0 47 := rfl
set_option maxRecDepth 100000 in
theorem m0_48 : qz_gd qz_jk k_all 48 = ms_c ms_0 48 := rfl
set_option maxRecDepth 100000 in
theorem m0_49 : qz_gd qz_jk k_all 49 = ms_c ms_0 49 := rfl
set_option maxRecDepth 100000 in
theorem m0_50 : qz_gd qz_jk k_all 50 = ms_c ms_0 50 := rfl
set_option maxRecDepth 100000 in
theorem m0_51 : qz_gd qz_jk k_all 51 = ms_c ms_0 51 := rfl
set_option maxRecDepth 100000 in
theorem m0_52 : qz_gd qz_jk k_all 52 = ms_c ms_0 52 := rfl
set_option maxRecDepth 100000 in
theorem m0_53 : qz_gd qz_jk k_all 53 = ms_c ms_0 53 := rfl
set_option maxRecDepth 100000 in
theorem m0_54 : qz_gd qz_jk k_all 54 = ms_c ms_0 54 := rfl
set_option maxRecDepth 100000 in
theorem m0_55 : qz_gd qz_jk k_all 55 = ms_c ms_0 55 := rfl
set_option maxRecDepth 100000 in
theorem m0_56 : qz_gd qz_jk k_all 56 = ms_c ms_0 56 := rfl
set_option maxRecDepth 100000 in
theorem m0_57 : qz_gd qz_jk k_all 57 = ms_c ms_0 57 := rfl
set_option maxRecDepth 100000 in
theorem m0_58 : qz_gd qz_jk k_all 58 = ms_c ms_0 58 := rfl
set_option maxRecDepth 100000 in
theorem m0_59 : qz_gd qz_jk k_all 59 = ms_c ms_0 59 := rfl
set_option maxRecDepth 100000 in
theorem m0_60 : qz_gd qz_jk k_all 60 = ms_c ms_0 60 := rfl
set_option maxRecDepth 100000 in
theorem m0_61 : qz_gd qz_jk k_all 61 = ms_c ms_0 61 := rfl
set_option maxRecDepth 100000 in
theorem m0_62 : qz_gd qz_jk k_all 62 = ms_c ms_0 62 := rfl
set_option maxRecDepth 100000 in
theorem m0_63 : qz_gd qz_jk k_all 63 = ms_c ms_0 63 := rfl
set_option maxRecDepth 100000 in
theorem m0_64 : qz_gd qz_jk k_all 64 = ms_c ms_0 64 := rfl
set_option maxRecDepth 100000 in
theorem m0_65 : qz_gd qz_jk k_all 65 = ms_c ms_0 65 := rfl
set_option maxRecDepth 100000 in
theorem m0_66 : qz_gd qz_jk k_all 66 = ms_c ms_0 66 := rfl
set_option maxRecDepth 100000 in
theorem m0_67 : qz_gd qz_jk k_all 67 = ms_c ms_0 67 := rf_eq (up_some (by decide) (up_some (by decide) (up_some (by decide) (fun _ _ => rfl)))) (by decide)
set_option maxRecDepth 100000 in
theorem m0_68 : qz_gd qz_jk k_all 68 = ms_c ms_0 68 := rfl
set_option maxRecDepth 100000 in
theorem m0_69 : qz_gd qz_jk k_all 69 = ms_c ms_0 69 := rfl
set_option maxRecDepth 100000 in
theorem m0_70 : qz_gd qz_jk k_all 70 = ms_c ms_0 70 := rfl
set_option maxRecDepth 100000 in
theorem m0_71 : qz_gd qz_jk k_all 71 = ms_c ms_0 71 := rfl
set_option maxRecDepth 100000 in
theorem m0_72 : qz_gd qz_jk k_all 72 = ms_c ms_0 72 := rfl
set_option maxRecDepth 100000 in
theorem m0_73 : qz_gd qz_jk k_all 73 = ms_c ms_0 73 := rfl
set_option maxRecDepth 100000 in
theorem m0_74 : qz_gd qz_jk k_all 74 = ms_c ms_0 74 := rfl
set_option maxRecDepth 100000 in
theorem m0_75 : qz_gd qz_jk k_all 75 = ms_c ms_0 75 := rfl
set_option maxRecDepth 100000 in
theorem m0_76 : qz_gd qz_jk k_all 76 = ms_c ms_0 76 := rfl
set_option maxRecDepth 100000 in
theorem m0_77 : qz_gd qz_jk k_all 77 = ms_c ms_0 77 := rfl
set_option maxRecDepth 100000 in
theorem m0_78 : qz_gd qz_jk k_all 78 = ms_c ms_0 78 := rfl
set_option maxRecDepth 100000 in
theorem m0_79 : qz_gd qz_jk k_all 79 = ms_c ms_0 79 := rfl
set_option maxRecDepth 100000 in
theorem m0_80 : qz_gd qz_jk k_all 80 = ms_c ms_0 80 := rfl
set_option maxRecDepth 100000 in
theorem m0_81 : qz_gd qz_jk k_all 81 = ms_c ms_0 81 := rfl
set_option maxRecDepth 100000 in
theorem m0_82 : qz_gd qz_jk k_all 82 = ms_c ms_0 82 := rfl
set_option maxRecDepth 100000 in
theorem m0_83 : qz_gd qz_jk k_all 83 = ms_c ms_0 83 := rfl
set_option maxRecDepth 100000 in
theorem m0_84 : qz_gd qz_jk k_all 84 = ms_c ms_0 84 := rfl
set_option maxRecDepth 100000 in
theorem m0_85 : qz_gd qz_jk k_all 85 = ms_c ms_0 85 := rfl
set_option maxRecDepth 100000 in
theorem m0_86 : qz_gd qz_jk k_all 86 = ms_c ms_0 86 := rfl
set_option maxRecDepth 100000 in
theorem m0_87 : qz_gd qz_jk k_all 87 = ms_c ms_0 87 := rfl
set_option maxRecDepth 100000 in
theorem m0_88 : qz_gd qz_jk k_all 88 = ms_c ms_0 88 := rfl
set_option maxRecDepth 100000 in
theorem m0_89 : qz_gd qz_jk k_all 89 = ms_c ms_0 89 := rfl
set_option maxRecDepth 100000 in
theorem m0_90 : qz_gd qz_jk k_all 90 = ms_c ms_0 90 := rfl
set_option maxRecDepth 100000 in
theorem m0_91 : qz_gd qz_jk k_all 91 = ms_c ms_0 91 := rfl
set_option maxRecDepth 100000 in
theorem m0_92 : qz_gd qz_jk k_all 92 = ms_c ms_0 92 := rfl
set_option maxRecDepth 100000 in
theorem m0_93 : qz_gd qz_jk k_all 93 = ms_c ms_0 93 := rfl
set_option maxRecDepth 100000 in
theorem m0_94 : qz_gd qz_jk k_all 94 = ms_c ms_0 94 := rfl
set_option maxRecDepth 100000 in
theorem m0_95 : qz_gd qz_jk k_all 95 = ms_c ms_0 95 := rfl
set_option maxRecDepth 100000 in
theorem m0_96 : qz_gd qz_jk k_all 96 = ms_c ms_0 96 := rfl
set_option maxRecDepth 100000 in
theorem m0_97 : qz_gd qz_jk k_all 97 = ms_c ms_0 97 := rfl
set_option maxRecDepth 100000 in
theorem m0_98 : qz_gd qz_jk k_all 98 = ms_c ms_0 98 := rfl
set_option maxRecDepth 100000 in
theorem m0_99 : qz_gd qz_jk k_all 99 = ms_c ms_0 99 := rfl
set_option maxRecDepth 100000 in
theorem m0_100 : qz_gd qz_jk k_all 100 = ms_c ms_0 100 := rfl
set_option maxRecDepth 100000 in
theorem m0_101 : qz_gd qz_jk k_all 101 = ms_c ms_0 101 := rfl
set_option maxRecDepth 100000 in
theorem m0_102 : qz_gd qz_jk k_all 102 = ms_c ms_0 102 := rfl
set_option maxRecDepth 100000 in
theorem m0_103 : qz_gd qz_jk k_all 103 = ms_c ms_0 103 := rfl
set_option maxRecDepth 100000 in
theorem m0_104 : qz_gd qz_jk k_all 104 = ms_c ms_0 104 := rfl
set_option maxRecDepth 100000 in
theorem m0_105 : qz_gd qz_jk k_all 105 = ms_c ms_0 105 := rfl
set_option maxRecDepth 100000 in
theorem m0_106 : qz_gd qz_jk k_all 106 = ms_c ms_0 106 := rfl
set_option maxRecDepth 100000 in
theorem m0_107 : qz_gd qz_jk k_all 107 = ms_c ms_0 107 := rfl
set_option maxRecDepth 100000 in
theorem m0_108 : qz_gd qz_jk k_all 108 = ms_c ms_0 108 := rfl
set_option maxRecDepth 100000 in
theorem m0_109 : qz_gd qz_jk k_all 109 = ms_c ms_0 109 := rfl
set_option maxRecDepth 100000 in
theorem m0_110 : qz_gd qz_jk k_all 110 = ms_c ms_0 110 := rfl
set_option maxRecDepth 100000 in
theorem m0_111 : qz_gd qz_jk k_all 111 = ms_c ms_0 111 := rfl
set_option maxRecDepth 100000 in
theorem m0_112 : qz_gd qz_jk k_all 112 = ms_c ms_0 112 := rfl
set_option maxRecDepth 100000 in
theorem m0_113 : qz_gd qz_jk k_all 113 = ms_c ms_0 113 := rfl
set_option maxRecDepth 100000 in
theorem m0_114 : qz_gd qz_jk k_all 114 = ms_c ms_0 114 := rfl
set_option maxRecDepth 100000 in
theorem m0_115 : qz_gd qz_jk k_all 115 = ms_c ms_0 115 := rfl
set_option maxRecDepth 100000 in
theorem m0_116 : qz_gd qz_jk k_all 116 = ms_c ms_0 116 := rfl
set_option maxRecDepth 100000 in
theorem m0_117 : qz_gd qz_jk k_all 117 = ms_c ms_0 117 := rfl
set_option maxRecDepth 100000 in
theorem m0_118 : qz_gd qz_jk k_all 118 = ms_c ms_0 118 := rfl
set_option maxRecDepth 100000 in
theorem m0_119 : qz_gd qz_jk k_all 119 = ms_c ms_0 119 := rfl
set_option maxRecDepth 100000 in
theorem m0_120 : qz_gd qz_jk k_all 120 = ms_c ms_0 120 := rfl
set_option maxRecDepth 100000 in
theorem m0_121 : qz_gd qz_jk k_all 121 = ms_c ms_0 121 := rfl
set_option maxRecDepth 100000 in
theorem m0_122 : qz_gd qz_jk k_all 122 = ms_c ms_0 122 := rfl
set_option maxRecDepth 100000 in
theorem m0_123 : qz_gd qz_jk k_all 123 = ms_c ms_0 123 := rfl
set_option maxRecDepth 100000 in
theorem m0_124 : qz_gd qz_jk k_all 124 = ms_c ms_0 124 := rfl
set_option maxRecDepth 100000 in
theorem m0_125 : qz_gd qz_jk k_all 125 = ms_c ms_0 125 := rfl
set_option maxRecDepth 100000 in
theorem m0_126 : qz_gd qz_jk k_all 126 = ms_c ms_0 126 := rfl
set_option maxRecDepth 100000 in
theorem m0_127 : qz_gd qz_jk k_all 127 = ms_c ms_0 127 := rf_eq (up_some (by decide) (up_some (by decide) (up_some (by decide) (up_some (by decide) (up_some (by decide) (up_some (by decide) (fun _ _ => rfl))))))) (by decide)
set_option maxRecDepth 100000 in
theorem m0_128 : qz_gd qz_jk k_all 128 = ms_c ms_0 128 := rfl
set_option maxRecDepth 100000 in
theorem m0_129 : qz_gd qz_jk k_all 129 = ms_c ms_0 129 := rfl
set_option maxRecDepth 100000 in
theorem m0_130 : qz_gd qz_jk k_all 130 = ms_c ms_0 130 := rfl
set_option maxRecDepth 100000 in
theorem m0_131 : qz_gd qz_jk k_all 131 = ms_c ms_0 131 := rfl
set_option maxRecDepth 100000 in
theorem m0_132 : qz_gd qz_jk k_all 132 = ms_c ms_0 132 := rfl
set_option maxRecDepth 100000 in
theorem m0_133 : qz_gd qz_jk k_all 133 = ms_c ms_0 133 := rfl
set_option maxRecDepth 100000 in
theorem m0_134 : qz_gd qz_jk k_all 134 = ms_c ms_0 134 := rfl
set_option maxRecDepth 100000 in
theorem m0_135 : qz_gd qz_jk k_all 135 = ms_c ms_0 135 := rfl
set_option maxRecDepth 100000 in
theorem m0_136 : qz_gd qz_jk k_all 136 = ms_c ms_0 136 := rfl
set_option maxRecDepth 100000 in
theorem m0_137 : qz_gd qz_jk k_all 137 = ms_c ms_0 137 := rfl
set_option maxRecDepth 100000 in
theorem m0_138 : qz_gd qz_jk k_all 138 = ms_c ms_0 138 := rfl
set_option maxRecDepth 100000 in
theorem m0_139 : qz_gd qz_jk k_all 139 = ms_c ms_0 139 := rfl
set_option maxRecDepth 100000 in
theorem m0_140 : qz_gd qz_jk k_all 140 = ms_c ms_0 140 := rfl
set_option maxRecDepth 100000 in
theorem m0_141 : qz_gd qz_jk k_all 141 = ms_c ms_0 141 := rfl
set_option maxRecDepth 100000 in
theorem m0_142 : qz_gd qz_jk k_all 142 = ms_c ms_0 142 := rfl
set_option maxRecDepth 100000 in
theorem m0_143 : qz_gd qz_jk k_all 143 = ms_c ms_0 143 := rfl
set_option maxRecDepth 100000 in
theorem m0_144 : qz_gd qz_jk k_all 144 = ms_c ms_0 144 := rfl
set_option maxRecDepth 100000 in
theorem m0_145 : qz_gd qz_jk k_all 145 = ms_c ms_0 145 := rfl
set_option maxRecDepth 100000 in
theorem m0_146 : qz_gd qz_jk k_all 146 = ms_c ms_0 146 := rfl
set_option maxRecDepth 100000 in
theorem m0_147 : qz_gd qz_jk k_all 147 = ms_c ms_0 147 := rfl
set_option maxRecDepth 100000 in
theorem m0_148 : qz_gd qz_jk k_all 148 = ms_c ms_0 148 := rfl
set_option maxRecDepth 100000 in
theorem m0_149 : qz_gd qz_jk k_all 149 = ms_c ms_0 149 := rfl
set_option maxRecDepth 100000 in
theorem m0_150 : qz_gd qz_jk k_all 150 = ms_c ms_0 150 := rfl
set_option maxRecDepth 100000 in
theorem m0_151 : qz_gd qz_jk k_all 151 = ms_c ms_0 151 := rfl
set_option maxRecDepth 100000 in
theorem m0_152 : qz_gd qz_jk k_all 152 = ms_c ms_0 152 := rfl
set_option maxRecDepth 100000 in
theorem m0_153 : qz_gd qz_jk k_all 153 = ms_c ms_0 153 := rfl
set_option maxRecDepth 100000 in
theorem m0_154 : qz_gd qz_jk k_all 154 = ms_c ms_0 154 := rfl
set_option maxRecDepth 100000 in
theorem m0_155 : qz_gd qz_jk k_all 155 = ms_c ms_0 155 := rfl
set_option maxRecDepth 100000 in
theorem m0_156 : qz_gd qz_jk k_all 156 = ms_c ms_0 156 := rfl
set_option maxRecDepth 100000 in
theorem m0_157 : qz_gd qz_jk k_all 157 = ms_c ms_0 157 := rfl
set_option maxRecDepth 100000 in
theorem m0_158 : qz_gd qz_jk k_all 158 = ms_c ms_0 158 := rfl
set_option maxRecDepth 100000 in
theorem m0_159 : qz_gd qz_jk k_all 159 = ms_c ms_0 159 := rfl
set_option maxRecDepth 100000 in
theorem m0_160 : qz_gd qz_jk k_all 160 = ms_c ms_0 160 := rfl
set_option maxRecDepth 100000 in
theorem m0_161 : qz_gd qz_jk k_all 161 = ms_c ms_0 161 := rfl
set_option maxRecDepth 100000 in
theorem m0_162 : qz_gd qz_jk k_all 162 = ms_c ms_0 162 := rfl
set_option maxRecDepth 100000 in
theorem m0_163 : qz_gd qz_jk k_all 163 = ms_c ms_0 163 := rfl
set_option maxRecDepth 100000 in
theorem m0_164 : qz_gd qz_jk k_all 164 = ms_c ms_0 164 := rfl
set_option maxRecDepth 100000 in
theorem m0_165 : qz_gd qz_jk k_all 165 = ms_c ms_0 165 := rfl
set_option maxRecDepth 100000 in
theorem m0_166 : qz_gd qz_jk k_all 166 = ms_c ms_0 166 := rfl
set_option maxRecDepth 100000 in
theorem m0_167 : qz_gd qz_jk k_all 167 = ms_c ms_0 167 := rfl
set_option maxRecDepth 100000 in
theorem m0_168 : qz_gd qz_jk k_all 168 = ms_c ms_0 168 := rfl
set_option maxRecDepth 100000 in
theorem m0_169 : qz_gd qz_jk k_all 169 = ms_c ms_0 169 := rfl
set_option maxRecDepth 100000 in
theorem m0_170 : qz_gd qz_jk k_all 170 = ms_c ms_0 170 := rfl
set_option maxRecDepth 100000 in
theorem m0_171 : qz_gd qz_jk k_all 171 = ms_c ms_0 171 := rfl
set_option maxRecDepth 100000 in
theorem m0_172 : qz_gd qz_jk k_all 172 = ms_c ms_0 172 := rfl
set_option maxRecDepth 100000 in
theorem m0_173 : qz_gd qz_jk k_all 173 = ms_c ms_0 173 := rfl
set_option maxRecDepth 100000 in
theorem m0_174 : qz_gd qz_jk k_all 174 = ms_c ms_0 174 := rfl
set_option maxRecDepth 100000 in
theorem m0_175 : qz_gd qz_jk k_all 175 = ms_c ms_0 175 := rfl
set_option maxRecDepth 100000 in
theorem m0_176 : qz_gd qz_jk k_all 176 = ms_c ms_0 176 := rfl
set_option maxRecDepth 100000 in
theorem m0_177 : qz_gd qz_jk k_all 177 = ms_c ms_0 177 := rfl
set_option maxRecDepth 100000 in
theorem m0_178 : qz_gd qz_jk k_all 178 = ms_c ms_0 178 := rfl
set_option maxRecDepth 100000 in
theorem m0_179 : qz_gd qz_jk k_all 179 = ms_c ms_0 179 := rfl
set_option maxRecDepth 100000 in
theorem m0_180 : qz_gd qz_jk k_all 180 = ms_c ms_0 180 := rfl
set_option maxRecDepth 100000 in
theorem m0_181 : qz_gd qz_jk k_all 181 = ms_c ms_0 181 := rfl
set_option maxRecDepth 100000 in
theorem m0_182 : qz_gd qz_jk k_all 182 = ms_c ms_0 182 := rfl
set_option maxRecDepth 100000 in
theorem m0_183 : qz_gd qz_jk k_all 183 = ms_c ms_0 183 := rfl
set_option maxRecDepth 100000 in
theorem m0_184 : qz_gd qz_jk k_all 184 = ms_c ms_0 184 := rfl
set_option maxRecDepth 100000 in
theorem m0_185 : qz_gd qz_jk k_all 185 = ms_c ms_0 185 := rfl
set_option maxRecDepth 100000 in
theorem m0_186 : qz_gd qz_jk k_all 186 = ms_c ms_0 186 := rfl
set_option maxRecDepth 100000 in
theorem m0_187 : qz_gd qz_jk k_all 187 = ms_c ms_0 187 := rfl
set_option maxRecDepth 100000 in
theorem m0_188 : qz_gd qz_jk k_all 188 = ms_c ms_0 188 := rfl
set_option maxRecDepth 100000 in
theorem m0_189 : qz_gd qz_jk k_all 189 = ms_c ms_0 189 := rfl
set_option maxRecDepth 100000 in
theorem m0_190 : qz_gd qz_jk k_all 190 = ms_c ms_0 190 := rfl
set_option maxRecDepth 100000 in
theorem m0_191 : qz_gd qz_jk k_all 191 = ms_c ms_0 191 := rf_eq (up_some (by decide) (up_some (by decide) (up_some (by decide) (up_some (by decide) (up_some (by decide) (up_some (by decide) (fun _ _ => rfl))))))) (by decide)
set_option maxRecDepth 100000 in
theorem m0_192 : qz_gd qz_jk k_all 192 = ms_c ms_0 192 := rfl
set_option maxRecDepth 100000 in
theorem m0_193 : qz_gd qz_jk k_all 193 = ms_c ms_0 193 := rfl
set_option maxRecDepth 100000 in
theorem m0_194 : qz_gd qz_jk k_all 194 = ms_c ms_0 194 := rfl
set_option maxRecDepth 100000 in
theorem m0_195 : qz_gd qz_jk k_all 195 = ms_c ms_0 195 := rfl
set_option maxRecDepth 100000 in
theorem m0_196 : qz_gd qz_jk k_all 196 = ms_c ms_0 196 := rfl
set_option maxRecDepth 100000 in
theorem m0_197 : qz_gd qz_jk k_all 197 = ms_c ms_0 197 := rfl
set_option maxRecDepth 100000 in
theorem m0_198 : qz_gd qz_jk k_all 198 = ms_c ms_0 198 := rfl
set_option maxRecDepth 100000 in
theorem m0_199 : qz_gd qz_jk k_all 199 = ms_c ms_0 199 := rfl
set_option maxRecDepth 100000 in
theorem m0_200 : qz_gd qz_jk k_all 200 = ms_c ms_0 200 := rfl
set_option maxRecDepth 100000 in
theorem m0_201 : qz_gd qz_jk k_all 201 = ms_c ms_0 201 := rfl
set_option maxRecDepth 100000 in
theorem m0_202 : qz_gd qz_jk k_all 202 = ms_c ms_0 202 := rfl
set_option maxRecDepth 100000 in
theorem m0_203 : qz_gd qz_jk k_all 203 = ms_c ms_0 203 := rfl
set_option maxRecDepth 100000 in
theorem m0_204 : qz_gd qz_jk k_all 204 = ms_c ms_0 204 := rfl
set_option maxRecDepth 100000 in
theorem m0_205 : qz_gd qz_jk k_all 205 = ms_c ms_0 205 := rfl
set_option maxRecDepth 100000 in
theorem m0_206 : qz_gd qz_jk k_all 206 = ms_c ms_0 206 := rfl
set_option maxRecDepth 100000 in
theorem m0_207 : qz_gd qz_jk k_all 207 = ms_c ms_0 207 := rfl
set_option maxRecDepth 100000 in
theorem m0_208 : qz_gd qz_jk k_all 208 = ms_c ms_0 208 := rfl
set_option maxRecDepth 100000 in
theorem m0_209 : qz_gd qz_jk k_all 209 = ms_c ms_0 209 := rfl
set_option maxRecDepth 100000 in
theorem m0_210 : qz_gd qz_jk k_all 210 = ms_c ms_0 210 := rfl
set_option maxRecDepth 100000 in
theorem m0_211 : qz_gd qz_jk k_all 211 = ms_c ms_0 211 := rfl
set_option maxRecDepth 100000 in
theorem m0_212 : qz_gd qz_jk k_all 212 = ms_c ms_0 212 := rfl
set_option maxRecDepth 100000 in
theorem m0_213 : qz_gd qz_jk k_all 213 = ms_c ms_0 213 := rfl
set_option maxRecDepth 100000 in
theorem m0_214 : qz_gd qz_jk k_all 214 = ms_c ms_0 214 := rfl
set_option maxRecDepth 100000 in
theorem m0_215 : qz_gd qz_jk k_all 215 = ms_c ms_0 215 := rfl
set_option maxRecDepth 100000 in
theorem m0_216 : qz_gd qz_jk k_all 216 = ms_c ms_0 216 := rfl
set_option maxRecDepth 100000 in
theorem m0_217 : qz_gd qz_jk k_all 217 = ms_c ms_0 217 := rfl
set_option maxRecDepth 100000 in
theorem m0_218 : qz_gd qz_jk k_all 218 = ms_c ms_0 218 := rfl
set_option maxRecDepth 100000 in
theorem m0_219 : qz_gd qz_jk k_all 219 = ms_c ms_0 219 := rfl
set_option maxRecDepth 100000 in
theorem m0_220 : qz_gd qz_jk k_all 220 = ms_c ms_0 220 := rfl
set_option maxRecDepth 100000 in
theorem m0_221 : qz_gd qz_jk k_all 221 = ms_c ms_0 221 := rfl
set_option maxRecDepth 100000 in
theorem m0_222 : qz_gd qz_jk k_all 222 = ms_c ms_0 222 := rfl
set_option maxRecDepth 100000 in
theorem m0_223 : qz_gd qz_jk k_all 223 = ms_c ms_0 223 := rfl
set_option maxRecDepth 100000 in
theorem m0_224 : qz_gd qz_jk k_all 224 = ms_c ms_0 224 := rfl
set_option maxRecDepth 100000 in
theorem m0_225 : qz_gd qz_jk k_all 225 = ms_c ms_0 225 := rfl
set_option maxRecDepth 100000 in
theorem m0_226 : qz_gd qz_jk k_all 226 = ms_c ms_0 226 := rfl
set_option maxRecDepth 100000 in
theorem m0_227 : qz_gd qz_jk k_all 227 = ms_c ms_0 227 := rfl
set_option maxRecDepth 100000 in
theorem m0_228 : qz_gd qz_jk k_all 228 = ms_c ms_0 228 := rfl
set_option maxRecDepth 100000 in
theorem m0_229 : qz_gd qz_jk k_all 229 = ms_c ms_0 229 := rfl
set_option maxRecDepth 100000 in
theorem m0_230 : qz_gd qz_jk k_all 230 = ms_c ms_0 230 := rfl
set_option maxRecDepth 100000 in
theorem m0_231 : qz_gd qz_jk k_all 231 = ms_c ms_0 231 := rfl
set_option maxRecDepth 100000 in
theorem m0_232 : qz_gd qz_jk k_all 232 = ms_c ms_0 232 := rfl
set_option maxRecDepth 100000 in
theorem m0_233 : qz_gd qz_jk k_all 233 = ms_c ms_0 233 := rfl
set_option maxRecDepth 100000 in
theorem m0_234 : qz_gd qz_jk k_all 234 = ms_c ms_0 234 := rfl
set_option maxRecDepth 100000 in
theorem m0_235 : qz_gd qz_jk k_all 235 = ms_c ms_0 235 := rfl
set_option maxRecDepth 100000 in
theorem m0_236 : qz_gd qz_jk k_all 236 = ms_c ms_0 236 := rfl
set_option maxRecDepth 100000 in
theorem m0_237 : qz_gd qz_jk k_all 237 = ms_c ms_0 237 := rfl
set_option maxRecDepth 100000 in
theorem m0_238 : qz_gd qz_jk k_all 238 = ms_c ms_0 238 := rfl
set_option maxRecDepth 100000 in
theorem m0_239 : qz_gd qz_jk k_all 239 = ms_c ms_0 239 := rfl
set_option maxRecDepth 100000 in
theorem m0_240 : qz_gd qz_jk k_all 240 = ms_c ms_0 240 := rfl
set_option maxRecDepth 100000 in
theorem m0_241 : qz_gd qz_jk k_all 241 = ms_c ms_0 241 := rfl
set_option maxRecDepth 100000 in
theorem m0_242 : qz_gd qz_jk k_all 242 = ms_c ms_0 242 := rfl
set_option maxRecDepth 100000 in
theorem m0_243 : qz_gd qz_jk k_all 243 = ms_c ms_0 243 := rfl
set_option maxRecDepth 100000 in
theorem m0_244 : qz_gd qz_jk k_all 244 = ms_c ms_0 244 := rfl
set_option maxRecDepth 100000 in
theorem m0_245 : qz_gd qz_jk k_all 245 = ms_c ms_0 245 := rfl
set_option maxRecDepth 100000 in
theorem m0_246 : qz_gd qz_jk k_all 246 = ms_c ms_0 246 := rfl
set_option maxRecDepth 100000 in
theorem m0_247 : qz_gd qz_jk k_all 247 = ms_c ms_0 247 := rfl
set_option maxRecDepth 100000 in
theorem m0_248 : qz_gd qz_jk k_all 248 = ms_c ms_0 248 := rfl
set_option maxRecDepth 100000 in
theorem m0_249 : qz_gd qz_jk k_all 249 = ms_c ms_0 249 := rfl
set_option maxRecDepth 100000 in
theorem m0_250 : qz_gd qz_jk k_all 250 = ms_c ms_0 250 := rfl
set_option maxRecDepth 100000 in
theorem m0_251 : qz_gd qz_jk k_all 251 = ms_c ms_0 251 := rfl
set_option maxRecDepth 100000 in
theorem m0_252 : qz_gd qz_jk k_all 252 = ms_c ms_0 252 := rfl
set_option maxRecDepth 100000 in
theorem m0_253 : qz_gd qz_jk k_all 253 = ms_c ms_0 253 := rfl
set_option maxRecDepth 100000 in
theorem m0_254 : qz_gd qz_jk k_all 254 = ms_c ms_0 254 := rfl
set_option maxRecDepth 100000 in
theorem m0_255 : qz_gd qz_jk k_all 255 = ms_c ms_0 255 := rf_eq (up_some (by decide) (up_some (by decide) (up_some (by decide) (up_some (by decide) (up_some (by decide) (up_some (by decide) (fun _ _ => rfl))))))) (by decide)
set_option maxRecDepth 100000 in
theorem m0_256 : qz_gd qz_jk k_all 256 = ms_c ms_0 256 := rfl
set_option maxRecDepth 100000 in
theorem m0_257 : qz_gd qz_jk k_all 257 = ms_c ms_0 257 := rfl
set_option maxRecDepth 100000 in
theorem m0_258 : qz_gd qz_jk k_all 258 = ms_c ms_0 258 := rfl
set_option maxRecDepth 100000 in
theorem m0_259 : qz_gd qz_jk k_all 259 = ms_c ms_0 259 := rfl
set_option maxRecDepth 100000 in
theorem m0_260 : qz_gd qz_jk k_all 260 = ms_c ms_0 260 := rfl
set_option maxRecDepth 100000 in
theorem m0_261 : qz_gd qz_jk k_all 261 = ms_c ms_0 261 := rfl
set_option maxRecDepth 100000 in
theorem m0_262 : qz_gd qz_jk k_all 262 = ms_c ms_0 262 := rfl
set_option maxRecDepth 100000 in
theorem m0_263 : qz_gd qz_jk k_all 263 = ms_c ms_0 263 := rfl
set_option maxRecDepth 100000 in
theorem m0_264 : qz_gd qz_jk k_all 264 = ms_c ms_0 264 := rfl
set_option maxRecDepth 100000 in
theorem m0_265 : qz_gd qz_jk k_all 265 = ms_c ms_0 265 := rfl
set_option maxRecDepth 100000 in
theorem m0_266 : qz_gd qz_jk k_all 266 = ms_c ms_0 266 := rfl
set_option maxRecDepth 100000 in
theorem m0_267 : qz_gd qz_jk k_all 267 = ms_c ms_0 267 := rfl
set_option maxRecDepth 100000 in
theorem m0_268 : qz_gd qz_jk k_all 268 = ms_c ms_0 268 := rfl
set_option maxRecDepth 100000 in
theorem m0_269 : qz_gd qz_jk k_all 269 = ms_c ms_0 269 := rfl
set_option maxRecDepth 100000 in
theorem m0_270 : qz_gd qz_jk k_all 270 = ms_c ms_0 270 := rfl
set_option maxRecDepth 100000 in
theorem m0_271 : qz_gd qz_jk k_all 271 = ms_c ms_0 271 := rfl
set_option maxRecDepth 100000 in
theorem m0_272 : qz_gd qz_jk k_all 272 = ms_c ms_0 272 := rfl
set_option maxRecDepth 100000 in
theorem m0_273 : qz_gd qz_jk k_all 273 = ms_c ms_0 273 := rfl
set_option maxRecDepth 100000 in
theorem m0_274 : qz_gd qz_jk k_all 274 = ms_c ms_0 274 := rfl
set_option maxRecDepth 100000 in
theorem m0_275 : qz_gd qz_jk k_all 275 = ms_c ms_0 275 := rfl
set_option maxRecDepth 100000 in
theorem m0_276 : qz_gd qz_jk k_all 276 = ms_c ms_0 276 := rfl
set_option maxRecDepth 100000 in
theorem m0_277 : qz_gd qz_jk k_all 277 = ms_c ms_0 277 := rfl
set_option maxRecDepth 100000 in
theorem m0_278 : qz_gd qz_jk k_all 278 = ms_c ms_0 278 := rfl
set_option maxRecDepth 100000 in
theorem m0_279 : qz_gd qz_jk k_all 279 = ms_c ms_0 279 := rfl
set_option maxRecDepth 100000 in
theorem m0_280 : qz_gd qz_jk k_all 280 = ms_c ms_0 280 := rfl
set_option maxRecDepth 100000 in
theorem m0_281 : qz_gd qz_jk k_all 281 = ms_c ms_0 281 := rfl
set_option maxRecDepth 100000 in
theorem m0_282 : qz_gd qz_jk k_all 282 = ms_c ms_0 282 := rfl
set_option maxRecDepth 100000 in
theorem m0_283 : qz_gd qz_jk k_all 283 = ms_c ms_0 283 := rfl
set_option maxRecDepth 100000 in
theorem m0_284 : qz_gd qz_jk k_all 284 = ms_c ms_0 284 := rfl
set_option maxRecDepth 100000 in
theorem m0_285 : qz_gd qz_jk k_all 285 = ms_c ms_0 285 := rfl
set_option maxRecDepth 100000 in
theorem m0_286 : qz_gd qz_jk k_all 286 = ms_c ms_0 286 := rfl
set_option maxRecDepth 100000 in
theorem m0_287 : qz_gd qz_jk k_all 287 = ms_c ms_0 287 := rfl
set_option maxRecDepth 100000 in
theorem m0_288 : qz_gd qz_jk k_all 288 = ms_c ms_0 288 := rfl
set_option maxRecDepth 100000 in
theorem m0_289 : qz_gd qz_jk k_all 289 = ms_c ms_0 289 := rfl
set_option maxRecDepth 100000 in
theorem m0_290 : qz_gd qz_jk k_all 290 = ms_c ms_0 290 := rfl
set_option maxRecDepth 100000 in
theorem m0_291 : qz_gd qz_jk k_all 291 = ms_c ms_0 291 := rfl
set_option maxRecDepth 100000 in
theorem m0_292 : qz_gd qz_jk k_all 292 = ms_c ms_0 292 := rfl
set_option maxRecDepth 100000 in
theorem m0_293 : qz_gd qz_jk k_all 293 = ms_c ms_0 293 := rfl
set_option maxRecDepth 100000 in
theorem m0_294 : qz_gd qz_jk k_all 294 = ms_c ms_0 294 := rfl
set_option maxRecDepth 100000 in
theorem m0_295 : qz_gd qz_jk k_all 295 = ms_c ms_0 295 := rfl
set_option maxRecDepth 100000 in
theorem m0_296 : qz_gd qz_jk k_all 296 = ms_c ms_0 296 := rfl
set_option maxRecDepth 100000 in
theorem m0_297 : qz_gd qz_jk k_all 297 = ms_c ms_0 297 := rfl
set_option maxRecDepth 100000 in
theorem m0_298 : qz_gd qz_jk k_all 298 = ms_c ms_0 298 := rfl
set_option maxRecDepth 100000 in
theorem m0_299 : qz_gd qz_jk k_all 299 = ms_c ms_0 299 := rfl
set_option maxRecDepth 100000 in
theorem m0_300 : qz_gd qz_jk k_all 300 = ms_c ms_0 300 := rfl
set_option maxRecDepth 100000 in
theorem m0_301 : qz_gd qz_jk k_all 301 = ms_c ms_0 301 := rfl
set_option maxRecDepth 100000 in
theorem m0_302 : qz_gd qz_jk k_all 302 = ms_c ms_0 302 := rfl
set_option maxRecDepth 100000 in
theorem m0_303 : qz_gd qz_jk k_all 303 = ms_c ms_0 303 := rfl
set_option maxRecDepth 100000 in
theorem m0_304 : qz_gd qz_jk k_all 304 = ms_c ms_0 304 := rfl
set_option maxRecDepth 100000 in
theorem m0_305 : qz_gd qz_jk k_all 305 = ms_c ms_0 305 := rfl
set_option maxRecDepth 100000 in
theorem m0_306 : qz_gd qz_jk k_all 306 = ms_c ms_0 306 := rfl
set_option maxRecDepth 100000 in
theorem m0_307 : qz_gd qz_jk k_all 307 = ms_c ms_0 307 := rfl
set_option maxRecDepth 100000 in
theorem m0_308 : qz_gd qz_jk k_all 308 = ms_c ms_0 308 := rfl
set_option maxRecDepth 100000 in
theorem m0_309 : qz_gd qz_jk k_all 309 = ms_c ms_0 309 := rfl
set_option maxRecDepth 100000 in
theorem m0_310 : qz_gd qz_jk k_all 310 = ms_c ms_0 310 := rfl
set_option maxRecDepth 100000 in
theorem m0_311 : qz_gd qz_jk k_all 311 = ms_c ms_0 311 := rfl
set_option maxRecDepth 100000 in
theorem m0_312 : qz_gd qz_jk k_all 312 = ms_c ms_0 312 := rfl
set_option maxRecDepth 100000 in
theorem m0_313 : qz_gd qz_jk k_all 313 = ms_c ms_0 313 := rfl
set_option maxRecDepth 100000 in
theorem m0_314 : qz_gd qz_jk k_all 314 = ms_c ms_0 314 := rfl
set_option maxRecDepth 100000 in
theorem m0_315 : qz_gd qz_jk k_all 315 = ms_c ms_0 315 := rfl
set_option maxRecDepth 100000 in
theorem m0_316 : qz_gd qz_jk k_all 316 = ms_c ms_0 316 := rfl
set_option maxRecDepth 100000 in
theorem m0_317 : qz_gd qz_jk k_all 317 = ms_c ms_0 317 := rfl
set_option maxRecDepth 100000 in
theorem m0_318 : qz_gd qz_jk k_all 318 = ms_c ms_0 318 := rfl
set_option maxRecDepth 100000 in
theorem m0_319 : qz_gd qz_jk k_all 319 = ms_c ms_0 319 := rfl
set_option maxRecDepth 100000 in
theorem m0_320 : qz_gd qz_jk k_all 320 = ms_c ms_0 320 := rfl
set_option maxRecDepth 100000 in
theorem m0_321 : qz_gd qz_jk k_all 321 = ms_c ms_0 321 := rfl
set_option maxRecDepth 100000 in
theorem m0_322 : qz_gd qz_jk k_all 322 = ms_c ms_0 322 := rfl
set_option maxRecDepth 100000 in
theorem m0_323 : qz_gd qz_jk k_all 323 = ms_c ms_0 323 := rfl
set_option maxRecDepth 100000 in
theorem m0_324 : qz_gd qz_jk k_all 324 = ms_c ms_0 324 := rfl
set_option maxRecDepth 100000 in
theorem m0_325 : qz_gd qz_jk k_all 325 = ms_c ms_0 325 := rfl
set_option maxRecDepth 100000 in
theorem m0_326 : qz_gd qz_jk k_all 326 = ms_c ms_0 326 := rfl
set_option maxRecDepth 100000 in
theorem m0_327 : qz_gd qz_jk k_all 327 = ms_c ms_0 327 := rfl
set_option maxRecDepth 100000 in
theorem m0_328 : qz_gd qz_jk k_all 328 = ms_c ms_0 328 := rfl
set_option maxRecDepth 100000 in
theorem m0_329 : qz_gd qz_jk k_all 329 = ms_c ms_0 329 := rfl
set_option maxRecDepth 100000 in
theorem m0_330 : qz_gd qz_jk k_all 330 = ms_c ms_0 330 := rfl
set_option maxRecDepth 100000 in
theorem m0_331 : qz_gd qz_jk k_all 331 = ms_c ms_0 331 := rfl
set_option maxRecDepth 100000 in
theorem m0_332 : qz_gd qz_jk k_all 332 = ms_c ms_0 332 := rfl
set_option maxRecDepth 100000 in
theorem m0_333 : qz_gd qz_jk k_all 333 = ms_c ms_0 333 := rfl
set_option maxRecDepth 100000 in
theorem m0_334 : qz_gd qz_jk k_all 334 = ms_c ms_0 334 := rfl
set_option maxRecDepth 100000 in
theorem m0_335 : qz_gd qz_jk k_all 335 = ms_c ms_0 335 := rfl
set_option maxRecDepth 100000 in
theorem m0_336 : qz_gd qz_jk k_all 336 = ms_c ms_0 336 := rfl
set_option maxRecDepth 100000 in
theorem m0_337 : qz_gd qz_jk k_all 337 = ms_c ms_0 337 := rfl
set_option maxRecDepth 100000 in
theorem m0_338 : qz_gd qz_jk k_all 338 = ms_c ms_0 338 := rfl
set_option maxRecDepth 100000 in
theorem m0_339 : qz_gd qz_jk k_all 339 = ms_c ms_0 339 := rfl
set_option maxRecDepth 100000 in
theorem m0_340 : qz_gd qz_jk k_all 340 = ms_c ms_0 340 := rfl
set_option maxRecDepth 100000 in
theorem m0_341 : qz_gd qz_jk k_all 341 = ms_c ms_0 341 := rfl
set_option maxRecDepth 100000 in
theorem m0_342 : qz_gd qz_jk k_all 342 = ms_c ms_0 342 := rfl
set_option maxRecDepth 100000 in
theorem m0_343 : qz_gd qz_jk k_all 343 = ms_c ms_0 343 := rfl
set_option maxRecDepth 100000 in
theorem m0_344 : qz_gd qz_jk k_all 344 = ms_c ms_0 344 := rfl
set_option maxRecDepth 100000 in
theorem m0_345 : qz_gd qz_jk k_all 345 = ms_c ms_0 345 := rfl
set_option maxRecDepth 100000 in
theorem m0_346 : qz_gd qz_jk k_all 346 = ms_c ms_0 346 := rfl
set_option maxRecDepth 100000 in
theorem m0_347 : qz_gd qz_jk k_all 347 = ms_c ms_0 347 := rfl
set_option maxRecDepth 100000 in
theorem m0_348 : qz_gd qz_jk k_all 348 = ms_c ms_0 348 := rfl
set_option maxRecDepth 100000 in
theorem m0_349 : qz_gd qz_jk k_all 349 = ms_c ms_0 349 := rfl
set_option maxRecDepth 100000 in
theorem m0_350 : qz_gd qz_jk k_all 350 = ms_c ms_0 350 := rfl
set_option maxRecDepth 100000 in
theorem m0_351 : qz_gd qz_jk k_all 351 = ms_c ms_0 351 := rfl
set_option maxRecDepth 100000 in
theorem m0_352 : qz_gd qz_jk k_all 352 = ms_c ms_0 352 := rfl
set_option maxRecDepth 100000 in
theorem m0_353 : qz_gd qz_jk k_all 353 = ms_c ms_0 353 := rfl
set_option maxRecDepth 100000 in
theorem m0_354 : qz_gd qz_jk k_all 354 = ms_c ms_0 354 := rfl
set_option maxRecDepth 100000 in
theorem m0_355 : qz_gd qz_jk k_all 355 = ms_c ms_0 355 := rfl
set_option maxRecDepth 100000 in
theorem m0_356 : qz_gd qz_jk k_all 356 = ms_c ms_0 356 := rfl
set_option maxRecDepth 100000 in
theorem m0_357 : qz_gd qz_jk k_all 357 = ms_c ms_0 357 := rfl
set_option maxRecDepth 100000 in
theorem m0_358 : qz_gd qz_jk k_all 358 = ms_c ms_0 358 := rfl
set_option maxRecDepth 100000 in
theorem m0_359 : qz_gd qz_jk k_all 359 = ms_c ms_0 359 := rfl
set_option maxRecDepth 100000 in
theorem m0_360 : qz_gd qz_jk k_all 360 = ms_c ms_0 360 := rfl
set_option maxRecDepth 100000 in
theorem m0_361 : qz_gd qz_jk k_all 361 = ms_c ms_0 361 := rfl
theorem mb_0 : ∀ a, a < 16 → qz_gd qz_jk k_all a = ms_c ms_0 a := lt_s (p := fun i => qz_gd qz_jk k_all i = ms_c ms_0 i) (lt_s (p := fun i => qz_gd qz_jk k_all i = ms_c ms_0 i) (lt_s (p := fun i => qz_gd qz_jk k_all i = ms_c ms_0 i) (lt_s (p := fun i => qz_gd qz_jk k_all i = ms_c ms_0 i) (lt_s (p := fun i => qz_gd qz_jk k_all i = ms_c ms_0 i) (lt_s (p := fun i => qz_gd qz_jk k_all i = ms_c ms_0 i) (lt_s (p := fun i => qz_gd qz_jk k_all i = ms_c ms_0 i) (lt_s (p := fun i => qz_gd qz_jk k_all i = ms_c ms_0 i) (lt_s (p := fun i => qz_gd qz_jk k_all i = ms_c ms_0 i) (lt_s (p := fun i => qz_gd qz_jk k_all i = ms_c ms_0 i) (lt_s (p := fun i => qz_gd qz_jk k_all i = ms_c ms_0 i) (lt_s (p := fun i => qz_gd qz_jk k_all i = ms_c ms_0 i) (lt_s (p := fun i => qz_gd qz_jk k_all i = ms_c ms_0 i) (lt_s (p := fun i => qz_gd qz_jk k_all i = ms_c ms_0 i) (lt_s (p := fun i => qz_gd qz_jk k_all i = ms_c ms_0 i) (lt_s (p := fun i => qz_gd qz_jk k_all i = ms_c ms_0 i) ((fun a h => absurd h (Nat.not_lt_zero a))) m0_0) m0_1) m0_2) m0_3) m0_4) m0_5) m0_6) m0_7) m0_8) m0_9) m0_10) m0_11) m0_12) m0_13) m0_14) m0_15
theorem mb_1 : ∀ a, a < 32 → qz_gd qz_jk k_all a = ms_c ms_0 a := lt_s (p := fun i => qz_gd qz_jk k_all i = ms_c ms_0 i) (lt_s (p := fun i => qz_gd qz_jk k_all i = ms_c ms_0 i) (lt_s (p := fun i => qz_gd qz_jk k_all i = ms_c ms_0 i) (lt_s (p := fun i => qz_gd qz_jk k_all i = ms_c ms_0 i) (lt_s (p := fun i => qz_gd qz_jk k_all i = ms_c ms_0 i) (lt_s (p := fun i => qz_gd qz_jk k_all i = ms_c ms_0 i) (lt_s (p := fun i => qz_gd qz_jk k_all i = ms_c ms_0 i) (lt_s (p := fun i => qz_gd qz_jk k_all i = ms_c ms_0 i) (lt_s (p := fun i => qz_gd qz_jk k_all i = ms_c ms_0 i) (lt_s (p := fun i => qz_gd qz_jk k_all i = ms_c ms_0 i) (lt_s (p := fun i => qz_gd qz_jk k_all i = ms_c ms_0 i) (lt_s (p := fun i => qz_gd qz_jk k_all i = ms_c ms_0 i) (lt_s (p := fun i => qz_gd qz_jk k_all i = ms_c ms_0 i) (lt_s (p := fun i => qz_gd qz_jk k_all i = ms_c ms_0 i) (lt_s (p := fun i => qz_gd qz_jk k_all i = ms_c ms_0 i) (lt_s (p := fun i => qz_gd qz_jk k_all i = ms_c ms_0 i) (mb_0) m0_16) m0_17) m0_18) m0_19) m0_20) m0_21) m0_22) m0_23) m0_24) m0_25) m0_26) m0_27) m0_28) m0_29) m0_30) m0_31
theorem mb_2 : ∀ a, a < 48 → qz_gd qz_jk k_all a = ms_c ms_0 a := lt_s (p := fun i => qz_gd qz_jk k_all i = ms_c ms_0 i) (lt_s (p := fun i => qz_gd qz_jk k_all i = ms_c ms_0 i) (lt_s (p := fun i => qz_gd qz_jk k_all i = ms_c ms_0 i) (lt_s (p := fun i => qz_gd qz_jk k_all i = ms_c ms_0 i) (lt_s (p := fun i => qz_gd qz_jk k_all i = ms_c ms_0 i) (lt_s (p := fun i => qz_gd qz_jk k_all i = ms_c ms_0 i) (lt_s (p := fun i => qz_gd qz_jk k_all i = ms_c ms_0 i) (lt_s (p := fun i => qz_gd qz_jk k_all i = ms_c ms_0 i) (lt_s (p := fun i => qz_gd qz_jk k_all i = ms_c ms_0 i) (lt_s (p := fun i => qz_gd qz_jk k_all i = ms_c ms_0 i) (lt_s (p := fun i => qz_gd qz_jk k_all i = ms_c ms_0 i) (lt_s (p := fun i => qz_gd qz_jk k_all i = ms_c ms_0 i) (lt_s (p := fun i => qz_gd qz_jk k_all i = ms_c ms_0 i) (lt_s (p := fun i => qz_gd qz_jk k_all i = ms_c ms_0 i) (lt_s (p := fun i => qz_gd qz_jk k_all i = ms_c ms_0 i) (lt_s (p := fun i => qz_gd qz_jk k_all i = ms_c ms_0 i) (mb_1) m0_32) m0_33) m0_34) m0_35) m0_36) m0_37) m0_38) m0_39) m0_40) m0_41) m0_42) m0_43) m0_44) m0_45) m0_46) m0_47
theorem mb_3 : ∀ a, a < 64 → qz_gd qz_jk k_all a = ms_c ms_0 a := lt_s (p := fun i => qz_gd qz_jk k_all i = ms_c ms_0 i) (lt_s (p := fun i => qz_gd qz_jk k_all i = ms_c ms_0 i) (lt_s (p := fun i => qz_gd qz_jk k_all i = ms_c ms_0 i) (lt_s (p := fun i => qz_gd qz_jk k_all i = ms_c ms_0 i) (lt_s (p := fun i => qz_gd qz_jk k_all i = ms_c ms_0 i) (lt_s (p := fun i => qz_gd qz_jk k_all i = ms_c ms_0 i) (lt_s (p := fun i => qz_gd qz_jk k_all i = ms_c ms_0 i) (lt_s (p := fun i => qz_gd qz_jk k_all i = ms_c ms_0 i) (lt_s (p := fun i => qz_gd qz_jk k_all i = ms_c ms_0 i) (lt_s (p := fun i => qz_gd qz_jk k_all i = ms_c ms_0 i) (lt_s (p := fun i => qz_gd qz_jk k_all i = ms_c ms_0 i) (lt_s (p := fun i => qz_gd qz_jk k_all i = ms_c ms_0 i) (lt_s (p := fun i => qz_gd qz_jk k_all i = ms_c ms_0 i) (lt_s (p := fun i => qz_gd qz_jk k_all i = ms_c ms_0 i) (lt_s (p := fun i => qz_gd qz_jk k_all i = ms_c ms_0 i) (lt_s (p := fun i => qz_gd qz_jk k_all i = ms_c ms_0 i) (mb_2) m0_48) m0_49) m0_50) m0_51) m0_52) m0_53) m0_54) m0_55) m0_56) m0_57) m0_58) m0_59) m0_60) m0_61) m0_62) m0_63
theorem mb_4 : ∀ a, a < 80 → qz_gd qz_jk k_all a = ms_c ms_0 a := lt_s (p := fun i => qz_gd qz_jk k_all i = ms_c ms_0 i) (lt_s (p := fun i => qz_gd qz_jk k_all i = ms_c ms_0 i) (lt_s (p := fun i => qz_gd qz_jk k_all i = ms_c ms_0 i) (lt_s (p := fun i => qz_gd qz_jk k_all i = ms_c ms_0 i) (lt_s (p := fun i => qz_gd qz_jk k_all i = ms_c ms_0 i) (lt_s (p := fun i => qz_gd qz_jk k_all i = ms_c ms_0 i) (lt_s (p := fun i => qz_gd qz_jk k_all i = ms_c ms_0 i) (lt_s (p := fun i => qz_gd qz_jk k_all i = ms_c ms_0 i) (lt_s (p := fun i => qz_gd qz_jk k_all i = ms_c ms_0 i) (lt_s (p := fun i => qz_gd qz_jk k_all i = ms_c ms_0 i) (lt_s (p := fun i => qz_gd qz_jk k_all i = ms_c ms_0 i) (lt_s (p := fun i => qz_gd qz_jk k_all i = ms_c ms_0 i) (lt_s (p := fun i => qz_gd qz_jk k_all i = ms_c ms_0 i) (lt_s (p := fun i => qz_gd qz_jk k_all i = ms_c ms_0 i) (lt_s (p := fun i => qz_gd qz_jk k_all i = ms_c ms_0 i) (lt_s (p := fun i => qz_gd qz_jk k_all i = ms_c ms_0 i) (mb_3) m0_64) m0_65) m0_66) m0_67) m0_68) m0_69) m0_70) m0_71) m0_72) m0_73) m0_74) m0_75) m0_76) m0_77) m0_78) m0_79
theorem mb_5 : ∀ a, a < 96 → qz_gd qz_jk k_all a = ms_c ms_0 a := lt_s (p := fun i => qz_gd qz_jk k_all i = ms_c ms_0 i) (lt_s (p := fun i => qz_gd qz_jk k_all i = ms_c ms_0 i) (lt_s (p := fun i => qz_gd qz_jk k_all i = ms_c ms_0 i) (lt_s (p := fun i => qz_gd qz_jk k_all i = ms_c ms_0 i) (lt_s (p := fun i => qz_gd qz_jk k_all i = ms_c ms_0 i) (lt_s (p := fun i => qz_gd qz_jk k_all i = ms_c ms_0 i) (lt_s (p := fun i => qz_gd qz_jk k_all i = ms_c ms_0 i) (lt_s (p := fun i => qz_gd qz_jk k_all i = ms_c ms_0 i) (lt_s (p := fun i => qz_gd qz_jk k_all i = ms_c ms_0 i) (lt_s (p := fun i => qz_gd qz_jk k_all i = ms_c ms_0 i) (lt_s (p := fun i => qz_gd qz_jk k_all i = ms_c ms_0 i) (lt_s (p := fun i => qz_gd qz_jk k_all i = ms_c ms_0 i) (lt_s (p := fun i => qz_gd qz_jk k_all i = ms_c ms_0 i) (lt_s (p := fun i => qz_gd qz_jk k_all i = ms_c ms_0 i) (lt_s (p := fun i => qz_gd qz_jk k_all i = ms_c ms_0 i) (lt_s (p := fun i => qz_gd qz_jk k_all i = ms_c ms_0 i) (mb_4) m0_80) m0_81) m0_82) m0_83) m0_84) m0_85) m0_86) m0_87) m0_88) m0_89) m0_90) m0_91) m0_92) m0_93) m0_94) m0_95
theorem mb_6 : ∀ a, a < 112 → qz_gd qz_jk k_all a = ms_c ms_0 a := lt_s (p := fun i => qz_gd qz_jk k_all i = ms_c ms_0 i) (lt_s (p := fun i => qz_gd qz_jk k_all i = ms_c ms_0 i) (lt_s (p := fun i => qz_gd qz_jk k_all i = ms_c ms_0 i) (lt_s (p := fun i => qz_gd qz_jk k_all i = ms_c ms_0 i) (lt_s (p := fun i => qz_gd qz_jk k_all i = ms_c ms_0 i) (lt_s (p := fun i => qz_gd qz_jk k_all i = ms_c ms_0 i) (lt_s (p := fun i => qz_gd qz_jk k_all i = ms_c ms_0 i) (lt_s (p := fun i => qz_gd qz_jk k_all i = ms_c ms_0 i) (lt_s (p := fun i => qz_gd qz_jk k_all i = ms_c ms_0 i) (lt_s (p := fun i => qz_gd qz_jk k_all i = ms_c ms_0 i) (lt_s (p := fun i => qz_gd qz_jk k_all i = ms_c ms_0 i) (lt_s (p := fun i => qz_gd qz_jk k_all i = ms_c ms_0 i) (lt_s (p := fun i => qz_gd qz_jk k_all i = ms_c ms_0 i) (lt_s (p := fun i => qz_gd qz_jk k_all i = ms_c ms_0 i) (lt_s (p := fun i => qz_gd qz_jk k_all i = ms_c ms_0 i) (lt_s (p := fun i => qz_gd qz_jk k_all i = ms_c ms_0 i) (mb_5) m0_96) m0_97) m0_98) m0_99) m0_100) m0_101) m0_102) m0_103) m0_104) m0_105) m0_106) m0_107) m0_108) m0_109) m0_110) m0_111
theorem mb_7 : ∀ a, a < 128 → qz_gd qz_jk k_all a = ms_c ms_0 a := lt_s (p := fun i => qz_gd qz_jk k_all i = ms_c ms_0 i) (lt_s (p := fun i => qz_gd qz_jk k_all i = ms_c ms_0 i) (lt_s (p := fun i => qz_gd qz_jk k_all i = ms_c ms_0 i) (lt_s (p := fun i => qz_gd qz_jk k_all i = ms_c ms_0 i) (lt_s (p := fun i => qz_gd qz_jk k_all i = ms_c ms_0 i) (lt_s (p := fun i => qz_gd qz_jk k_all i = ms_c ms_0 i) (lt_s (p := fun i => qz_gd qz_jk k_all i = ms_c ms_0 i) (lt_s (p := fun i => qz_gd qz_jk k_all i = ms_c ms_0 i) (lt_s (p := fun i => qz_gd qz_jk k_all i = ms_c ms_0 i) (lt_s (p := fun i => qz_gd qz_jk k_all i = ms_c ms_0 i) (lt_s (p := fun i => qz_gd qz_jk k_all i = ms_c ms_0 i) (lt_s (p := fun i => qz_gd qz_jk k_all i = ms_c ms_0 i) (lt_s (p := fun i => qz_gd qz_jk k_all i = ms_c ms_0 i) (lt_s (p := fun i => qz_gd qz_jk k_all i = ms_c ms_0 i) (lt_s (p := fun i => qz_gd qz_jk k_all i = ms_c ms_0 i) (lt_s (p := fun i => qz_gd qz_jk k_all i = ms_c ms_0 i) (mb_6) m0_112) m0_113) m0_114) m0_115) m0_116) m0_117) m0_118) m0_119) m0_120) m0_121) m0_122) m0_123) m0_124) m0_125) m0_126) m0_127
theorem mb_8 : ∀ a, a < 144 → qz_gd qz_jk k_all a = ms_c ms_0 a := lt_s (p := fun i => qz_gd qz_jk k_all i = ms_c ms_0 i) (lt_s (p := fun i => qz_gd qz_jk k_all i = ms_c ms_0 i) (lt_s (p := fun i => qz_gd qz_jk k_all i = ms_c ms_0 i) (lt_s (p := fun i => qz_gd qz_jk k_all i = ms_c ms_0 i) (lt_s (p := fun i => qz_gd qz_jk k_all i = ms_c ms_0 i) (lt_s (p := fun i => qz_gd qz_jk k_all i = ms_c ms_0 i) (lt_s (p := fun i => qz_gd qz_jk k_all i = ms_c ms_0 i) (lt_s (p := fun i => qz_gd qz_jk k_all i = ms_c ms_0 i) (lt_s (p := fun i => qz_gd qz_jk k_all i = ms_c ms_0 i) (lt_s (p := fun i => qz_gd qz_jk k_all i = ms_c ms_0 i) (lt_s (p := fun i => qz_gd qz_jk k_all i = ms_c ms_0 i) (lt_s (p := fun i => qz_gd qz_jk k_all i = ms_c ms_0 i) (lt_s (p := fun i => qz_gd qz_jk k_all i = ms_c ms_0 i) (lt_s (p := fun i => qz_gd qz_jk k_all i = ms_c ms_0 i) (lt_s (p := fun i => qz_gd qz_jk k_all i = ms_c ms_0 i) (lt_s (p := fun i => qz_gd qz_jk k_all i = ms_c ms_0 i) (mb_7) m0_128) m0_129) m0_130) m0_131) m0_132) m0_133) m0_134) m0_135) m0_136) m0_137) m0_138) m0_139) m0_140) m0_141) m0_142) m0_143
theorem mb_9 : ∀ a, a < 160 → qz_gd qz_jk k_all a = ms_c ms_0 a := lt_s (p := fun i => qz_gd qz_jk k_all i = ms_c ms_0 i) (lt_s (p := fun i => qz_gd qz_jk k_all i = ms_c ms_0 i) (lt_s (p := fun i => qz_gd qz_jk k_all i = ms_c ms_0 i) (lt_s (p := fun i => qz_gd qz_jk k_all i = ms_c ms_0 i) (lt_s (p := fun i => qz_gd qz_jk k_all i = ms_c ms_0 i) (lt_s (p := fun i => qz_gd qz_jk k_all i = ms_c ms_0 i) (lt_s (p := fun i => qz_gd qz_jk k_all i = ms_c ms_0 i) (lt_s (p := fun i => qz_gd qz_jk k_all i = ms_c ms_0 i) (lt_s (p := fun i => qz_gd qz_jk k_all i = ms_c ms_0 i) (lt_s (p := fun i => qz_gd qz_jk k_all i = ms_c ms_0 i) (lt_s (p := fun i => qz_gd qz_jk k_all i = ms_c ms_0 i) (lt_s (p := fun i => qz_gd qz_jk k_all i = ms_c ms_0 i) (lt_s (p := fun i => qz_gd qz_jk k_all i = ms_c ms_0 i) (lt_s (p := fun i => qz_gd qz_jk k_all i = ms_c ms_0 i) (lt_s (p := fun i => qz_gd qz_jk k_all i = ms_c ms_0 i) (lt_s (p := fun i => qz_gd qz_jk k_all i = ms_c ms_0 i) (mb_8) m0_144) m0_145) m0_146) m0_147) m0_148) m0_149) m0_150) m0_151) m0_152) m0_153) m0_154) m0_155) m0_156) m0_157) m0_158) m0_159
theorem mb_10 : ∀ a, a < 176 → qz_gd qz_jk k_all a = ms_c ms_0 a := lt_s (p := fun i => qz_gd qz_jk k_all i = ms_c ms_0 i) (lt_s (p := fun i => qz_gd qz_jk k_all i = ms_c ms_0 i) (lt_s (p := fun i => qz_gd qz_jk k_all i = ms_c ms_0 i) (lt_s (p := fun i => qz_gd qz_jk k_all i = ms_c ms_0 i) (lt_s (p := fun i => qz_gd qz_jk k_all i = ms_c ms_0 i) (lt_s (p := fun i => qz_gd qz_jk k_all i = ms_c ms_0 i) (lt_s (p := fun i => qz_gd qz_jk k_all i = ms_c ms_0 i) (lt_s (p := fun i => qz_gd qz_jk k_all i = ms_c ms_0 i) (lt_s (p := fun i => qz_gd qz_jk k_all i = ms_c ms_0 i) (lt_s (p := fun i => qz_gd qz_jk k_all i = ms_c ms_0 i) (lt_s (p := fun i => qz_gd qz_jk k_all i = ms_c ms_0 i) (lt_s (p := fun i => qz_gd qz_jk k_all i = ms_c ms_0 i) (lt_s (p := fun i => qz_gd qz_jk k_all i = ms_c ms_0 i) (lt_s (p := fun i => qz_gd qz_jk k_all i = ms_c ms_0 i) (lt_s (p := fun i => qz_gd qz_jk k_all i = ms_c ms_0 i) (lt_s (p := fun i => qz_gd qz_jk k_all i = ms_c ms_0 i) (mb_9) m0_160) m0_161) m0_162) m0_163) m0_164) m0_165) m0_166) m0_167) m0_168) m0_169) m0_170) m0_171) m0_172) m0_173) m0_174) m0_175
theorem mb_11 : ∀ a, a < 192 → qz_gd qz_jk k_all a = ms_c ms_0 a := lt_s (p := fun i => qz_gd qz_jk k_all i = ms_c ms_0 i) (lt_s (p := fun i => qz_gd qz_jk k_all i = ms_c ms_0 i) (lt_s (p := fun i => qz_gd qz_jk k_all i = ms_c ms_0 i) (lt_s (p := fun i => qz_gd qz_jk k_all i = ms_c ms_0 i) (lt_s (p := fun i => qz_gd qz_jk k_all i = ms_c ms_0 i) (lt_s (p := fun i => qz_gd qz_jk k_all i = ms_c ms_0 i) (lt_s (p := fun i => qz_gd qz_jk k_all i = ms_c ms_0 i) (lt_s (p := fun i => qz_gd qz_jk k_all i = ms_c ms_0 i) (lt_s (p := fun i => qz_gd qz_jk k_all i = ms_c ms_0 i) (lt_s (p := fun i => qz_gd qz_jk k_all i = ms_c ms_0 i) (lt_s (p := fun i => qz_gd qz_jk k_all i = ms_c ms_0 i) (lt_s (p := fun i => qz_gd qz_jk k_all i = ms_c ms_0 i) (lt_s (p := fun i => qz_gd qz_jk k_all i = ms_c ms_0 i) (lt_s (p := fun i => qz_gd qz_jk k_all i = ms_c ms_0 i) (lt_s (p := fun i => qz_gd qz_jk k_all i = ms_c ms_0 i) (lt_s (p := fun i => qz_gd qz_jk k_all i = ms_c ms_0 i) (mb_10) m0_176) m0_177) m0_178) m0_179) m0_180) m0_181) m0_182) m0_183) m0_184) m0_185) m0_186) m0_187) m0_188) m0_189) m0_190) m0_191
theorem mb_12 : ∀ a, a < 208 → qz_gd qz_jk k_all a = ms_c ms_0 a := lt_s (p := fun i => qz_gd qz_jk k_all i = ms_c ms_0 i) (lt_s (p := fun i => qz_gd qz_jk k_all i = ms_c ms_0 i) (lt_s (p := fun i => qz_gd qz_jk k_all i = ms_c ms_0 i) (lt_s (p := fun i => qz_gd qz_jk k_all i = ms_c ms_0 i) (lt_s (p := fun i => qz_gd qz_jk k_all i = ms_c ms_0 i) (lt_s (p := fun i => qz_gd qz_jk k_all i = ms_c ms_0 i) (lt_s (p := fun i => qz_gd qz_jk k_all i = ms_c ms_0 i) (lt_s (p := fun i => qz_gd qz_jk k_all i = ms_c ms_0 i) (lt_s (p := fun i => qz_gd qz_jk k_all i = ms_c ms_0 i) (lt_s (p := fun i => qz_gd qz_jk k_all i = ms_c ms_0 i) (lt_s (p := fun i => qz_gd qz_jk k_all i = ms_c ms_0 i) (lt_s (p := fun i => qz_gd qz_jk k_all i = ms_c ms_0 i) (lt_s (p := fun i => qz_gd qz_jk k_all i = ms_c ms_0 i) (lt_s (p := fun i => qz_gd qz_jk k_all i = ms_c ms_0 i) (lt_s (p := fun i => qz_gd qz_jk k_all i = ms_c ms_0 i) (lt_s (p := fun i => qz_gd qz_jk k_all i = ms_c ms_0 i) (mb_11) m0_192) m0_193) m0_194) m0_195) m0_196) m0_197) m0_198) m0_199) m0_200) m0_201) m0_202) m0_203) m0_204) m0_205) m0_206) m0_207
theorem mb_13 : ∀ a, a < 224 → qz_gd qz_jk k_all a = ms_c ms_0 a := lt_s (p := fun i => qz_gd qz_jk k_all i = ms_c ms_0 i) (lt_s (p := fun i => qz_gd qz_jk k_all i = ms_c ms_0 i) (lt_s (p := fun i => qz_gd qz_jk k_all i = ms_c ms_0 i) (lt_s (p := fun i => qz_gd qz_jk k_all i = ms_c ms_0 i) (lt_s (p := fun i => qz_gd qz_jk k_all i = ms_c ms_0 i) (lt_s (p := fun i => qz_gd qz_jk k_all i = ms_c ms_0 i) (lt_s (p := fun i => qz_gd qz_jk k_all i = ms_c ms_0 i) (lt_s (p := fun i => qz_gd qz_jk k_all i = ms_c ms_0 i) (lt_s (p := fun i => qz_gd qz_jk k_all i = ms_c ms_0 i) (lt_s (p := fun i => qz_gd qz_jk k_all i = ms_c ms_0 i) (lt_s (p := fun i => qz_gd qz_jk k_all i = ms_c ms_0 i) (lt_s (p := fun i => qz_gd qz_jk k_all i = ms_c ms_0 i) (lt_s (p := fun i => qz_gd qz_jk k_all i = ms_c ms_0 i) (lt_s (p := fun i => qz_gd qz_jk k_all i = ms_c ms_0 i) (lt_s (p := fun i => qz_gd qz_jk k_all i = ms_c ms_0 i) (lt_s (p := fun i => qz_gd qz_jk k_all i = ms_c ms_0 i) (mb_12) m0_208) m0_209) m0_210) m0_211) m0_212) m0_213) m0_214) m0_215) m0_216) m0_217) m0_218) m0_219) m0_220) m0_221) m0_222) m0_223
theorem mb_14 : ∀ a, a < 240 → qz_gd qz_jk k_all a = ms_c ms_0 a := lt_s (p := fun i => qz_gd qz_jk k_all i = ms_c ms_0 i) (lt_s (p := fun i => qz_gd qz_jk k_all i = ms_c ms_0 i) (lt_s (p := fun i => qz_gd qz_jk k_all i = ms_c ms_0 i) (lt_s (p := fun i => qz_gd qz_jk k_all i = ms_c ms_0 i) (lt_s (p := fun i => qz_gd qz_jk k_all i = ms_c ms_0 i) (lt_s (p := fun i => qz_gd qz_jk k_all i = ms_c ms_0 i) (lt_s (p := fun i => qz_gd qz_jk k_all i = ms_c ms_0 i) (lt_s (p := fun i => qz_gd qz_jk k_all i = ms_c ms_0 i) (lt_s (p := fun i => qz_gd qz_jk k_all i = ms_c ms_0 i) (lt_s (p := fun i => qz_gd qz_jk k_all i = ms_c ms_0 i) (lt_s (p := fun i => qz_gd qz_jk k_all i = ms_c ms_0 i) (lt_s (p := fun i => qz_gd qz_jk k_all i = ms_c ms_0 i) (lt_s (p := fun i => qz_gd qz_jk k_all i = ms_c ms_0 i) (lt_s (p := fun i => qz_gd qz_jk k_all i = ms_c ms_0 i) (lt_s (p := fun i => qz_gd qz_jk k_all i = ms_c ms_0 i) (lt_s (p := fun i => qz_gd qz_jk k_all i = ms_c ms_0 i) (mb_13) m0_224) m0_225) m0_226) m0_227) m0_228) m0_229) m0_230) m0_231) m0_232) m0_233) m0_234) m0_235) m0_236) m0_237) m0_238) m0_239
theorem mb_15 : ∀ a, a < 256 → qz_gd qz_jk k_all a = ms_c ms_0 a := lt_s (p := fun i => qz_gd qz_jk k_all i = ms_c ms_0 i) (lt_s (p := fun i => qz_gd qz_jk k_all i = ms_c ms_0 i) (lt_s (p := fun i => qz_gd qz_jk k_all i = ms_c ms_0 i) (lt_s (p := fun i => qz_gd qz_jk k_all i = ms_c ms_0 i) (lt_s (p := fun i => qz_gd qz_jk k_all i = ms_c ms_0 i) (lt_s (p := fun i => qz_gd qz_jk k_all i = ms_c ms_0 i) (lt_s (p := fun i => qz_gd qz_jk k_all i = ms_c ms_0 i) (lt_s (p := fun i => qz_gd qz_jk k_all i = ms_c ms_0 i) (lt_s (p := fun i => qz_gd qz_jk k_all i = ms_c ms_0 i) (lt_s (p := fun i => qz_gd qz_jk k_all i = ms_c ms_0 i) (lt_s (p := fun i => qz_gd qz_jk k_all i = ms_c ms_0 i) (lt_s (p := fun i => qz_gd qz_jk k_all i = ms_c ms_0 i) (lt_s (p := fun i => qz_gd qz_jk k_all i = ms_c ms_0 i) (lt_s (p := fun i => qz_gd qz_jk k_all i = ms_c ms_0 i) (lt_s (p := fun i => qz_gd qz_jk k_all i = ms_c ms_0 i) (lt_s (p := fun i => qz_gd qz_jk k_all i = ms_c ms_0 i) (mb_14) m0_240) m0_241) m0_242) m0_243) m0_244) m0_245) m0_246) m0_247) m0_248) m0_249) m0_250) m0_251) m0_252) m0_253) m0_254) m0_255
theorem mb_16 : ∀ a, a < 272 → qz_gd qz_jk k_all a = ms_c ms_0 a := lt_s (p := fun i => qz_gd qz_jk k_all i = ms_c ms_0 i) (lt_s (p := fun i => qz_gd qz_jk k_all i = ms_c ms_0 i) (lt_s (p := fun i => qz_gd qz_jk k_all i = ms_c ms_0 i) (lt_s (p := fun i => qz_gd qz_jk k_all i = ms_c ms_0 i) (lt_s (p := fun i => qz_gd qz_jk k_all i = ms_c ms_0 i) (lt_s (p := fun i => qz_gd qz_jk k_all i = ms_c ms_0 i) (lt_s (p := fun i => qz_gd qz_jk k_all i = ms_c ms_0 i) (lt_s (p := fun i => qz_gd qz_jk k_all i = ms_c ms_0 i) (lt_s (p := fun i => qz_gd qz_jk k_all i = ms_c ms_0 i) (lt_s (p := fun i => qz_gd qz_jk k_all i = ms_c ms_0 i) (lt_s (p := fun i => qz_gd qz_jk k_all i = ms_c ms_0 i) (lt_s (p := fun i => qz_gd qz_jk k_all i = ms_c ms_0 i) (lt_s (p := fun i => qz_gd qz_jk k_all i = ms_c ms_0 i) (lt_s (p := fun i => qz_gd qz_jk k_all i = ms_c ms_0 i) (lt_s (p := fun i => qz_gd qz_jk k_all i = ms_c ms_0 i) (lt_s (p := fun i => qz_gd qz_jk k_all i = ms_c ms_0 i) (mb_15) m0_256) m0_257) m0_258) m0_259) m0_260) m0_261) m0_262) m0_263) m0_264) m0_265) m0_266) m0_267) m0_268) m0_269) m0_270) m0_271
theorem mb_17 : ∀ a, a < 288 → qz_gd qz_jk k_all a = ms_c ms_0 a := lt_s (p := fun i => qz_gd qz_jk k_all i = ms_c ms_0 i) (lt_s (p := fun i => qz_gd qz_jk k_all i = ms_c ms_0 i) (lt_s (p := fun i => qz_gd qz_jk k_all i = ms_c ms_0 i) (lt_s (p := fun i => qz_gd qz_jk k_all i = ms_c ms_0 i) (lt_s (p := fun i => qz_gd qz_jk k_all i = ms_c ms_0 i) (lt_s (p := fun i => qz_gd qz_jk k_all i = ms_c ms_0 i) (lt_s (p := fun i => qz_gd qz_jk k_all i = ms_c ms_0 i) (lt_s (p := fun i => qz_gd qz_jk k_all i = ms_c ms_0 i) (lt_s (p := fun i => qz_gd qz_jk k_all i = ms_c ms_0 i) (lt_s (p := fun i => qz_gd qz_jk k_all i = ms_c ms_0 i) (lt_s (p := fun i => qz_gd qz_jk k_all i = ms_c ms_0 i) (lt_s (p := fun i => qz_gd qz_jk k_all i = ms_c ms_0 i) (lt_s (p := fun i => qz_gd qz_jk k_all i = ms_c ms_0 i) (lt_s (p := fun i => qz_gd qz_jk k_all i = ms_c ms_0 i) (lt_s (p := fun i => qz_gd qz_jk k_all i = ms_c ms_0 i) (lt_s (p := fun i => qz_gd qz_jk k_all i = ms_c ms_0 i) (mb_16) m0_272) m0_273) m0_274) m0_275) m0_276) m0_277) m0_278) m0_279) m0_280) m0_281) m0_282) m0_283) m0_284) m0_285) m0_286) m0_287
theorem mb_18 : ∀ a, a < 304 → qz_gd qz_jk k_all a = ms_c ms_0 a := lt_s (p := fun i => qz_gd qz_jk k_all i = ms_c ms_0 i) (lt_s (p := fun i => qz_gd qz_jk k_all i = ms_c ms_0 i) (lt_s (p := fun i => qz_gd qz_jk k_all i = ms_c ms_0 i) (lt_s (p := fun i => qz_gd qz_jk k_all i = ms_c ms_0 i) (lt_s (p := fun i => qz_gd qz_jk k_all i = ms_c ms_0 i) (lt_s (p := fun i => qz_gd qz_jk k_all i = ms_c ms_0 i) (lt_s (p := fun i => qz_gd qz_jk k_all i = ms_c ms_0 i) (lt_s (p := fun i => qz_gd qz_jk k_all i = ms_c ms_0 i) (lt_s (p := fun i => qz_gd qz_jk k_all i = ms_c ms_0 i) (lt_s (p := fun i => qz_gd qz_jk k_all i = ms_c ms_0 i) (lt_s (p := fun i => qz_gd qz_jk k_all i = ms_c ms_0 i) (lt_s (p := fun i => qz_gd qz_jk k_all i = ms_c ms_0 i) (lt_s (p := fun i => qz_gd qz_jk k_all i = ms_c ms_0 i) (lt_s (p := fun i => qz_gd qz_jk k_all i = ms_c ms_0 i) (lt_s (p := fun i => qz_gd qz_jk k_all i = ms_c ms_0 i) (lt_s (p := fun i => qz_gd qz_jk k_all i = ms_c ms_0 i) (mb_17) m0_288) m0_289) m0_290) m0_291) m0_292) m0_293) m0_294) m0_295) m0_296) m0_297) m0_298) m0_299) m0_300) m0_301) m0_302) m0_303
theorem mb_19 : ∀ a, a < 320 → qz_gd qz_jk k_all a = ms_c ms_0 a := lt_s (p := fun i => qz_gd qz_jk k_all i = ms_c ms_0 i) (lt_s (p := fun i => qz_gd qz_jk k_all i = ms_c ms_0 i) (lt_s (p := fun i => qz_gd qz_jk k_all i = ms_c ms_0 i) (lt_s (p := fun i => qz_gd qz_jk k_all i = ms_c ms_0 i) (lt_s (p := fun i => qz_gd qz_jk k_all i = ms_c ms_0 i) (lt_s (p := fun i => qz_gd qz_jk k_all i = ms_c ms_0 i) (lt_s (p := fun i => qz_gd qz_jk k_all i = ms_c ms_0 i) (lt_s (p := fun i => qz_gd qz_jk k_all i = ms_c ms_0 i) (lt_s (p := fun i => qz_gd qz_jk k_all i = ms_c ms_0 i) (lt_s (p := fun i => qz_gd qz_jk k_all i = ms_c ms_0 i) (lt_s (p := fun i => qz_gd qz_jk k_all i = ms_c ms_0 i) (lt_s (p := fun i => qz_gd qz_jk k_all i = ms_c ms_0 i) (lt_s (p := fun i => qz_gd qz_jk k_all i = ms_c ms_0 i) (lt_s (p := fun i => qz_gd qz_jk k_all i = ms_c ms_0 i) (lt_s (p := fun i => qz_gd qz_jk k_all i = ms_c ms_0 i) (lt_s (p := fun i => qz_gd qz_jk k_all i = ms_c ms_0 i) (mb_18) m0_304) m0_305) m0_306) m0_307) m0_308) m0_309) m0_310) m0_311) m0_312) m0_313) m0_314) m0_315) m0_316) m0_317) m0_318) m0_319
theorem mb_20 : ∀ a, a < 336 → qz_gd qz_jk k_all a = ms_c ms_0 a := lt_s (p := fun i => qz_gd qz_jk k_all i = ms_c ms_0 i) (lt_s (p := fun i => qz_gd qz_jk k_all i = ms_c ms_0 i) (lt_s (p := fun i => qz_gd qz_jk k_all i = ms_c ms_0 i) (lt_s (p := fun i => qz_gd qz_jk k_all i = ms_c ms_0 i) (lt_s (p := fun i => qz_gd qz_jk k_all i = ms_c ms_0 i) (lt_s (p := fun i => qz_gd qz_jk k_all i = ms_c ms_0 i) (lt_s (p := fun i => qz_gd qz_jk k_all i = ms_c ms_0 i) (lt_s (p := fun i => qz_gd qz_jk k_all i = ms_c ms_0 i) (lt_s (p := fun i => qz_gd qz_jk k_all i = ms_c ms_0 i) (lt_s (p := fun i => qz_gd qz_jk k_all i = ms_c ms_0 i) (lt_s (p := fun i => qz_gd qz_jk k_all i = ms_c ms_0 i) (lt_s (p := fun i => qz_gd qz_jk k_all i = ms_c ms_0 i) (lt_s (p := fun i => qz_gd qz_jk k_all i = ms_c ms_0 i) (lt_s (p := fun i => qz_gd qz_jk k_all i = ms_c ms_0 i) (lt_s (p := fun i => qz_gd qz_jk k_all i = ms_c ms_0 i) (lt_s (p := fun i => qz_gd qz_jk k_all i = ms_c ms_0 i) (mb_19) m0_320) m0_321) m0_322) m0_323) m0_324) m0_325) m0_326) m0_327) m0_328) m0_329) m0_330) m0_331) m0_332) m0_333) m0_334) m0_335
theorem mb_21 : ∀ a, a < 352 → qz_gd qz_jk k_all a = ms_c ms_0 a := lt_s (p := fun i => qz_gd qz_jk k_all i = ms_c ms_0 i) (lt_s (p := fun i => qz_gd qz_jk k_all i = ms_c ms_0 i) (lt_s (p := fun i => qz_gd qz_jk k_all i = ms_c ms_0 i) (lt_s (p := fun i => qz_gd qz_jk k_all i = ms_c ms_0 i) (lt_s (p := fun i => qz_gd qz_jk k_all i = ms_c ms_0 i) (lt_s (p := fun i => qz_gd qz_jk k_all i = ms_c ms_0 i) (lt_s (p := fun i => qz_gd qz_jk k_all i = ms_c ms_0 i) (lt_s (p := fun i => qz_gd qz_jk k_all i = ms_c ms_0 i) (lt_s (p := fun i => qz_gd qz_jk k_all i = ms_c ms_0 i) (lt_s (p := fun i => qz_gd qz_jk k_all i = ms_c ms_0 i) (lt_s (p := fun i => qz_gd qz_jk k_all i = ms_c ms_0 i) (lt_s (p := fun i => qz_gd qz_jk k_all i = ms_c ms_0 i) (lt_s (p := fun i => qz_gd qz_jk k_all i = ms_c ms_0 i) (lt_s (p := fun i => qz_gd qz_jk k_all i = ms_c ms_0 i) (lt_s (p := fun i => qz_gd qz_jk k_all i = ms_c ms_0 i) (lt_s (p := fun i => qz_gd qz_jk k_all i = ms_c ms_0 i) (mb_20) m0_336) m0_337) m0_338) m0_339) m0_340) m0_341) m0_342) m0_343) m0_344) m0_345) m0_346) m0_347) m0_348) m0_349) m0_350) m0_351
theorem mb_22 : ∀ a, a < 362 → qz_gd qz_jk k_all a = ms_c ms_0 a := lt_s (p := fun i => qz_gd qz_jk k_all i = ms_c ms_0 i) (lt_s (p := fun i => qz_gd qz_jk k_all i = ms_c ms_0 i) (lt_s (p := fun i => qz_gd qz_jk k_all i = ms_c ms_0 i) (lt_s (p := fun i => qz_gd qz_jk k_all i = ms_c ms_0 i) (lt_s (p := fun i => qz_gd qz_jk k_all i = ms_c ms_0 i) (lt_s (p := fun i => qz_gd qz_jk k_all i = ms_c ms_0 i) (lt_s (p := fun i => qz_gd qz_jk k_all i = ms_c ms_0 i) (lt_s (p := fun i => qz_gd qz_jk k_all i = ms_c ms_0 i) (lt_s (p := fun i => qz_gd qz_jk k_all i = ms_c ms_0 i) (lt_s (p := fun i => qz_gd qz_jk k_all i = ms_c ms_0 i) (mb_21) m0_352) m0_353) m0_354) m0_355) m0_356) m0_357) m0_358) m0_359) m0_360) m0_361
theorem kl_all : k_all.length = 362 := by
  unfold k_all
  rw [List.length_append, kl_C]
  rfl
theorem ms_S_ge (i : Nat) (h : 362 ≤ i) : ms_S i = (9, 0) := by
  unfold ms_S
  rcases Nat.lt_or_ge (i / 16) 23 with h1 | h1
  · have h2 : i / 16 = 22 := by omega
    rw [h2]
    exact qz_gd_ge _ _ (by show 10 ≤ i % 16; omega)
  · rw [qz_gd_ge ms_tab _ (by show 23 ≤ i / 16; omega)]
    rfl
theorem bw_mkw (X : qz_X) : bw X k_all 189517 = mkw X ms_0 := by
  refine Prod.ext ?_ (by show (k_all.length, 189517) = (362, 189517); rw [kl_all])
  funext i
  unfold bw mkw
  dsimp only
  by_cases hq : i < qz_old
  · rw [if_pos hq, if_pos hq]
    rcases Nat.lt_or_ge i 362 with h | h
    · exact mb_22 i h
    · rw [qz_gd_ge _ _ (by rw [kl_all]; exact h)]
      unfold ms_c
      rw [ms_S_ge i h]
      rfl
  · rw [if_neg hq, if_neg hq]

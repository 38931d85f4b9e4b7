/-! the law's loop -/
abbrev lwK (j : Nat) : qz_L := [some (.ref 1000000), some (.ref 0), some (.ref 318), some (.int (nI j))]
abbrev lwA (X : qz_X) (j i : Nat) : Int32 := X.2.2.2.2.2 (j + i)
theorem lw_ia {X : qz_X} {j : Nat} (hL : X.2.2.2.2.1 ≤ 3072) (hj : j + 6 ≤ X.2.2.2.2.1) (s : sT) {i : Nat} (hi : i < 6) (f : Int32 → Option qz_R) : qz_ia (mk X s).1 1000000 (nI j + nI i) f = f (lwA X j i) := by
  rw [show nI j + nI i = nI (j + i) from (nI_add j i)]
  show (if nI (j + i) < 0 ∨ X.2.2.2.2.1 ≤ (nI (j + i)).toNatClampNeg then none else f (X.2.2.2.2.2 (nI (j + i)).toNatClampNeg)) = _
  rw [if_neg (nI_in (by omega) (by omega)), nI_clamp (by omega)]
theorem lw_len (X : qz_X) (s : sT) (f : Int32 → Option qz_R) : qz_len (mk X s).1 1000000 f = f (nI X.2.2.2.2.1) := rfl
def lwS (X : qz_X) (s : sT) (j pc : Nat) : Prop := ∃ (s2 : sT) (G2 : gsT), rn 296 pc (lwK j) [] (mk X s) = rn 296 1240 (lwK j) [] (mk X s2) ∧ Rel s2 G2
def simP : Prop := ∀ (X : qz_X) (s : sT) (G : gsT), Rel s G → ∀ v v2 : Int32, Sim X s 71 112 [some (.ref 0), some (.int v), some (.int v2), none, none] [some (.ref 318), some (.int v), some (.int v2), none]
section LAW
variable {X : qz_X} {s : sT} {G : gsT} {j : Nat}
theorem lw_feed (hL : X.2.2.2.2.1 ≤ 3072) (hj : j + 6 ≤ X.2.2.2.2.1) (h : Rel s G) : lwS X s j 164 := by
  obtain ⟨r, s1, s2, G2, h1, h2, h3⟩ := sim_feed X s G h (lwA X j 1) (lwA X j 2) (lwA X j 3) (lwA X j 4) (lwA X j 5)
  refine ⟨s2, G2, ?_, h3⟩
  rw [e_Law_law_164, lw_ia hL hj s (i := 1) (by decide), lw_ia hL hj s (i := 2) (by decide), lw_ia hL hj s (i := 3) (by decide), lw_ia hL hj s (i := 4) (by decide), lw_ia hL hj s (i := 5) (by decide), ck_C, h1, r1_s, lw_ia hL hj s1 (i := 1) (by decide), lw_ia hL hj s1 (i := 2) (by decide), lw_ia hL hj s1 (i := 3) (by decide), lw_ia hL hj s1 (i := 4) (by decide), lw_ia hL hj s1 (i := 5) (by decide), ck_M, h2, r1_s, if_pos rfl]
theorem lw_plate (hL : X.2.2.2.2.1 ≤ 3072) (hj : j + 6 ≤ X.2.2.2.2.1) (h : Rel s G) (hpl : simP) : lwS X s j 227 := by
  obtain ⟨r, s1, s2, G2, h1, h2, h3⟩ := hpl X s G h (lwA X j 1) (lwA X j 2)
  refine ⟨s2, G2, ?_, h3⟩
  rw [e_Law_law_227, lw_ia hL hj s (i := 1) (by decide), lw_ia hL hj s (i := 2) (by decide), ck_C, h1, r1_s, lw_ia hL hj s1 (i := 1) (by decide), lw_ia hL hj s1 (i := 2) (by decide), ck_M, h2, r1_s, if_pos rfl]
theorem lw_fault (hL : X.2.2.2.2.1 ≤ 3072) (hj : j + 6 ≤ X.2.2.2.2.1) (h : Rel s G) : lwS X s j 260 := by
  obtain ⟨r, s1, s2, G2, h1, h2, h3⟩ := sim_fault X s G h 
  refine ⟨s2, G2, ?_, h3⟩
  rw [e_Law_law_260, ck_C, h1, r1_s, ck_M, h2, r1_s, if_pos rfl]
theorem lw_sheet (hL : X.2.2.2.2.1 ≤ 3072) (hj : j + 6 ≤ X.2.2.2.2.1) (h : Rel s G) : lwS X s j 273 := by
  obtain ⟨r, s1, s2, G2, h1, h2, h3⟩ := sim_sheet X s G h (lwA X j 1) (lwA X j 2)
  refine ⟨s2, G2, ?_, h3⟩
  rw [e_Law_law_273, lw_ia hL hj s (i := 1) (by decide), lw_ia hL hj s (i := 2) (by decide), ck_C, h1, r1_s, lw_ia hL hj s1 (i := 1) (by decide), lw_ia hL hj s1 (i := 2) (by decide), ck_M, h2, r1_s, if_pos rfl]
theorem lw_square (hL : X.2.2.2.2.1 ≤ 3072) (hj : j + 6 ≤ X.2.2.2.2.1) (h : Rel s G) : lwS X s j 306 := by
  obtain ⟨r, s1, s2, G2, h1, h2, h3⟩ := sim_square X s G h (lwA X j 1) (lwA X j 2) (lwA X j 3) (lwA X j 4)
  refine ⟨s2, G2, ?_, h3⟩
  rw [e_Law_law_306, lw_ia hL hj s (i := 1) (by decide), lw_ia hL hj s (i := 2) (by decide), lw_ia hL hj s (i := 3) (by decide), lw_ia hL hj s (i := 4) (by decide), ck_C, h1, r1_s, lw_ia hL hj s1 (i := 1) (by decide), lw_ia hL hj s1 (i := 2) (by decide), lw_ia hL hj s1 (i := 3) (by decide), lw_ia hL hj s1 (i := 4) (by decide), ck_M, h2, r1_s, if_pos rfl]
theorem lw_falls (hL : X.2.2.2.2.1 ≤ 3072) (hj : j + 6 ≤ X.2.2.2.2.1) (h : Rel s G) : lwS X s j 359 := by
  obtain ⟨r, s1, s2, G2, h1, h2, h3⟩ := sim_falls X s G h (lwA X j 1) (lwA X j 2) (lwA X j 3)
  refine ⟨s2, G2, ?_, h3⟩
  rw [e_Law_law_359, lw_ia hL hj s (i := 1) (by decide), lw_ia hL hj s (i := 2) (by decide), lw_ia hL hj s (i := 3) (by decide), ck_C, h1, r1_s, lw_ia hL hj s1 (i := 1) (by decide), lw_ia hL hj s1 (i := 2) (by decide), lw_ia hL hj s1 (i := 3) (by decide), ck_M, h2, r1_s, if_pos rfl]
theorem lw_tongues (hL : X.2.2.2.2.1 ≤ 3072) (hj : j + 6 ≤ X.2.2.2.2.1) (h : Rel s G) : lwS X s j 402 := by
  obtain ⟨r, s1, s2, G2, h1, h2, h3⟩ := sim_tongues X s G h (lwA X j 1) (lwA X j 2)
  refine ⟨s2, G2, ?_, h3⟩
  rw [e_Law_law_402, lw_ia hL hj s (i := 1) (by decide), lw_ia hL hj s (i := 2) (by decide), ck_C, h1, r1_s, lw_ia hL hj s1 (i := 1) (by decide), lw_ia hL hj s1 (i := 2) (by decide), ck_M, h2, r1_s, if_pos rfl]
theorem lw_change (hL : X.2.2.2.2.1 ≤ 3072) (hj : j + 6 ≤ X.2.2.2.2.1) (h : Rel s G) : lwS X s j 435 := by
  by_cases hb : lwA X j 4 = 0
  · obtain ⟨r, s1, s2, G2, h1, h2, h3⟩ := sim_change X s G h (lwA X j 1) (lwA X j 2) (lwA X j 3) false
    refine ⟨s2, G2, ?_, h3⟩
    rw [show bI false = nI 0 from rfl] at h1 h2
    rw [e_Law_law_435, lw_ia hL hj s (i := 1) (by decide), lw_ia hL hj s (i := 2) (by decide), lw_ia hL hj s (i := 3) (by decide), lw_ia hL hj s (i := 4) (by decide), if_pos hb, ck_C, h1, r1_s, lw_ia hL hj s1 (i := 1) (by decide), lw_ia hL hj s1 (i := 2) (by decide), lw_ia hL hj s1 (i := 3) (by decide), lw_ia hL hj s1 (i := 4) (by decide), if_pos hb, ck_M, h2, r1_s, if_pos rfl]
  · obtain ⟨r, s1, s2, G2, h1, h2, h3⟩ := sim_change X s G h (lwA X j 1) (lwA X j 2) (lwA X j 3) true
    refine ⟨s2, G2, ?_, h3⟩
    rw [show bI true = nI 1 from rfl] at h1 h2
    rw [e_Law_law_435, lw_ia hL hj s (i := 1) (by decide), lw_ia hL hj s (i := 2) (by decide), lw_ia hL hj s (i := 3) (by decide), lw_ia hL hj s (i := 4) (by decide), if_neg hb, ck_C, h1, r1_s, lw_ia hL hj s1 (i := 1) (by decide), lw_ia hL hj s1 (i := 2) (by decide), lw_ia hL hj s1 (i := 3) (by decide), lw_ia hL hj s1 (i := 4) (by decide), if_neg hb, ck_M, h2, r1_s, if_pos rfl]
theorem lw_bridge (hL : X.2.2.2.2.1 ≤ 3072) (hj : j + 6 ≤ X.2.2.2.2.1) (h : Rel s G) : lwS X s j 504 := by
  obtain ⟨r, s1, s2, G2, h1, h2, h3⟩ := sim_bridge X s G h (lwA X j 1) (lwA X j 2) (lwA X j 3)
  refine ⟨s2, G2, ?_, h3⟩
  rw [e_Law_law_504, lw_ia hL hj s (i := 1) (by decide), lw_ia hL hj s (i := 2) (by decide), lw_ia hL hj s (i := 3) (by decide), ck_C, h1, r1_s, lw_ia hL hj s1 (i := 1) (by decide), lw_ia hL hj s1 (i := 2) (by decide), lw_ia hL hj s1 (i := 3) (by decide), ck_M, h2, r1_s, if_pos rfl]
theorem lw_put (hL : X.2.2.2.2.1 ≤ 3072) (hj : j + 6 ≤ X.2.2.2.2.1) (h : Rel s G) : lwS X s j 547 := by
  by_cases hb : lwA X j 3 = 0
  · obtain ⟨r, s1, s2, G2, h1, h2, h3⟩ := sim_put X s G h (lwA X j 1) (lwA X j 2) false
    refine ⟨s2, G2, ?_, h3⟩
    rw [show bI false = nI 0 from rfl] at h1 h2
    rw [e_Law_law_547, lw_ia hL hj s (i := 1) (by decide), lw_ia hL hj s (i := 2) (by decide), lw_ia hL hj s (i := 3) (by decide), if_pos hb, ck_C, h1, r1_s, lw_ia hL hj s1 (i := 1) (by decide), lw_ia hL hj s1 (i := 2) (by decide), lw_ia hL hj s1 (i := 3) (by decide), if_pos hb, ck_M, h2, r1_s, if_pos rfl]
  · obtain ⟨r, s1, s2, G2, h1, h2, h3⟩ := sim_put X s G h (lwA X j 1) (lwA X j 2) true
    refine ⟨s2, G2, ?_, h3⟩
    rw [show bI true = nI 1 from rfl] at h1 h2
    rw [e_Law_law_547, lw_ia hL hj s (i := 1) (by decide), lw_ia hL hj s (i := 2) (by decide), lw_ia hL hj s (i := 3) (by decide), if_neg hb, ck_C, h1, r1_s, lw_ia hL hj s1 (i := 1) (by decide), lw_ia hL hj s1 (i := 2) (by decide), lw_ia hL hj s1 (i := 3) (by decide), if_neg hb, ck_M, h2, r1_s, if_pos rfl]
theorem lw_judge (hL : X.2.2.2.2.1 ≤ 3072) (hj : j + 6 ≤ X.2.2.2.2.1) (h : Rel s G) : lwS X s j 606 := by
  obtain ⟨r, s1, s2, G2, h1, h2, h3⟩ := sim_judge X s G h (lwA X j 1) (lwA X j 2)
  refine ⟨s2, G2, ?_, h3⟩
  rw [e_Law_law_606, lw_ia hL hj s (i := 1) (by decide), lw_ia hL hj s (i := 2) (by decide), ck_C, h1, r1_s, lw_ia hL hj s1 (i := 1) (by decide), lw_ia hL hj s1 (i := 2) (by decide), ck_M, h2, r1_s, if_pos rfl]
theorem lw_cheapest (hL : X.2.2.2.2.1 ≤ 3072) (hj : j + 6 ≤ X.2.2.2.2.1) (h : Rel s G) : lwS X s j 639 := by
  obtain ⟨r, s1, s2, G2, h1, h2, h3⟩ := sim_cheapest X s G h (lwA X j 1)
  refine ⟨s2, G2, ?_, h3⟩
  rw [e_Law_law_639, lw_ia hL hj s (i := 1) (by decide), ck_C, h1, r1_s, lw_ia hL hj s1 (i := 1) (by decide), ck_M, h2, r1_s, if_pos rfl]
theorem lw_made (hL : X.2.2.2.2.1 ≤ 3072) (hj : j + 6 ≤ X.2.2.2.2.1) (h : Rel s G) : lwS X s j 662 := by
  obtain ⟨r, s1, s2, G2, h1, h2, h3⟩ := sim_made X s G h (lwA X j 1)
  refine ⟨s2, G2, ?_, h3⟩
  rw [e_Law_law_662, lw_ia hL hj s (i := 1) (by decide), ck_C, h1, r1_s, lw_ia hL hj s1 (i := 1) (by decide), ck_M, h2, r1_s, if_pos rfl]
theorem lw_choice (hL : X.2.2.2.2.1 ≤ 3072) (hj : j + 6 ≤ X.2.2.2.2.1) (h : Rel s G) : lwS X s j 685 := by
  by_cases hb : lwA X j 2 = 0
  · obtain ⟨r, s1, s2, G2, h1, h2, h3⟩ := sim_choice X s G h (lwA X j 1) false (lwA X j 3)
    refine ⟨s2, G2, ?_, h3⟩
    rw [show bI false = nI 0 from rfl] at h1 h2
    rw [e_Law_law_685, lw_ia hL hj s (i := 1) (by decide), lw_ia hL hj s (i := 2) (by decide), if_pos hb, lw_ia hL hj s (i := 3) (by decide), ck_C, h1, r1_s, lw_ia hL hj s1 (i := 1) (by decide), lw_ia hL hj s1 (i := 2) (by decide), if_pos hb, lw_ia hL hj s1 (i := 3) (by decide), ck_M, h2, r1_s, if_pos rfl]
  · obtain ⟨r, s1, s2, G2, h1, h2, h3⟩ := sim_choice X s G h (lwA X j 1) true (lwA X j 3)
    refine ⟨s2, G2, ?_, h3⟩
    rw [show bI true = nI 1 from rfl] at h1 h2
    rw [e_Law_law_685, lw_ia hL hj s (i := 1) (by decide), lw_ia hL hj s (i := 2) (by decide), if_neg hb, lw_ia hL hj s (i := 3) (by decide), ck_C, h1, r1_s, lw_ia hL hj s1 (i := 1) (by decide), lw_ia hL hj s1 (i := 2) (by decide), if_neg hb, lw_ia hL hj s1 (i := 3) (by decide), ck_M, h2, r1_s, if_pos rfl]
theorem lw_sag (hL : X.2.2.2.2.1 ≤ 3072) (hj : j + 6 ≤ X.2.2.2.2.1) (h : Rel s G) : lwS X s j 744 := by
  obtain ⟨r, s1, s2, G2, h1, h2, h3⟩ := sim_sag X s G h (lwA X j 1) (lwA X j 2) (lwA X j 3) (lwA X j 4) (lwA X j 5)
  refine ⟨s2, G2, ?_, h3⟩
  rw [e_Law_law_744, lw_ia hL hj s (i := 1) (by decide), lw_ia hL hj s (i := 2) (by decide), lw_ia hL hj s (i := 3) (by decide), lw_ia hL hj s (i := 4) (by decide), lw_ia hL hj s (i := 5) (by decide), ck_C, h1, r1_s, lw_ia hL hj s1 (i := 1) (by decide), lw_ia hL hj s1 (i := 2) (by decide), lw_ia hL hj s1 (i := 3) (by decide), lw_ia hL hj s1 (i := 4) (by decide), lw_ia hL hj s1 (i := 5) (by decide), ck_M, h2, r1_s, if_pos rfl]
theorem lw_corner (hL : X.2.2.2.2.1 ≤ 3072) (hj : j + 6 ≤ X.2.2.2.2.1) (h : Rel s G) : lwS X s j 807 := by
  obtain ⟨r, s1, s2, G2, h1, h2, h3⟩ := sim_corner X s G h (lwA X j 1)
  refine ⟨s2, G2, ?_, h3⟩
  rw [e_Law_law_807, lw_ia hL hj s (i := 1) (by decide), ck_C, h1, r1_s, lw_ia hL hj s1 (i := 1) (by decide), ck_M, h2, r1_s, if_pos rfl]
theorem lw_first (hL : X.2.2.2.2.1 ≤ 3072) (hj : j + 6 ≤ X.2.2.2.2.1) (h : Rel s G) : lwS X s j 830 := by
  obtain ⟨r, s1, s2, G2, h1, h2, h3⟩ := sim_first X s G h (lwA X j 1)
  refine ⟨s2, G2, ?_, h3⟩
  rw [e_Law_law_830, lw_ia hL hj s (i := 1) (by decide), ck_C, h1, r1_s, lw_ia hL hj s1 (i := 1) (by decide), ck_M, h2, r1_s, if_pos rfl]
theorem lw_spoilt (hL : X.2.2.2.2.1 ≤ 3072) (hj : j + 6 ≤ X.2.2.2.2.1) (h : Rel s G) : lwS X s j 853 := by
  obtain ⟨r, s1, s2, G2, h1, h2, h3⟩ := sim_spoilt X s G h (lwA X j 1) (lwA X j 2)
  refine ⟨s2, G2, ?_, h3⟩
  rw [e_Law_law_853, lw_ia hL hj s (i := 1) (by decide), lw_ia hL hj s (i := 2) (by decide), ck_C, h1, r1_s, lw_ia hL hj s1 (i := 1) (by decide), lw_ia hL hj s1 (i := 2) (by decide), ck_M, h2, r1_s, if_pos rfl]
theorem lw_order (hL : X.2.2.2.2.1 ≤ 3072) (hj : j + 6 ≤ X.2.2.2.2.1) (h : Rel s G) : lwS X s j 886 := by
  obtain ⟨r, s1, s2, G2, h1, h2, h3⟩ := sim_order X s G h (lwA X j 1)
  refine ⟨s2, G2, ?_, h3⟩
  rw [e_Law_law_886, lw_ia hL hj s (i := 1) (by decide), ck_C, h1, r1_s, lw_ia hL hj s1 (i := 1) (by decide), ck_M, h2, r1_s, if_pos rfl]
theorem lw_paint (hL : X.2.2.2.2.1 ≤ 3072) (hj : j + 6 ≤ X.2.2.2.2.1) (h : Rel s G) : lwS X s j 909 := by
  obtain ⟨r, s1, s2, G2, h1, h2, h3⟩ := sim_paint X s G h (lwA X j 1) (lwA X j 2)
  refine ⟨s2, G2, ?_, h3⟩
  rw [e_Law_law_909, lw_ia hL hj s (i := 1) (by decide), lw_ia hL hj s (i := 2) (by decide), ck_C, h1, r1_s, lw_ia hL hj s1 (i := 1) (by decide), lw_ia hL hj s1 (i := 2) (by decide), ck_M, h2, r1_s, if_pos rfl]
theorem lw_left (hL : X.2.2.2.2.1 ≤ 3072) (hj : j + 6 ≤ X.2.2.2.2.1) (h : Rel s G) : lwS X s j 942 := by
  obtain ⟨r, s1, s2, G2, h1, h2, h3⟩ := sim_left X s G h (lwA X j 1)
  refine ⟨s2, G2, ?_, h3⟩
  rw [e_Law_law_942, lw_ia hL hj s (i := 1) (by decide), ck_C, h1, r1_s, lw_ia hL hj s1 (i := 1) (by decide), ck_M, h2, r1_s, if_pos rfl]
theorem lw_alike (hL : X.2.2.2.2.1 ≤ 3072) (hj : j + 6 ≤ X.2.2.2.2.1) (h : Rel s G) : lwS X s j 965 := by
  obtain ⟨r, s1, s2, G2, h1, h2, h3⟩ := sim_alike X s G h (lwA X j 1) (lwA X j 2) (lwA X j 3) (lwA X j 4) (lwA X j 5)
  refine ⟨s2, G2, ?_, h3⟩
  rw [e_Law_law_965, lw_ia hL hj s (i := 1) (by decide), lw_ia hL hj s (i := 2) (by decide), lw_ia hL hj s (i := 3) (by decide), lw_ia hL hj s (i := 4) (by decide), lw_ia hL hj s (i := 5) (by decide), ck_C, h1, r1_s, lw_ia hL hj s1 (i := 1) (by decide), lw_ia hL hj s1 (i := 2) (by decide), lw_ia hL hj s1 (i := 3) (by decide), lw_ia hL hj s1 (i := 4) (by decide), lw_ia hL hj s1 (i := 5) (by decide), ck_M, h2, r1_s, if_pos rfl]
theorem lw_turn (hL : X.2.2.2.2.1 ≤ 3072) (hj : j + 6 ≤ X.2.2.2.2.1) (h : Rel s G) : lwS X s j 1028 := by
  obtain ⟨r, s1, s2, G2, h1, h2, h3⟩ := sim_turn X s G h (lwA X j 1) (lwA X j 2)
  refine ⟨s2, G2, ?_, h3⟩
  rw [e_Law_law_1028, lw_ia hL hj s (i := 1) (by decide), lw_ia hL hj s (i := 2) (by decide), ck_C, h1, r1_s, lw_ia hL hj s1 (i := 1) (by decide), lw_ia hL hj s1 (i := 2) (by decide), ck_M, h2, r1_s, if_pos rfl]
theorem lw_read (hL : X.2.2.2.2.1 ≤ 3072) (hj : j + 6 ≤ X.2.2.2.2.1) (h : Rel s G) : lwS X s j 1061 := by
  obtain ⟨r, s1, s2, G2, h1, h2, h3⟩ := sim_read X s G h (lwA X j 1) (lwA X j 2) (lwA X j 3)
  refine ⟨s2, G2, ?_, h3⟩
  rw [e_Law_law_1061, lw_ia hL hj s (i := 1) (by decide), lw_ia hL hj s (i := 2) (by decide), lw_ia hL hj s (i := 3) (by decide), ck_C, h1, r2_s, lw_ia hL hj s1 (i := 1) (by decide), lw_ia hL hj s1 (i := 2) (by decide), lw_ia hL hj s1 (i := 3) (by decide), ck_M, h2, r2_s, if_pos ((lg_cmp_eq r r).mpr rfl)]
theorem lw_hole (hL : X.2.2.2.2.1 ≤ 3072) (hj : j + 6 ≤ X.2.2.2.2.1) (h : Rel s G) : lwS X s j 1105 := by
  obtain ⟨r, s1, s2, G2, h1, h2, h3⟩ := sim_hole X s G h (lwA X j 1) (lwA X j 2) (lwA X j 3)
  refine ⟨s2, G2, ?_, h3⟩
  rw [e_Law_law_1105, lw_ia hL hj s (i := 1) (by decide), lw_ia hL hj s (i := 2) (by decide), lw_ia hL hj s (i := 3) (by decide), ck_C, h1, r1_s, lw_ia hL hj s1 (i := 1) (by decide), lw_ia hL hj s1 (i := 2) (by decide), lw_ia hL hj s1 (i := 3) (by decide), ck_M, h2, r1_s, if_pos rfl]
theorem lw_cut (hL : X.2.2.2.2.1 ≤ 3072) (hj : j + 6 ≤ X.2.2.2.2.1) (h : Rel s G) : lwS X s j 1148 := by
  obtain ⟨r, s1, s2, G2, h1, h2, h3⟩ := sim_cut X s G h (lwA X j 1) (lwA X j 2)
  refine ⟨s2, G2, ?_, h3⟩
  rw [e_Law_law_1148, lw_ia hL hj s (i := 1) (by decide), lw_ia hL hj s (i := 2) (by decide), ck_C, h1, r1_s, lw_ia hL hj s1 (i := 1) (by decide), lw_ia hL hj s1 (i := 2) (by decide), ck_M, h2, r1_s, if_pos rfl]
theorem lw_image (hL : X.2.2.2.2.1 ≤ 3072) (hj : j + 6 ≤ X.2.2.2.2.1) (h : Rel s G) : lwS X s j 1181 := by
  obtain ⟨r, s1, s2, G2, h1, h2, h3⟩ := sim_image X s G h 
  refine ⟨s2, G2, ?_, h3⟩
  rw [e_Law_law_1181, ck_C, h1, r1_s, ck_M, h2, r1_s, if_pos rfl]
theorem lw_back (hL : X.2.2.2.2.1 ≤ 3072) (hj : j + 6 ≤ X.2.2.2.2.1) (h : Rel s G) : lwS X s j 1194 := by
  obtain ⟨r, s1, s2, G2, h1, h2, h3⟩ := sim_back X s G h (lwA X j 1)
  refine ⟨s2, G2, ?_, h3⟩
  rw [e_Law_law_1194, lw_ia hL hj s (i := 1) (by decide), ck_C, h1, r1_s, lw_ia hL hj s1 (i := 1) (by decide), ck_M, h2, r1_s, if_pos rfl]
theorem lw_count (hL : X.2.2.2.2.1 ≤ 3072) (hj : j + 6 ≤ X.2.2.2.2.1) (h : Rel s G) : lwS X s j 1217 := by
  obtain ⟨r, s1, s2, G2, h1, h2, h3⟩ := sim_count X s G h (lwA X j 1)
  refine ⟨s2, G2, ?_, h3⟩
  rw [e_Law_law_1217, lw_ia hL hj s (i := 1) (by decide), ck_C, h1, r1_s, lw_ia hL hj s1 (i := 1) (by decide), ck_M, h2, r1_s, if_pos rfl]
theorem lw_step (hL : X.2.2.2.2.1 ≤ 3072) (hj : j + 6 ≤ X.2.2.2.2.1) (h : Rel s G) (hpl : simP) : ∃ (s2 : sT) (G2 : gsT), rn 296 18 (lwK j) [] (mk X s) = rn 296 18 (lwK (j + 6)) [] (mk X s2) ∧ Rel s2 G2 := by
  have e0 : ∀ f : Int32 → Option qz_R, qz_ia (mk X s).1 1000000 (nI j) f = f (lwA X j 0) := fun f => by
    have := lw_ia hL hj s (i := 0) (by decide) f
    rwa [nI_add] at this
  have hS : ∃ (s2 : sT) (G2 : gsT), rn 296 18 (lwK j) [] (mk X s) = rn 296 1240 (lwK j) [] (mk X s2) ∧ Rel s2 G2 := by
    rw [e_Law_law_18, lw_len, if_neg (by rw [pk_sub (by omega), nI_ltI (by omega) (by omega)]; omega), e0]
    by_cases c0 : lwA X j 0 &&& nI 31 = nI 0
    · rw [if_pos c0]; exact lw_feed hL hj h
    rw [if_neg c0]
    by_cases c1 : lwA X j 0 &&& nI 31 = nI 1
    · rw [if_pos c1]; exact lw_plate hL hj h hpl
    rw [if_neg c1]
    by_cases c2 : lwA X j 0 &&& nI 31 = nI 2
    · rw [if_pos c2]; exact lw_fault hL hj h
    rw [if_neg c2]
    by_cases c3 : lwA X j 0 &&& nI 31 = nI 3
    · rw [if_pos c3]; exact lw_sheet hL hj h
    rw [if_neg c3]
    by_cases c4 : lwA X j 0 &&& nI 31 = nI 4
    · rw [if_pos c4]; exact lw_square hL hj h
    rw [if_neg c4]
    by_cases c5 : lwA X j 0 &&& nI 31 = nI 5
    · rw [if_pos c5]; exact lw_falls hL hj h
    rw [if_neg c5]
    by_cases c6 : lwA X j 0 &&& nI 31 = nI 6
    · rw [if_pos c6]; exact lw_tongues hL hj h
    rw [if_neg c6]
    by_cases c7 : lwA X j 0 &&& nI 31 = nI 7
    · rw [if_pos c7]; exact lw_change hL hj h
    rw [if_neg c7]
    by_cases c8 : lwA X j 0 &&& nI 31 = nI 8
    · rw [if_pos c8]; exact lw_bridge hL hj h
    rw [if_neg c8]
    by_cases c9 : lwA X j 0 &&& nI 31 = nI 9
    · rw [if_pos c9]; exact lw_put hL hj h
    rw [if_neg c9]
    by_cases c10 : lwA X j 0 &&& nI 31 = nI 10
    · rw [if_pos c10]; exact lw_judge hL hj h
    rw [if_neg c10]
    by_cases c11 : lwA X j 0 &&& nI 31 = nI 11
    · rw [if_pos c11]; exact lw_cheapest hL hj h
    rw [if_neg c11]
    by_cases c12 : lwA X j 0 &&& nI 31 = nI 12
    · rw [if_pos c12]; exact lw_made hL hj h
    rw [if_neg c12]
    by_cases c13 : lwA X j 0 &&& nI 31 = nI 13
    · rw [if_pos c13]; exact lw_choice hL hj h
    rw [if_neg c13]
    by_cases c14 : lwA X j 0 &&& nI 31 = nI 14
    · rw [if_pos c14]; exact lw_sag hL hj h
    rw [if_neg c14]
    by_cases c15 : lwA X j 0 &&& nI 31 = nI 15
    · rw [if_pos c15]; exact lw_corner hL hj h
    rw [if_neg c15]
    by_cases c16 : lwA X j 0 &&& nI 31 = nI 16
    · rw [if_pos c16]; exact lw_first hL hj h
    rw [if_neg c16]
    by_cases c17 : lwA X j 0 &&& nI 31 = nI 17
    · rw [if_pos c17]; exact lw_spoilt hL hj h
    rw [if_neg c17]
    by_cases c18 : lwA X j 0 &&& nI 31 = nI 18
    · rw [if_pos c18]; exact lw_order hL hj h
    rw [if_neg c18]
    by_cases c19 : lwA X j 0 &&& nI 31 = nI 19
    · rw [if_pos c19]; exact lw_paint hL hj h
    rw [if_neg c19]
    by_cases c20 : lwA X j 0 &&& nI 31 = nI 20
    · rw [if_pos c20]; exact lw_left hL hj h
    rw [if_neg c20]
    by_cases c21 : lwA X j 0 &&& nI 31 = nI 21
    · rw [if_pos c21]; exact lw_alike hL hj h
    rw [if_neg c21]
    by_cases c22 : lwA X j 0 &&& nI 31 = nI 22
    · rw [if_pos c22]; exact lw_turn hL hj h
    rw [if_neg c22]
    by_cases c23 : lwA X j 0 &&& nI 31 = nI 23
    · rw [if_pos c23]; exact lw_read hL hj h
    rw [if_neg c23]
    by_cases c24 : lwA X j 0 &&& nI 31 = nI 24
    · rw [if_pos c24]; exact lw_hole hL hj h
    rw [if_neg c24]
    by_cases c25 : lwA X j 0 &&& nI 31 = nI 25
    · rw [if_pos c25]; exact lw_cut hL hj h
    rw [if_neg c25]
    by_cases c26 : lwA X j 0 &&& nI 31 = nI 26
    · rw [if_pos c26]; exact lw_image hL hj h
    rw [if_neg c26]
    by_cases c27 : lwA X j 0 &&& nI 31 = nI 27
    · rw [if_pos c27]; exact lw_back hL hj h
    rw [if_neg c27]
    by_cases c28 : lwA X j 0 &&& nI 31 = nI 28
    · rw [if_pos c28]; exact lw_count hL hj h
    rw [if_neg c28]
    exact ⟨s, G, rfl, h⟩
  obtain ⟨s2, G2, h1, h2⟩ := hS
  exact ⟨s2, G2, h1.trans (by rw [e_Law_law_1240, nI_add]), h2⟩
end LAW
theorem lw_end {X : qz_X} {s : sT} {j : Nat} (hL : X.2.2.2.2.1 ≤ 3072) (hj : X.2.2.2.2.1 < j + 6) (hj2 : j ≤ 3072) : rn 296 18 (lwK j) [] (mk X s) = some (some (.int (nI 1)), mk X s) := by
  rw [e_Law_law_18, lw_len, if_pos]
  rw [Int32.lt_iff_toInt_lt, Int32.toInt_sub, nI_toInt (by omega), nI_toInt (by omega), nI_toInt (by omega), Int.bmod_eq_of_le (by omega) (by omega)]
  omega
theorem lw_loop (hpl : simP) {X : qz_X} (hL : X.2.2.2.2.1 ≤ 3072) : ∀ (d j : Nat) (s : sT) (G : gsT), X.2.2.2.2.1 < j + 6 + d → j ≤ 3072 → Rel s G → ∃ s2 : sT, rn 296 18 (lwK j) [] (mk X s) = some (some (.int (nI 1)), mk X s2)
  | 0, j, s, G, hd, h2, h => ⟨s, lw_end hL (by omega) h2⟩
  | d + 1, j, s, G, hd, h2, h => by
    by_cases hj : j + 6 ≤ X.2.2.2.2.1
    · obtain ⟨s2, G2, h1, h3⟩ := lw_step hL hj h hpl
      obtain ⟨s3, h4⟩ := lw_loop hpl hL d (j + 6) s2 G2 (by omega) (by omega) h3
      exact ⟨s3, h1.trans h4⟩
    · exact ⟨s, lw_end hL (by omega) h2⟩

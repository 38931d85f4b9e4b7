/-! rows of bits: the rim, runs -/
def rows (f : Nat → Int32) (t : Nat → Bool) : Prop := ∀ y, y < 20 → ∀ x, x < 32 → bt (f y) x = (decide (x < 20) && t (20 * y + x))
theorem b_m2 (v : Int32) : ∀ i, i < 4 → (v &&& nI (2 ^ i) = 0 ↔ bt v i = false) := by
  intro i hi
  have hb : ∀ i, i < 4 → ∀ j, j < 32 → bt (nI (2 ^ i)) j = decide (j = i) := by decide +kernel
  rw [b_zero]
  constructor
  · intro h
    have := h i (by omega)
    rw [b_and, hb i hi i (by omega)] at this
    simpa using this
  · intro h j hj
    rw [b_and, hb i hi j hj]
    by_cases e : j = i
    · subst e; rw [h]; rfl
    · simp [e]
theorem rimRow_run (X : qz_X) {s : sT} {q : Nat} {A : shT} (hq : isS q) (ok : okA A) (hC : isC s q A) {y : Nat} (hy : y < 20) : ∃ r : Int32, rn 126 0 [some (.ref q), some (.int (nI y)), none] [] (mk X s) = some (some (.int r), mk X s) ∧ ∀ x, x < 32 → bt r x = (decide (x < 20) && rim A (20 * y + x)) := by
  have h1 := ok.1
  have h2 := ok.2.1
  obtain ⟨f, hf, bf⟩ := fullRow_run X hq ok hC (y := y) (by omega)
  have held : s.1 q 4 = nI (A.1 6) := hC.1.2.2.2.2.2.2.1
  have r63 : ∀ v : Int32, ∃ r : Int32, rn 126 63 [some (.ref q), some (.int (nI y)), some (.int v)] [] (mk X s) = some (some (.int r), mk X s) ∧ ∀ x, x < 32 → bt r x = ((bt v x || (hb A 3 && decide (x = 0))) && (decide (x < A.1 0) && decide (y < A.1 1))) := by
    intro v
    rw [e_Sheet_rimRow_63, g_S_held hq, held]
    cases h : hb A 3
    · refine ⟨v &&& f, ?_, fun x hx => ?_⟩
      · rw [if_pos ((b_m2 _ 3 (by decide)).mpr h), ck_S hq, hf, r1_s]
      · rw [b_and, bf x hx, Bool.false_and, Bool.or_false]
    · refine ⟨(v ||| nI 1) &&& f, ?_, fun x hx => ?_⟩
      · rw [if_neg (fun z => by have := (b_m2 _ 3 (by decide)).mp z; rw [show bt (nI (A.1 6)) 3 = hb A 3 from rfl, h] at this; cases this), ck_S hq, hf, r1_s]
      · rw [b_and, bf x hx, b_or, b_n1 x hx, Bool.true_and]
  have r43 : ∀ v : Int32, ∃ r : Int32, rn 126 43 [some (.ref q), some (.int (nI y)), some (.int v)] [] (mk X s) = some (some (.int r), mk X s) ∧ ∀ x, x < 32 → bt r x = ((bt v x || (hb A 1 && decide (x + 1 = A.1 0)) || (hb A 3 && decide (x = 0))) && (decide (x < A.1 0) && decide (y < A.1 1))) := by
    intro v
    rw [e_Sheet_rimRow_43, g_S_held hq, held]
    cases h : hb A 1
    · obtain ⟨r, hr, br⟩ := r63 v
      refine ⟨r, ?_, fun x hx => ?_⟩
      · rw [if_pos ((b_m2 _ 1 (by decide)).mpr h), hr]
      · rw [br x hx, Bool.false_and, Bool.or_false]
    · obtain ⟨r, hr, br⟩ := r63 (v ||| (nI 1 <<< (nI (A.1 0 - 1) &&& 31)))
      refine ⟨r, ?_, fun x hx => ?_⟩
      · rw [if_neg (fun z => by have := (b_m2 _ 1 (by decide)).mp z; rw [show bt (nI (A.1 6)) 1 = hb A 1 from rfl, h] at this; cases this), g_S_wide hq, hC.1.1, pk_sub (by omega), hr]
      · rw [br x hx, b_or, b_one _ (by omega) x hx, Bool.true_and, show decide (x = A.1 0 - 1) = decide (x + 1 = A.1 0) from by
          by_cases e : x + 1 = A.1 0
          · rw [decide_eq_true e, decide_eq_true (show x = A.1 0 - 1 by omega)]
          · rw [decide_eq_false e, decide_eq_false (show ¬ x = A.1 0 - 1 by omega)]]
  have fin : ∀ (r v : Int32) (c : Bool), (∀ x, x < 32 → bt r x = ((bt v x || (hb A 1 && decide (x + 1 = A.1 0)) || (hb A 3 && decide (x = 0))) && (decide (x < A.1 0) && decide (y < A.1 1)))) → (∀ x, x < 32 → bt v x = (c && decide (x < A.1 0))) → c = ((hb A 0 && decide (y = 0)) || (hb A 2 && decide (y + 1 = A.1 1))) → ∀ x, x < 32 → bt r x = (decide (x < 20) && rim A (20 * y + x)) := by
    intro r v c br bv hc x hx
    rw [br x hx, bv x hx, hc]
    by_cases h20 : x < 20
    · unfold rim rx
      rw [ins_xy A h20, show (20 * y + x) / 20 = y by omega, show (20 * y + x) % 20 = x by omega, decide_eq_true h20]
      cases decide (x < A.1 0) <;> cases decide (y < A.1 1) <;> cases (hb A 0 && decide (y = 0)) <;> cases (hb A 2 && decide (y + 1 = A.1 1)) <;> cases (hb A 1 && decide (x + 1 = A.1 0)) <;> cases (hb A 3 && decide (x = 0)) <;> rfl
    · rw [decide_eq_false h20, decide_eq_false (show ¬ x < A.1 0 by omega)]
      simp
  have r34 : ∃ r : Int32, rn 126 34 [some (.ref q), some (.int (nI y)), none] [] (mk X s) = some (some (.int r), mk X s) ∧ (((hb A 0 && decide (y = 0)) || (hb A 2 && decide (y + 1 = A.1 1))) = true → ∀ x, x < 32 → bt r x = (decide (x < 20) && rim A (20 * y + x))) := by
    obtain ⟨r, hr, br⟩ := r43 ((nI 1 <<< (nI (A.1 0) &&& 31)) - nI 1)
    refine ⟨r, by rw [e_Sheet_rimRow_34, g_S_wide hq, hC.1.1, hr], fun hc => fin r _ true br (fun x hx => by rw [b_low _ (by omega) x hx, Bool.true_and]) hc.symm⟩
  have r43z : ∃ r : Int32, rn 126 43 [some (.ref q), some (.int (nI y)), some (.int (nI 0))] [] (mk X s) = some (some (.int r), mk X s) ∧ (((hb A 0 && decide (y = 0)) || (hb A 2 && decide (y + 1 = A.1 1))) = false → ∀ x, x < 32 → bt r x = (decide (x < 20) && rim A (20 * y + x))) := by
    obtain ⟨r, hr, br⟩ := r43 (nI 0)
    exact ⟨r, hr, fun hc => fin r _ false br (fun x hx => by rw [b_n0, Bool.false_and]) hc.symm⟩
  obtain ⟨p, hp, bp⟩ := r34
  obtain ⟨z, hz, bz⟩ := r43z
  have c1 : (nI y = 0) ↔ y = 0 := by rw [← nI_0, nI_eq (by omega) (by decide)]
  have c4 : (nI y = nI (A.1 1 - 1)) ↔ y + 1 = A.1 1 := by rw [nI_eq (by omega) (by omega)]; omega
  have n0 : hb A 0 = true → ¬ nI (A.1 6) &&& nI 1 = 0 := fun h z => by have := (b_m2 _ 0 (by decide)).mp z; rw [show bt (nI (A.1 6)) 0 = hb A 0 from rfl, h] at this; cases this
  have n2 : hb A 2 = true → ¬ nI (A.1 6) &&& nI 4 = 0 := fun h z => by have := (b_m2 _ 2 (by decide)).mp z; rw [show bt (nI (A.1 6)) 2 = hb A 2 from rfl, h] at this; cases this
  have r15 : ((hb A 0 && decide (y = 0)) = false) → ∃ r : Int32, rn 126 15 [some (.ref q), some (.int (nI y)), some (.int (nI 0))] [] (mk X s) = some (some (.int r), mk X s) ∧ ∀ x, x < 32 → bt r x = (decide (x < 20) && rim A (20 * y + x)) := by
    intro h0
    rw [e_Sheet_rimRow_15, g_S_held hq, held]
    cases h : hb A 2
    · rw [if_pos ((b_m2 _ 2 (by decide)).mpr h)]
      exact ⟨z, hz, bz (by rw [h0, h]; rfl)⟩
    · rw [if_neg (n2 h), g_S_high hq, hC.1.2.1, pk_sub (by omega)]
      by_cases hy1 : y + 1 = A.1 1
      · rw [if_pos (c4.mpr hy1)]
        exact ⟨p, hp, bp (by rw [h, decide_eq_true hy1, h0]; rfl)⟩
      · rw [if_neg (fun e => hy1 (c4.mp e))]
        exact ⟨z, hz, bz (by rw [h, decide_eq_false hy1, h0]; rfl)⟩
  rw [e_Sheet_rimRow_0, g_S_held hq, held]
  cases h : hb A 0
  · rw [if_pos ((b_m2 _ 0 (by decide)).mpr h)]
    exact r15 (by rw [h]; rfl)
  · rw [if_neg (n0 h)]
    by_cases hy0 : y = 0
    · rw [if_pos (c1.mpr hy0)]
      exact ⟨p, hp, bp (by rw [h, decide_eq_true hy0]; rfl)⟩
    · rw [if_neg (fun e => hy0 (c1.mp e))]
      exact r15 (by rw [h, decide_eq_false hy0]; rfl)
/-- all of the row's runs that hold one of some bits -/
def alo (bits row : Nat → Bool) (x : Nat) : Prop := (∃ z, z ≤ x ∧ bits z = true ∧ ∀ j, z < j → j ≤ x → row j = true) ∨ ∃ z, x ≤ z ∧ z < 32 ∧ bits z = true ∧ ∀ j, x ≤ j → j < z → row j = true
theorem along_run (w : qz_W) (bits row : Int32) (hb31 : bt bits 31 = false) (hr31 : bt row 31 = false) : ∃ r : Int32, rn 127 0 [some (.int bits), some (.int row), none, none, none, none, none] [] w = some (some (.int r), w) ∧ ∀ x, x < 32 → (bt r x = true ↔ alo (bt bits) (bt row) x) := by
  have hs : ∀ (k : Nat) (v : Int32 × Int32 × Int32 × Int32), 0 ≤ k → k < 5 → ((∀ x, x < 32 → (bt v.1 x = true ↔ ∃ z, z ≤ x ∧ x < z + 2 ^ k ∧ bt bits z = true ∧ ∀ j, z < j → j ≤ x → bt row j = true)) ∧ (∀ x, x < 32 → (bt v.2.1 x = true ↔ ∃ z, x ≤ z ∧ z < 32 ∧ z < x + 2 ^ k ∧ bt bits z = true ∧ ∀ j, x ≤ j → j < z → bt row j = true)) ∧ (∀ x, x < 32 → (bt v.2.2.1 x = true ↔ 2 ^ k ≤ x + 1 ∧ ∀ j, x < j + 2 ^ k → j ≤ x → bt row j = true)) ∧ (∀ x, x < 32 → (bt v.2.2.2 x = true ↔ x + 2 ^ k ≤ 32 ∧ ∀ j, x ≤ j → j < x + 2 ^ k → bt row j = true))) → ∃ y : Int32 × Int32 × Int32 × Int32, ((∀ x, x < 32 → (bt y.1 x = true ↔ ∃ z, z ≤ x ∧ x < z + 2 ^ (k + 1) ∧ bt bits z = true ∧ ∀ j, z < j → j ≤ x → bt row j = true)) ∧ (∀ x, x < 32 → (bt y.2.1 x = true ↔ ∃ z, x ≤ z ∧ z < 32 ∧ z < x + 2 ^ (k + 1) ∧ bt bits z = true ∧ ∀ j, x ≤ j → j < z → bt row j = true)) ∧ (∀ x, x < 32 → (bt y.2.2.1 x = true ↔ 2 ^ (k + 1) ≤ x + 1 ∧ ∀ j, x < j + 2 ^ (k + 1) → j ≤ x → bt row j = true)) ∧ (∀ x, x < 32 → (bt y.2.2.2 x = true ↔ x + 2 ^ (k + 1) ≤ 32 ∧ ∀ j, x ≤ j → j < x + 2 ^ (k + 1) → bt row j = true))) ∧ rn 127 13 [none, none, some (.int v.1), some (.int v.2.1), some (.int v.2.2.1), some (.int v.2.2.2), some (.int (nI (2 ^ k)))] [] w = rn 127 13 [none, none, some (.int y.1), some (.int y.2.1), some (.int y.2.2.1), some (.int y.2.2.2), some (.int (nI (2 ^ (k + 1))))] [] w := by
    rintro k ⟨u, d, ur, dr⟩ _ hk ⟨hu, hd, hur, hdr⟩
    dsimp only at hu hd hur hdr ⊢
    have hp : 2 ^ k ≤ 16 := by
      rcases (show k = 0 ∨ k = 1 ∨ k = 2 ∨ k = 3 ∨ k = 4 by omega) with rfl | rfl | rfl | rfl | rfl <;> decide
    have hp1 : 2 ^ (k + 1) = 2 * 2 ^ k := by rw [Nat.pow_succ, Nat.mul_comm]
    have hd31 : bt d 31 = false := by
      cases h : bt d 31
      · rfl
      · obtain ⟨z, h1, h2, -, h3, -⟩ := (hd 31 (by omega)).mp h
        have : z = 31 := by omega
        subst this
        rw [hb31] at h3
        cases h3
    have hdr31 : bt dr 31 = false := by
      cases h : bt dr 31
      · rfl
      · obtain ⟨-, h2⟩ := (hdr 31 (by omega)).mp h
        have := h2 31 (Nat.le_refl _) (by have := Nat.two_pow_pos k; omega)
        rw [hr31] at this
        cases this
    have hpos := Nat.two_pow_pos k
    refine ⟨(u ||| (ur &&& (u <<< (nI (2 ^ k) &&& 31))), d ||| (dr &&& (d >>> (nI (2 ^ k) &&& 31))), ur &&& (ur <<< (nI (2 ^ k) &&& 31)), dr &&& (dr >>> (nI (2 ^ k) &&& 31))), ⟨fun x hx => ?_, fun x hx => ?_, fun x hx => ?_, fun x hx => ?_⟩, ?_⟩
    · rw [b_or, b_and, b_shl _ (by omega) u hx, Bool.or_eq_true, Bool.and_eq_true, Bool.and_eq_true, decide_eq_true_eq, hu x hx, hur x hx, hp1]
      constructor
      · rintro (⟨z, h1, h2, h3, h4⟩ | ⟨⟨h1, h2⟩, h3, h4⟩)
        · exact ⟨z, h1, by omega, h3, h4⟩
        · obtain ⟨z, g1, g2, g3, g4⟩ := (hu _ (by omega)).mp h4
          refine ⟨z, by omega, by omega, g3, fun j hj hjx => ?_⟩
          by_cases hh : j ≤ x - 2 ^ k
          · exact g4 j hj hh
          · exact h2 j (by omega) hjx
      · rintro ⟨z, h1, h2, h3, h4⟩
        by_cases hz : x < z + 2 ^ k
        · exact Or.inl ⟨z, h1, hz, h3, h4⟩
        · refine Or.inr ⟨⟨by omega, fun j hj hjx => h4 j (by omega) hjx⟩, by omega, (hu _ (by omega)).mpr ⟨z, by omega, by omega, h3, fun j hj hjx => h4 j hj (by omega)⟩⟩
    · rw [b_or, b_and, b_sshr _ (by omega) d hx, Bool.or_eq_true, Bool.and_eq_true, hd x hx, hdr x hx, hp1]
      constructor
      · rintro (⟨z, h1, h2, h3, h4, h5⟩ | ⟨⟨h1, h2⟩, h3⟩)
        · exact ⟨z, h1, h2, by omega, h4, h5⟩
        · by_cases hc : 2 ^ k + x < 32
          · rw [if_pos hc] at h3
            obtain ⟨z, g1, g2, g3, g4, g5⟩ := (hd _ hc).mp h3
            refine ⟨z, by omega, g2, by omega, g4, fun j hj hjz => ?_⟩
            by_cases hh : j < x + 2 ^ k
            · exact h2 j hj hh
            · exact g5 j (by omega) hjz
          · rw [if_neg hc, hd31] at h3
            cases h3
      · rintro ⟨z, h1, h2, h3, h4, h5⟩
        by_cases hz : z < x + 2 ^ k
        · exact Or.inl ⟨z, h1, h2, hz, h4, h5⟩
        · refine Or.inr ⟨⟨by omega, fun j hj hjx => h5 j hj (by omega)⟩, ?_⟩
          rw [if_pos (by omega)]
          exact (hd _ (by omega)).mpr ⟨z, by omega, h2, by omega, h4, fun j hj hjz => h5 j (by omega) hjz⟩
    · rw [b_and, b_shl _ (by omega) ur hx, Bool.and_eq_true, Bool.and_eq_true, decide_eq_true_eq, hur x hx, hp1]
      constructor
      · rintro ⟨⟨h1, h2⟩, h3, h4⟩
        obtain ⟨g1, g2⟩ := (hur _ (by omega)).mp h4
        refine ⟨by omega, fun j hj hjx => ?_⟩
        by_cases hh : j ≤ x - 2 ^ k
        · exact g2 j (by omega) hh
        · exact h2 j (by omega) hjx
      · rintro ⟨h1, h2⟩
        exact ⟨⟨by omega, fun j hj hjx => h2 j (by omega) hjx⟩, by omega, (hur _ (by omega)).mpr ⟨by omega, fun j hj hjx => h2 j (by omega) (by omega)⟩⟩
    · rw [b_and, b_sshr _ (by omega) dr hx, Bool.and_eq_true, hdr x hx, hp1]
      constructor
      · rintro ⟨⟨h1, h2⟩, h3⟩
        by_cases hc : 2 ^ k + x < 32
        · rw [if_pos hc] at h3
          obtain ⟨g1, g2⟩ := (hdr _ hc).mp h3
          refine ⟨by omega, fun j hj hjx => ?_⟩
          by_cases hh : j < x + 2 ^ k
          · exact h2 j hj hh
          · exact g2 j (by omega) (by omega)
        · rw [if_neg hc, hdr31] at h3
          cases h3
      · rintro ⟨h1, h2⟩
        refine ⟨⟨by omega, fun j hj hjx => h2 j hj (by omega)⟩, ?_⟩
        rw [if_pos (by omega)]
        exact (hdr _ (by omega)).mpr ⟨by omega, fun j hj hjx => h2 j (by omega) (by omega)⟩
    · rw [e_Hanging_alongRow_13, if_neg (nI_ge (by omega) (by decide)), pk_mul, Nat.pow_succ]
  obtain ⟨⟨u, d, ur, dr⟩, ⟨hu, hd, -, -⟩, e⟩ := it_up (fun k (v : Int32 × Int32 × Int32 × Int32) => rn 127 13 [none, none, some (.int v.1), some (.int v.2.1), some (.int v.2.2.1), some (.int v.2.2.2), some (.int (nI (2 ^ k)))] [] w) (fun k v => (∀ x, x < 32 → (bt v.1 x = true ↔ ∃ z, z ≤ x ∧ x < z + 2 ^ k ∧ bt bits z = true ∧ ∀ j, z < j → j ≤ x → bt row j = true)) ∧ (∀ x, x < 32 → (bt v.2.1 x = true ↔ ∃ z, x ≤ z ∧ z < 32 ∧ z < x + 2 ^ k ∧ bt bits z = true ∧ ∀ j, x ≤ j → j < z → bt row j = true)) ∧ (∀ x, x < 32 → (bt v.2.2.1 x = true ↔ 2 ^ k ≤ x + 1 ∧ ∀ j, x < j + 2 ^ k → j ≤ x → bt row j = true)) ∧ (∀ x, x < 32 → (bt v.2.2.2 x = true ↔ x + 2 ^ k ≤ 32 ∧ ∀ j, x ≤ j → j < x + 2 ^ k → bt row j = true))) (Nat.zero_le 5) hs (x := (bits, bits, row, row)) (by
    refine ⟨fun x hx => ⟨fun h => ⟨x, Nat.le_refl _, by omega, h, fun j h1 h2 => by omega⟩, ?_⟩, fun x hx => ⟨fun h => ⟨x, Nat.le_refl _, hx, by omega, h, fun j h1 h2 => by omega⟩, ?_⟩, fun x hx => ⟨fun h => ⟨by omega, fun j h1 h2 => ?_⟩, ?_⟩, fun x hx => ⟨fun h => ⟨by omega, fun j h1 h2 => ?_⟩, ?_⟩⟩
    · rintro ⟨z, h1, h2, h3, -⟩
      have : z = x := by omega
      subst this
      exact h3
    · rintro ⟨z, h1, -, h2, h3, -⟩
      have : z = x := by omega
      subst this
      exact h3
    · have : j = x := by omega
      subst this
      exact h
    · rintro ⟨-, h⟩
      exact h x (by omega) (Nat.le_refl _)
    · have : j = x := by omega
      subst this
      exact h
    · rintro ⟨-, h⟩
      exact h x (Nat.le_refl _) (by omega))
  try dsimp only at hu hd e
  refine ⟨u ||| d, ?_, fun x hx => ?_⟩
  · rw [e_Hanging_alongRow_0, show (nI 1 : Int32) = nI (2 ^ 0) from rfl, e, e_Hanging_alongRow_13, if_pos (nI_le (by decide) (by decide))]
  · rw [b_or, Bool.or_eq_true, hu x hx, hd x hx]
    constructor
    · rintro (⟨z, h1, -, h3, h4⟩ | ⟨z, h1, h2, -, h3, h4⟩)
      · exact Or.inl ⟨z, h1, h3, h4⟩
      · exact Or.inr ⟨z, h1, h2, h3, h4⟩
    · rintro (⟨z, h1, h3, h4⟩ | ⟨z, h1, h2, h3, h4⟩)
      · exact Or.inl ⟨z, h1, by omega, h3, h4⟩
      · exact Or.inr ⟨z, h1, h2, by omega, h3, h4⟩

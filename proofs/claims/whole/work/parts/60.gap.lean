/-! how far a piece lies off: the class -/
def nb4 (f : Nat → Bool) (q : Nat) : Bool := (decide (20 ≤ q) && f (q - 20)) || (decide (q < 380) && f (q + 20)) || (decide (0 < q % 20) && f (q - 1)) || (decide (q % 20 < 19) && f (q + 1))
theorem nb4_iff {f : Nat → Bool} {q : Nat} (hq : q < 400) : nb4 f q = true ↔ ∃ p, adj p q ∧ f p = true := by
  unfold nb4
  rw [Bool.or_eq_true, Bool.or_eq_true, Bool.or_eq_true, Bool.and_eq_true, Bool.and_eq_true, Bool.and_eq_true, Bool.and_eq_true, decide_eq_true_eq, decide_eq_true_eq, decide_eq_true_eq, decide_eq_true_eq]
  constructor
  · rintro (((⟨h1, h2⟩ | ⟨h1, h2⟩) | ⟨h1, h2⟩) | ⟨h1, h2⟩)
    · exact ⟨q - 20, adj_iff.mpr (by omega), h2⟩
    · exact ⟨q + 20, adj_iff.mpr (by omega), h2⟩
    · exact ⟨q - 1, adj_iff.mpr (by omega), h2⟩
    · exact ⟨q + 1, adj_iff.mpr (by omega), h2⟩
  · rintro ⟨p, hj, hf⟩
    obtain ⟨hp, -, h | h | h | h⟩ := adj_iff.mp hj
    · have : p = q + 20 := by omega
      subst this
      exact Or.inl (Or.inl (Or.inr ⟨by omega, hf⟩))
    · have : p = q - 1 := by omega
      subst this
      exact Or.inl (Or.inr ⟨by omega, hf⟩)
    · have : p = q - 20 := by omega
      subst this
      exact Or.inl (Or.inl (Or.inl ⟨by omega, hf⟩))
    · have : p = q + 1 := by omega
      subst this
      exact Or.inr ⟨by omega, hf⟩
def bd (I f : Nat → Bool) (q : Nat) : Bool := nb4 f q && !f q && I q
def reg (I a : Nat → Bool) : Nat → Nat → Bool
  | 0, q => a q
  | n + 1, q => reg I a n q || bd I (reg I a n) q
def fnd (I a : Nat → Bool) (k : Nat) : Prop := ∃ q, q < 400 ∧ bd I (reg I a k) q = true
def met (I a t : Nat → Bool) (k : Nat) : Prop := ∃ q, q < 400 ∧ bd I (reg I a k) q = true ∧ t q = true
theorem reg_ct {I a : Nat → Bool} (ha : ∃ q, q < 400 ∧ a q = true) : ∀ k, (∀ j, j < k → fnd I a j) → k + 1 ≤ fb_ct (reg I a k) 400
  | 0, _ => by
    obtain ⟨q, hq, h⟩ := ha
    exact fb_ct_pos.mpr ⟨q, hq, h⟩
  | k + 1, h => by
    have ih := reg_ct ha k (fun j hj => h j (by omega))
    obtain ⟨q, hq, hb⟩ := h k (by omega)
    have e : fb_ct (reg I a (k + 1)) 400 = fb_ct (reg I a k) 400 + fb_ct (bd I (reg I a k)) 400 := by
      rw [← fb_ct_or (fun z _ hz => by
        obtain ⟨h1, h2⟩ := hz
        unfold bd at h2
        rw [h1] at h2
        simp at h2)]
      rfl
    have : 0 < fb_ct (bd I (reg I a k)) 400 := fb_ct_pos.mpr ⟨q, hq, hb⟩
    omega
theorem gap_D (I a t : Nat → Bool) (ha : ∃ q, q < 400 ∧ a q = true) : ∃ D, D < 400 ∧ (∀ j, j < D → fnd I a j ∧ ¬ met I a t j) ∧ (met I a t D ∨ ¬ fnd I a D) := by
  rcases Classical.em (∃ D, D < 400 ∧ (∀ j, j < D → fnd I a j ∧ ¬ met I a t j) ∧ (met I a t D ∨ ¬ fnd I a D)) with h | h
  · exact h
  · exfalso
    have key : ∀ k, k ≤ 400 → ∀ j, j < k → fnd I a j ∧ ¬ met I a t j := by
      intro k
      induction k with
      | zero => intro _ j hj; exact absurd hj (Nat.not_lt_zero j)
      | succ k ih =>
        intro hk j hj
        have ih := ih (by omega)
        rcases Classical.em (fnd I a k ∧ ¬ met I a t k) with g | g
        · by_cases e : j = k
          · subst e; exact g
          · exact ih j (by omega)
        · exfalso
          apply h
          refine ⟨k, by omega, ih, ?_⟩
          rcases Classical.em (met I a t k) with m | m
          · exact Or.inl m
          · exact Or.inr (fun f => g ⟨f, m⟩)
    have h1 := reg_ct ha 400 (fun j hj => (key 400 (Nat.le_refl _) j hj).1)
    have h2 := fb_ct_le (reg I a 400) 400
    omega
theorem or_z {a b : Int32} : (a ||| b = 0) ↔ a = 0 ∧ b = 0 := by
  rw [b_zero, b_zero (v := a), b_zero (v := b)]
  constructor
  · intro h
    refine ⟨fun i hi => ?_, fun i hi => ?_⟩
    · have := h i hi
      rw [b_or, Bool.or_eq_false_iff] at this
      exact this.1
    · have := h i hi
      rw [b_or, Bool.or_eq_false_iff] at this
      exact this.2
  · rintro ⟨h1, h2⟩ i hi
    rw [b_or, h1 i hi, h2 i hi]; rfl
theorem row_z {r : Int32} {y : Nat} {f : Nat → Bool} (h : ∀ x, x < 32 → bt r x = (decide (x < 20) && f (20 * y + x))) : r = 0 ↔ ∀ x, x < 20 → f (20 * y + x) = false := by
  rw [b_zero]
  constructor
  · intro g x hx
    have := g x (by omega)
    rw [h x (by omega), decide_eq_true hx, Bool.true_and] at this
    exact this
  · intro g x hx
    rw [h x hx]
    by_cases h20 : x < 20
    · rw [g x h20, Bool.and_false]
    · rw [decide_eq_false h20, Bool.false_and]
theorem acc_z {v r : Int32} {y : Nat} {f : Nat → Bool} (hv : v = 0 ↔ ∀ q, q < 20 * y → f q = false) (h : ∀ x, x < 32 → bt r x = (decide (x < 20) && f (20 * y + x))) : v ||| r = 0 ↔ ∀ q, q < 20 * (y + 1) → f q = false := by
  rw [or_z, hv, row_z h]
  constructor
  · rintro ⟨h1, h2⟩ q hq
    by_cases e : q < 20 * y
    · exact h1 q e
    · have := h2 (q - 20 * y) (by omega)
      rw [show 20 * y + (q - 20 * y) = q by omega] at this
      exact this
  · intro g
    exact ⟨fun q hq => g q (by omega), fun x hx => g _ (by omega)⟩
theorem rowOf_run (X : qz_X) (s : sT) (v : Int32) {y : Nat} (hy : y < 20) : ∃ r : Int32, rn 154 0 [some (.ref 96), some (.int v), some (.int (nI y)), none, none] [] (mk X s) = some (some (.int r), mk X s) ∧ ∀ x, x < 32 → bt r x = (decide (x < 20) && decide (s.1 97 (20 * y + x) = v)) := by
  obtain ⟨r, hr, eq⟩ := it_up (fun i (r : Int32) => rn 154 5 [some (.ref 96), some (.int v), some (.int (nI y)), some (.int r), some (.int (nI i))] [] (mk X s)) (fun i r => ∀ x, x < 32 → bt r x = (decide (x < i) && decide (s.1 97 (20 * y + x) = v))) (Nat.zero_le 20) (by
    rintro i r _ hi hr
    try dsimp only
    rw [e_Parts_rowOf_5, if_neg (nI_ge hi (by decide)), g_P_partOf, pk_mul, nI_add, Nat.mul_comm y 20, i_P_partOf (by omega), nI_add]
    by_cases h : s.1 97 (20 * y + i) = v
    · refine ⟨r ||| (nI 1 <<< (nI i &&& 31)), fun x hx => ?_, by rw [if_pos h]⟩
      rw [b_or, hr x hx, b_one i (by omega) x hx]
      by_cases e : x = i
      · subst e
        rw [decide_eq_true h]; simp
      · rw [decide_eq_false e, Bool.or_false]
        by_cases h2 : x < i
        · rw [decide_eq_true h2, decide_eq_true (show x < i + 1 by omega)]
        · rw [decide_eq_false h2, decide_eq_false (show ¬ x < i + 1 by omega)]
    · refine ⟨r, fun x hx => ?_, by rw [if_neg h]⟩
      rw [hr x hx]
      by_cases e : x = i
      · subst e
        rw [decide_eq_false h]; simp
      · by_cases h2 : x < i
        · rw [decide_eq_true h2, decide_eq_true (show x < i + 1 by omega)]
        · rw [decide_eq_false h2, decide_eq_false (show ¬ x < i + 1 by omega)]) (x := nI 0) (fun x hx => by rw [b_n0]; simp)
  try dsimp only at eq
  refine ⟨r, ?_, hr⟩
  rw [e_Parts_rowOf_0, eq, e_Parts_rowOf_5, if_pos (nI_le (by decide) (by decide))]
theorem brd_bits {u d r : Int32} {f : Nat → Bool} {y x : Nat} (hx : x < 20) (hu : bt u x = (decide (1 ≤ y) && f (20 * y + x - 20))) (hd : bt d x = (decide (y < 19) && f (20 * y + x + 20))) (hr : ∀ x, x < 32 → bt r x = (decide (x < 20) && f (20 * y + x))) : bt ((((u ||| d) ||| (r <<< (nI 1 &&& 31))) ||| (r >>> (nI 1 &&& 31))) &&& (r ^^^ (-1))) x = (nb4 f (20 * y + x) && !f (20 * y + x)) := by
  have e1 : (decide (1 ≤ x) && bt r (x - 1)) = (decide (0 < x) && f (20 * y + x - 1)) := by
    by_cases h : 0 < x
    · rw [hr (x - 1) (by omega), decide_eq_true (show x - 1 < 20 by omega), show 20 * y + (x - 1) = 20 * y + x - 1 by omega, decide_eq_true h, decide_eq_true (show 1 ≤ x by omega)]; rfl
    · rw [decide_eq_false h, decide_eq_false (show ¬ 1 ≤ x by omega)]; rfl
  have e2 : bt r (1 + x) = (decide (x < 19) && f (20 * y + x + 1)) := by
    rw [hr (1 + x) (by omega), show 20 * y + (1 + x) = 20 * y + x + 1 by omega]
    by_cases h : x < 19
    · rw [decide_eq_true h, decide_eq_true (show 1 + x < 20 by omega)]
    · rw [decide_eq_false h, decide_eq_false (show ¬ 1 + x < 20 by omega)]
  rw [b_and, b_or, b_or, b_or, b_not _ (by omega), b_shl 1 (by decide) _ (by omega), b_sshr 1 (by decide) _ (by omega), if_pos (by omega), hu, hd, e1, e2, hr x (by omega), decide_eq_true hx, Bool.true_and]
  unfold nb4
  rw [show (20 * y + x) % 20 = x by omega]
  have e3 : decide (20 ≤ 20 * y + x) = decide (1 ≤ y) := by
    by_cases h : 1 ≤ y
    · rw [decide_eq_true h, decide_eq_true (by omega)]
    · rw [decide_eq_false h, decide_eq_false (by omega)]
  have e4 : decide (20 * y + x < 380) = decide (y < 19) := by
    by_cases h : y < 19
    · rw [decide_eq_true h, decide_eq_true (by omega)]
    · rw [decide_eq_false h, decide_eq_false (by omega)]
  rw [e3, e4]
theorem borderRow_run (X : qz_X) {s : sT} {f : Nat → Bool} (hf : rows (s.1 101) f) {y : Nat} (hy : y < 20) : ∃ r : Int32, rn 155 0 [some (.ref 96), some (.int (nI y)), none, none] [] (mk X s) = some (some (.int r), mk X s) ∧ ∀ x, x < 20 → bt r x = (nb4 f (20 * y + x) && !f (20 * y + x)) := by
  have up : 1 ≤ y → ∀ x, x < 20 → bt (s.1 101 (y - 1)) x = (decide (1 ≤ y) && f (20 * y + x - 20)) := by
    intro h x hx
    rw [hf (y - 1) (by omega) x (by omega), decide_eq_true hx, decide_eq_true h, show 20 * (y - 1) + x = 20 * y + x - 20 by omega]
  have dn : y < 19 → ∀ x, x < 20 → bt (s.1 101 (y + 1)) x = (decide (y < 19) && f (20 * y + x + 20)) := by
    intro h x hx
    rw [hf (y + 1) (by omega) x (by omega), decide_eq_true hx, decide_eq_true h, show 20 * (y + 1) + x = 20 * y + x + 20 by omega]
  have nu : ¬ 1 ≤ y → ∀ x, x < 20 → bt (nI 0) x = (decide (1 ≤ y) && f (20 * y + x - 20)) := by
    intro h x hx
    rw [b_n0, decide_eq_false h, Bool.false_and]
  have nd : ¬ y < 19 → ∀ x, x < 20 → bt (nI 0) x = (decide (y < 19) && f (20 * y + x + 20)) := by
    intro h x hx
    rw [b_n0, decide_eq_false h, Bool.false_and]
  rw [e_Parts_borderRow_0]
  by_cases h0 : 1 ≤ y
  · rw [if_neg (by rw [← nI_0]; exact nI_ge h0 (by omega)), g_P_region, pk_sub h0, i_P_region (by omega)]
    by_cases h9 : y < 19
    · refine ⟨_, ?_, fun x hx => brd_bits hx (up h0 x hx) (dn h9 x hx) (hf y hy)⟩
      rw [if_neg (nI_ge h9 (by decide)), g_P_region, nI_add, i_P_region (by omega), g_P_region, i_P_region hy, g_P_region, i_P_region hy, g_P_region, i_P_region hy]
    · refine ⟨_, ?_, fun x hx => brd_bits hx (up h0 x hx) (nd h9 x hx) (hf y hy)⟩
      rw [if_pos (nI_le (by omega) (by omega)), g_P_region, i_P_region hy, g_P_region, i_P_region hy, g_P_region, i_P_region hy]
  · have : y = 0 := by omega
    subst this
    refine ⟨_, ?_, fun x hx => brd_bits hx (nu h0 x hx) (dn (by decide) x hx) (hf 0 hy)⟩
    rw [if_pos (by decide), if_neg (by decide), g_P_region, nI_add, i_P_region (by decide), g_P_region, i_P_region hy, g_P_region, i_P_region hy, g_P_region, i_P_region hy]

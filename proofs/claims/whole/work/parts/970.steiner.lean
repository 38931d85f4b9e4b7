/-! joining, pure: what a way round by the frame is worth -/
def dj (a b : Nat) : Prop := ∀ i, a.testBit i = true → b.testBit i = false
theorem dj_symm {a b : Nat} (h : dj a b) : dj b a := fun i hb => by
  cases ha : a.testBit i
  · rfl
  · have := h i ha
    rw [hb] at this
    cases this
theorem dj_or {a b c : Nat} : dj a (b ||| c) ↔ dj a b ∧ dj a c := by
  constructor
  · intro h
    refine ⟨fun i hi => ?_, fun i hi => ?_⟩
    · have := h i hi
      rw [Nat.testBit_or] at this
      cases hb : b.testBit i
      · rfl
      · rw [hb] at this; cases this
    · have := h i hi
      rw [Nat.testBit_or] at this
      cases hc : c.testBit i
      · rfl
      · rw [hc, Bool.or_true] at this; cases this
  · rintro ⟨h1, h2⟩ i hi
    rw [Nat.testBit_or, h1 i hi, h2 i hi]
    rfl
theorem dj_0 (a : Nat) : dj 0 a := fun i hi => by
  rw [Nat.zero_testBit] at hi
  cases hi
theorem or_ne {a b : Nat} (h : a ≠ 0) : a ||| b ≠ 0 := fun e => by
  have h1 : a ≤ a ||| b := Nat.left_le_or
  omega
section ST
variable (M : Nat) (V rm : Nat → Bool) (pr : Nat → Nat) (J : Nat → Nat → Nat) (R : Nat → Nat)
/-- what the tables of the one that knows no frame keep to -/
def Jp : Prop := (∀ a b v, a ≠ 0 → b ≠ 0 → dj a b → a ||| b < M → v < 400 → V v = true → J (a ||| b) v + pr v ≤ J a v + J b v) ∧ (∀ a p v, a ≠ 0 → a < M → adj p v → V p = true → V v = true → J a v ≤ J a p + pr v) ∧ (∀ a b, a ≠ 0 → b ≠ 0 → dj a b → a ||| b < M → R (a ||| b) ≤ R a + R b) ∧ (∀ a v, a ≠ 0 → a < M → v < 400 → rm v = true → R a ≤ J a v) ∧ R 0 = 0 ∧ (∀ a v, a ≠ 0 → a < M → v < 400 → V v = true → J a v ≤ 4000 * a) ∧ ∀ a, a < M → R a ≤ 4000 * a
def jo (X v : Nat) : Nat := if X = 0 then pr v else J X v
def Tq (A v c : Nat) : Prop := ∃ X Z z, dj X Z ∧ X ||| Z = A ∧ jo pr J X v + z ≤ c ∧ R Z ≤ z ∧ ∀ B, B ≠ 0 → dj B Z → B ||| Z < M → R (B ||| Z) ≤ z + J B v
def Pq (A v c : Nat) : Prop := pr v ≤ c ∧ (J A v ≤ c ∨ Tq M pr J R A v c)
variable {M V rm pr J R}
theorem Tq_root {A v c : Nat} (hA : A < M) (h : Tq M pr J R A v c) : R A ≤ c := by
  obtain ⟨X, Z, z, h1, h2, h3, h4, h5⟩ := h
  unfold jo at h3
  by_cases e : X = 0
  · subst e
    rw [Nat.zero_or] at h2
    rw [← h2]
    omega
  · rw [if_neg e] at h3
    have := h5 X e h1 (by rw [h2]; exact hA)
    rw [h2] at this
    omega
theorem Tq_all (hJ : Jp M V rm pr J R) {A v c : Nat} (hv : v < 400) (hV : V v = true) (h : Tq M pr J R A v c) {B : Nat} (hB : B ≠ 0) (hd : dj B A) (hM : B ||| A < M) : R (B ||| A) + pr v ≤ c + J B v := by
  obtain ⟨X, Z, z, h1, h2, h3, h4, h5⟩ := h
  unfold jo at h3
  have hd' := hd
  rw [← h2, dj_or] at hd'
  by_cases e : X = 0
  · subst e
    rw [Nat.zero_or] at h2
    subst h2
    rw [if_pos rfl] at h3
    have := h5 B hB hd hM
    omega
  · rw [if_neg e] at h3
    have ea : (B ||| X) ||| Z = B ||| A := by rw [Nat.or_assoc, h2]
    have hz : dj (B ||| X) Z := dj_symm (dj_or.mpr ⟨dj_symm hd'.2, dj_symm h1⟩)
    have h6 := h5 (B ||| X) (or_ne hB) hz (by rw [ea]; exact hM)
    rw [ea] at h6
    have hle : B ||| X ≤ B ||| A := by rw [← ea]; exact Nat.left_le_or
    have h7 := hJ.1 B X v hB e hd'.1 (by omega) hv hV
    omega
theorem Pq_step (hJ : Jp M V rm pr J R) {A p v c : Nat} (h0 : A ≠ 0) (hA : A < M) (ha : adj p v) (hp : V p = true) (hv : V v = true) (h : Pq M pr J R A p c) : Pq M pr J R A v (c + pr v) := by
  have hp4 := ha.1
  refine ⟨by omega, ?_⟩
  rcases h.2 with h1 | h1
  · have := hJ.2.1 A p v h0 hA ha hp hv
    exact Or.inl (by omega)
  · refine Or.inr ⟨0, A, c, dj_0 A, Nat.zero_or A, ?_, Tq_root hA h1, fun B hB hd hM => ?_⟩
    · unfold jo
      rw [if_pos rfl]
      omega
    · have h2 := Tq_all hJ hp4 hp h1 hB hd hM
      have hB2 : B ≤ B ||| A := Nat.left_le_or
      have h3 := hJ.2.1 B v p hB (by omega) (adj_symm ha) hv hp
      omega
theorem Pq_frame (hJ : Jp M V rm pr J R) {A v c : Nat} (hA : A < M) (hv : v < 400) (hr : rm v = true) (h : R A ≤ c) : Pq M pr J R A v (c + pr v) := by
  refine ⟨by omega, Or.inr ⟨0, A, c, dj_0 A, Nat.zero_or A, ?_, h, fun B hB hd hM => ?_⟩⟩
  · unfold jo
    rw [if_pos rfl]
    omega
  · have hB2 : B ≤ B ||| A := Nat.left_le_or
    have h2 := hJ.2.2.2.1 B v hB (by omega) hv hr
    by_cases e : A = 0
    · subst e
      rw [Nat.or_zero]
      omega
    · have h1 := hJ.2.2.1 B A hB e hd hM
      omega
theorem Pq_rim (hJ : Jp M V rm pr J R) {A v c : Nat} (h0 : A ≠ 0) (hA : A < M) (hv : v < 400) (hr : rm v = true) (h : Pq M pr J R A v c) : R A ≤ c := by
  rcases h.2 with h1 | h1
  · have := hJ.2.2.2.1 A v h0 hA hv hr
    omega
  · exact Tq_root hA h1
theorem jo_or (hJ : Jp M V rm pr J R) {X Y v : Nat} (hd : dj X Y) (hM : X ||| Y < M) (hv : v < 400) (hV : V v = true) : jo pr J (X ||| Y) v + pr v ≤ jo pr J X v + jo pr J Y v := by
  unfold jo
  by_cases e1 : X = 0
  · subst e1
    rw [Nat.zero_or, if_pos rfl]
    omega
  · by_cases e2 : Y = 0
    · subst e2
      rw [Nat.or_zero, if_pos (show 0 = 0 from rfl)]
      omega
    · rw [if_neg e1, if_neg e2, if_neg (or_ne e1)]
      exact hJ.1 X Y v e1 e2 hd hM hv hV
theorem R_or (hJ : Jp M V rm pr J R) {X Y : Nat} (hd : dj X Y) (hM : X ||| Y < M) : R (X ||| Y) ≤ R X + R Y := by
  by_cases e1 : X = 0
  · subst e1
    rw [Nat.zero_or, hJ.2.2.2.2.1]
    omega
  · by_cases e2 : Y = 0
    · subst e2
      rw [Nat.or_zero]
      omega
    · exact hJ.2.2.1 X Y e1 e2 hd hM
theorem Tq_J (hJ : Jp M V rm pr J R) {A1 A2 v c1 c2 : Nat} (h1 : A1 ≠ 0) (hd : dj A1 A2) (hM : A1 ||| A2 < M) (hv : v < 400) (hV : V v = true) (j1 : J A1 v ≤ c1) (t2 : Tq M pr J R A2 v c2) (hp : pr v ≤ c1 + c2) : Tq M pr J R (A1 ||| A2) v (c1 + c2 - pr v) := by
  obtain ⟨X, Z, z, g1, g2, g3, g4, g5⟩ := t2
  rw [← g2, dj_or] at hd
  have ea : (A1 ||| X) ||| Z = A1 ||| A2 := by rw [Nat.or_assoc, g2]
  have hle : A1 ||| X ≤ A1 ||| A2 := by rw [← ea]; exact Nat.left_le_or
  have h3 := jo_or hJ (X := A1) (Y := X) hd.1 (by omega) hv hV
  have h4 : jo pr J A1 v = J A1 v := if_neg h1
  refine ⟨A1 ||| X, Z, z, dj_symm (dj_or.mpr ⟨dj_symm hd.2, dj_symm g1⟩), ea, by omega, g4, g5⟩
theorem Pq_merge (hJ : Jp M V rm pr J R) {A1 A2 v c1 c2 : Nat} (h1 : A1 ≠ 0) (h2 : A2 ≠ 0) (hd : dj A1 A2) (hM : A1 ||| A2 < M) (hv : v < 400) (hV : V v = true) (p1 : Pq M pr J R A1 v c1) (p2 : Pq M pr J R A2 v c2) : Pq M pr J R (A1 ||| A2) v (c1 + c2 - pr v) := by
  have l1 := p1.1
  have l2 := p2.1
  refine ⟨by omega, ?_⟩
  rcases p1.2 with j1 | t1
  · rcases p2.2 with j2 | t2
    · have := hJ.1 A1 A2 v h1 h2 hd hM hv hV
      exact Or.inl (by omega)
    · exact Or.inr (Tq_J hJ h1 hd hM hv hV j1 t2 (by omega))
  · rcases p2.2 with j2 | t2
    · have := Tq_J hJ h2 (dj_symm hd) (by rw [Nat.or_comm]; exact hM) hv hV j2 t1 (by omega)
      rw [Nat.or_comm A2 A1, Nat.add_comm c2 c1] at this
      exact Or.inr this
    · obtain ⟨X1, Z1, z1, g1, g2, g3, g4, g5⟩ := t1
      obtain ⟨X2, Z2, z2, k1, k2, k3, k4, k5⟩ := t2
      have hd' := hd
      rw [← k2, dj_or] at hd'
      have d1 := dj_symm hd'.1
      have d2 := dj_symm hd'.2
      rw [← g2, dj_or] at d1 d2
      have ea : (X1 ||| X2) ||| (Z1 ||| Z2) = A1 ||| A2 := by
        rw [← g2, ← k2]
        apply Nat.eq_of_testBit_eq
        intro i
        simp only [Nat.testBit_or]
        cases X1.testBit i <;> cases X2.testBit i <;> cases Z1.testBit i <;> cases Z2.testBit i <;> rfl
      have hx : X1 ||| X2 < M := by
        have : X1 ||| X2 ≤ A1 ||| A2 := by rw [← ea]; exact Nat.left_le_or
        omega
      have hz : Z1 ||| Z2 < M := by
        have : Z1 ||| Z2 ≤ A1 ||| A2 := by rw [← ea]; exact Nat.right_le_or
        omega
      have hjo := jo_or hJ (X := X1) (Y := X2) (dj_symm d1.1) hx hv hV
      have hR := R_or hJ (X := Z1) (Y := Z2) (dj_symm d2.2) hz
      refine Or.inr ⟨X1 ||| X2, Z1 ||| Z2, z1 + z2, ?_, ea, by omega, by omega, fun B hB hBd hBM => ?_⟩
      · exact dj_or.mpr ⟨dj_symm (dj_or.mpr ⟨dj_symm g1, dj_symm d1.2⟩), dj_symm (dj_or.mpr ⟨d2.1, dj_symm k1⟩)⟩
      · rw [dj_or] at hBd
        have e2 : B ||| (Z1 ||| Z2) = Z1 ||| (B ||| Z2) := by
          apply Nat.eq_of_testBit_eq
          intro i
          simp only [Nat.testBit_or]
          cases B.testBit i <;> cases Z1.testBit i <;> cases Z2.testBit i <;> rfl
        rw [e2] at hBM ⊢
        have hl : B ||| Z2 ≤ Z1 ||| (B ||| Z2) := Nat.right_le_or
        have r1 := R_or hJ (X := Z1) (Y := B ||| Z2) (dj_or.mpr ⟨dj_symm hBd.1, dj_symm d2.2⟩) hBM
        have r2 := k5 B hB hBd.2 (by omega)
        omega
end ST
/-! least over some, and sweeps that come to rest -/
def mfo (f : Nat → Nat) (b : Nat → Bool) (x : Nat) : Nat → Nat
  | 0 => x
  | n + 1 => if b n && decide (f n < mfo f b x n) then f n else mfo f b x n
theorem mfo_le {f : Nat → Nat} {b : Nat → Bool} {x : Nat} : ∀ n, mfo f b x n ≤ x
  | 0 => Nat.le_refl _
  | n + 1 => by
    have := mfo_le (f := f) (b := b) (x := x) n
    show (if b n && decide (f n < mfo f b x n) then f n else mfo f b x n) ≤ x
    by_cases h : (b n && decide (f n < mfo f b x n)) = true
    · rw [if_pos h]
      rw [Bool.and_eq_true, decide_eq_true_eq] at h
      omega
    · rw [if_neg h]; exact this
theorem mfo_low {f : Nat → Nat} {b : Nat → Bool} {x j : Nat} (hb : b j = true) : ∀ n, j < n → mfo f b x n ≤ f j
  | 0, h => absurd h (Nat.not_lt_zero j)
  | n + 1, h => by
    show (if b n && decide (f n < mfo f b x n) then f n else mfo f b x n) ≤ f j
    by_cases e : j = n
    · subst e
      rw [hb, Bool.true_and]
      by_cases hh : f j < mfo f b x j
      · rw [decide_eq_true hh, if_pos rfl]; exact Nat.le_refl _
      · rw [decide_eq_false hh, if_neg (by decide)]; omega
    · have := mfo_low (f := f) (x := x) hb n (by omega)
      by_cases hh : (b n && decide (f n < mfo f b x n)) = true
      · rw [if_pos hh]
        rw [Bool.and_eq_true, decide_eq_true_eq] at hh
        omega
      · rw [if_neg hh]; exact this
theorem mfo_at {f : Nat → Nat} {b : Nat → Bool} {x : Nat} : ∀ n, mfo f b x n = x ∨ ∃ j, j < n ∧ b j = true ∧ mfo f b x n = f j
  | 0 => Or.inl rfl
  | n + 1 => by
    show (if b n && decide (f n < mfo f b x n) then f n else mfo f b x n) = x ∨ ∃ j, j < n + 1 ∧ b j = true ∧ (if b n && decide (f n < mfo f b x n) then f n else mfo f b x n) = f j
    by_cases hh : (b n && decide (f n < mfo f b x n)) = true
    · rw [if_pos hh]
      rw [Bool.and_eq_true] at hh
      exact Or.inr ⟨n, Nat.lt_succ_self n, hh.1, rfl⟩
    · rw [if_neg hh]
      rcases mfo_at (f := f) (b := b) (x := x) n with h | ⟨j, h1, h2, h3⟩
      · exact Or.inl h
      · exact Or.inr ⟨j, by omega, h2, h3⟩
noncomputable def dcd (p : Prop) : Bool := @decide p (Classical.propDecidable _)
theorem dcd_iff {p : Prop} : dcd p = true ↔ p := by
  unfold dcd
  exact @decide_eq_true_iff p (Classical.propDecidable _)
noncomputable def bfq (nb : Nat → Nat → Prop) (pr f0 : Nat → Nat) : Nat → Nat → Nat
  | 0, v => f0 v
  | k + 1, v => mfo (fun p => bfq nb pr f0 k p + pr v) (fun p => dcd (nb p v)) (bfq nb pr f0 k v) 401
section BF
variable {nb : Nat → Nat → Prop} {pr f0 : Nat → Nat}
theorem bfq_le (k v : Nat) : bfq nb pr f0 (k + 1) v ≤ bfq nb pr f0 k v := mfo_le 401
theorem bfq_mono {j k : Nat} (h : j ≤ k) (v : Nat) : bfq nb pr f0 k v ≤ bfq nb pr f0 j v := by
  obtain ⟨d, rfl⟩ := Nat.exists_eq_add_of_le h
  induction d with
  | zero => exact Nat.le_refl _
  | succ d ih => exact Nat.le_trans (bfq_le (j + d) v) (ih (by omega))
theorem bfq_nb {k p v : Nat} (hp : p < 401) (h : nb p v) : bfq nb pr f0 (k + 1) v ≤ bfq nb pr f0 k p + pr v := mfo_low (f := fun p => bfq nb pr f0 k p + pr v) (b := fun p => dcd (nb p v)) (dcd_iff.mpr h) 401 hp
theorem bfq_chain : ∀ K v, v < 401 → bfq nb pr f0 (K + 1) v < bfq nb pr f0 K v → ∃ g : Nat → Nat, g K = v ∧ (∀ j, j ≤ K → g j < 401 ∧ bfq nb pr f0 (j + 1) (g j) < bfq nb pr f0 j (g j)) ∧ ∀ j, j < K → bfq nb pr f0 (j + 1) (g j) ≤ bfq nb pr f0 (j + 2) (g (j + 1))
  | 0, v, hv, h => ⟨fun _ => v, rfl, fun j hj => by
      have e : j = 0 := by omega
      subst e
      exact ⟨hv, h⟩, fun j hj => absurd hj (Nat.not_lt_zero j)⟩
  | K + 1, v, hv, h => by
    rcases mfo_at (f := fun p => bfq nb pr f0 (K + 1) p + pr v) (b := fun p => dcd (nb p v)) (x := bfq nb pr f0 (K + 1) v) 401 with e | ⟨p, hp, hb, e⟩
    · have e : bfq nb pr f0 (K + 2) v = bfq nb pr f0 (K + 1) v := e
      have h : bfq nb pr f0 (K + 2) v < bfq nb pr f0 (K + 1) v := h
      omega
    · have e : bfq nb pr f0 (K + 2) v = bfq nb pr f0 (K + 1) p + pr v := e
      have h : bfq nb pr f0 (K + 2) v < bfq nb pr f0 (K + 1) v := h
      have h1 := bfq_nb (pr := pr) (f0 := f0) (k := K) hp (dcd_iff.mp hb)
      have h2 := bfq_le (nb := nb) (pr := pr) (f0 := f0) K p
      obtain ⟨g, g1, g2, g3⟩ := bfq_chain K p hp (by omega)
      refine ⟨fun j => if j ≤ K then g j else v, by show (if K + 1 ≤ K then g (K + 1) else v) = v; rw [if_neg (by omega)], fun j hj => ?_, fun j hj => ?_⟩
      · dsimp only
        by_cases c : j ≤ K
        · rw [if_pos c]; exact g2 j c
        · rw [if_neg c, show j = K + 1 by omega]
          exact ⟨hv, h⟩
      · dsimp only
        rw [if_pos (by omega)]
        by_cases c : j + 1 ≤ K
        · rw [if_pos c]; exact g3 j (by omega)
        · rw [if_neg c, show j = K by omega, g1]
          omega
/-- after 401 sweeps nothing falls any more -/
theorem bfq_rest {v : Nat} (hv : v < 401) : bfq nb pr f0 402 v = bfq nb pr f0 401 v := by
  have h1 : bfq nb pr f0 402 v ≤ bfq nb pr f0 401 v := bfq_le 401 v
  rcases Nat.lt_or_ge (bfq nb pr f0 402 v) (bfq nb pr f0 401 v) with h | h
  · exfalso
    obtain ⟨g, -, g2, g3⟩ := bfq_chain 401 v hv h
    obtain ⟨i, j, hij, hj, e⟩ := fb_twice (m := 401) (n := 402) (f := g) (fun i hi => (g2 i (by omega)).1) (by decide)
    have up : ∀ d, i + d ≤ j → bfq nb pr f0 (i + 1) (g i) ≤ bfq nb pr f0 (i + d + 1) (g (i + d)) := by
      intro d
      induction d with
      | zero => intro _; exact Nat.le_refl _
      | succ d ih =>
        intro hd
        exact Nat.le_trans (ih (by omega)) (g3 (i + d) (by omega))
    have a := up (j - i) (by omega)
    rw [show i + (j - i) = j by omega] at a
    have b := (g2 j (by omega)).2
    have c := bfq_mono (nb := nb) (pr := pr) (f0 := f0) (show i + 1 ≤ j by omega) (g j)
    rw [e] at a
    omega
  · omega
end BF

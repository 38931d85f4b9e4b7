/-! shape -/
def shAdd (A : shT) (l h : Nat) (R : Nat → Nat) : shT := ((fun i => if i = 3 then A.1 3 + 1 else A.1 i), A.2.1, A.2.2.1, A.2.2.2.1, fun i k => if i = 3 ∧ k = A.1 3 then l else if i = 4 ∧ k = A.1 3 then h else if i = 5 ∧ 8 * A.1 3 ≤ k ∧ k < 8 * A.1 3 + 8 then R (k - 8 * A.1 3) else A.2.2.2.2 i k)
theorem shAdd_4 (A : shT) (l h : Nat) (R : Nat → Nat) {k : Nat} (e : k = A.1 3) : (shAdd A l h R).2.2.2.2 4 k = h := by
  show (if (4 : Nat) = 3 ∧ k = A.1 3 then l else if (4 : Nat) = 4 ∧ k = A.1 3 then h else _) = h
  rw [if_neg (by omega), if_pos ⟨rfl, e⟩]
theorem shAdd_5 (A : shT) (l h : Nat) (R : Nat → Nat) {k : Nat} (e1 : 8 * A.1 3 ≤ k) (e2 : k < 8 * A.1 3 + 8) : (shAdd A l h R).2.2.2.2 5 k = R (k - 8 * A.1 3) := by
  show (if (5 : Nat) = 3 ∧ k = A.1 3 then l else if (5 : Nat) = 4 ∧ k = A.1 3 then h else if (5 : Nat) = 5 ∧ 8 * A.1 3 ≤ k ∧ k < 8 * A.1 3 + 8 then R (k - 8 * A.1 3) else _) = _
  rw [if_neg (by omega), if_neg (by omega), if_pos ⟨rfl, e1, e2⟩]
theorem shAdd_o (A : shT) (l h : Nat) (R : Nat → Nat) {i k : Nat} (e1 : i = 3 ∨ i = 4 → k ≠ A.1 3) (e2 : i = 5 → k < 8 * A.1 3) : (shAdd A l h R).2.2.2.2 i k = A.2.2.2.2 i k := by
  show (if i = 3 ∧ k = A.1 3 then l else if i = 4 ∧ k = A.1 3 then h else if i = 5 ∧ 8 * A.1 3 ≤ k ∧ k < 8 * A.1 3 + 8 then R (k - 8 * A.1 3) else _) = _
  rw [if_neg (fun z => e1 (Or.inl z.1) z.2), if_neg (fun z => e1 (Or.inr z.1) z.2), if_neg (fun z => by have := e2 z.1; omega)]
def shL (T : txT) (l : Nat) : Nat → Nat → (Nat → Nat) → Nat → Bool × Nat × Nat × (Nat → Nat)
  | 0, h, R, P => (true, P, h, R)
  | f + 1, h, R, P => if kd T P = 1 then (if tQ T l l P then shL T l f (h + 1) (fun i => if i = h then qv T P l else R i) (nx T P) else (false, P, h, R)) else (true, P, h, R)
def shS1 (T : txT) (D : drT) (P0 P : Nat) : rsT := if tQ T 1 8 P then ((shL T (ln T P) 7 1 (fun _ => qv T P (ln T P)) (nx T P)).1, (shL T (ln T P) 7 1 (fun _ => qv T P (ln T P)) (nx T P)).2.1, (shAdd D.1 (ln T P) (shL T (ln T P) 7 1 (fun _ => qv T P (ln T P)) (nx T P)).2.2.1 (shL T (ln T P) 7 1 (fun _ => qv T P (ln T P)) (nx T P)).2.2.2, fun i => if i = D.1.1 3 then P0 else D.2 i)) else (false, P, D)
def shS (T : txT) (D : drT) (P : Nat) : rsT := if okn T P ∧ D.1.1 3 < 8 ∧ shf T D P = D.1.1 3 then shS1 T D P (nx T P) else (false, P, D)
section ST
variable {T : txT} {P q : Nat} {s t u : sT} {D : drT}
theorem shL_ok {l : Nat} : ∀ f h R P, h + f ≤ 8 → 1 ≤ h → (∀ y, y < h → R y < 2 ^ l) → (1 ≤ (shL T l f h R P).2.2.1 ∧ (shL T l f h R P).2.2.1 ≤ 8) ∧ ∀ y, y < (shL T l f h R P).2.2.1 → (shL T l f h R P).2.2.2 y < 2 ^ l
  | 0, h, R, P, h1, h2, h3 => ⟨⟨h2, by show h ≤ 8; omega⟩, h3⟩
  | f + 1, h, R, P, h1, h2, h3 => by
    unfold shL
    by_cases c : kd T P = 1
    · rw [if_pos c]
      cases c2 : tQ T l l P
      · exact ⟨⟨h2, by show h ≤ 8; omega⟩, h3⟩
      · rw [if_pos rfl]
        refine shL_ok f (h + 1) _ _ (by omega) (by omega) (fun y hy => ?_)
        by_cases e : y = h
        · rw [if_pos e]; exact qv_lt T P l
        · rw [if_neg e]; exact h3 y (by omega)
    · rw [if_neg c]
      exact ⟨⟨h2, by show h ≤ 8; omega⟩, h3⟩
theorem shS_ok (h : okDr T D) : (shS T D P).1 = true → okDr T (shS T D P).2.2 := by
  unfold shS
  by_cases c : okn T P ∧ D.1.1 3 < 8 ∧ shf T D P = D.1.1 3
  · rw [if_pos c]
    unfold shS1
    cases c2 : tQ T 1 8 (nx T P)
    · exact fun z => by cases z
    · intro _
      rw [if_pos rfl]
      have hl := tQ_lt c2
      have hb := shL_ok (T := T) (l := ln T (nx T P)) 7 1 (fun _ => qv T (nx T P) (ln T (nx T P))) (nx T (nx T P)) (by decide) (by decide) (fun y _ => qv_lt T _ _)
      obtain ⟨⟨o1, o2, o3, o4, o5, o6, o7, o8, o9, o10, o11, o12, o13, o14⟩, p2, p3⟩ := h
      refine ⟨⟨o1, o2, o3, ?_, o5, o6, o7, o8, o9, o10, o11, o12, o13, fun k hk => ?_⟩, p2, fun i hi => ?_⟩
      · show D.1.1 3 + 1 ≤ 8
        omega
      · have hk : k < D.1.1 3 + 1 := hk
        by_cases e : k = D.1.1 3
        · have e3 : (shAdd D.1 (ln T (nx T P)) (shL T (ln T (nx T P)) 7 1 (fun _ => qv T (nx T P) (ln T (nx T P))) (nx T (nx T P))).2.2.1 (shL T (ln T (nx T P)) 7 1 (fun _ => qv T (nx T P) (ln T (nx T P))) (nx T (nx T P))).2.2.2).2.2.2.2 3 k = ln T (nx T P) := if_pos ⟨rfl, e⟩
          have e4 : (shAdd D.1 (ln T (nx T P)) (shL T (ln T (nx T P)) 7 1 (fun _ => qv T (nx T P) (ln T (nx T P))) (nx T (nx T P))).2.2.1 (shL T (ln T (nx T P)) 7 1 (fun _ => qv T (nx T P) (ln T (nx T P))) (nx T (nx T P))).2.2.2).2.2.2.2 4 k = (shL T (ln T (nx T P)) 7 1 (fun _ => qv T (nx T P) (ln T (nx T P))) (nx T (nx T P))).2.2.1 := shAdd_4 _ _ _ _ e
          refine ⟨by rw [e3]; omega, by rw [e4]; exact hb.1, fun y hy => ?_⟩
          rw [e4] at hy
          rw [e3]
          have e5 : (shAdd D.1 (ln T (nx T P)) (shL T (ln T (nx T P)) 7 1 (fun _ => qv T (nx T P) (ln T (nx T P))) (nx T (nx T P))).2.2.1 (shL T (ln T (nx T P)) 7 1 (fun _ => qv T (nx T P) (ln T (nx T P))) (nx T (nx T P))).2.2.2).2.2.2.2 5 (8 * k + y) = (shL T (ln T (nx T P)) 7 1 (fun _ => qv T (nx T P) (ln T (nx T P))) (nx T (nx T P))).2.2.2 (8 * k + y - 8 * D.1.1 3) := shAdd_5 _ _ _ _ (by omega) (by omega)
          rw [e5, show 8 * k + y - 8 * D.1.1 3 = y by omega]
          exact hb.2 y hy
        · have e3 : ∀ i j, (i = 3 ∨ i = 4 → j = k) → (i = 5 → j < 8 * D.1.1 3) → (shAdd D.1 (ln T (nx T P)) (shL T (ln T (nx T P)) 7 1 (fun _ => qv T (nx T P) (ln T (nx T P))) (nx T (nx T P))).2.2.1 (shL T (ln T (nx T P)) 7 1 (fun _ => qv T (nx T P) (ln T (nx T P))) (nx T (nx T P))).2.2.2).2.2.2.2 i j = D.1.2.2.2.2 i j := fun i j g1 g2 => shAdd_o _ _ _ _ (fun z => by have := g1 z; omega) g2
          have ho := o14 k (by omega)
          rw [e3 3 k (fun _ => rfl) (fun z => by omega), e3 4 k (fun _ => rfl) (fun z => by omega)]
          refine ⟨ho.1, ho.2.1, fun y hy => ?_⟩
          rw [e3 5 (8 * k + y) (fun z => by omega) (fun _ => by omega)]
          exact ho.2.2 y hy
      · have hi : i < D.1.1 3 + 1 := hi
        show okn T (if i = D.1.1 3 then P else D.2 i)
        by_cases e : i = D.1.1 3
        · rw [if_pos e]; exact c.1
        · rw [if_neg e]; exact p3 i (by omega)
  · rw [if_neg c]
    exact fun z => by cases z
theorem fA_shAdd (A : shT) (l h : Nat) (R : Nat → Nat) : fA (shAdd A l h R) = shAdd (fA A) l h R := by
  unfold fA putA
  refine Prod.ext (funext fun i => ?_) rfl
  show (if i = 5 then _ else if i = 3 then _ else _) = if i = 3 then _ else if i = 5 then _ else _
  by_cases e : i = 5
  · rw [if_pos e, if_neg (by omega), if_pos e]
    rfl
  · rw [if_neg e, if_neg e]
    rfl
theorem isC_sh {A : shT} {m l h : Nat} {R : Nat → Nat} (h8 : h ≤ 8) (hm : A.1 3 = m) (hC : isC s q A) (e : ∀ i, 1 ≤ i → i ≤ 6 → u.1 (q + i) = s.1 (q + i)) (e0 : ∀ j, j ≠ 10 → u.1 q j = s.1 q j) (e10 : u.1 q 10 = nI (m + 1)) (e7 : ∀ k, u.1 (q + 7) k = if k = m then nI l else s.1 (q + 7) k) (e8 : ∀ k, u.1 (q + 8) k = if k = m then nI h else s.1 (q + 8) k) (e9 : ∀ y, y < h → u.1 (q + 9) (8 * m + y) = nI (R y)) (e9b : ∀ k, k < 8 * m → u.1 (q + 9) k = s.1 (q + 9) k) (ok : ∀ k, k < m → A.2.2.2.2 4 k ≤ 8) : isC u q (shAdd A l h R) := by
  obtain ⟨⟨a1, a2, a3, a4, a5, a6, a7, a8, a9⟩, c2, c3, c4, c5, c6, c7⟩ := hC
  unfold isC
  rw [e 1 (by decide) (by decide), e 2 (by decide) (by decide), e 3 (by decide) (by decide), e 4 (by decide) (by decide), e 5 (by decide) (by decide), e 6 (by decide) (by decide), e0 1 (by decide), e0 2 (by decide), e0 3 (by decide), e0 4 (by decide), e0 5 (by decide), e0 6 (by decide)]
  refine ⟨⟨a1, a2, a3, ?_, a5, a6, a7, a8, a9⟩, c2, c3, c4, ?_, c6, fun k hk => ?_⟩
  · rw [e10]
    show _ = nI (A.1 3 + 1)
    rw [hm]
  · intro x hx
    rw [c5 x hx]
    rw [Bool.eq_iff_iff, decide_eq_true_iff, decide_eq_true_iff]
    show _ ↔ (x < A.1 4 ∧ (if (1 : Nat) = 3 ∧ x = A.1 3 then l else if (1 : Nat) = 4 ∧ x = A.1 3 then h else if (1 : Nat) = 5 ∧ 8 * A.1 3 ≤ x ∧ x < 8 * A.1 3 + 8 then R (x - 8 * A.1 3) else A.2.2.2.2 1 x) = 1)
    rw [if_neg (by omega), if_neg (by omega), if_neg (by omega)]
  · have hk : k < A.1 3 + 1 := hk
    show _ = nI (if (3 : Nat) = 3 ∧ k = A.1 3 then l else if (3 : Nat) = 4 ∧ k = A.1 3 then h else if (3 : Nat) = 5 ∧ 8 * A.1 3 ≤ k ∧ k < 8 * A.1 3 + 8 then R (k - 8 * A.1 3) else A.2.2.2.2 3 k) ∧ _ = nI (if (4 : Nat) = 3 ∧ k = A.1 3 then l else if (4 : Nat) = 4 ∧ k = A.1 3 then h else if (4 : Nat) = 5 ∧ 8 * A.1 3 ≤ k ∧ k < 8 * A.1 3 + 8 then R (k - 8 * A.1 3) else A.2.2.2.2 4 k) ∧ ∀ y, y < (if (4 : Nat) = 3 ∧ k = A.1 3 then l else if (4 : Nat) = 4 ∧ k = A.1 3 then h else if (4 : Nat) = 5 ∧ 8 * A.1 3 ≤ k ∧ k < 8 * A.1 3 + 8 then R (k - 8 * A.1 3) else A.2.2.2.2 4 k) → _ = nI (if (5 : Nat) = 3 ∧ 8 * k + y = A.1 3 then l else if (5 : Nat) = 4 ∧ 8 * k + y = A.1 3 then h else if (5 : Nat) = 5 ∧ 8 * A.1 3 ≤ 8 * k + y ∧ 8 * k + y < 8 * A.1 3 + 8 then R (8 * k + y - 8 * A.1 3) else A.2.2.2.2 5 (8 * k + y))
    rw [e7, e8]
    by_cases ek : k = m
    · rw [if_pos ek, if_pos ek, if_pos (show (3 : Nat) = 3 ∧ k = A.1 3 by omega), if_neg (show ¬ ((4 : Nat) = 3 ∧ k = A.1 3) by omega), if_pos (show (4 : Nat) = 4 ∧ k = A.1 3 by omega)]
      refine ⟨rfl, rfl, fun y hy => ?_⟩
      rw [if_neg (show ¬ ((5 : Nat) = 3 ∧ 8 * k + y = A.1 3) by omega), if_neg (show ¬ ((5 : Nat) = 4 ∧ 8 * k + y = A.1 3) by omega), if_pos (show (5 : Nat) = 5 ∧ 8 * A.1 3 ≤ 8 * k + y ∧ 8 * k + y < 8 * A.1 3 + 8 by omega), ek, e9 y hy, show 8 * m + y - 8 * A.1 3 = y by omega]
    · have hc := c7 k (by omega)
      have h4 := ok k (by omega)
      rw [if_neg ek, if_neg ek, if_neg (show ¬ ((3 : Nat) = 3 ∧ k = A.1 3) by omega), if_neg (show ¬ ((3 : Nat) = 4 ∧ k = A.1 3) by omega), if_neg (show ¬ ((3 : Nat) = 5 ∧ 8 * A.1 3 ≤ k ∧ k < 8 * A.1 3 + 8) by omega), if_neg (show ¬ ((4 : Nat) = 3 ∧ k = A.1 3) by omega), if_neg (show ¬ ((4 : Nat) = 4 ∧ k = A.1 3) by omega), if_neg (show ¬ ((4 : Nat) = 5 ∧ 8 * A.1 3 ≤ k ∧ k < 8 * A.1 3 + 8) by omega)]
      refine ⟨hc.1, hc.2.1, fun y hy => ?_⟩
      rw [if_neg (show ¬ ((5 : Nat) = 3 ∧ 8 * k + y = A.1 3) by omega), if_neg (show ¬ ((5 : Nat) = 4 ∧ 8 * k + y = A.1 3) by omega), if_neg (show ¬ ((5 : Nat) = 5 ∧ 8 * A.1 3 ≤ 8 * k + y ∧ 8 * k + y < 8 * A.1 3 + 8) by omega), e9b _ (by omega)]
      exact hc.2.2 y hy
theorem isM_sh {A : shT} {m l h : Nat} {R : Nat → Nat} (hm8 : m < 8) (h8 : h ≤ 8) (hm : A.1 3 = m) (hM : isM (gN t) 6 A) (e : ∀ c, c ∈ [322, 323, 324, 328, 329, 330] → u.1 c = t.1 c) (e0 : ∀ j, j ≠ 99 → u.1 320 j = t.1 320 j) (e10 : u.1 320 99 = nI (m + 1)) (e7 : ∀ k, u.1 325 k = if k = 48 + m then nI l else t.1 325 k) (e8 : ∀ k, u.1 326 k = if k = 48 + m then nI h else t.1 326 k) (e9 : ∀ y, y < h → u.1 327 (8 * (48 + m) + y) = nI (R y)) (e9b : ∀ k, k < 8 * (48 + m) → u.1 327 k = t.1 327 k) (ok : ∀ k, k < m → A.2.2.2.2 4 k ≤ 8) : isM (gN u) 6 (shAdd A l h R) := by
  obtain ⟨m1, m2, m3, m4, m5, m6⟩ := hM
  have g1 : gN u 1 = gN t 1 := e 322 (by decide)
  have g2 : gN u 2 = gN t 2 := e 323 (by decide)
  have g3 : gN u 3 = gN t 3 := e 324 (by decide)
  have g7 : gN u 7 = gN t 7 := e 328 (by decide)
  have g8 : gN u 8 = gN t 8 := e 329 (by decide)
  have g9 : gN u 9 = gN t 9 := e 330 (by decide)
  unfold isM
  rw [g1, g2, g3, g7, g8, g9]
  refine ⟨fun j hj => ?_, m2, m3, m4, fun k hk => ?_, fun b hb => ?_⟩
  · show u.1 320 (96 + j) = nI (if j = 3 then A.1 3 + 1 else A.1 j)
    by_cases ej : j = 3
    · rw [if_pos ej, ej, hm]; exact e10
    · rw [if_neg ej, e0 _ (by omega)]; exact m1 j hj
  · have hk : k < A.1 3 + 1 := hk
    show u.1 325 (48 + k) = nI (if (3 : Nat) = 3 ∧ k = A.1 3 then l else if (3 : Nat) = 4 ∧ k = A.1 3 then h else if (3 : Nat) = 5 ∧ 8 * A.1 3 ≤ k ∧ k < 8 * A.1 3 + 8 then R (k - 8 * A.1 3) else A.2.2.2.2 3 k) ∧ u.1 326 (48 + k) = nI (if (4 : Nat) = 3 ∧ k = A.1 3 then l else if (4 : Nat) = 4 ∧ k = A.1 3 then h else if (4 : Nat) = 5 ∧ 8 * A.1 3 ≤ k ∧ k < 8 * A.1 3 + 8 then R (k - 8 * A.1 3) else A.2.2.2.2 4 k) ∧ ∀ y, y < (if (4 : Nat) = 3 ∧ k = A.1 3 then l else if (4 : Nat) = 4 ∧ k = A.1 3 then h else if (4 : Nat) = 5 ∧ 8 * A.1 3 ≤ k ∧ k < 8 * A.1 3 + 8 then R (k - 8 * A.1 3) else A.2.2.2.2 4 k) → u.1 327 (8 * (48 + k) + y) = nI (if (5 : Nat) = 3 ∧ 8 * k + y = A.1 3 then l else if (5 : Nat) = 4 ∧ 8 * k + y = A.1 3 then h else if (5 : Nat) = 5 ∧ 8 * A.1 3 ≤ 8 * k + y ∧ 8 * k + y < 8 * A.1 3 + 8 then R (8 * k + y - 8 * A.1 3) else A.2.2.2.2 5 (8 * k + y))
    rw [e7, e8]
    by_cases ek : k = m
    · rw [if_pos (show 48 + k = 48 + m by omega), if_pos (show 48 + k = 48 + m by omega), if_pos (show (3 : Nat) = 3 ∧ k = A.1 3 by omega), if_neg (show ¬ ((4 : Nat) = 3 ∧ k = A.1 3) by omega), if_pos (show (4 : Nat) = 4 ∧ k = A.1 3 by omega)]
      refine ⟨rfl, rfl, fun y hy => ?_⟩
      rw [if_neg (show ¬ ((5 : Nat) = 3 ∧ 8 * k + y = A.1 3) by omega), if_neg (show ¬ ((5 : Nat) = 4 ∧ 8 * k + y = A.1 3) by omega), if_pos (show (5 : Nat) = 5 ∧ 8 * A.1 3 ≤ 8 * k + y ∧ 8 * k + y < 8 * A.1 3 + 8 by omega), ek, e9 y hy, show 8 * m + y - 8 * A.1 3 = y by omega]
    · have hc : t.1 325 (48 + k) = nI (A.2.2.2.2 3 k) ∧ t.1 326 (48 + k) = nI (A.2.2.2.2 4 k) ∧ ∀ y, y < A.2.2.2.2 4 k → t.1 327 (8 * (48 + k) + y) = nI (A.2.2.2.2 5 (8 * k + y)) := m5 k (by omega)
      have h4 := ok k (by omega)
      rw [if_neg (show ¬ 48 + k = 48 + m by omega), if_neg (show ¬ 48 + k = 48 + m by omega), if_neg (show ¬ ((3 : Nat) = 3 ∧ k = A.1 3) by omega), if_neg (show ¬ ((3 : Nat) = 4 ∧ k = A.1 3) by omega), if_neg (show ¬ ((3 : Nat) = 5 ∧ 8 * A.1 3 ≤ k ∧ k < 8 * A.1 3 + 8) by omega), if_neg (show ¬ ((4 : Nat) = 3 ∧ k = A.1 3) by omega), if_neg (show ¬ ((4 : Nat) = 4 ∧ k = A.1 3) by omega), if_neg (show ¬ ((4 : Nat) = 5 ∧ 8 * A.1 3 ≤ k ∧ k < 8 * A.1 3 + 8) by omega)]
      refine ⟨hc.1, hc.2.1, fun y hy => ?_⟩
      rw [if_neg (show ¬ ((5 : Nat) = 3 ∧ 8 * k + y = A.1 3) by omega), if_neg (show ¬ ((5 : Nat) = 4 ∧ 8 * k + y = A.1 3) by omega), if_neg (show ¬ ((5 : Nat) = 5 ∧ 8 * A.1 3 ≤ 8 * k + y ∧ 8 * k + y < 8 * A.1 3 + 8) by omega), e9b _ (by omega)]
      exact hc.2.2 y hy
  · have hb : b < A.1 4 := hb
    have := m6 b hb
    show _ = nI (if (0 : Nat) = 3 ∧ b = A.1 3 then l else if (0 : Nat) = 4 ∧ b = A.1 3 then h else if (0 : Nat) = 5 ∧ 8 * A.1 3 ≤ b ∧ b < 8 * A.1 3 + 8 then R (b - 8 * A.1 3) else A.2.2.2.2 0 b) ∧ _ = nI (if (1 : Nat) = 3 ∧ b = A.1 3 then l else if (1 : Nat) = 4 ∧ b = A.1 3 then h else if (1 : Nat) = 5 ∧ 8 * A.1 3 ≤ b ∧ b < 8 * A.1 3 + 8 then R (b - 8 * A.1 3) else A.2.2.2.2 1 b) ∧ _ = nI (if (2 : Nat) = 3 ∧ b = A.1 3 then l else if (2 : Nat) = 4 ∧ b = A.1 3 then h else if (2 : Nat) = 5 ∧ 8 * A.1 3 ≤ b ∧ b < 8 * A.1 3 + 8 then R (b - 8 * A.1 3) else A.2.2.2.2 2 b)
    rw [if_neg (show ¬ ((0 : Nat) = 3 ∧ b = A.1 3) by omega), if_neg (show ¬ ((0 : Nat) = 4 ∧ b = A.1 3) by omega), if_neg (show ¬ ((0 : Nat) = 5 ∧ 8 * A.1 3 ≤ b ∧ b < 8 * A.1 3 + 8) by omega), if_neg (show ¬ ((1 : Nat) = 3 ∧ b = A.1 3) by omega), if_neg (show ¬ ((1 : Nat) = 4 ∧ b = A.1 3) by omega), if_neg (show ¬ ((1 : Nat) = 5 ∧ 8 * A.1 3 ≤ b ∧ b < 8 * A.1 3 + 8) by omega), if_neg (show ¬ ((2 : Nat) = 3 ∧ b = A.1 3) by omega), if_neg (show ¬ ((2 : Nat) = 4 ∧ b = A.1 3) by omega), if_neg (show ¬ ((2 : Nat) = 5 ∧ 8 * A.1 3 ≤ b ∧ b < 8 * A.1 3 + 8) by omega)]
    exact this
end ST

/-! cutting, pure: tin behind a set of cuts, what is loose then, the least of the greatest -/
noncomputable def pnq (t : Nat → Bool) (q : Nat) : Nat := np t (rep t q)
noncomputable def tcB (A : shT) (t : Nat → Bool) (T q : Nat) : Bool := ins A q && !(t q && T.testBit (pnq t q))
noncomputable def lzB (A : shT) (t : Nat → Bool) (T : Nat) : Nat := fb_ct (tcB A t T) 400 - fb_ct (hB (tcB A t T) (rim A)) 400 + gmx (exq (fun _ => false) (tgs (tcB A t T) (rim A))) 400
theorem lzB_le (A : shT) (t : Nat → Bool) (T : Nat) : lzB A t T ≤ 800 := by
  have h1 := fb_ct_le (tcB A t T) 400
  have h2 := gmx_le (exq_le (d := fun _ => false) (tgs_le (tcB A t T) (rim A))) 400
  unfold lzB
  omega
theorem pO_at {t : Nat → Bool} {q : Nat} (hq : q < 400) : (if dO t 400 q then pO t q else -1) = if t q then nI (pnq t q) else -1 := by
  unfold dO pO pnq
  cases ht : t q
  · simp
  · have := rep_spec hq ht
    rw [decide_eq_true (show rep t q < 400 by omega)]
    rfl
theorem pnq_lt {t : Nat → Bool} {q : Nat} (hq : q < 400) (ht : t q = true) : pnq t q < np t 400 := by
  have hs := rep_spec hq ht
  have hti := (cn_t hs.2.1).2
  refine np_in (by omega) ?_
  unfold isF
  rw [hti.2, rep_rep hq ht, decide_eq_true rfl]
  rfl
/-- the least over holes not cut yet, from a bound on -/
def mnk (g : Nat → Nat) (F S : Nat) : Nat → Nat
  | 0 => F
  | k + 1 => if S.testBit k then mnk g F S k else if g (S ||| 2 ^ k) < mnk g F S k then g (S ||| 2 ^ k) else mnk g F S k
theorem mnk_le {g : Nat → Nat} {F S : Nat} : ∀ k, mnk g F S k ≤ F
  | 0 => Nat.le_refl _
  | k + 1 => by
    have := mnk_le (g := g) (F := F) (S := S) k
    show (if S.testBit k then mnk g F S k else if g (S ||| 2 ^ k) < mnk g F S k then g (S ||| 2 ^ k) else mnk g F S k) ≤ F
    split
    · exact this
    · split <;> omega
theorem mnk_low {g : Nat → Nat} {F S j : Nat} (hj : S.testBit j = false) : ∀ k, j < k → mnk g F S k ≤ g (S ||| 2 ^ j)
  | 0, h => absurd h (Nat.not_lt_zero j)
  | k + 1, h => by
    show (if S.testBit k then mnk g F S k else if g (S ||| 2 ^ k) < mnk g F S k then g (S ||| 2 ^ k) else mnk g F S k) ≤ _
    by_cases e : j = k
    · subst e
      rw [hj, if_neg (by decide)]
      split <;> omega
    · have := mnk_low (g := g) (F := F) hj k (by omega)
      split
      · exact this
      · split <;> omega
theorem mnk_two {g : Nat → Nat} {F S : Nat} (hg : ∀ T, g T ≤ 800) (hF : 800 ≤ F) : ∀ k, mnk g 800 S k = mnk g F S k ∨ (mnk g 800 S k = 800 ∧ mnk g F S k = F ∧ ∀ j, j < k → S.testBit j = true)
  | 0 => Or.inr ⟨rfl, rfl, fun j hj => absurd hj (Nat.not_lt_zero j)⟩
  | k + 1 => by
    have ih := mnk_two (S := S) hg hF k
    have h1 := hg (S ||| 2 ^ k)
    show (if S.testBit k then mnk g 800 S k else if g (S ||| 2 ^ k) < mnk g 800 S k then g (S ||| 2 ^ k) else mnk g 800 S k) = (if S.testBit k then mnk g F S k else if g (S ||| 2 ^ k) < mnk g F S k then g (S ||| 2 ^ k) else mnk g F S k) ∨ ((if S.testBit k then mnk g 800 S k else if g (S ||| 2 ^ k) < mnk g 800 S k then g (S ||| 2 ^ k) else mnk g 800 S k) = 800 ∧ (if S.testBit k then mnk g F S k else if g (S ||| 2 ^ k) < mnk g F S k then g (S ||| 2 ^ k) else mnk g F S k) = F ∧ _)
    cases hb : S.testBit k
    · rw [if_neg (show ¬ (false = true) by decide), if_neg (show ¬ (false = true) by decide)]
      rcases ih with ih | ⟨i1, i2, i3⟩
      · exact Or.inl (by rw [ih])
      · rw [i1, i2]
        left
        by_cases g1 : g (S ||| 2 ^ k) < 800
        · rw [if_pos g1, if_pos (by omega)]
        · rw [if_neg g1]
          by_cases g2 : g (S ||| 2 ^ k) < F
          · rw [if_pos g2]; omega
          · rw [if_neg g2]; omega
    · rw [if_pos (show true = true from rfl), if_pos (show true = true from rfl)]
      rcases ih with ih | ⟨i1, i2, i3⟩
      · exact Or.inl ih
      · refine Or.inr ⟨i1, i2, fun j hj => ?_⟩
        by_cases e : j = k
        · rw [e]; exact hb
        · exact i3 j (by omega)
theorem mnk_at {g : Nat → Nat} {F S : Nat} : ∀ k, mnk g F S k = F ∨ ∃ j, j < k ∧ S.testBit j = false ∧ mnk g F S k = g (S ||| 2 ^ j)
  | 0 => Or.inl rfl
  | k + 1 => by
    have ih := mnk_at (g := g) (F := F) (S := S) k
    show (if S.testBit k then mnk g F S k else if g (S ||| 2 ^ k) < mnk g F S k then g (S ||| 2 ^ k) else mnk g F S k) = F ∨ ∃ j, j < k + 1 ∧ S.testBit j = false ∧ (if S.testBit k then mnk g F S k else if g (S ||| 2 ^ k) < mnk g F S k then g (S ||| 2 ^ k) else mnk g F S k) = g (S ||| 2 ^ j)
    cases hb : S.testBit k
    · rw [if_neg (by decide)]
      by_cases hlt : g (S ||| 2 ^ k) < mnk g F S k
      · rw [if_pos hlt]
        exact Or.inr ⟨k, Nat.lt_succ_self k, hb, rfl⟩
      · rw [if_neg hlt]
        rcases ih with ih | ⟨j, j1, j2, j3⟩
        · exact Or.inl ih
        · exact Or.inr ⟨j, by omega, j2, j3⟩
    · rw [if_pos rfl]
      rcases ih with ih | ⟨j, j1, j2, j3⟩
      · exact Or.inl ih
      · exact Or.inr ⟨j, by omega, j2, j3⟩
def mxN (a b : Nat) : Nat := if a < b then b else a
theorem mxN_le {a b c : Nat} (h1 : a ≤ c) (h2 : b ≤ c) : mxN a b ≤ c := by
  unfold mxN
  split <;> omega
/-- the table, from the full set down -/
def ahT (l : Nat → Nat) (N : Nat) : Nat → Nat → Nat
  | 0, _ => 0
  | d + 1, j => if j = 2 ^ N - 1 - (d + 1) then mnk (fun T => mxN (l T) (ahT l N d T)) 800 j N else ahT l N d j
def ahB (l : Nat → Nat) (N S : Nat) : Nat := ahT l N (2 ^ N - 1 - S) S
theorem ahT_eq {l : Nat → Nat} {N S : Nat} (hS : S ≤ 2 ^ N - 1) : ∀ d, 2 ^ N - 1 - S ≤ d → d ≤ 2 ^ N - 1 → ahT l N d S = ahB l N S
  | 0, h, _ => by
    unfold ahB
    rw [show 2 ^ N - 1 - S = 0 by omega]
  | d + 1, h, hd => by
    by_cases e : S = 2 ^ N - 1 - (d + 1)
    · unfold ahB
      rw [show 2 ^ N - 1 - S = d + 1 by omega]
    · show (if S = 2 ^ N - 1 - (d + 1) then _ else ahT l N d S) = _
      rw [if_neg e]
      exact ahT_eq hS d (by omega) (by omega)
def wsB (l : Nat → Nat) (N T : Nat) : Nat := mxN (l T) (ahB l N T)
theorem mnk_c {g g' : Nat → Nat} {F S : Nat} : ∀ k, (∀ j, j < k → S.testBit j = false → g (S ||| 2 ^ j) = g' (S ||| 2 ^ j)) → mnk g F S k = mnk g' F S k
  | 0, _ => rfl
  | k + 1, h => by
    show (if S.testBit k then mnk g F S k else if g (S ||| 2 ^ k) < mnk g F S k then g (S ||| 2 ^ k) else mnk g F S k) = (if S.testBit k then mnk g' F S k else if g' (S ||| 2 ^ k) < mnk g' F S k then g' (S ||| 2 ^ k) else mnk g' F S k)
    rw [mnk_c k (fun j hj => h j (by omega))]
    cases hb : S.testBit k
    · rw [h k (Nat.lt_succ_self k) hb]
    · rfl
theorem or_bit {S k N : Nat} (hS : S < 2 ^ N) (hk : k < N) (hb : S.testBit k = false) : S < S ||| 2 ^ k ∧ S ||| 2 ^ k < 2 ^ N := by
  refine ⟨lt_tb (i := k) hb (by rw [fb_bit_set, decide_eq_true rfl]; simp) (fun j hj => by rw [fb_bit_set, decide_eq_false (by omega), Bool.or_false]), Nat.or_lt_two_pow hS (Nat.pow_lt_pow_right (by decide) hk)⟩
theorem ahB_all (l : Nat → Nat) (N : Nat) : ahB l N (2 ^ N - 1) = 0 := by
  unfold ahB
  rw [Nat.sub_self]
  rfl
theorem ahB_eq {l : Nat → Nat} {N S : Nat} (hS : S < 2 ^ N - 1) : ahB l N S = mnk (wsB l N) 800 S N := by
  have h0 : ahB l N S = ahT l N (2 ^ N - 1 - S - 1 + 1) S := by
    unfold ahB
    rw [show 2 ^ N - 1 - S - 1 + 1 = 2 ^ N - 1 - S by omega]
  rw [h0]
  show (if S = 2 ^ N - 1 - (2 ^ N - 1 - S - 1 + 1) then mnk (fun T => mxN (l T) (ahT l N (2 ^ N - 1 - S - 1) T)) 800 S N else _) = _
  rw [if_pos (by omega)]
  refine mnk_c N (fun j hj hb => ?_)
  have ho := or_bit (show S < 2 ^ N by omega) hj hb
  show mxN (l (S ||| 2 ^ j)) (ahT l N (2 ^ N - 1 - S - 1) (S ||| 2 ^ j)) = mxN (l (S ||| 2 ^ j)) (ahB l N (S ||| 2 ^ j))
  rw [ahT_eq (by omega) (2 ^ N - 1 - S - 1) (by omega) (by omega)]
theorem ahB_le (l : Nat → Nat) (N S : Nat) : ahB l N S ≤ 800 := by
  unfold ahB
  cases 2 ^ N - 1 - S with
  | zero => exact Nat.zero_le _
  | succ d =>
    show (if S = 2 ^ N - 1 - (d + 1) then mnk (fun T => mxN (l T) (ahT l N d T)) 800 S N else ahT l N d S) ≤ 800
    have : ∀ d S, ahT l N d S ≤ 800 := by
      intro d
      induction d with
      | zero => intro S; exact Nat.zero_le _
      | succ d ih =>
        intro S
        show (if S = 2 ^ N - 1 - (d + 1) then mnk (fun T => mxN (l T) (ahT l N d T)) 800 S N else ahT l N d S) ≤ 800
        split
        · exact mnk_le N
        · exact ih S
    split
    · exact mnk_le N
    · exact this d S
theorem wsB_le {l : Nat → Nat} (hl : ∀ T, l T ≤ 800) (N T : Nat) : wsB l N T ≤ 800 := mxN_le (hl T) (ahB_le l N T)
theorem not_all {N S : Nat} (hS : S < 2 ^ N) (h : ∀ j, j < N → S.testBit j = true) : S = 2 ^ N - 1 := by
  apply Nat.eq_of_testBit_eq
  intro i
  rw [Nat.testBit_two_pow_sub_one]
  by_cases hi : i < N
  · rw [h i hi, decide_eq_true hi]
  · rw [decide_eq_false hi]
    exact Nat.testBit_lt_two_pow (Nat.lt_of_lt_of_le hS (Nat.pow_le_pow_right (by decide) (by omega)))
/-- both programs' bounds give one table -/
theorem ahB_far {l : Nat → Nat} (hl : ∀ T, l T ≤ 800) {N S F : Nat} (hF : 800 ≤ F) (hS : S < 2 ^ N - 1) : mnk (wsB l N) F S N = ahB l N S := by
  rw [ahB_eq hS]
  rcases mnk_two (S := S) (wsB_le hl N) hF N with h | ⟨-, -, h⟩
  · exact h.symm
  · exact absurd (not_all (by omega) h) (by omega)
/-- the hole that goes ahead -/
def chB (l : Nat → Nat) (N S : Nat) : Nat := fa_first (fun k => !S.testBit k && decide (wsB l N (S ||| 2 ^ k) ≤ ahB l N 0)) N
def fsB (l : Nat → Nat) (N : Nat) : Nat → Nat
  | 0 => 0
  | i + 1 => fsB l N i ||| 2 ^ chB l N (fsB l N i)
theorem chB_ok {l : Nat → Nat} (hl : ∀ T, l T ≤ 800) {N S : Nat} (h1 : S < 2 ^ N) (hne : S ≠ 2 ^ N - 1) (h3 : ahB l N S ≤ ahB l N 0) : chB l N S < N ∧ S.testBit (chB l N S) = false ∧ wsB l N (S ||| 2 ^ chB l N S) ≤ ahB l N 0 := by
  have hex : ∃ k, k < N ∧ (!S.testBit k && decide (wsB l N (S ||| 2 ^ k) ≤ ahB l N 0)) = true := by
    have he := ahB_eq (l := l) (N := N) (S := S) (by omega)
    rcases mnk_at (g := wsB l N) (F := 800) (S := S) N with h | ⟨j, j1, j2, j3⟩
    · have : ∃ j, j < N ∧ S.testBit j = false := by
        rcases Classical.em (∃ j, j < N ∧ S.testBit j = false) with g | g
        · exact g
        · refine absurd (not_all h1 (fun j hj => ?_)) hne
          cases hb : S.testBit j
          · exact absurd ⟨j, hj, hb⟩ g
          · rfl
      obtain ⟨j, j1, j2⟩ := this
      have := wsB_le hl N (S ||| 2 ^ j)
      exact ⟨j, j1, by rw [j2, decide_eq_true (by omega)]; rfl⟩
    · exact ⟨j, j1, by rw [j2, decide_eq_true (by omega)]; rfl⟩
  obtain ⟨k, k1, k2⟩ := hex
  have hlt : chB l N S < N := by
    rcases Nat.lt_or_ge k (chB l N S) with g | g
    · have := fa_first_no _ N k g
      exact absurd (k2.symm.trans this) (by decide)
    · omega
  have hy := fa_first_yes _ N hlt
  have hy : (!S.testBit (chB l N S) && decide (wsB l N (S ||| 2 ^ chB l N S) ≤ ahB l N 0)) = true := hy
  rw [Bool.and_eq_true, Bool.not_eq_true', decide_eq_true_eq] at hy
  exact ⟨hlt, hy⟩
theorem cnt_all {N S i : Nat} (h2 : fb_ct (fun b => S.testBit b) N = i) (hN : i < N) : S ≠ 2 ^ N - 1 := fun e => by
  have : fb_ct (fun b => S.testBit b) N = N := fb_ct_all.mpr (fun b hb => by
    show S.testBit b = true
    rw [e, Nat.testBit_two_pow_sub_one, decide_eq_true hb])
  omega
theorem fsB_ok {l : Nat → Nat} (hl : ∀ T, l T ≤ 800) {N : Nat} : ∀ i, i ≤ N → fsB l N i < 2 ^ N ∧ fb_ct (fun b => (fsB l N i).testBit b) N = i ∧ ahB l N (fsB l N i) ≤ ahB l N 0
  | 0, _ => ⟨Nat.two_pow_pos N, fb_ct_zero.mpr (fun b _ => Nat.zero_testBit b), Nat.le_refl _⟩
  | i + 1, hi => by
    obtain ⟨a1, a2, a3⟩ := fsB_ok hl (N := N) i (by omega)
    obtain ⟨b1, b2, b3⟩ := chB_ok hl a1 (cnt_all a2 (by omega)) a3
    refine ⟨(or_bit a1 b1 b2).2, ?_, ?_⟩
    · have hu := fb_ct_upd (fun b => (fsB l N i).testBit b) true (i := chB l N (fsB l N i)) b1
      try dsimp only at hu
      rw [b2, if_neg (by decide), if_pos rfl, a2, Nat.add_zero] at hu
      refine Eq.trans (fb_ct_cong (fun b _ => ?_)) hu
      show (fsB l N i ||| 2 ^ chB l N (fsB l N i)).testBit b = _
      rw [fb_bit_set]
      by_cases e : b = chB l N (fsB l N i)
      · rw [decide_eq_true e, if_pos e]; simp
      · rw [decide_eq_false e, if_neg e, Bool.or_false]
    · refine Nat.le_trans ?_ b3
      show ahB l N (fsB l N i ||| 2 ^ chB l N (fsB l N i)) ≤ mxN (l (fsB l N i ||| 2 ^ chB l N (fsB l N i))) (ahB l N (fsB l N i ||| 2 ^ chB l N (fsB l N i)))
      unfold mxN
      split <;> omega
theorem fsB_ch {l : Nat → Nat} (hl : ∀ T, l T ≤ 800) {N i : Nat} (hi : i < N) : chB l N (fsB l N i) < N ∧ (fsB l N i).testBit (chB l N (fsB l N i)) = false ∧ wsB l N (fsB l N i ||| 2 ^ chB l N (fsB l N i)) ≤ ahB l N 0 := by
  obtain ⟨a1, a2, a3⟩ := fsB_ok hl (N := N) i (by omega)
  exact chB_ok hl a1 (cnt_all a2 hi) a3
theorem chB_no {l : Nat → Nat} {N S k : Nat} (h : k < chB l N S) : S.testBit k = true ∨ ahB l N 0 < wsB l N (S ||| 2 ^ k) := by
  have := fa_first_no _ N k h
  have this : (!S.testBit k && decide (wsB l N (S ||| 2 ^ k) ≤ ahB l N 0)) = false := this
  cases hb : S.testBit k
  · rw [hb, Bool.not_false, Bool.true_and, decide_eq_false_iff_not] at this
    exact Or.inr (by omega)
  · exact Or.inl rfl

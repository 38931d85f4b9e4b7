/-! how far a piece lies off: the class's walk -/
theorem gapB (X : qz_X) {u : sT} {q : Nat} {A : shT} (hq : isS q) (ok : okA A) (hC : isC u q A) {t f : Nat → Bool} (ht : rows (u.1 87) t) (hf : rows (u.1 101) f) {k : Nat} (hk : k < 400) : ∃ (z : sT) (a b : Int32), rn 156 33 [some (.ref 96), none, some (.ref q), some (.ref 87), some (.int (nI k)), none, none, none] [] (mk X u) = rn 156 50 [some (.ref 96), none, some (.ref q), some (.ref 87), some (.int (nI k)), some (.int a), some (.int b), some (.int (nI 20))] [] (mk X z) ∧ z.2 = u.2 ∧ (∀ c, c ≠ 102 → z.1 c = u.1 c) ∧ rows (z.1 102) (bd (ins A) f) ∧ (a = 0 ↔ ∀ q, q < 400 → bd (ins A) f q = false) ∧ (b = 0 ↔ ∀ q, q < 400 → (bd (ins A) f q && t q) = false) := by
  have hg := isS_gap q hq
  have o1 := ok.1
  obtain ⟨⟨z, a, b⟩, ⟨h2, hc, hr, ha, hb⟩, eq⟩ := it_up (fun y (x : sT × Int32 × Int32) => rn 156 50 [some (.ref 96), none, some (.ref q), some (.ref 87), some (.int (nI k)), some (.int x.2.1), some (.int x.2.2), some (.int (nI y))] [] (mk X x.1)) (fun y x => x.1.2 = u.2 ∧ (∀ c, c ≠ 102 → x.1.1 c = u.1 c) ∧ (∀ y', y' < y → ∀ x', x' < 32 → bt (x.1.1 102 y') x' = (decide (x' < 20) && bd (ins A) f (20 * y' + x'))) ∧ (x.2.1 = 0 ↔ ∀ q, q < 20 * y → bd (ins A) f q = false) ∧ (x.2.2 = 0 ↔ ∀ q, q < 20 * y → (bd (ins A) f q && t q) = false)) (Nat.zero_le 20) (by
    rintro y ⟨z, a, b⟩ _ hy ⟨h2, hc, hr, ha, hb⟩
    dsimp only at h2 hc hr ha hb ⊢
    have hCz : isC z q A := isC_cong (fun j hj => hc _ (by omega)) hC
    obtain ⟨r1, e1, b1⟩ := borderRow_run X (s := z) (f := f) (by rw [hc 101 (by decide)]; exact hf) hy
    obtain ⟨r2, e2, b2⟩ := fullRow_run X hq ok hCz (y := y) (by omega)
    have bits : ∀ x, x < 32 → bt (r1 &&& r2) x = (decide (x < 20) && bd (ins A) f (20 * y + x)) := by
      intro x hx
      rw [b_and, b2 x hx]
      by_cases h20 : x < 20
      · rw [b1 x h20, decide_eq_true h20, Bool.true_and]
        unfold bd ins
        rw [show (20 * y + x) % 20 = x by omega, show (20 * y + x) / 20 = y by omega]
      · rw [decide_eq_false h20, decide_eq_false (show ¬ x < A.1 0 by omega)]
        simp
    have r102 : (su z 102 y (r1 &&& r2)).1 102 y = r1 &&& r2 := by rw [su_1, if_pos ⟨rfl, rfl⟩]
    have r87 : (su z 102 y (r1 &&& r2)).1 87 y = u.1 87 y := by rw [su_1, if_neg (by omega), hc 87 (by decide)]
    refine ⟨(su z 102 y (r1 &&& r2), a ||| (r1 &&& r2), b ||| ((r1 &&& r2) &&& u.1 87 y)), ⟨h2, fun c hc' => ?_, fun y' hy' x hx => ?_, acc_z ha bits, acc_z hb (fun x hx => ?_)⟩, ?_⟩
    · funext j
      show (su z 102 y (r1 &&& r2)).1 c j = _
      rw [su_1, if_neg (fun e => hc' e.1), hc c hc']
    · show bt ((su z 102 y (r1 &&& r2)).1 102 y') x = _
      rw [su_1]
      by_cases e : y' = y
      · subst e
        rw [if_pos ⟨rfl, rfl⟩, bits x hx]
      · rw [if_neg (fun z => e z.2), hr y' (by omega) x hx]
    · rw [b_and, bits x hx, ht y hy x hx]
      cases decide (x < 20)
      · simp
      · simp
    · show _ = rn 156 50 [some (.ref 96), none, some (.ref q), some (.ref 87), some (.int (nI k)), some (.int (a ||| (r1 &&& r2))), some (.int (b ||| ((r1 &&& r2) &&& u.1 87 y))), some (.int (nI (y + 1)))] [] (mk X (su z 102 y (r1 &&& r2)))
      rw [e_Parts_gap_50, if_neg (nI_ge hy (by decide)), g_P_border, ck_P, e1, r1_s, ck_S hq, e2, r1_s, w_P_border hy, g_P_border, i_P_border hy, r102, g_P_border, i_P_border hy, r102, i_H_tin hy, r87, nI_add]) (x := (u, nI 0, nI 0)) ⟨rfl, fun _ _ => rfl, fun y hy => absurd hy (Nat.not_lt_zero y), ⟨fun _ q hq => absurd hq (Nat.not_lt_zero q), fun _ => nI_0⟩, ⟨fun _ q hq => absurd hq (Nat.not_lt_zero q), fun _ => nI_0⟩⟩
  dsimp only at h2 hc hr ha hb eq
  refine ⟨z, a, b, ?_, h2, hc, hr, ha, hb⟩
  rw [e_Parts_gap_33, if_neg (nI_ge hk (by decide)), eq]
theorem gapM (X : qz_X) {u : sT} {q : Nat} {g f : Nat → Bool} (hb : rows (u.1 102) g) (hf : rows (u.1 101) f) (k : Nat) : ∃ z : sT, rn 156 130 [some (.ref 96), none, some (.ref q), some (.ref 87), some (.int (nI k)), none, none, some (.int (nI 0))] [] (mk X u) = rn 156 33 [some (.ref 96), none, some (.ref q), some (.ref 87), some (.int (nI (k + 1))), none, none, none] [] (mk X z) ∧ z.2 = u.2 ∧ (∀ c, c ≠ 101 → z.1 c = u.1 c) ∧ rows (z.1 101) (fun q => f q || g q) := by
  obtain ⟨z, ⟨h2, hc, hr, ho⟩, eq⟩ := it_up (fun y (z : sT) => rn 156 130 [some (.ref 96), none, some (.ref q), some (.ref 87), some (.int (nI k)), none, none, some (.int (nI y))] [] (mk X z)) (fun y z => z.2 = u.2 ∧ (∀ c, c ≠ 101 → z.1 c = u.1 c) ∧ (∀ y', y' < y → ∀ x, x < 32 → bt (z.1 101 y') x = (decide (x < 20) && (f (20 * y' + x) || g (20 * y' + x)))) ∧ ∀ y', y ≤ y' → z.1 101 y' = u.1 101 y') (Nat.zero_le 20) (by
    rintro y z _ hy ⟨h2, hc, hr, ho⟩
    try dsimp only
    refine ⟨su z 101 y (u.1 101 y ||| u.1 102 y), ⟨h2, fun c hc' => ?_, fun y' hy' x hx => ?_, fun y' hy' => ?_⟩, ?_⟩
    · funext j
      rw [su_1, if_neg (fun e => hc' e.1), hc c hc']
    · rw [su_1]
      by_cases e : y' = y
      · subst e
        rw [if_pos ⟨rfl, rfl⟩, b_or, hf y' hy x hx, hb y' hy x hx]
        cases decide (x < 20)
        · simp
        · simp
      · rw [if_neg (fun z => e z.2), hr y' (by omega) x hx]
    · rw [su_1, if_neg (by omega), ho y' (by omega)]
    · rw [e_Parts_gap_130, if_neg (nI_ge hy (by decide)), g_P_region, i_P_region hy, ho y (Nat.le_refl y), g_P_border, i_P_border hy, hc 102 (by decide), w_P_region hy, nI_add]) (x := u) ⟨rfl, fun _ _ => rfl, fun y hy => absurd hy (Nat.not_lt_zero y), fun _ _ => rfl⟩
  try dsimp only at eq
  refine ⟨z, ?_, h2, hc, hr⟩
  rw [eq, e_Parts_gap_130, if_pos (nI_le (by decide) (by decide)), nI_add]
def gsp (I a t : Nat → Bool) (D : Nat) (r : Int32) : Prop := (met I a t D ∧ r = nI D) ∨ (¬ met I a t D ∧ r = -1)
theorem C_gap_run (X : qz_X) {s : sT} {q : Nat} {A : shT} (hq : isS q) (ok : okA A) (hC : isC s q A) {t : Nat → Bool} (ht : rows (s.1 87) t) {v r : Int32} {D : Nat} (hD : D < 400) (h1 : ∀ j, j < D → fnd (ins A) (fun j => decide (s.1 97 j = v)) j ∧ ¬ met (ins A) (fun j => decide (s.1 97 j = v)) t j) (h2 : met (ins A) (fun j => decide (s.1 97 j = v)) t D ∨ ¬ fnd (ins A) (fun j => decide (s.1 97 j = v)) D) (hr : gsp (ins A) (fun j => decide (s.1 97 j = v)) t D r) : ∃ st : sT, rn 156 0 [some (.ref 96), some (.int v), some (.ref q), some (.ref 87), none, none, none, none] [] (mk X s) = some (some (.int r), mk X st) ∧ st.2 = s.2 ∧ ∀ c, c ∉ [101, 102] → st.1 c = s.1 c := by
  have hg := isS_gap q hq
  obtain ⟨u, ⟨u2, uc, ur⟩, eq⟩ := it_up (fun y (z : sT) => rn 156 3 [some (.ref 96), some (.int v), some (.ref q), some (.ref 87), some (.int (nI y)), none, none, none] [] (mk X z)) (fun y z => z.2 = s.2 ∧ (∀ c, c ≠ 101 → z.1 c = s.1 c) ∧ (∀ y', y' < y → ∀ x, x < 32 → bt (z.1 101 y') x = (decide (x < 20) && decide (s.1 97 (20 * y' + x) = v)))) (Nat.zero_le 20) (by
    rintro y z _ hy ⟨h2, hc, hr⟩
    try dsimp only
    obtain ⟨r, e, b⟩ := rowOf_run X z v hy
    rw [hc 97 (by decide)] at b
    refine ⟨su z 101 y r, ⟨h2, fun c hc' => ?_, fun y' hy' x hx => ?_⟩, ?_⟩
    · funext j
      rw [su_1, if_neg (fun e => hc' e.1), hc c hc']
    · rw [su_1]
      by_cases e : y' = y
      · subst e
        rw [if_pos ⟨rfl, rfl⟩, b x hx]
      · rw [if_neg (fun z => e z.2), hr y' (by omega) x hx]
    · rw [e_Parts_gap_3, if_neg (nI_ge hy (by decide)), g_P_region, ck_P, e, r1_s, w_P_region hy, nI_add]) (x := s) ⟨rfl, fun _ _ => rfl, fun y hy => absurd hy (Nat.not_lt_zero y)⟩
  try dsimp only at eq
  have e0 : rn 156 0 [some (.ref 96), some (.int v), some (.ref q), some (.ref 87), none, none, none, none] [] (mk X s) = rn 156 33 [some (.ref 96), none, some (.ref q), some (.ref 87), some (.int (nI 0)), none, none, none] [] (mk X u) := by
    rw [e_Parts_gap_0, eq, e_Parts_gap_3, if_pos (nI_le (by decide) (by decide))]
  generalize ha : (fun j => decide (s.1 97 j = v)) = a at h1 h2 hr
  have ur : rows (u.1 101) a := by rw [← ha]; exact ur
  have nf : ∀ {k}, ¬ fnd (ins A) a k → ∀ q, q < 400 → bd (ins A) (reg (ins A) a k) q = false := by
    intro k h q hq
    cases e : bd (ins A) (reg (ins A) a k) q
    · rfl
    · exact absurd ⟨q, hq, e⟩ h
  have nm : ∀ {k}, ¬ met (ins A) a t k → ∀ q, q < 400 → (bd (ins A) (reg (ins A) a k) q && t q) = false := by
    intro k h q hq
    cases e : (bd (ins A) (reg (ins A) a k) q && t q)
    · rfl
    · rw [Bool.and_eq_true] at e
      exact absurd ⟨q, hq, e.1, e.2⟩ h
  obtain ⟨w, ⟨w2, wc, wr⟩, eqw⟩ := it_up (fun k (z : sT) => rn 156 33 [some (.ref 96), none, some (.ref q), some (.ref 87), some (.int (nI k)), none, none, none] [] (mk X z)) (fun k z => z.2 = s.2 ∧ (∀ c, c ∉ [101, 102] → z.1 c = s.1 c) ∧ rows (z.1 101) (reg (ins A) a k)) (Nat.zero_le D) (by
    rintro k z _ hk ⟨z2, zc, zr⟩
    try dsimp only
    have hCz : isC z q A := isC_cong (fun j hj => zc _ (by simp; omega)) hC
    obtain ⟨z1, x, y, e1, k2, kc, kr, kx, ky⟩ := gapB X hq ok hCz (t := t) (by rw [zc 87 (by decide)]; exact ht) zr (show k < 400 by omega)
    obtain ⟨z3, e3, l2, lc, lr⟩ := gapM X (q := q) (u := z1) kr (by rw [kc 101 (by decide)]; exact zr) k
    refine ⟨z3, ⟨by rw [l2, k2, z2], fun c hc => ?_, lr⟩, ?_⟩
    · have hc2 := hc
      simp only [List.mem_cons, List.not_mem_nil, or_false, not_or] at hc2
      rw [lc c hc2.1, kc c hc2.2, zc c hc]
    · rw [e1, e_Parts_gap_50, if_pos (nI_le (by decide) (by decide)), if_pos (ky.mpr (nm (h1 k hk).2)), if_neg (fun z => by
        obtain ⟨q, hq, hb⟩ := (h1 k hk).1
        rw [kx.mp z q hq] at hb
        cases hb), e3]) (x := u) ⟨u2, fun c hc => uc c (fun e => hc (by subst e; simp)), ur⟩
  try dsimp only at eqw
  have hCw : isC w q A := isC_cong (fun j hj => wc _ (by simp; omega)) hC
  obtain ⟨z1, x, y, e1, k2, kc, kr, kx, ky⟩ := gapB X hq ok hCw (t := t) (by rw [wc 87 (by decide)]; exact ht) wr hD
  refine ⟨z1, ?_, by rw [k2, w2], fun c hc => ?_⟩
  · rw [e0, eqw, e1, e_Parts_gap_50, if_pos (nI_le (by decide) (by decide))]
    rcases hr with ⟨hm, rfl⟩ | ⟨hm, rfl⟩
    · rw [if_neg (fun z => by
        obtain ⟨q, hq, hb, ht⟩ := hm
        have := ky.mp z q hq
        rw [hb, ht] at this
        cases this)]
    · rcases h2 with h2 | h2
      · exact absurd h2 hm
      · rw [if_pos (ky.mpr (nm hm)), if_pos (kx.mpr (nf h2))]
  · have hc2 := hc
    simp only [List.mem_cons, List.not_mem_nil, or_false, not_or] at hc2
    rw [kc c hc2.2, wc c hc]

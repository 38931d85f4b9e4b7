/-! joining: the reference; costs, and the going on -/
theorem tin0 {A : shT} {q : Nat} : tin A (nI 0) q = (ins A q && !A.2.1 q) := by
  unfold tin brs
  have : (List.range 12).any (fun b => bt (nI 0) b && A.2.2.2.1 b q) = false := by
    rw [List.any_eq_false]
    intro b _
    rw [b_n0, Bool.false_and]
    decide
  rw [this, Bool.or_false]
def coM (u : sT) (A : shT) (bw : Bool) : Prop := ∀ q, q < 400 → u.1 345 q = if ins A q then nI (prJ A bw q) else nI 1000000000
theorem M_costs_run (X : qz_X) {s : sT} {m : Nat} {A : shT} (hm : m < 7) (ok : okA A) (hM : isM (gN s) m A) (ht : ∀ j, j < 400 → s.1 334 j = if tin A (nI 0) j then nI 1 else nI 0) (bw : Bool) : ∃ z : sT, rn 198 0 [some (.ref 318), some (.int (nI m)), some (.int (bI bw)), none] [] (mk X s) = some (none, mk X z) ∧ z.2 = s.2 ∧ (∀ c, c ≠ 345 → z.1 c = s.1 c) ∧ coM z A bw := by
  obtain ⟨u, ⟨u2, uc, ut⟩, e⟩ := it_up (fun q (u : sT) => rn 198 2 [some (.ref 318), some (.int (nI m)), some (.int (bI bw)), some (.int (nI q))] [] (mk X u)) (fun q u => u.2 = s.2 ∧ (∀ c, c ≠ 345 → u.1 c = s.1 c) ∧ ∀ j, j < q → u.1 345 j = if ins A j then nI (prJ A bw j) else nI 1000000000) (Nat.zero_le 400) (by
    rintro q u _ hq ⟨u2, uc, ut⟩
    try dsimp only
    have hMu : isM (gN u) m A := isM_of (fun c p q => uc c (by omega)) hM
    have nx : ∀ v : Int32, v = (if ins A q then nI (prJ A bw q) else nI 1000000000) → ∃ y : sT, (y.2 = s.2 ∧ (∀ c, c ≠ 345 → y.1 c = s.1 c) ∧ ∀ j, j < q + 1 → y.1 345 j = if ins A j then nI (prJ A bw j) else nI 1000000000) ∧ rn 198 2 [some (.ref 318), some (.int (nI m)), some (.int (bI bw)), some (.int (nI (q + 1)))] [] (mk X (su u 345 q v)) = rn 198 2 [some (.ref 318), some (.int (nI m)), some (.int (bI bw)), some (.int (nI (q + 1)))] [] (mk X y) := by
      rintro v rfl
      refine ⟨su u 345 q (if ins A q then nI (prJ A bw q) else nI 1000000000), ⟨u2, fun c hc => ?_, fun j hj => ?_⟩, rfl⟩
      · funext j
        rw [su_1, if_neg (fun e => hc e.1), uc c hc]
      · rw [su_1]
        by_cases e : j = q
        · rw [if_pos ⟨rfl, e⟩, e]
        · rw [if_neg (fun z => e z.2), ut j (by omega)]
    have pv : prJ A bw q = if A.2.1 q then (if bw then A.2.2.1 q else 1) else 0 := by
      unfold prJ
      rw [if_neg (by omega)]
    have hwo : u.1 323 (400 * m + q) = nI (A.2.2.1 q) := hMu.2.2.1 q hq
    rw [e_M_costs_2, if_neg (nI_ge hq (by decide)), g_M_cost, if_neg (by decide), if_neg (by decide), div20 (by omega), rem20 (by omega), ck_M, M_within_q X hm ok hMu hq, r1_s, told_int, nI_add]
    cases hi : ins A q
    · rw [if_neg (show ¬ (false = true) by decide), w_M_cost hq]
      exact nx _ (by rw [hi]; rfl)
    · rw [if_pos (show true = true from rfl), g_M_tin, i_M_tin hq, uc 334 (by decide), ht q hq, told_one, tin0, hi, Bool.true_and]
      cases htr : A.2.1 q
      · rw [Bool.not_false, if_pos (show true = true from rfl), w_M_cost hq]
        exact nx _ (by rw [hi, pv, htr]; rfl)
      · rw [Bool.not_true, if_neg (show ¬ (false = true) by decide)]
        cases bw
        · rw [if_pos (by decide), w_M_cost hq]
          exact nx _ (by rw [hi, pv, htr]; rfl)
        · rw [if_neg (by decide), g_M_worth, pk_mul, nI_add, i_M_worth (by omega), hwo, w_M_cost hq]
          exact nx _ (by rw [hi, pv, htr]; rfl)) (x := s) ⟨rfl, fun _ _ => rfl, fun j hj => absurd hj (Nat.not_lt_zero j)⟩
  try dsimp only at e
  refine ⟨u, ?_, u2, uc, ut⟩
  rw [e_M_costs_0, e, e_M_costs_2, if_pos (nI_le (by decide) (by decide))]
/-- the reference's numbers of one set -/
def mvS (u : sT) (S : Nat) (g : Nat → Nat) : Prop := ∀ q, q < 400 → u.1 343 (400 * S + q) = nI (g q)
def mjF (S : Nat) (s u : sT) : Prop := u.2 = s.2 ∧ (∀ c, c ∉ [343, 346] → u.1 c = s.1 c) ∧ ∀ j, (j < 400 * S ∨ 400 * S + 400 ≤ j) → u.1 343 j = s.1 343 j
theorem mjF.rf (S : Nat) (s : sT) : mjF S s s := ⟨rfl, fun _ _ => rfl, fun _ _ => rfl⟩
theorem mjF.tr {S : Nat} {s u v : sT} (h : mjF S s u) (g : mjF S u v) : mjF S s v := ⟨by rw [g.1, h.1], fun c hc => by rw [g.2.1 c hc, h.2.1 c hc], fun j hj => by rw [g.2.2 j hj, h.2.2 j hj]⟩
theorem mjF_su {S : Nat} {s : sT} {v : Nat} {x : Int32} (hv : v < 400) : mjF S s (su s 343 (400 * S + v) x) := ⟨rfl, fun c hc => by
  simp only [List.mem_cons, List.not_mem_nil, or_false, not_or] at hc
  funext j
  rw [su_1, if_neg (fun e => hc.1 e.1)], fun j hj => by rw [su_1, if_neg (fun e => by omega)]⟩
theorem mjF_d {S : Nat} {s : sT} {v : Nat} {x : Int32} : mjF S s (su s 346 v x) := ⟨rfl, fun c hc => by
  simp only [List.mem_cons, List.not_mem_nil, or_false, not_or] at hc
  funext j
  rw [su_1, if_neg (fun e => hc.2 e.1)], fun j hj => by rw [su_1, if_neg (fun e => by omega)]⟩
theorem mvS_up {s : sT} {S : Nat} {g : Nat → Nat} {v x : Nat} (h : mvS s S g) : mvS (su s 343 (400 * S + v) (nI x)) S (upN g v x) := fun w hw => by
  rw [su_1]
  unfold upN
  by_cases e : w = v
  · rw [if_pos ⟨rfl, by rw [e]⟩, if_pos e]
  · rw [if_neg (fun z => e (by omega)), if_neg e, h w hw]
def goI (A : shT) (bw : Bool) (g0 g : Nat → Nat) (D : Nat → Bool) : Prop := (∀ q, q < 400 → g q ≤ g0 q) ∧ (∀ q, q < 400 → g q ≤ 1000000000) ∧ (∀ q, q < 400 → ins A q = false → g q = 1000000000) ∧ (∀ p q, p < 400 → q < 400 → D p = true → D q = false → g p ≤ g q) ∧ (∀ p, p < 400 → D p = true → g p < 1000000000) ∧ (∀ p v, D p = true → adj p v → ins A v = true → g v ≤ g p + prJ A bw v) ∧ ∀ Q : Nat → Nat → Prop, (∀ p v c, adj p v → ins A p = true → ins A v = true → Q p c → Q v (c + prJ A bw v)) → (∀ q, q < 400 → ins A q = true → Q q (g0 q)) → ∀ q, q < 400 → ins A q = true → Q q (g q)
theorem adj_ne {p q : Nat} (h : adj p q) : p ≠ q := by
  rw [adj_iff] at h
  omega
theorem goes_scan (X : qz_X) {s : sT} {S : Nat} (hS : S < 128) {g : Nat → Nat} (hg : mvS s S g) (hb : ∀ q, q < 400 → g q ≤ 1000000000) {D : Nat → Bool} (hD : ∀ q, q < 400 → s.1 346 q = if D q then nI 1 else nI 0) (v3 : Int32) : ∃ r : Int32, rn 200 43 [some (.ref 318), none, some (.int (nI (400 * S))), some (.int v3), some (.int (-1)), some (.int (nI 0)), none] [] (mk X s) = rn 200 43 [some (.ref 318), none, some (.int (nI (400 * S))), some (.int v3), some (.int r), some (.int (nI 400)), none] [] (mk X s) ∧ ((r = -1 ∧ ∀ q, q < 400 → D q = false → g q = 1000000000) ∨ ∃ b, b < 400 ∧ r = nI b ∧ D b = false ∧ g b < 1000000000 ∧ ∀ q, q < 400 → D q = false → g b ≤ g q) := by
  obtain ⟨r, hr, e⟩ := it_up (fun i (r : Int32) => rn 200 43 [some (.ref 318), none, some (.int (nI (400 * S))), some (.int v3), some (.int r), some (.int (nI i)), none] [] (mk X s)) (fun i r => (r = -1 ∧ ∀ q, q < i → D q = false → g q = 1000000000) ∨ ∃ b, b < i ∧ r = nI b ∧ D b = false ∧ g b < 1000000000 ∧ ∀ q, q < i → D q = false → g b ≤ g q) (Nat.zero_le 400) (by
    rintro i r _ hi hr
    try dsimp only
    have gi := hb i hi
    rw [e_M_goesOn_43, if_neg (nI_ge hi (by decide)), g_M_done, i_M_done hi, hD i hi, told_int, nI_add]
    cases hDi : D i
    · rw [if_neg (show ¬ (false = true) by decide), g_M_joined, nI_add, i_M_joined (by omega), hg i hi]
      by_cases hf : g i < 1000000000
      · rw [if_neg (nI_ge hf (by decide))]
        rcases hr with ⟨rfl, h1⟩ | ⟨b, b1, rfl, b2, b3, b4⟩
        · rw [if_pos rfl]
          refine ⟨nI i, Or.inr ⟨i, Nat.lt_succ_self i, rfl, hDi, hf, fun q hq hDq => ?_⟩, rfl⟩
          by_cases e : q = i
          · rw [e]; exact Nat.le_refl _
          · have := h1 q (by omega) hDq
            omega
        · rw [if_neg (nI_m1 (by omega)), g_M_joined, i_M_joined (by omega), hg i hi, g_M_joined, nI_add, i_M_joined (by omega), hg b (by omega)]
          by_cases hl : g i < g b
          · rw [if_neg (nI_ge hl (by omega))]
            refine ⟨nI i, Or.inr ⟨i, Nat.lt_succ_self i, rfl, hDi, hf, fun q hq hDq => ?_⟩, rfl⟩
            by_cases e : q = i
            · rw [e]; exact Nat.le_refl _
            · have := b4 q (by omega) hDq
              omega
          · rw [if_pos (nI_le (by omega) (by omega))]
            refine ⟨nI b, Or.inr ⟨b, by omega, rfl, b2, b3, fun q hq hDq => ?_⟩, rfl⟩
            by_cases e : q = i
            · rw [e]; omega
            · exact b4 q (by omega) hDq
      · rw [if_pos (nI_le (by omega) (by omega))]
        refine ⟨r, ?_, rfl⟩
        rcases hr with ⟨h0, h1⟩ | ⟨b, b1, h0, b2, b3, b4⟩
        · refine Or.inl ⟨h0, fun q hq hDq => ?_⟩
          by_cases e : q = i
          · rw [e]; omega
          · exact h1 q (by omega) hDq
        · refine Or.inr ⟨b, by omega, h0, b2, b3, fun q hq hDq => ?_⟩
          by_cases e : q = i
          · rw [e]; omega
          · exact b4 q (by omega) hDq
    · rw [if_pos (show true = true from rfl)]
      refine ⟨r, ?_, rfl⟩
      rcases hr with ⟨h0, h1⟩ | ⟨b, b1, h0, b2, b3, b4⟩
      · refine Or.inl ⟨h0, fun q hq hDq => ?_⟩
        have : q ≠ i := fun e => by rw [e, hDi] at hDq; cases hDq
        exact h1 q (by omega) hDq
      · refine Or.inr ⟨b, by omega, h0, b2, b3, fun q hq hDq => ?_⟩
        have : q ≠ i := fun e => by rw [e, hDi] at hDq; cases hDq
        exact b4 q (by omega) hDq) (x := -1) (Or.inl ⟨rfl, fun q hq => absurd hq (Nat.not_lt_zero q)⟩)
  exact ⟨r, e, hr⟩
theorem goes_relax (X : qz_X) {s : sT} {A : shT} (ok : okA A) {bw : Bool} {S : Nat} (hS : S < 128) (hc : coM s A bw) {g : Nat → Nat} (hg : mvS s S g) (hb : ∀ q, q < 400 → g q ≤ 1000000000) {b : Nat} (hb4 : b < 400) (v3 : Int32) : ∃ (z : sT) (h : Nat → Nat), rn 200 131 [some (.ref 318), none, some (.int (nI (400 * S))), some (.int v3), some (.int (nI b)), some (.int (nI 0)), none] [] (mk X s) = rn 200 30 [some (.ref 318), none, some (.int (nI (400 * S))), some (.int (v3 + nI 1)), none, none, none] [] (mk X z) ∧ mjF S s z ∧ z.1 346 = s.1 346 ∧ mvS z S h ∧ (∀ w, h w = g w ∨ (adj b w ∧ ins A w = true ∧ h w = g b + prJ A bw w ∧ h w ≤ g w)) ∧ ∀ w, adj b w → ins A w = true → h w ≤ g b + prJ A bw w := by
  obtain ⟨⟨z, h⟩, ⟨z1, z2, z3, z4, z5⟩, e⟩ := it_up (fun d (x : sT × (Nat → Nat)) => rn 200 131 [some (.ref 318), none, some (.int (nI (400 * S))), some (.int v3), some (.int (nI b)), some (.int (nI d)), none] [] (mk X x.1)) (fun d x => mjF S s x.1 ∧ x.1.1 346 = s.1 346 ∧ mvS x.1 S x.2 ∧ (∀ w, x.2 w = g w ∨ (adj b w ∧ ins A w = true ∧ x.2 w = g b + prJ A bw w ∧ x.2 w ≤ g w)) ∧ ∀ d', d' < d → nbs b d' ≠ 400 → ins A (nbs b d') = true → x.2 (nbs b d') ≤ g b + prJ A bw (nbs b d')) (Nat.zero_le 4) (by
    rintro d ⟨u, h⟩ _ hd ⟨u1, u2, u3, u4, u5⟩
    dsimp only at u1 u2 u3 u4 u5 ⊢
    have hle := nbs_le (q := b) (d := d) hb4
    rw [e_M_goesOn_131, if_neg (nI_ge hd (by decide)), M_beside_run _ hb4 hd, r1_s, nI_add]
    by_cases h4 : nbs b d = 400
    · rw [bsN_no h4, if_pos rfl]
      refine ⟨(u, h), ⟨u1, u2, u3, u4, fun d' hd' hn hi => ?_⟩, rfl⟩
      have : d' ≠ d := fun e => hn (by rw [e]; exact h4)
      exact u5 d' (by omega) hn hi
    · have hco : u.1 345 (nbs b d) = if ins A (nbs b d) then nI (prJ A bw (nbs b d)) else nI 1000000000 := by
        rw [u1.2.1 345 (by decide)]; exact hc _ (by omega)
      rw [bsN_yes h4, if_neg (nI_m1 (by omega)), g_M_cost, i_M_cost (by omega), hco]
      cases hi : ins A (nbs b d)
      · rw [if_neg (show ¬ (false = true) by decide), if_pos (nI_le (Nat.le_refl _) (by decide))]
        refine ⟨(u, h), ⟨u1, u2, u3, u4, fun d' hd' hn hi2 => ?_⟩, rfl⟩
        have : d' ≠ d := fun e => by rw [e, hi] at hi2; cases hi2
        exact u5 d' (by omega) hn hi2
      · have ha : adj b (nbs b d) := ⟨hb4, by omega, d, hd, rfl⟩
        have pl := prJ_le ok bw (show nbs b d ≤ 400 by omega)
        have hne := adj_ne ha
        have hbb : h b = g b := by
          rcases u4 b with k | ⟨k, -, -, -⟩
          · exact k
          · exact absurd rfl (adj_ne k)
        have gb := hb b hb4
        have hw : h (nbs b d) ≤ 1000000000 + 99 := by
          rcases u4 (nbs b d) with k | ⟨-, -, -, k⟩
          · rw [k]; have := hb (nbs b d) (by omega); omega
          · have := hb (nbs b d) (by omega); omega
        rw [if_pos (show true = true from rfl), if_neg (nI_ge (show prJ A bw (nbs b d) < 1000000000 by omega) (by decide)), g_M_joined, g_M_joined, nI_add, i_M_joined (by omega), u3 _ (by omega), g_M_joined, nI_add, i_M_joined (by omega), u3 b hb4, g_M_cost, i_M_cost (by omega), hco, hi, if_pos (show true = true from rfl), hbb, nI_add, min_run _ (by omega) (by omega), r1_s, w_M_joined (by omega)]
        refine ⟨(su u 343 (400 * S + nbs b d) (nI (if g b + prJ A bw (nbs b d) < h (nbs b d) then g b + prJ A bw (nbs b d) else h (nbs b d))), upN h (nbs b d) (if g b + prJ A bw (nbs b d) < h (nbs b d) then g b + prJ A bw (nbs b d) else h (nbs b d))), ⟨u1.tr (mjF_su (by omega)), ?_, mvS_up u3, fun w => ?_, fun d' hd' hn hi2 => ?_⟩, rfl⟩
        · rw [← u2]
          funext j
          rw [su_1, if_neg (by omega)]
        · dsimp only
          unfold upN
          by_cases ew : w = nbs b d
          · rw [if_pos ew, ew]
            by_cases hl : g b + prJ A bw (nbs b d) < h (nbs b d)
            · rw [if_pos hl]
              refine Or.inr ⟨ha, hi, rfl, ?_⟩
              rcases u4 (nbs b d) with k | ⟨-, -, -, k⟩ <;> omega
            · rw [if_neg hl]; exact u4 (nbs b d)
          · rw [if_neg ew]; exact u4 w
        · dsimp only
          unfold upN
          by_cases ew : nbs b d' = nbs b d
          · rw [if_pos ew, ew]
            split <;> omega
          · rw [if_neg ew]
            have : d' ≠ d := fun e => ew (by rw [e])
            exact u5 d' (by omega) hn hi2) (x := (s, g)) ⟨mjF.rf S s, rfl, hg, fun w => Or.inl rfl, fun d' hd' => absurd hd' (Nat.not_lt_zero d')⟩
  dsimp only at z1 z2 z3 z4 z5 e
  refine ⟨z, h, ?_, z1, z2, z3, z4, fun w ha hi => ?_⟩
  · refine Eq.trans e ?_
    rw [e_M_goesOn_131, if_pos (nI_le (by decide) (by decide))]
  · obtain ⟨-, hw, d, hd, e2⟩ := ha
    have := z5 d hd (by omega) (by rw [e2]; exact hi)
    rw [e2] at this
    exact this
theorem goesOn_run (X : qz_X) {s : sT} {A : shT} (ok : okA A) {bw : Bool} {S : Nat} (hS : S < 128) (hc : coM s A bw) {g0 : Nat → Nat} (hg : mvS s S g0) (hb : ∀ q, q < 400 → g0 q ≤ 1000000000) (ho : ∀ q, q < 400 → ins A q = false → g0 q = 1000000000) : ∃ (z : sT) (g : Nat → Nat), rn 200 0 [some (.ref 318), some (.int (nI S)), none, none, none, none, none] [] (mk X s) = some (none, mk X z) ∧ mjF S s z ∧ mvS z S g ∧ (∀ q, q < 400 → g q ≤ g0 q) ∧ (∀ q, q < 400 → ins A q = false → g q = 1000000000) ∧ (∀ p v, adj p v → ins A p = true → ins A v = true → g v ≤ g p + prJ A bw v) ∧ ∀ Q : Nat → Nat → Prop, (∀ p v c, adj p v → ins A p = true → ins A v = true → Q p c → Q v (c + prJ A bw v)) → (∀ q, q < 400 → ins A q = true → Q q (g0 q)) → ∀ q, q < 400 → ins A q = true → Q q (g q) := by
  obtain ⟨u, ⟨u1, u3, u4⟩, e1⟩ := it_up (fun i (u : sT) => rn 200 8 [some (.ref 318), none, some (.int (nI (400 * S))), some (.int (nI i)), none, none, none] [] (mk X u)) (fun i u => mjF S s u ∧ mvS u S g0 ∧ ∀ j, j < i → u.1 346 j = nI 0) (Nat.zero_le 400) (by
    rintro i u _ hi ⟨u1, u3, u4⟩
    try dsimp only
    refine ⟨su u 346 i (nI 0), ⟨u1.tr mjF_d, fun q hq => by rw [su_1, if_neg (by omega)]; exact u3 q hq, fun j hj => ?_⟩, ?_⟩
    · rw [su_1]
      by_cases e : j = i
      · rw [if_pos ⟨rfl, e⟩]
      · rw [if_neg (fun z => e z.2), u4 j (by omega)]
    · rw [e_M_goesOn_8, if_neg (nI_ge hi (by decide)), g_M_done, w_M_done hi, nI_add]) (x := s) ⟨mjF.rf S s, hg, fun j hj => absurd hj (Nat.not_lt_zero j)⟩
  try dsimp only at e1
  have fin : ∀ (z : sT) (g : Nat → Nat) (D : Nat → Bool), mjF S s z → mvS z S g → goI A bw g0 g D → (∀ q, q < 400 → D q = false → g q = 1000000000) → mjF S s z ∧ mvS z S g ∧ (∀ q, q < 400 → g q ≤ g0 q) ∧ (∀ q, q < 400 → ins A q = false → g q = 1000000000) ∧ (∀ p v, adj p v → ins A p = true → ins A v = true → g v ≤ g p + prJ A bw v) ∧ ∀ Q : Nat → Nat → Prop, (∀ p v c, adj p v → ins A p = true → ins A v = true → Q p c → Q v (c + prJ A bw v)) → (∀ q, q < 400 → ins A q = true → Q q (g0 q)) → ∀ q, q < 400 → ins A q = true → Q q (g q) := by
    intro z g D z1 z2 hI hall
    obtain ⟨i1, i2, i3, i4, i5, i6, i7⟩ := hI
    refine ⟨z1, z2, i1, i3, fun p v ha hp hv => ?_, i7⟩
    cases hDp : D p
    · have := hall p ha.1 hDp
      have := i2 v ha.2.1
      omega
    · exact i6 p v hDp ha hv
  rcases it_ex (fun n (x : sT × (Nat → Nat) × (Nat → Bool)) => rn 200 30 [some (.ref 318), none, some (.int (nI (400 * S))), some (.int (nI n)), none, none, none] [] (mk X x.1)) (fun n x => mjF S s x.1 ∧ mvS x.1 S x.2.1 ∧ goI A bw g0 x.2.1 x.2.2 ∧ (∀ q, q < 400 → x.1.1 346 q = if x.2.2 q then nI 1 else nI 0) ∧ fb_ct x.2.2 400 = n) (fun o => ∃ (z : sT) (g : Nat → Nat), o = some (none, mk X z) ∧ mjF S s z ∧ mvS z S g ∧ (∀ q, q < 400 → g q ≤ g0 q) ∧ (∀ q, q < 400 → ins A q = false → g q = 1000000000) ∧ (∀ p v, adj p v → ins A p = true → ins A v = true → g v ≤ g p + prJ A bw v) ∧ ∀ Q : Nat → Nat → Prop, (∀ p v c, adj p v → ins A p = true → ins A v = true → Q p c → Q v (c + prJ A bw v)) → (∀ q, q < 400 → ins A q = true → Q q (g0 q)) → ∀ q, q < 400 → ins A q = true → Q q (g q)) (Nat.zero_le 400) (by
    rintro n ⟨w, g, D⟩ _ hn ⟨w1, w2, w3, w4, w5⟩
    dsimp only at w1 w2 w3 w4 w5 ⊢
    obtain ⟨i1, i2, i3, i4, i5, i6, i7⟩ := id w3
    obtain ⟨r, er, hr⟩ := goes_scan X hS w2 i2 w4 (nI n)
    rw [e_M_goesOn_30, if_neg (nI_ge hn (by decide)), er, e_M_goesOn_43, if_pos (nI_le (by decide) (by decide))]
    rcases hr with ⟨rfl, hall⟩ | ⟨b, b1, rfl, b2, b3, b4⟩
    · right
      rw [if_pos rfl]
      exact ⟨w, g, rfl, fin w g D w1 w2 w3 hall⟩
    · left
      have hcw : coM (su w 346 b (nI 1)) A bw := fun q hq => by rw [su_1, if_neg (by omega), w1.2.1 345 (by decide)]; exact hc q hq
      have hgw : mvS (su w 346 b (nI 1)) S g := fun q hq => by rw [su_1, if_neg (by omega)]; exact w2 q hq
      obtain ⟨z, h, ez, z1, z2, z3, z4, z5⟩ := goes_relax X ok hS hcw hgw i2 b1 (nI n)
      rw [if_neg (nI_m1 (by omega)), g_M_done, w_M_done b1, ez, nI_add]
      have hins : ins A b = true := by
        cases hh : ins A b
        · have := i3 b b1 hh; omega
        · rfl
      have hle : ∀ q, h q ≤ g q := fun q => by
        rcases z4 q with k | ⟨-, -, -, k⟩
        · omega
        · exact k
      have hge : ∀ q, q < 400 → D q = true ∨ q = b → h q = g q := fun q hq hd => by
        rcases z4 q with k | ⟨k1, k2, k3, k4⟩
        · exact k
        · have : g q ≤ g b := by
            rcases hd with hd | hd
            · exact i4 q b hq b1 hd b2
            · rw [hd]; exact Nat.le_refl _
          omega
      have hlow : ∀ q, q < 400 → D q = false → g b ≤ h q := fun q hq hd => by
        rcases z4 q with k | ⟨k1, k2, k3, k4⟩
        · rw [k]; exact b4 q hq hd
        · omega
      refine ⟨(z, h, fun q => if q = b then true else D q), ⟨(w1.tr mjF_d).tr z1, z3, ⟨fun q hq => Nat.le_trans (hle q) (i1 q hq), fun q hq => Nat.le_trans (hle q) (i2 q hq), fun q hq hi => ?_, fun p q hp hq hDp hDq => ?_, fun p hp hDp => ?_, fun p v hDp ha hi => ?_, fun Q hs hq => ?_⟩, fun q hq => ?_, ?_⟩, rfl⟩
      · dsimp only
        rcases z4 q with k | ⟨-, k2, -, -⟩
        · rw [k]; exact i3 q hq hi
        · rw [hi] at k2; cases k2
      · dsimp only at hDp hDq ⊢
        have hqb : q ≠ b := fun e => by rw [if_pos e] at hDq; cases hDq
        rw [if_neg hqb] at hDq
        have hqlow := hlow q hq hDq
        by_cases ep : p = b
        · rw [ep, hge b b1 (Or.inr rfl)]; exact hqlow
        · rw [if_neg ep] at hDp
          rw [hge p hp (Or.inl hDp)]
          have := i4 p b hp b1 hDp b2
          omega
      · dsimp only at hDp ⊢
        by_cases ep : p = b
        · have := hle p
          rw [ep] at this ⊢
          omega
        · rw [if_neg ep] at hDp
          have := hle p
          have := i5 p hp hDp
          omega
      · dsimp only at hDp ⊢
        by_cases ep : p = b
        · subst ep
          rw [hge p b1 (Or.inr rfl)]
          exact z5 v ha hi
        · rw [if_neg ep] at hDp
          rw [hge p ha.1 (Or.inl hDp)]
          have := i6 p v hDp ha hi
          have := hle v
          omega
      · intro q hq4 hiq
        dsimp only
        rcases z4 q with k | ⟨k1, k2, k3, k4⟩
        · rw [k]; exact i7 Q hs hq q hq4 hiq
        · rw [k3]; exact hs b q _ k1 hins k2 (i7 Q hs hq b b1 hins)
      · dsimp only
        rw [z2, su_1]
        by_cases eq : q = b
        · have hx : (if q = b then true else D q) = true := if_pos eq
          rw [if_pos ⟨rfl, eq⟩, if_pos hx]
        · have hx : (if q = b then true else D q) = D q := if_neg eq
          rw [if_neg (fun z => eq z.2), w4 q hq]
          by_cases hDq : D q = true
          · rw [if_pos hDq, if_pos (hx.trans hDq)]
          · rw [if_neg hDq, if_neg (fun z => hDq (hx.symm.trans z))]
      · have hu := fb_ct_upd D true (i := b) b1
        rw [b2, if_neg (by decide), if_pos rfl, w5, Nat.add_zero] at hu
        exact hu) (x := (u, g0, fun _ => false)) ⟨u1, u3, ⟨fun q _ => Nat.le_refl _, hb, ho, fun p q _ _ h => (by cases h), fun p _ h => (by cases h), fun p v h => (by cases h), fun Q _ h => h⟩, fun q hq => by rw [u4 q hq]; rfl, fb_ct_zero.mpr (fun k _ => rfl)⟩ with ⟨⟨z, g, D⟩, ⟨z1, z2, z3, z4, z5⟩, e⟩ | ⟨z, g, e, h⟩
  · dsimp only at z1 z2 z3 z4 z5 e
    have hall : ∀ q, q < 400 → D q = true := fb_ct_all.mp z5
    refine ⟨z, g, ?_, fin z g D z1 z2 z3 (fun q hq hd => by rw [hall q hq] at hd; cases hd)⟩
    rw [e_M_goesOn_0, pk_mul, e1, e_M_goesOn_8, if_pos (nI_le (by decide) (by decide))]
    refine Eq.trans e ?_
    rw [e_M_goesOn_30, if_pos (nI_le (by decide) (by decide))]
  · refine ⟨z, g, ?_, h⟩
    rw [e_M_goesOn_0, pk_mul, e1, e_M_goesOn_8, if_pos (nI_le (by decide) (by decide))]
    exact e

/-! cutting: the class -/
theorem rd_122 (X : qz_X) : rd X 122 := fun _ _ _ h => i_U_tin h
theorem rd_123 (X : qz_X) : rd X 123 := fun _ _ _ h => i_U_anchors h
def holR (u : sT) (t : Nat → Bool) (N : Nat) : Prop := ∀ k, k < N → ∀ y, y < 20 → ∀ x, x < 32 → bt (u.1 119 (20 * k + y)) x = (decide (x < 20) && (t (20 * y + x) && decide (pnq t (20 * y + x) = k)))
theorem prepare_run (X : qz_X) {s : sT} {q : Nat} {A : shT} (hq : isS q) (ok : okA A) (hC : isC s q A) {t : Nat → Bool} (hP : Pcs s t) {N : Nat} (hN : np t 400 = N) (h8 : N ≤ 8) : ∃ u : sT, rn 275 0 [some (.ref 117), some (.ref q), some (.ref 96), some (.int (nI N)), none, none] [] (mk X s) = some (none, mk X u) ∧ u.2 = s.2 ∧ (∀ c, c ∉ [119, 123] → u.1 c = s.1 c) ∧ rows (u.1 123) (rim A) ∧ holR u t N := by
  have sg := isS_gap q hq
  have h97 : ∀ j, j < 400 → s.1 97 j = if t j then nI (pnq t j) else -1 := fun j hj => by rw [hP.2.1 j hj, pO_at hj]
  have hnp := np_le t (i := 400) (by decide)
  obtain ⟨u, ⟨u2, uc, ua, uh⟩, e⟩ := it_up (fun y (u : sT) => rn 275 3 [some (.ref 117), some (.ref q), some (.ref 96), some (.int (nI N)), some (.int (nI y)), none] [] (mk X u)) (fun y u => u.2 = s.2 ∧ (∀ c, c ∉ [119, 123] → u.1 c = s.1 c) ∧ (∀ y', y' < y → ∀ x, x < 32 → bt (u.1 123 y') x = (decide (x < 20) && rim A (20 * y' + x))) ∧ ∀ k, k < N → ∀ y', y' < y → ∀ x, x < 32 → bt (u.1 119 (20 * k + y')) x = (decide (x < 20) && (t (20 * y' + x) && decide (pnq t (20 * y' + x) = k)))) (Nat.zero_le 20) (by
    rintro y u _ hy ⟨u2, uc, ua, uh⟩
    try dsimp only
    have hCu : isC u q A := isC_cong (fun i hi => uc _ (by simp; omega)) hC
    obtain ⟨r, er, br⟩ := rimRow_run X hq ok hCu hy
    obtain ⟨z, ⟨z2, zc, z3, zh⟩, ez⟩ := it_up (fun k (z : sT) => rn 275 26 [some (.ref 117), some (.ref q), some (.ref 96), some (.int (nI N)), some (.int (nI y)), some (.int (nI k))] [] (mk X z)) (fun k z => z.2 = s.2 ∧ (∀ c, c ∉ [119] → z.1 c = (su u 123 y r).1 c) ∧ (∀ i, (∀ k', k' < k → i ≠ 20 * k' + y) → z.1 119 i = u.1 119 i) ∧ ∀ k', k' < k → ∀ x, x < 32 → bt (z.1 119 (20 * k' + y)) x = (decide (x < 20) && (t (20 * y + x) && decide (pnq t (20 * y + x) = k')))) (Nat.zero_le N) (by
      rintro k z _ hk ⟨z2, zc, z3, zh⟩
      try dsimp only
      obtain ⟨r2, e2, b2⟩ := rowOf_run X z (nI k) hy
      have hz97 : ∀ j, z.1 97 j = s.1 97 j := fun j => by rw [zc 97 (by decide), su_1, if_neg (by omega), uc 97 (by decide)]
      refine ⟨su z 119 (20 * k + y) r2, ⟨z2, fun c hc => ?_, fun i hi => ?_, fun k' hk' x hx => ?_⟩, ?_⟩
      · have hc2 := hc
        simp only [List.mem_cons, List.not_mem_nil, or_false] at hc2
        funext j
        rw [su_1, if_neg (fun e => hc2 e.1), zc c hc]
      · have := hi k (Nat.lt_succ_self k)
        rw [su_1, if_neg (fun e => this e.2), z3 i (fun k' hk' => hi k' (by omega))]
      · rw [su_1]
        by_cases e : k' = k
        · subst e
          rw [if_pos ⟨rfl, rfl⟩, b2 x hx, hz97]
          by_cases h20 : x < 20
          · rw [h97 _ (by omega), decide_eq_true h20, Bool.true_and, Bool.true_and]
            cases ht : t (20 * y + x)
            · rw [if_neg (by decide), decide_eq_false (fun z => nI_m1 (by omega) z.symm)]; rfl
            · have hl := pnq_lt (show 20 * y + x < 400 by omega) ht
              rw [if_pos rfl, Bool.true_and]
              by_cases e2 : pnq t (20 * y + x) = k'
              · rw [e2, decide_eq_true rfl, decide_eq_true rfl]
              · rw [decide_eq_false e2, decide_eq_false (fun z => e2 ((nI_eq (by omega) (by omega)).mp z))]
          · rw [decide_eq_false h20]; rfl
        · rw [if_neg (by omega), zh k' (by omega) x hx]
      · rw [e_Cutting_prepare_26, if_neg (nI_ge hk (by omega)), g_U_holes, ck_P, e2, r1_s, ydx, w_U_holes (by omega), nI_add]) (x := su u 123 y r) ⟨u2, fun _ _ => rfl, fun i _ => by rw [su_1, if_neg (by omega)], fun k' hk' => absurd hk' (Nat.not_lt_zero k')⟩
    try dsimp only at ez
    refine ⟨z, ⟨z2, fun c hc => ?_, fun y' hy' x hx => ?_, fun k hk y' hy' x hx => ?_⟩, ?_⟩
    · have hc2 := hc
      simp only [List.mem_cons, List.not_mem_nil, or_false, not_or] at hc2
      rw [zc c (by simp; omega)]
      funext j
      rw [su_1, if_neg (by omega), uc c hc]
    · rw [zc 123 (by decide), su_1]
      by_cases e : y' = y
      · rw [if_pos ⟨rfl, e⟩, e, br x hx]
      · rw [if_neg (fun z => e z.2), ua y' (by omega) x hx]
    · by_cases e : y' = y
      · rw [e]; exact zh k hk x hx
      · rw [z3 _ (fun k' _ => by omega), uh k hk y' (by omega) x hx]
    · rw [e_Cutting_prepare_3, if_neg (nI_ge hy (by decide)), g_U_anchors, ck_S hq, er, r1_s, w_U_anchors hy, ez, e_Cutting_prepare_26, if_pos (nI_le (Nat.le_refl N) (by omega)), nI_add]) (x := s) ⟨rfl, fun _ _ => rfl, fun y' hy' => absurd hy' (Nat.not_lt_zero y'), fun k _ y' hy' => absurd hy' (Nat.not_lt_zero y')⟩
  try dsimp only at e
  refine ⟨u, ?_, u2, uc, ua, fun k hk y hy => uh k hk y hy⟩
  rw [e_Cutting_prepare_0, e, e_Cutting_prepare_3, if_pos (nI_le (by decide) (by decide))]
theorem looseBehind_run (X : qz_X) {s : sT} {q : Nat} {A : shT} (hq : isS q) (ok : okA A) (hC : isC s q A) {t : Nat → Bool} {N : Nat} (h8 : N ≤ 8) (hN : ∀ j, j < 400 → t j = true → pnq t j < N) (ha : rows (s.1 123) (rim A)) (hh : holR s t N) {T : Nat} (hT : T < 256) : ∃ z : sT, rn 276 0 [some (.ref 117), some (.ref q), some (.int (nI T)), some (.int (nI N)), some (.ref 86), none, none, none] [] (mk X s) = some (some (.int (nI (lzB A t T))), mk X z) ∧ z.2 = s.2 ∧ (∀ c, c ∉ [86, 90, 91, 92, 93, 94, 95, 122] → z.1 c = s.1 c) := by
  have sg := isS_gap q hq
  have o1 := ok.1
  obtain ⟨⟨u, v⟩, ⟨u2, uc, ur, hv⟩, e⟩ := it_up (fun y (x : sT × Int32) => rn 276 6 [some (.ref 117), some (.ref q), some (.int (nI T)), some (.int (nI N)), some (.ref 86), some (.int x.2), some (.int (nI y)), none] [] (mk X x.1)) (fun y x => x.1.2 = s.2 ∧ (∀ c, c ≠ 122 → x.1.1 c = s.1 c) ∧ (∀ y', y' < y → ∀ x', x' < 32 → bt (x.1.1 122 y') x' = (decide (x' < 20) && tcB A t T (20 * y' + x'))) ∧ x.2 = nI (fb_sm (fun y => fb_ct (fun x => tcB A t T (20 * y + x)) 20) y)) (Nat.zero_le 20) (by
    rintro y ⟨u, v⟩ _ hy ⟨u2, uc, ur, hv⟩
    dsimp only at u2 uc ur hv ⊢
    subst hv
    have hCu : isC u q A := isC_cong (fun i hi => uc _ (by omega)) hC
    obtain ⟨r, er, br⟩ := fullRow_run X hq ok hCu (y := y) (by omega)
    obtain ⟨z, ⟨z2, zc, zo, zr⟩, ez⟩ := it_up (fun k (z : sT) => rn 276 29 [some (.ref 117), some (.ref q), some (.int (nI T)), some (.int (nI N)), some (.ref 86), some (.int (nI (fb_sm (fun y => fb_ct (fun x => tcB A t T (20 * y + x)) 20) y))), some (.int (nI y)), some (.int (nI k))] [] (mk X z)) (fun k z => z.2 = s.2 ∧ (∀ c, c ≠ 122 → z.1 c = s.1 c) ∧ (∀ j, j ≠ y → z.1 122 j = u.1 122 j) ∧ ∀ x, x < 32 → bt (z.1 122 y) x = (decide (x < 20) && (ins A (20 * y + x) && !(t (20 * y + x) && (decide (pnq t (20 * y + x) < k) && T.testBit (pnq t (20 * y + x))))))) (Nat.zero_le N) (by
      rintro k z _ hk ⟨z2, zc, zo, zr⟩
      try dsimp only
      have nx : ∀ v : Int32, (∀ x, x < 32 → bt v x = (bt (z.1 122 y) x && !(t (20 * y + x) && (decide (pnq t (20 * y + x) = k) && T.testBit k)))) → (su z 122 y v).2 = s.2 ∧ (∀ c, c ≠ 122 → (su z 122 y v).1 c = s.1 c) ∧ (∀ j, j ≠ y → (su z 122 y v).1 122 j = u.1 122 j) ∧ ∀ x, x < 32 → bt ((su z 122 y v).1 122 y) x = (decide (x < 20) && (ins A (20 * y + x) && !(t (20 * y + x) && (decide (pnq t (20 * y + x) < k + 1) && T.testBit (pnq t (20 * y + x)))))) := by
        intro v hv
        refine ⟨z2, fun c hc => ?_, fun j hj => ?_, fun x hx => ?_⟩
        · funext j
          rw [su_1, if_neg (fun e => hc e.1), zc c hc]
        · rw [su_1, if_neg (fun e => hj e.2), zo j hj]
        · rw [su_1, if_pos ⟨rfl, rfl⟩, hv x hx, zr x hx]
          cases decide (x < 20)
          · rfl
          · cases ins A (20 * y + x)
            · rfl
            · cases t (20 * y + x)
              · rfl
              · by_cases e : pnq t (20 * y + x) = k
                · rw [e, decide_eq_false (Nat.lt_irrefl k), decide_eq_true (Nat.lt_succ_self k), decide_eq_true rfl]
                  cases T.testBit k <;> rfl
                · rw [decide_eq_false e]
                  by_cases g : pnq t (20 * y + x) < k
                  · rw [decide_eq_true g, decide_eq_true (show pnq t (20 * y + x) < k + 1 by omega)]
                    cases T.testBit (pnq t (20 * y + x)) <;> rfl
                  · rw [decide_eq_false g, decide_eq_false (show ¬ pnq t (20 * y + x) < k + 1 by omega)]
                    rfl
      rw [e_Cutting_looseBehind_29, if_neg (nI_ge hk (by omega)), g_U_tin, i_U_tin hy, nI_add]
      cases hb : T.testBit k
      · rw [if_pos ((b_selz _ (by omega)).mpr (by rw [bt_nat (by omega), hb])), w_U_tin hy]
        rw [hb] at nx
        exact ⟨_, nx (z.1 122 y &&& (-1)) (fun x hx => by rw [b_and, b_m1 x hx]; simp), rfl⟩
      · rw [if_neg (fun z => by rw [b_selz _ (by omega), bt_nat (by omega), hb] at z; cases z), g_U_holes, ydx, i_U_holes (by omega), w_U_tin hy]
        rw [hb] at nx
        refine ⟨_, nx (z.1 122 y &&& (z.1 119 (20 * k + y) ^^^ (-1))) (fun x hx => ?_), rfl⟩
        rw [b_and, b_not _ hx, zc 119 (by decide), hh k hk y hy x hx, zr x hx]
        cases decide (x < 20)
        · rfl
        · simp) (x := su u 122 y r) ⟨u2, fun c hc => by funext j; rw [su_1, if_neg (fun e => hc e.1), uc c hc], fun j hj => by rw [su_1, if_neg (fun e => hj e.2)], fun x hx => by
        rw [su_1, if_pos ⟨rfl, rfl⟩, br x hx, decide_eq_false (Nat.not_lt_zero _)]
        unfold ins
        by_cases h20 : x < 20
        · rw [decide_eq_true h20, show (20 * y + x) % 20 = x by omega, show (20 * y + x) / 20 = y by omega]
          simp
        · rw [decide_eq_false h20, decide_eq_false (show ¬ x < A.1 0 by omega)]
          rfl⟩
    try dsimp only at ez
    have hrow : ∀ x, x < 32 → bt (z.1 122 y) x = (decide (x < 20) && tcB A t T (20 * y + x)) := fun x hx => by
      rw [zr x hx]
      by_cases h20 : x < 20
      · rw [decide_eq_true h20]
        unfold tcB
        cases ht : t (20 * y + x)
        · rfl
        · rw [decide_eq_true (hN _ (by omega) ht)]; rfl
      · rw [decide_eq_false h20]; rfl
    refine ⟨(z, nI (fb_sm (fun y => fb_ct (fun x => tcB A t T (20 * y + x)) 20) (y + 1))), ⟨z2, zc, fun y' hy' x hx => ?_, rfl⟩, ?_⟩
    · by_cases e : y' = y
      · rw [e]; exact hrow x hx
      · show bt (z.1 122 y') x = _
        rw [zo y' e]; exact ur y' (by omega) x hx
    · rw [e_Cutting_looseBehind_6, if_neg (nI_ge hy (by decide)), g_U_tin, ck_S hq, er, r1_s, w_U_tin hy, ez, e_Cutting_looseBehind_29, if_pos (nI_le (Nat.le_refl N) (by omega)), g_U_tin, i_U_tin hy, pop_row _ hrow, r1_s, nI_add, nI_add, fb_sm_succ]) (x := (s, nI 0)) ⟨rfl, fun _ _ => rfl, fun y' hy' => absurd hy' (Nat.not_lt_zero y'), rfl⟩
  dsimp only at u2 uc ur hv e
  obtain ⟨z, e2, z2, zc, z86, z90⟩ := walk_run X (s := u) (R := 122) (K := 123) (t := tcB A t T) (a := rim A) (rd_122 X) (by decide) ur (rd_123 X) (by decide) (by rw [uc 123 (by decide)]; exact ha)
  have e4 := ct_rows (tcB A t T) 20
  rw [show 20 * 20 = 400 from rfl] at e4
  have hle : fb_ct (hB (tcB A t T) (rim A)) 400 ≤ fb_ct (tcB A t T) 400 := fb_ct_sub (fun j _ hj => hB_tin hj)
  refine ⟨z, ?_, by rw [z2, u2], fun c hc => ?_⟩
  · rw [e_Cutting_looseBehind_0, e, e_Cutting_looseBehind_6, if_pos (nI_le (by decide) (by decide)), g_U_tin, g_U_anchors, ck_H, e2, r0_s, g_H_reached, z86, ck_H, greatest_run X (d := fun _ => false) (fun q hq => neg1_lt hq) z90 (tgs_le _ _), r1_s, hv, ← e4, pk_sub hle, nI_add]
    rfl
  · simp only [List.mem_cons, List.not_mem_nil, or_false, not_or] at hc
    rw [zc c (by simp; omega), uc c (by omega)]
theorem or1 {S k : Nat} (hk : k < 31) : nI S ||| (nI 1 <<< (nI k &&& 31)) = nI (S ||| 2 ^ k) := by
  rw [pk_shlN (n := 1) _ k (s_l k (by omega)) (by rw [Nat.one_mul]; exact Nat.pow_lt_pow_right (by decide) (by omega)), Nat.one_mul, fa_or]
theorem sub_1 (x : Int32) : x - nI 1 = x + (-1) := by
  rw [Int32.sub_eq_add_neg]
  rfl
theorem max_run (w : qz_W) {a b : Nat} (ha : a < 2 ^ 31) (hb : b < 2 ^ 31) : rn 162 0 [some (.int (nI a)), some (.int (nI b))] [] w = some (some (.int (nI (mxN a b))), w) := by
  rw [e_Math_max_0]
  unfold mxN
  by_cases h : a < b
  · rw [if_pos (nI_lt h hb), if_pos h]
  · rw [if_neg (nI_nlt (by omega) ha), if_neg h]
theorem min_run (w : qz_W) {a b : Nat} (ha : a < 2 ^ 31) (hb : b < 2 ^ 31) : rn 136 0 [some (.int (nI a)), some (.int (nI b))] [] w = some (some (.int (nI (if b < a then b else a))), w) := by
  rw [e_Math_min_0]
  by_cases h : b < a
  · rw [if_pos (nI_lt h ha), if_pos h]
  · rw [if_neg (nI_nlt (by omega) hb), if_neg h]
theorem worst_run (X : qz_X) {s : sT} {l : Nat → Nat} (hl : ∀ T, l T ≤ 800) {N T : Nat} (hT : T < 256) (h1 : s.1 120 T = nI (l T)) (h2 : s.1 121 T = nI (ahB l N T)) : rn 277 0 [some (.ref 117), some (.int (nI T))] [] (mk X s) = some (some (.int (nI (wsB l N T))), mk X s) := by
  have a1 := hl T
  have a2 := ahB_le l N T
  rw [e_Cutting_worstFrom_0, g_U_loose, i_U_loose hT, h1, g_U_ahead, i_U_ahead hT, h2, max_run _ (by omega) (by omega), r1_s]
  rfl
theorem pow_8 {n : Nat} (h : n ≤ 8) : 2 ^ n ≤ 256 := show 2 ^ n ≤ 2 ^ 8 from Nat.pow_le_pow_right (by decide) h
theorem cfollow_run (X : qz_X) {s : sT} {l : Nat → Nat} (hl : ∀ T, l T ≤ 800) {N : Nat} (h8 : N ≤ 8) (h1 : ∀ j, j < 2 ^ N → s.1 120 j = nI (l j) ∧ s.1 121 j = nI (ahB l N j)) : ∃ z : sT, rn 278 0 [some (.ref 117), some (.int (nI N)), none, none, none, none] [] (mk X s) = some (none, mk X z) ∧ z.2 = s.2 ∧ (∀ c, c ≠ 118 → z.1 c = s.1 c) ∧ ∀ i, i < N → z.1 118 i = nI (chB l N (fsB l N i)) := by
  have hp := pow_8 h8
  have hp0 := Nat.two_pow_pos N
  obtain ⟨z, ⟨z2, zc, zt⟩, e⟩ := it_up (fun i (z : sT) => rn 278 4 [some (.ref 117), some (.int (nI N)), some (.int (nI (fsB l N i))), some (.int (nI i)), none, none] [] (mk X z)) (fun i z => z.2 = s.2 ∧ (∀ c, c ≠ 118 → z.1 c = s.1 c) ∧ ∀ j, j < i → z.1 118 j = nI (chB l N (fsB l N j))) (Nat.zero_le N) (by
    rintro i z _ hi ⟨z2, zc, zt⟩
    try dsimp only
    obtain ⟨a1, a2, a3⟩ := fsB_ok hl i (show i ≤ N by omega)
    obtain ⟨b1, b2, b3⟩ := fsB_ch hl hi
    have tb : ∀ T, T < 2 ^ N → z.1 120 T = nI (l T) ∧ z.1 121 T = nI (ahB l N T) := fun T hT => by rw [zc 120 (by decide), zc 121 (by decide)]; exact h1 T hT
    have h0 := (tb 0 hp0).2
    have la := ahB_le l N 0
    have find : rn 278 15 [some (.ref 117), some (.int (nI N)), some (.int (nI (fsB l N i))), some (.int (nI i)), some (.int (-1)), some (.int (nI 0))] [] (mk X z) = rn 278 15 [some (.ref 117), some (.int (nI N)), some (.int (nI (fsB l N i))), some (.int (nI i)), some (.int (-1)), some (.int (nI (chB l N (fsB l N i))))] [] (mk X z) := by
      obtain ⟨v, -, e⟩ := it_up (fun k (_ : Unit) => rn 278 15 [some (.ref 117), some (.int (nI N)), some (.int (nI (fsB l N i))), some (.int (nI i)), some (.int (-1)), some (.int (nI k))] [] (mk X z)) (fun _ _ => True) (Nat.zero_le (chB l N (fsB l N i))) (by
        rintro k _ _ hk _
        try dsimp only
        refine ⟨(), trivial, ?_⟩
        rw [e_Cutting_follow_15, if_neg (nI_ge (show k < N by omega) (by omega)), if_pos rfl, nI_add]
        cases hb : (fsB l N i).testBit k
        · have ho := or_bit a1 (show k < N by omega) hb
          rw [if_pos ((b_selz _ (by omega)).mpr (by rw [bt_nat (by omega), hb])), ck_U, or1 (by omega), worst_run X hl (by omega) (tb _ ho.2).1 (tb _ ho.2).2, r1_s, g_U_ahead, i_U_ahead (by decide), h0]
          rcases chB_no hk with g | g
          · rw [hb] at g; cases g
          · have := wsB_le hl N (fsB l N i ||| 2 ^ k)
            rw [if_pos (nI_lt g (by omega))]
        · rw [if_neg (fun z => by rw [b_selz _ (by omega), bt_nat (by omega), hb] at z; cases z)]) (x := ()) trivial
      exact e
    have ho := or_bit a1 b1 b2
    have tk1 : rn 278 15 [some (.ref 117), some (.int (nI N)), some (.int (nI (fsB l N i))), some (.int (nI i)), some (.int (-1)), some (.int (nI (chB l N (fsB l N i))))] [] (mk X z) = rn 278 65 [some (.ref 117), some (.int (nI N)), some (.int (nI (fsB l N i))), some (.int (nI i)), some (.int (nI (chB l N (fsB l N i)))), none] [] (mk X z) := by
      have := wsB_le hl N (fsB l N i ||| 2 ^ chB l N (fsB l N i))
      rw [e_Cutting_follow_15, if_neg (nI_ge b1 (by omega)), if_pos rfl, if_pos ((b_selz _ (by omega)).mpr (by rw [bt_nat (by omega), b2])), ck_U, or1 (by omega), worst_run X hl (by omega) (tb _ ho.2).1 (tb _ ho.2).2, r1_s, g_U_ahead, i_U_ahead (by decide), h0, if_neg (nI_nlt b3 (by omega)), nI_add, e_Cutting_follow_15, if_neg (nI_m1 (by omega))]
      by_cases g : N ≤ chB l N (fsB l N i) + 1
      · rw [if_pos (nI_le g (by omega))]
      · rw [if_neg (nI_ge (by omega) (by omega))]
    refine ⟨su z 118 i (nI (chB l N (fsB l N i))), ⟨z2, fun c hc => ?_, fun j hj => ?_⟩, ?_⟩
    · funext j
      rw [su_1, if_neg (fun e => hc e.1), zc c hc]
    · rw [su_1]
      by_cases e : j = i
      · rw [if_pos ⟨rfl, e⟩, e]
      · rw [if_neg (fun z => e z.2), zt j (by omega)]
    · rw [e_Cutting_follow_4, if_neg (nI_ge hi (by omega)), find, tk1, e_Cutting_follow_65, if_neg (nI_m1 (by omega)), g_U_places, w_U_places (by omega), or1 (by omega), nI_add]
      rfl) (x := s) ⟨rfl, fun _ _ => rfl, fun j hj => absurd hj (Nat.not_lt_zero j)⟩
  try dsimp only at e
  refine ⟨z, ?_, z2, zc, zt⟩
  rw [e_Cutting_follow_0]
  refine Eq.trans e ?_
  rw [e_Cutting_follow_4, if_pos (nI_le (Nat.le_refl N) (by omega))]
theorem one_8 : ∀ t, t < 9 → (nI 1 <<< (nI t &&& 31)) - nI 1 = nI (2 ^ t - 1) := by decide
theorem plan_run (X : qz_X) {s : sT} {q : Nat} {A : shT} (hq : isS q) (ok : okA A) (hC : isC s q A) {t : Nat → Bool} (hP : Pcs s t) {N : Nat} (hN : np t 400 = N) (h8 : N ≤ 8) : ∃ z : sT, rn 279 0 [some (.ref 117), some (.ref q), some (.ref 96), some (.ref 86), none, none, none, none] [] (mk X s) = some (none, mk X z) ∧ z.2 = s.2 ∧ (∀ c, c ∉ [86, 90, 91, 92, 93, 94, 95, 118, 119, 120, 121, 122, 123] → z.1 c = s.1 c) ∧ z.1 121 0 = nI (ahB (lzB A t) N 0) ∧ ∀ i, i < N → z.1 118 i = nI (chB (lzB A t) N (fsB (lzB A t) N i)) := by
  have sg := isS_gap q hq
  have hp := pow_8 h8
  have hp0 := Nat.two_pow_pos N
  have hl := lzB_le A t
  have hpn : ∀ j, j < 400 → t j = true → pnq t j < N := fun j hj ht => by rw [← hN]; exact pnq_lt hj ht
  obtain ⟨u, e1, u2, uc, ua, uh⟩ := prepare_run X hq ok hC hP hN h8
  -- what stays through the tables
  have stp : ∀ (w : sT), (w.2 = s.2 ∧ (∀ c, c ∉ [86, 90, 91, 92, 93, 94, 95, 120, 121, 122] → w.1 c = u.1 c)) → ∀ T, T < 256 → ∃ z : sT, rn 276 0 [some (.ref 117), some (.ref q), some (.int (nI T)), some (.int (nI N)), some (.ref 86), none, none, none] [] (mk X w) = some (some (.int (nI (lzB A t T))), mk X z) ∧ (z.2 = s.2 ∧ (∀ c, c ∉ [86, 90, 91, 92, 93, 94, 95, 120, 121, 122] → z.1 c = u.1 c)) ∧ z.1 120 = w.1 120 ∧ z.1 121 = w.1 121 := by
    intro w hw T hT
    have hCw : isC w q A := isC_cong (fun i hi => by rw [hw.2 _ (by simp; omega), uc _ (by simp; omega)]) hC
    obtain ⟨z, ez, z2, zc⟩ := looseBehind_run X hq ok hCw h8 hpn (by rw [hw.2 123 (by decide)]; exact ua) (fun k hk y hy x hx => by rw [hw.2 119 (by decide)]; exact uh k hk y hy x hx) hT
    refine ⟨z, ez, ⟨by rw [z2, hw.1], fun c hc => ?_⟩, zc 120 (by decide), zc 121 (by decide)⟩
    rw [← hw.2 c hc]
    simp only [List.mem_cons, List.not_mem_nil, or_false, not_or] at hc
    exact zc c (by simp; omega)
  have put : ∀ (w : sT) (c k : Nat) (v : Int32), c = 120 ∨ c = 121 → (w.2 = s.2 ∧ (∀ c, c ∉ [86, 90, 91, 92, 93, 94, 95, 120, 121, 122] → w.1 c = u.1 c)) → ((su w c k v).2 = s.2 ∧ (∀ c', c' ∉ [86, 90, 91, 92, 93, 94, 95, 120, 121, 122] → (su w c k v).1 c' = u.1 c')) := by
    intro w c k v hc hw
    refine ⟨hw.1, fun c' hc' => ?_⟩
    have hc2 := hc'
    simp only [List.mem_cons, List.not_mem_nil, or_false, not_or] at hc2
    funext j
    rw [su_1, if_neg (by omega), hw.2 c' hc']
  obtain ⟨z0, ez0, hz0, z120, z121⟩ := stp (su u 121 (2 ^ N - 1) (nI 0)) (put u 121 _ _ (Or.inr rfl) ⟨u2, fun _ _ => rfl⟩) (2 ^ N - 1) (by omega)
  obtain ⟨z, ⟨hz, zt⟩, e2⟩ := it_dn (fun i (z : sT) => rn 279 58 [some (.ref 117), some (.ref q), none, some (.ref 86), some (.int (nI N)), none, some (.int (nI i + (-1))), none] [] (mk X z)) (fun i z => (z.2 = s.2 ∧ (∀ c, c ∉ [86, 90, 91, 92, 93, 94, 95, 120, 121, 122] → z.1 c = u.1 c)) ∧ ∀ j, i ≤ j → j < 2 ^ N → z.1 120 j = nI (lzB A t j) ∧ z.1 121 j = nI (ahB (lzB A t) N j)) (2 ^ N - 1) (by
    rintro i w hi ⟨hw, wt⟩
    try dsimp only
    rw [pk_m1, e_Cutting_plan_58, if_neg (nI_pos (by omega)), g_U_loose, ck_U]
    obtain ⟨a, ea, ha, a120, a121⟩ := stp w hw i (by omega)
    rw [ea, r1_s, w_U_loose (by omega), g_U_ahead, w_U_ahead (by omega)]
    obtain ⟨b, ⟨hb, b120, bo, bi⟩, eb⟩ := it_up (fun k (z : sT) => rn 279 93 [some (.ref 117), some (.ref q), none, some (.ref 86), some (.int (nI N)), none, some (.int (nI i)), some (.int (nI k))] [] (mk X z)) (fun k z => (z.2 = s.2 ∧ (∀ c, c ∉ [86, 90, 91, 92, 93, 94, 95, 120, 121, 122] → z.1 c = u.1 c)) ∧ z.1 120 = (su a 120 i (nI (lzB A t i))).1 120 ∧ (∀ j, j ≠ i → z.1 121 j = a.1 121 j) ∧ z.1 121 i = nI (mnk (wsB (lzB A t) N) 800 i k)) (Nat.zero_le N) (by
      rintro k z _ hk ⟨hz, z120, zo, zi⟩
      try dsimp only
      have hs : mnk (wsB (lzB A t) N) 800 i (k + 1) = if i.testBit k then mnk (wsB (lzB A t) N) 800 i k else if wsB (lzB A t) N (i ||| 2 ^ k) < mnk (wsB (lzB A t) N) 800 i k then wsB (lzB A t) N (i ||| 2 ^ k) else mnk (wsB (lzB A t) N) 800 i k := rfl
      rw [e_Cutting_plan_93, if_neg (nI_ge hk (by omega)), nI_add]
      cases hb : i.testBit k
      · have ho := or_bit (show i < 2 ^ N by omega) hk hb
        have m1 := mnk_le (g := wsB (lzB A t) N) (F := 800) (S := i) k
        have m2 := wsB_le hl N (i ||| 2 ^ k)
        have t1 : z.1 120 (i ||| 2 ^ k) = nI (lzB A t (i ||| 2 ^ k)) := by
          rw [z120, su_1, if_neg (by omega), a120]
          exact (wt _ (by omega) ho.2).1
        have t2 : z.1 121 (i ||| 2 ^ k) = nI (ahB (lzB A t) N (i ||| 2 ^ k)) := by
          rw [zo _ (by omega), a121]
          exact (wt _ (by omega) ho.2).2
        rw [hb, if_neg (by decide)] at hs
        rw [if_pos ((b_selz _ (by omega)).mpr (by rw [bt_nat (by omega), hb])), g_U_ahead, g_U_ahead, i_U_ahead (by omega), zi, ck_U, or1 (by omega), worst_run X hl (by omega) t1 t2, r1_s, min_run _ (by omega) (by omega), r1_s, w_U_ahead (by omega)]
        refine ⟨_, ⟨put z 121 i _ (Or.inr rfl) hz, ?_, fun j hj => ?_, ?_⟩, rfl⟩
        · funext j
          rw [su_1, if_neg (by omega), z120]
        · rw [su_1, if_neg (fun e => hj e.2), zo j hj]
        · rw [su_1, if_pos ⟨rfl, rfl⟩, hs]
      · rw [hb, if_pos rfl] at hs
        rw [if_neg (fun z => by rw [b_selz _ (by omega), bt_nat (by omega), hb] at z; cases z)]
        exact ⟨z, ⟨hz, z120, zo, by rw [hs]; exact zi⟩, rfl⟩) (x := su (su a 120 i (nI (lzB A t i))) 121 i (nI 800)) ⟨put _ 121 i _ (Or.inr rfl) (put a 120 i _ (Or.inl rfl) ha), by funext j; rw [su_1, if_neg (by omega)], fun j hj => by rw [su_1, if_neg (fun e => hj e.2), su_1, if_neg (by omega)], by rw [su_1, if_pos ⟨rfl, rfl⟩]; rfl⟩
    try dsimp only at eb
    refine ⟨b, ⟨hb, fun j hj hj2 => ?_⟩, ?_⟩
    · by_cases e : j = i
      · subst e
        rw [b120, su_1, if_pos ⟨rfl, rfl⟩, bi, ahB_eq (by omega)]
        exact ⟨rfl, rfl⟩
      · rw [b120, su_1, if_neg (fun z => e z.2), bo j e, a120, a121]
        exact wt j (by omega) hj2
    · rw [eb, e_Cutting_plan_93, if_pos (nI_le (Nat.le_refl N) (by omega))]) (x := su z0 120 (2 ^ N - 1) (nI (lzB A t (2 ^ N - 1)))) ⟨put z0 120 _ _ (Or.inl rfl) hz0, fun j h1 h2 => by
      have e : j = 2 ^ N - 1 := by omega
      subst e
      rw [su_1, if_pos ⟨rfl, rfl⟩, su_1, if_neg (by omega), z121, su_1, if_pos ⟨rfl, rfl⟩, ahB_all]
      exact ⟨rfl, rfl⟩⟩
  try dsimp only at e2
  obtain ⟨f, ef, f2, fc, ft⟩ := cfollow_run X hl h8 (fun j hj => zt j (Nat.zero_le j) hj)
  have h96 : s.1 96 0 = nI N := by rw [hP.1, hN]
  refine ⟨f, ?_, by rw [f2, hz.1], fun c hc => ?_, by rw [fc 121 (by decide)]; exact (zt 0 (Nat.le_refl 0) hp0).2, ft⟩
  · rw [e_Cutting_plan_0, g_P_number, h96, e_Math_min_0, if_neg (nI_nlt h8 (by decide)), r1_s, ck_U, e1, r0_s, g_U_ahead, one_8 N (by omega), w_U_ahead (by omega), g_U_loose, ck_U, ez0, r1_s, w_U_loose (by omega), sub_1, e2, e_Cutting_plan_58, if_pos (by decide), ck_U, ef, r0_s]
  · simp only [List.mem_cons, List.not_mem_nil, or_false, not_or] at hc
    rw [fc c (by omega), hz.2 c (by simp; omega), uc c (by simp; omega)]

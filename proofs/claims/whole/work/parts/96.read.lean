/-! reading: the reference; read -/
theorem tin_hz {A : shT} {Y b x : Nat} (hx : x < A.1 0) (hb : Y + b < A.1 1) (h20 : A.1 0 ≤ 20) : (!A.2.1 (20 * (Y + b) + x) || brs A (nI (A.1 5)) (20 * (Y + b) + x)) = !hzB A Y b x := by
  have hin : ins A (20 * (Y + b) + x) = true := ins_iff.mpr ⟨by omega, by omega⟩
  unfold hzB hol tin
  rw [hin, decide_eq_true hb]
  cases (!A.2.1 (20 * (Y + b) + x) || brs A (nI (A.1 5)) (20 * (Y + b) + x)) <;> rfl
theorem M_unlike_run (X : qz_X) {s : sT} {m : Nat} {A : shT} {Y : Nat} (hm : m < 7) (ok : okA A) (hM : isM (gN s) m A) (hY : Y < A.1 1) {k x : Nat} (hk : k < A.1 3) (hx : x + A.2.2.2.2 3 k ≤ A.1 0) : rn 267 0 [some (.ref 318), some (.int (nI m)), some (.int (nI (8 * m + k))), some (.int (nI x)), some (.int (nI Y)), none, none, none, none] [] (mk X s) = some (some (.int (nI (coR A Y k x))), mk X s) := by
  have o1 := ok.1
  have o2 := ok.2.1
  have o4 := ok.2.2.2.1
  obtain ⟨w1, w2, w3⟩ := ok.2.2.2.2.2.2.2.2.2.2.2.2.2 k hk
  obtain ⟨c1, c2, c3⟩ := hM.2.2.2.2.1 k hk
  have c1 : s.1 325 (8 * m + k) = nI (A.2.2.2.2 3 k) := c1
  have c2 : s.1 326 (8 * m + k) = nI (A.2.2.2.2 4 k) := c2
  obtain ⟨v, rfl, e⟩ := it_up (fun b (v : Int32) => rn 267 6 [some (.ref 318), some (.int (nI m)), some (.int (nI (8 * m + k))), some (.int (nI x)), some (.int (nI Y)), some (.int v), some (.int (nI b)), none, none] [] (mk X s)) (fun b v => v = nI (fb_sm (fun y => fb_ct (fun i => hzB A Y y (x + i) ^^ (A.2.2.2.2 5 (8 * k + y)).testBit i) (A.2.2.2.2 3 k)) b)) (Nat.zero_le (A.2.2.2.2 4 k)) (by
    rintro b v _ hb rfl
    try dsimp only
    refine ⟨_, rfl, ?_⟩
    have hrow : s.1 327 (8 * (8 * m + k) + b) = nI (A.2.2.2.2 5 (8 * k + b)) := c3 b hb
    have hlt2 : A.2.2.2.2 5 (8 * k + b) < 2 ^ 31 := Nat.lt_of_lt_of_le (w3 b hb) (Nat.pow_le_pow_right (by decide) (by omega))
    obtain ⟨v, rfl, e2⟩ := it_up (fun a (v : Int32) => rn 267 20 [some (.ref 318), some (.int (nI m)), some (.int (nI (8 * m + k))), some (.int (nI x)), some (.int (nI Y)), some (.int v), some (.int (nI b)), some (.int (nI a)), none] [] (mk X s)) (fun a v => v = nI (fb_sm (fun y => fb_ct (fun i => hzB A Y y (x + i) ^^ (A.2.2.2.2 5 (8 * k + y)).testBit i) (A.2.2.2.2 3 k)) b + fb_ct (fun i => hzB A Y b (x + i) ^^ (A.2.2.2.2 5 (8 * k + b)).testBit i) a)) (Nat.zero_le (A.2.2.2.2 3 k)) (by
      rintro a v _ ha rfl
      try dsimp only
      refine ⟨_, rfl, ?_⟩
      rw [e_M_unlike_20, g_M_shapeWide, i_M_shapeWide (by omega), c1, if_neg (nI_ge ha (by omega)), ck_M, M_high_run X hm hM, r1_s, nI_add, fb_ct_succ]
      have un : ∀ c : Bool, rn 104 0 [some (.int (if c then nI 1 else nI 0))] [] (mk X s) = some (some (.int (if c then nI 1 else nI 0)), mk X s) := fun c => M_unit_run _ c
      have u1 : rn 104 0 [some (.int (nI 1))] [] (mk X s) = some (some (.int (nI 1)), mk X s) := un true
      have u0 : rn 104 0 [some (.int (nI 0))] [] (mk X s) = some (some (.int (nI 0)), mk X s) := un false
      have e66 : rn 267 66 [some (.ref 318), some (.int (nI m)), some (.int (nI (8 * m + k))), some (.int (nI x)), some (.int (nI Y)), some (.int (nI (fb_sm (fun y => fb_ct (fun i => hzB A Y y (x + i) ^^ (A.2.2.2.2 5 (8 * k + y)).testBit i) (A.2.2.2.2 3 k)) b + fb_ct (fun i => hzB A Y b (x + i) ^^ (A.2.2.2.2 5 (8 * k + b)).testBit i) a))), some (.int (nI b)), some (.int (nI a)), none] [] (mk X s) = rn 267 20 [some (.ref 318), some (.int (nI m)), some (.int (nI (8 * m + k))), some (.int (nI x)), some (.int (nI Y)), some (.int (nI (fb_sm (fun y => fb_ct (fun i => hzB A Y y (x + i) ^^ (A.2.2.2.2 5 (8 * k + y)).testBit i) (A.2.2.2.2 3 k)) b + fb_ct (fun i => hzB A Y b (x + i) ^^ (A.2.2.2.2 5 (8 * k + b)).testBit i) a + (if (A.2.2.2.2 5 (8 * k + b)).testBit a then 1 else 0)))), some (.int (nI b)), some (.int (nI (a + 1))), none] [] (mk X s) := by
        rw [e_M_unlike_66, g_M_shapeRow, pk_mul, nI_add, i_M_shapeRow (by omega), hrow, M_has_run _ _ (by omega), r1_s, told_one, bt_nat (by omega), nI_add]
        cases (A.2.2.2.2 5 (8 * k + b)).testBit a
        · rw [if_neg (by decide), if_neg (by decide), u0, r1_s, nI_add]
        · rw [if_pos rfl, if_pos rfl, u1, r1_s, nI_add]
      by_cases hin : Y + b < A.1 1
      · rw [if_neg (nI_ge hin (by omega)), ck_M, M_in_run X hm hM, r1_s, ck_M, nI_add, M_isTin_run X hm hM _ (by omega) (by omega), r1_s, tin_hz (show x + a < A.1 0 by omega) hin o1.2]
        cases hz : hzB A Y b (x + a)
        · rw [if_neg (by decide), e66, Nat.add_assoc, Bool.false_xor]
        · rw [if_pos (by decide), g_M_shapeRow, pk_mul, nI_add, i_M_shapeRow (by omega), hrow, M_has_run _ _ (by omega), r1_s, bt_nat (by omega), nI_add, Bool.true_xor]
          cases (A.2.2.2.2 5 (8 * k + b)).testBit a
          · rw [if_pos (by decide), u1, r1_s, nI_add]
            rfl
          · rw [if_neg (by decide), u0, r1_s, nI_add]
            rfl
      · have hz : hzB A Y b (x + a) = false := by unfold hzB; rw [decide_eq_false hin]; rfl
        rw [if_pos (nI_le (by omega) (by omega)), e66, hz, Nat.add_assoc, Bool.false_xor]) (x := nI (fb_sm (fun y => fb_ct (fun i => hzB A Y y (x + i) ^^ (A.2.2.2.2 5 (8 * k + y)).testBit i) (A.2.2.2.2 3 k)) b)) rfl
    try dsimp only at e2
    rw [e_M_unlike_6, g_M_shapeHigh, i_M_shapeHigh (by omega), c2, if_neg (nI_ge hb (by omega)), e2, e_M_unlike_20, g_M_shapeWide, i_M_shapeWide (by omega), c1, if_pos (nI_le (Nat.le_refl _) (by omega)), nI_add, fb_sm_succ]) (x := nI 0) rfl
  try dsimp only at e
  rw [e_M_unlike_0, e, e_M_unlike_6, g_M_shapeHigh, i_M_shapeHigh (by omega), c2, if_pos (nI_le (Nat.le_refl _) (by omega))]
  rfl
theorem M_leftOut_run (X : qz_X) {s : sT} {m : Nat} {A : shT} {Y : Nat} (hm : m < 7) (ok : okA A) (hM : isM (gN s) m A) (hY : Y < A.1 1) {x : Nat} (hx : x < A.1 0) : rn 269 0 [some (.ref 318), some (.int (nI m)), some (.int (nI x)), some (.int (nI Y)), none, none] [] (mk X s) = some (some (.int (nI (loR A Y x))), mk X s) := by
  have o1 := ok.1
  have o2 := ok.2.1
  have hmin : rn 136 0 [some (.int (nI (Y + 8))), some (.int (nI (A.1 1)))] [] (mk X s) = some (some (.int (nI (if A.1 1 < Y + 8 then A.1 1 else Y + 8))), mk X s) := min_run _ (by omega) (by omega)
  obtain ⟨D, hD⟩ : ∃ D, (if A.1 1 < Y + 8 then A.1 1 else Y + 8) = Y + D := ⟨(if A.1 1 < Y + 8 then A.1 1 else Y + 8) - Y, by split <;> omega⟩
  rw [hD] at hmin
  have hD8 : D ≤ 8 ∧ Y + D ≤ A.1 1 ∧ (D = 8 ∨ Y + D = A.1 1) := by
    split at hD <;> omega
  obtain ⟨v, rfl, e⟩ := it_up (fun i (v : Int32) => rn 269 6 [some (.ref 318), some (.int (nI m)), some (.int (nI x)), some (.int (nI Y)), some (.int v), some (.int (nI (Y + i)))] [] (mk X s)) (fun i v => v = nI (fb_ct (fun k => hzB A Y k x) i)) (Nat.zero_le D) (by
    rintro i v _ hi rfl
    try dsimp only
    refine ⟨_, rfl, ?_⟩
    have un : ∀ c : Bool, rn 104 0 [some (.int (if c then nI 1 else nI 0))] [] (mk X s) = some (some (.int (if c then nI 1 else nI 0)), mk X s) := fun c => M_unit_run _ c
    have u1 : rn 104 0 [some (.int (nI 1))] [] (mk X s) = some (some (.int (nI 1)), mk X s) := un true
    have u0 : rn 104 0 [some (.int (nI 0))] [] (mk X s) = some (some (.int (nI 0)), mk X s) := un false
    rw [e_M_leftOut_6, ck_M, M_high_run X hm hM, r1_s, nI_add, hmin, r1_s, if_neg (nI_ge (by omega) (by omega)), ck_M, M_in_run X hm hM, r1_s, ck_M, M_isTin_run X hm hM _ (by omega) (by omega), r1_s, tin_hz hx (by omega) o1.2, fb_ct_succ, nI_add]
    cases hzB A Y i x
    · rw [if_neg (by decide), u0, r1_s, nI_add]
      rfl
    · rw [if_pos (by decide), u1, r1_s, nI_add]
      rfl) (x := nI 0) rfl
  try dsimp only at e
  have htot : fb_ct (fun k => hzB A Y k x) D = loR A Y x := by
    unfold loR
    rw [show (8 : Nat) = D + (8 - D) by omega, fb_ct_split]
    have hz0 : fb_ct (fun k => hzB A Y (D + k) x) (8 - D) = 0 := fb_ct_zero.mpr (fun k hk => by
      show hzB A Y (D + k) x = false
      unfold hzB
      rw [decide_eq_false (by omega)]
      rfl)
    rw [hz0, Nat.add_zero]
  rw [e_M_leftOut_0]
  refine Eq.trans e ?_
  rw [e_M_leftOut_6, ck_M, M_high_run X hm hM, r1_s, nI_add, hmin, r1_s, if_pos (nI_le (Nat.le_refl _) (by omega)), htot]
def tr2 (u : sT) (j : Nat) (x : t3) : Prop := u.1 352 j = nI x.1 ∧ (x.1 < 1000000000 → u.1 353 j = nI x.2.1) ∧ u.2.1 355 j = lN x.2.2
theorem M_takesIn_run (X : qz_X) {s : sT} {a n c us w : Nat} {x : t3} {sh : Int32} (ha : a < 21) (hn : n < 21) (hne : n ≠ a) (h1 : tr2 s a x) (h2 : s.2.1 355 n = lN w) (x1 : x.1 ≤ 1000000000) (c1 : c < 1000000000) (x2 : x.2.1 ≤ 1000) (u1 : us ≤ 1000) (x3 : x.2.2 ≤ 1000000000000000000) (w3 : w ≤ 1000000000000000000) : ∃ z : sT, rn 268 0 [some (.ref 318), some (.int (nI a)), some (.int (nI c)), some (.int (nI us)), some (.int (nI n)), some (.int sh)] [] (mk X s) = some (none, mk X z) ∧ tr2 z a (stp x (c, us, w)) ∧ z.1 354 a = (if lxl (c, us, w) x then sh else s.1 354 a) ∧ (∀ j, j ≠ a → z.1 352 j = s.1 352 j ∧ z.1 353 j = s.1 353 j ∧ z.1 354 j = s.1 354 j ∧ z.2.1 355 j = s.2.1 355 j) ∧ z.2.2 = s.2.2 ∧ ∀ c, c ∉ [352, 353, 354] → z.1 c = s.1 c := by
  obtain ⟨a1, a2, a3⟩ := h1
  -- the second half: ways and cost
  have half : ∀ u : sT, u.1 352 = s.1 352 → u.2 = s.2 → ∃ z : sT, rn 268 45 [some (.ref 318), some (.int (nI a)), some (.int (nI c)), none, some (.int (nI n)), none] [] (mk X u) = some (none, mk X z) ∧ z.1 352 a = nI (stp x (c, us, w)).1 ∧ z.2.1 355 a = lN (stp x (c, us, w)).2.2 ∧ (∀ j, j ≠ a → z.1 352 j = s.1 352 j ∧ z.2.1 355 j = s.2.1 355 j) ∧ z.2.2 = s.2.2 ∧ ∀ c', c' ≠ 352 → z.1 c' = u.1 c' := by
    intro u hu1 hu2
    have b1 : u.1 352 a = nI x.1 := by rw [hu1]; exact a1
    have b3 : u.2.1 355 a = lN x.2.2 := by rw [hu2]; exact a3
    have b4 : u.2.1 355 n = lN w := by rw [hu2]; exact h2
    have fin : ∀ (W : Nat) (C : Nat), C = (stp x (c, us, w)).1 → W = (stp x (c, us, w)).2.2 → ((su (sl u 355 a (lN W)) 352 a (nI C)).1 352 a = nI (stp x (c, us, w)).1 ∧ (su (sl u 355 a (lN W)) 352 a (nI C)).2.1 355 a = lN (stp x (c, us, w)).2.2 ∧ (∀ j, j ≠ a → (su (sl u 355 a (lN W)) 352 a (nI C)).1 352 j = s.1 352 j ∧ (su (sl u 355 a (lN W)) 352 a (nI C)).2.1 355 j = s.2.1 355 j) ∧ (su (sl u 355 a (lN W)) 352 a (nI C)).2.2 = s.2.2 ∧ ∀ c', c' ≠ 352 → (su (sl u 355 a (lN W)) 352 a (nI C)).1 c' = u.1 c') := by
      rintro W C rfl rfl
      refine ⟨by rw [su_1, if_pos ⟨rfl, rfl⟩], ?_, fun j hj => ⟨?_, ?_⟩, ?_, fun c' hc' => ?_⟩
      · rw [su_2]
        show (if 355 = 355 ∧ a = a then _ else _) = _
        rw [if_pos ⟨rfl, rfl⟩]
      · rw [su_1, if_neg (fun e => hj e.2)]
        show u.1 352 j = _
        rw [hu1]
      · rw [su_2]
        show (if 355 = 355 ∧ j = a then _ else u.2.1 355 j) = _
        rw [if_neg (fun e => hj e.2), hu2]
      · show u.2.2 = _
        rw [hu2]
      · funext j
        rw [su_1, if_neg (fun e => hc' e.1)]
        rfl
    rw [e_M_takesIn_45, g_M_ways, g_M_readCost, i_M_readCost ha, b1]
    rcases Nat.lt_trichotomy c x.1 with h | h | h
    · have hs : stp x (c, us, w) = (c, us, w) := stp_lt h
      refine ⟨_, ?_, fin w c (by rw [hs]) (by rw [hs])⟩
      rw [if_neg (nI_ge h (by omega)), g_M_ways, i_M_ways hn, b4, min2_run _ (by decide) (by omega), r2_s, w_M_ways ha, g_M_readCost, g_M_readCost, i_M_readCost ha, sl_1, b1, min_run _ (by omega) (by omega), r1_s, if_pos h, w_M_readCost ha]
      have : (if w < 1000000000000000000 then w else 1000000000000000000) = w := by split <;> omega
      rw [this]
    · have hs : stp x (c, us, w) = (x.1, (if us < x.2.1 then us else x.2.1), if x.2.2 + w < 1000000000000000000 then x.2.2 + w else 1000000000000000000) := stp_eq h
      refine ⟨_, ?_, fin (if x.2.2 + w < 1000000000000000000 then x.2.2 + w else 1000000000000000000) x.1 (by rw [hs]) (by rw [hs])⟩
      rw [if_pos (nI_le (by omega) (by omega)), g_M_readCost, i_M_readCost ha, b1, if_pos (by rw [h]), g_M_ways, i_M_ways ha, b3, g_M_ways, i_M_ways hn, b4, lN_add, min2_run _ (by decide) (by omega), r2_s, w_M_ways ha, g_M_readCost, g_M_readCost, i_M_readCost ha, sl_1, b1, min_run _ (by omega) (by omega), r1_s, if_neg (show ¬ c < x.1 by omega), w_M_readCost ha]
    · have hs : stp x (c, us, w) = x := stp_gt h
      refine ⟨_, ?_, fin x.2.2 x.1 (by rw [hs]) (by rw [hs])⟩
      rw [if_pos (nI_le (by omega) (by omega)), g_M_readCost, i_M_readCost ha, b1, if_neg (fun z => by rw [nI_eq (by omega) (by omega)] at z; omega), g_M_ways, i_M_ways ha, b3, min2_run _ (by decide) (by omega), r2_s, w_M_ways ha, g_M_readCost, g_M_readCost, i_M_readCost ha, sl_1, b1, min_run _ (by omega) (by omega), r1_s, if_neg (show ¬ c < x.1 by omega), w_M_readCost ha]
      have : (if x.2.2 < 1000000000000000000 then x.2.2 else 1000000000000000000) = x.2.2 := by split <;> omega
      rw [this]
  -- the better shape
  have better : lxl (c, us, w) x → ∃ z : sT, rn 268 30 [some (.ref 318), some (.int (nI a)), some (.int (nI c)), some (.int (nI us)), some (.int (nI n)), some (.int sh)] [] (mk X s) = some (none, mk X z) ∧ tr2 z a (stp x (c, us, w)) ∧ z.1 354 a = (if lxl (c, us, w) x then sh else s.1 354 a) ∧ (∀ j, j ≠ a → z.1 352 j = s.1 352 j ∧ z.1 353 j = s.1 353 j ∧ z.1 354 j = s.1 354 j ∧ z.2.1 355 j = s.2.1 355 j) ∧ z.2.2 = s.2.2 ∧ ∀ c, c ∉ [352, 353, 354] → z.1 c = s.1 c := by
    intro hl
    obtain ⟨z, ez, z1, z3, zo, z2, zc⟩ := half (su (su s 353 a (nI us)) 354 a sh) (by funext j; rw [su_1, if_neg (by omega), su_1, if_neg (by omega)]) rfl
    refine ⟨z, ?_, ⟨z1, fun _ => ?_, z3⟩, ?_, fun j hj => ⟨(zo j hj).1, ?_, ?_, (zo j hj).2⟩, z2, fun c' hc' => ?_⟩
    · rw [e_M_takesIn_30, g_M_readShapes, w_M_readShapes ha, g_M_readShape, w_M_readShape ha, ez]
    · rw [zc 353 (by decide), su_1, if_neg (by omega), su_1, if_pos ⟨rfl, rfl⟩, (stp_lx1 hl).2]
    · rw [zc 354 (by decide), su_1, if_pos ⟨rfl, rfl⟩, if_pos hl]
    · rw [zc 353 (by decide), su_1, if_neg (by omega), su_1, if_neg (fun e => hj e.2)]
    · rw [zc 354 (by decide), su_1, if_neg (fun e => hj e.2), su_1, if_neg (by omega)]
    · simp only [List.mem_cons, List.not_mem_nil, or_false, not_or] at hc'
      rw [zc c' hc'.1]
      funext j
      rw [su_1, if_neg (by omega), su_1, if_neg (by omega)]
  have worse : ¬ lxl (c, us, w) x → ∃ z : sT, rn 268 45 [some (.ref 318), some (.int (nI a)), some (.int (nI c)), none, some (.int (nI n)), none] [] (mk X s) = some (none, mk X z) ∧ tr2 z a (stp x (c, us, w)) ∧ z.1 354 a = (if lxl (c, us, w) x then sh else s.1 354 a) ∧ (∀ j, j ≠ a → z.1 352 j = s.1 352 j ∧ z.1 353 j = s.1 353 j ∧ z.1 354 j = s.1 354 j ∧ z.2.1 355 j = s.2.1 355 j) ∧ z.2.2 = s.2.2 ∧ ∀ c, c ∉ [352, 353, 354] → z.1 c = s.1 c := by
    intro hl
    obtain ⟨z, ez, z1, z3, zo, z2, zc⟩ := half s rfl rfl
    refine ⟨z, ez, ⟨z1, fun hlt => ?_, z3⟩, ?_, fun j hj => ⟨(zo j hj).1, ?_, ?_, (zo j hj).2⟩, z2, fun c' hc' => ?_⟩
    · rw [(stp_lx2 hl).1] at hlt
      rw [zc 353 (by decide), (stp_lx2 hl).2]
      exact a2 hlt
    · rw [zc 354 (by decide), if_neg hl]
    · rw [zc 353 (by decide)]
    · rw [zc 354 (by decide)]
    · simp only [List.mem_cons, List.not_mem_nil, or_false, not_or] at hc'
      rw [zc c' hc'.1]
  rw [e_M_takesIn_0, g_M_readCost, i_M_readCost ha, a1]
  by_cases h : c < x.1
  · rw [if_pos (nI_lt h (by omega))]
    exact better (Or.inl h)
  · rw [if_neg (nI_nlt (by omega) (by omega)), g_M_readCost, i_M_readCost ha, a1]
    by_cases he : c = x.1
    · rw [if_pos (by rw [he]), g_M_readShapes, i_M_readShapes ha, a2 (by omega)]
      by_cases hu : us < x.2.1
      · rw [if_neg (nI_ge hu (by omega))]
        exact better (Or.inr ⟨he, hu⟩)
      · rw [if_pos (nI_le (by omega) (by omega))]
        refine worse (fun z => ?_)
        rcases z with z | z
        · exact h z
        · exact hu z.2
    · rw [if_neg (fun z => he ((nI_eq (by omega) (by omega)).mp z))]
      refine worse (fun z => ?_)
      rcases z with z | z
      · exact h z
      · exact he z.1
theorem stp_w2 {x y : t3} (h1 : x.2.2 ≤ 1000000000000000000) (h2 : y.2.2 ≤ 1000000000000000000) : (stp x y).2.2 ≤ 1000000000000000000 := by
  rcases Nat.lt_trichotomy y.1 x.1 with h | h | h
  · rw [stp_lt h]; exact h2
  · rw [stp_eq h]
    show (if x.2.2 + y.2.2 < 1000000000000000000 then x.2.2 + y.2.2 else 1000000000000000000) ≤ 1000000000000000000
    split <;> omega
  · rw [stp_gt h]; exact h1
theorem fld_w2 (W : Nat) (wd : Nat → Nat) (co : Nat → Nat → Nat) {f : Nat → t3} {a : Nat} {x : t3} (hx : x.2.2 ≤ 1000000000000000000) : ∀ k, (∀ j, j < k → a + wd j ≤ W → (f (a + wd j)).2.2 ≤ 1000000000000000000) → (fld W wd co f a x k).2.2 ≤ 1000000000000000000
  | 0, _ => hx
  | k + 1, h => by
    have := fld_w2 W wd co hx k (fun j hj => h j (by omega))
    show (if a + wd k ≤ W then stp (fld W wd co f a x k) (opt wd co f a k) else fld W wd co f a x k).2.2 ≤ _
    by_cases hw : a + wd k ≤ W
    · rw [if_pos hw]
      exact stp_w2 this (h k (by omega) hw)
    · rw [if_neg hw]; exact this
def mrF (s u : sT) : Prop := u.2.2 = s.2.2 ∧ ∀ c, c ∉ [352, 353, 354] → u.1 c = s.1 c
theorem mrF.tr {s u v : sT} (h : mrF s u) (g : mrF u v) : mrF s v := ⟨by rw [g.1, h.1], fun c hc => by rw [g.2 c hc, h.2 c hc]⟩
theorem M_reads_run (X : qz_X) {s : sT} {m : Nat} {A : shT} {Y : Nat} (hm : m < 7) (ok : okA A) (hM : isM (gN s) m A) (hY : Y < A.1 1) : ∃ z : sT, rn 270 0 [some (.ref 318), some (.int (nI m)), some (.int (nI Y)), none, none, none, none] [] (mk X s) = some (none, mk X z) ∧ mrF s z ∧ (∀ j, j ≤ A.1 0 → tr2 z j (rV A Y j)) ∧ ∀ a, a < A.1 0 → z.1 354 a = if rN A Y a < A.1 3 then nI (rN A Y a) else -1 := by
  have o1 := ok.1
  have o2 := ok.2.1
  have o4 := ok.2.2.2.1
  have hMf : ∀ u : sT, mrF s u → isM (gN u) m A := fun u hu => isM_of (fun c p q => hu.2 c (by simp; omega)) hM
  obtain ⟨z, ⟨hz, zt, zs⟩, e⟩ := it_dn (fun i (u : sT) => rn 270 32 [some (.ref 318), some (.int (nI m)), some (.int (nI Y)), some (.int (nI (A.1 0))), some (.int (nI i + (-1))), none, none] [] (mk X u)) (fun i u => mrF s u ∧ (∀ j, i ≤ j → j ≤ A.1 0 → tr2 u j (rV A Y j)) ∧ ∀ a, i ≤ a → a < A.1 0 → u.1 354 a = if rN A Y a < A.1 3 then nI (rN A Y a) else -1) (A.1 0) (by
    rintro i w hi ⟨hw, wt, ws⟩
    try dsimp only
    rw [pk_m1, e_M_reads_32, if_neg (nI_pos (by omega)), g_M_readCost, w_M_readCost (by omega), g_M_ways, w_M_ways (by omega)]
    obtain ⟨b, ⟨hb, bi, bs, bo, bso⟩, eb⟩ := it_up (fun k (u : sT) => rn 270 58 [some (.ref 318), some (.int (nI m)), some (.int (nI Y)), some (.int (nI (A.1 0))), some (.int (nI i)), some (.int (nI k)), none] [] (mk X u)) (fun k u => mrF s u ∧ tr2 u i (fld (A.1 0) (A.2.2.2.2 3) (coR A Y) (rV A Y) i (1000000000, 0, 0) k) ∧ ((fld (A.1 0) (A.2.2.2.2 3) (coR A Y) (rV A Y) i (1000000000, 0, 0) k).1 < 1000000000 → u.1 354 i = rsh (A.1 0) (A.2.2.2.2 3) (coR A Y) (rV A Y) i (1000000000, 0, 0) k) ∧ (∀ j, i < j → j ≤ A.1 0 → tr2 u j (rV A Y j)) ∧ ∀ a, i < a → a < A.1 0 → u.1 354 a = if rN A Y a < A.1 3 then nI (rN A Y a) else -1) (Nat.zero_le (A.1 3)) (by
      rintro k u _ hk ⟨hu, ui, us, ut, uso⟩
      try dsimp only
      have hMu := hMf u hu
      obtain ⟨w1, w2, w3⟩ := ok.2.2.2.2.2.2.2.2.2.2.2.2.2 k hk
      obtain ⟨c1, c2, c3⟩ := hMu.2.2.2.2.1 k hk
      have c1 : u.1 325 (8 * m + k) = nI (A.2.2.2.2 3 k) := c1
      have h3 : u.1 320 (16 * m + 3) = nI (A.1 3) := ab_at hMu (by decide)
      have hs : fld (A.1 0) (A.2.2.2.2 3) (coR A Y) (rV A Y) i (1000000000, 0, 0) (k + 1) = if i + A.2.2.2.2 3 k ≤ A.1 0 then stp (fld (A.1 0) (A.2.2.2.2 3) (coR A Y) (rV A Y) i (1000000000, 0, 0) k) (opt (A.2.2.2.2 3) (coR A Y) (rV A Y) i k) else fld (A.1 0) (A.2.2.2.2 3) (coR A Y) (rV A Y) i (1000000000, 0, 0) k := rfl
      have hr : rsh (A.1 0) (A.2.2.2.2 3) (coR A Y) (rV A Y) i (1000000000, 0, 0) (k + 1) = if i + A.2.2.2.2 3 k ≤ A.1 0 ∧ lxl (opt (A.2.2.2.2 3) (coR A Y) (rV A Y) i k) (fld (A.1 0) (A.2.2.2.2 3) (coR A Y) (rV A Y) i (1000000000, 0, 0) k) then nI k else rsh (A.1 0) (A.2.2.2.2 3) (coR A Y) (rV A Y) i (1000000000, 0, 0) k := rfl
      rw [e_M_reads_58, g_M_about, pk_mul, nI_add, i_M_about (by omega), h3, if_neg (nI_ge hk (by omega)), g_M_shapeWide, pk_mul, nI_add, i_M_shapeWide (by omega), c1, nI_add, nI_add]
      by_cases hin : i + A.2.2.2.2 3 k ≤ A.1 0
      · rw [if_pos hin] at hs
        have bk := rV_b ok Y hin
        have hco := coR_le ok Y hk i
        obtain ⟨t1, t2, t3⟩ := ut _ (show i < i + A.2.2.2.2 3 k by omega) hin
        have l1 := fld_1 (A.1 0) (A.2.2.2.2 3) (coR A Y) (f := rV A Y) (a := i) (x := (1000000000, 0, 0)) k
        have l1 : (fld (A.1 0) (A.2.2.2.2 3) (coR A Y) (rV A Y) i (1000000000, 0, 0) k).1 ≤ 1000000000 := l1
        have l2 := fld_u (A.1 0) (A.2.2.2.2 3) (coR A Y) (f := rV A Y) (a := i) (x := (1000000000, 0, 0)) (b := 21) (by decide) k (fun j hj hjw => by have := rV_b ok Y hjw; omega)
        have l3 := fld_w2 (A.1 0) (A.2.2.2.2 3) (coR A Y) (f := rV A Y) (a := i) (x := (1000000000, 0, 0)) (by decide) k (fun j hj hjw => (rV_b ok Y hjw).2.2.2)
        obtain ⟨y, ey, y1, y4, yo, y2, yc⟩ := M_takesIn_run X (a := i) (n := i + A.2.2.2.2 3 k) (c := (rV A Y (i + A.2.2.2.2 3 k)).1 + coR A Y k i) (us := (rV A Y (i + A.2.2.2.2 3 k)).2.1 + 1) (w := (rV A Y (i + A.2.2.2.2 3 k)).2.2) (sh := nI k) (by omega) (by omega) (by omega) ui t3 l1 (by omega) (by omega) (by omega) l3 bk.2.2.2
        have ho : ((rV A Y (i + A.2.2.2.2 3 k)).1 + coR A Y k i, (rV A Y (i + A.2.2.2.2 3 k)).2.1 + 1, (rV A Y (i + A.2.2.2.2 3 k)).2.2) = opt (A.2.2.2.2 3) (coR A Y) (rV A Y) i k := by
          unfold opt
          rw [Nat.add_comm]
        rw [ho] at y1 y4
        rw [if_neg (nI_nlt hin (by omega)), g_M_readCost, i_M_readCost (by omega), t1, ck_M, M_unlike_run X hm ok hMu hY hk hin, r1_s, g_M_readShapes, i_M_readShapes (by omega), t2 (by omega), ck_M, nI_add, nI_add, ey, r0_s]
        refine ⟨y, ⟨hu.tr ⟨y2, yc⟩, by rw [hs]; exact y1, fun hlt => ?_, fun j h1 h2 => ?_, fun a h1 h2 => ?_⟩, rfl⟩
        · rw [y4, hr]
          by_cases hl : lxl (opt (A.2.2.2.2 3) (coR A Y) (rV A Y) i k) (fld (A.1 0) (A.2.2.2.2 3) (coR A Y) (rV A Y) i (1000000000, 0, 0) k)
          · rw [if_pos hl, if_pos ⟨hin, hl⟩]
          · rw [if_neg hl, if_neg (fun z => hl z.2)]
            refine us ?_
            rw [hs, (stp_lx2 hl).1] at hlt
            exact hlt
        · obtain ⟨q1, q2, q3, q4⟩ := yo j (by omega)
          obtain ⟨p1, p2, p3⟩ := ut j h1 h2
          exact ⟨by rw [q1]; exact p1, fun hh => by rw [q2]; exact p2 hh, by rw [q4]; exact p3⟩
        · rw [(yo a (by omega)).2.2.1]; exact uso a h1 h2
      · rw [if_neg hin] at hs
        rw [if_pos (nI_lt (by omega) (by omega))]
        refine ⟨u, ⟨hu, by rw [hs]; exact ui, fun hlt => ?_, ut, uso⟩, rfl⟩
        rw [hr, if_neg (fun z => hin z.1)]
        rw [hs] at hlt
        exact us hlt) (x := sl (su w 352 i (nI 1000000000)) 355 i (lN 0)) ⟨hw.tr ⟨rfl, fun c hc => by
        simp only [List.mem_cons, List.not_mem_nil, or_false, not_or] at hc
        rw [sl_1]
        funext j
        rw [su_1, if_neg (by omega)]⟩, ⟨by rw [sl_1, su_1, if_pos ⟨rfl, rfl⟩]; rfl, fun h => absurd h (Nat.lt_irrefl _), by rw [sl_2, if_pos ⟨rfl, rfl⟩]; rfl⟩, fun h => absurd h (Nat.lt_irrefl _), fun j h1 h2 => by
        obtain ⟨p1, p2, p3⟩ := wt j (by omega) h2
        exact ⟨by rw [sl_1, su_1, if_neg (by omega)]; exact p1, fun hh => by rw [sl_1, su_1, if_neg (by omega)]; exact p2 hh, by rw [sl_2, if_neg (by omega)]; exact p3⟩, fun a h1 h2 => by rw [sl_1, su_1, if_neg (by omega)]; exact ws a (by omega) h2⟩
    try dsimp only at eb
    have hMb := hMf b hb
    have h3 : b.1 320 (16 * m + 3) = nI (A.1 3) := ab_at hMb (by decide)
    obtain ⟨t1, t2, t3⟩ := bo (i + 1) (by omega) (by omega)
    have bn := rV_b ok Y (show i + 1 ≤ A.1 0 by omega)
    have hlo := loR_le A Y i
    have l1 := fld_1 (A.1 0) (A.2.2.2.2 3) (coR A Y) (f := rV A Y) (a := i) (x := (1000000000, 0, 0)) (A.1 3)
    have l1 : (fld (A.1 0) (A.2.2.2.2 3) (coR A Y) (rV A Y) i (1000000000, 0, 0) (A.1 3)).1 ≤ 1000000000 := l1
    have l2 := fld_u (A.1 0) (A.2.2.2.2 3) (coR A Y) (f := rV A Y) (a := i) (x := (1000000000, 0, 0)) (b := 21) (by decide) (A.1 3) (fun j hj hjw => by have := rV_b ok Y hjw; omega)
    have l3 := fld_w2 (A.1 0) (A.2.2.2.2 3) (coR A Y) (f := rV A Y) (a := i) (x := (1000000000, 0, 0)) (by decide) (A.1 3) (fun j hj hjw => (rV_b ok Y hjw).2.2.2)
    obtain ⟨y, ey, y1, y4, yo, y2, yc⟩ := M_takesIn_run X (a := i) (n := i + 1) (c := (rV A Y (i + 1)).1 + loR A Y i) (us := (rV A Y (i + 1)).2.1) (w := (rV A Y (i + 1)).2.2) (sh := -1) (by omega) (by omega) (by omega) bi t3 l1 (by omega) (by omega) (by omega) l3 bn.2.2.2
    have ho : ((rV A Y (i + 1)).1 + loR A Y i, (rV A Y (i + 1)).2.1, (rV A Y (i + 1)).2.2) = skp (loR A Y) (rV A Y) i := by
      unfold skp
      rw [Nat.add_comm]
    rw [ho] at y1 y4
    have hsk : (skp (loR A Y) (rV A Y) i).1 < 1000000000 := by show loR A Y i + (rV A Y (i + 1)).1 < _; omega
    obtain ⟨g1, g2⟩ := rsh_shI (A.1 0) (A.1 3) (A.2.2.2.2 3) (loR A Y) (coR A Y) (okW ok) hi (1000000000, 0, 0) hsk (fun k hk hkw => by
      have := rV_b ok Y hkw
      have := coR_le ok Y hk i
      show coR A Y k i + (rV A Y (i + A.2.2.2.2 3 k)).1 < 1000000000
      omega)
    refine ⟨y, ⟨hb.tr ⟨y2, yc⟩, fun j h1 h2 => ?_, fun a h1 h2 => ?_⟩, ?_⟩
    · by_cases e : j = i
      · subst e
        have g2' : rV A Y j = stp (fld (A.1 0) (A.2.2.2.2 3) (coR A Y) (rV A Y) j (1000000000, 0, 0) (A.1 3)) (skp (loR A Y) (rV A Y) j) := g2
        rw [g2']; exact y1
      · obtain ⟨q1, q2, q3, q4⟩ := yo j e
        obtain ⟨p1, p2, p3⟩ := bo j (by omega) h2
        exact ⟨by rw [q1]; exact p1, fun hh => by rw [q2]; exact p2 hh, by rw [q4]; exact p3⟩
    · by_cases e : a = i
      · subst e
        have g1' : (if lxl (skp (loR A Y) (rV A Y) a) (fld (A.1 0) (A.2.2.2.2 3) (coR A Y) (rV A Y) a (1000000000, 0, 0) (A.1 3)) then -1 else rsh (A.1 0) (A.2.2.2.2 3) (coR A Y) (rV A Y) a (1000000000, 0, 0) (A.1 3)) = if rN A Y a < A.1 3 then nI (rN A Y a) else -1 := g1
        rw [y4, ← g1']
        by_cases hl : lxl (skp (loR A Y) (rV A Y) a) (fld (A.1 0) (A.2.2.2.2 3) (coR A Y) (rV A Y) a (1000000000, 0, 0) (A.1 3))
        · rw [if_pos hl, if_pos hl]
        · rw [if_neg hl, if_neg hl]
          refine bs ?_
          have hl2 := hl
          unfold lxl at hl2
          omega
      · rw [(yo a e).2.2.1]; exact bso a (by omega) h2
    · rw [eb, e_M_reads_58, g_M_about, pk_mul, nI_add, i_M_about (by omega), h3, if_pos (nI_le (Nat.le_refl _) (by omega)), g_M_readCost, nI_add, i_M_readCost (by omega), t1, ck_M, M_leftOut_run X hm ok hMb hY hi, r1_s, g_M_readShapes, i_M_readShapes (by omega), t2 (by omega), ck_M, nI_add, ey, r0_s]) (x := sl (su (su s 352 (A.1 0) (nI 0)) 353 (A.1 0) (nI 0)) 355 (A.1 0) (lN 1)) ⟨⟨rfl, fun c hc => by
      simp only [List.mem_cons, List.not_mem_nil, or_false, not_or] at hc
      rw [sl_1]
      funext j
      rw [su_1, if_neg (by omega), su_1, if_neg (by omega)]⟩, fun j h1 h2 => by
      have e : j = A.1 0 := by omega
      subst e
      show tr2 _ _ (rdV (A.1 0) (A.1 3) (A.2.2.2.2 3) (loR A Y) (coR A Y) (A.1 0))
      rw [rdV_end]
      exact ⟨by rw [sl_1, su_1, if_neg (by omega), su_1, if_pos ⟨rfl, rfl⟩], fun _ => by rw [sl_1, su_1, if_pos ⟨rfl, rfl⟩], by rw [sl_2, if_pos ⟨rfl, rfl⟩]⟩, fun a h1 h2 => absurd h2 (by omega)⟩
  try dsimp only at e
  refine ⟨z, ?_, hz, fun j hj => zt j (Nat.zero_le j) hj, fun a ha => zs a (Nat.zero_le a) ha⟩
  rw [e_M_reads_0, ck_M, M_wide_run X hm hM, r1_s, g_M_readCost, w_M_readCost (by omega), g_M_readShapes, w_M_readShapes (by omega), g_M_ways, w_M_ways (by omega), sub_1, e, e_M_reads_32, if_pos (by decide)]
/-- how many shapes stand in the walk -/
theorem rF_many {A : shT} (ok : okA A) (Y : Nat) : ∀ d x n, x + d = A.1 0 → rF A Y x = (x, n) → (rF A Y (A.1 0)).2 = n + (rV A Y x).2.1 := by
  intro d
  induction d using Nat.strongRecOn with
  | _ d ih =>
    intro x n hx hF
    cases d with
    | zero =>
      have e : x = A.1 0 := by omega
      subst e
      rw [hF]
      show n = n + (rdV (A.1 0) (A.1 3) (A.2.2.2.2 3) (loR A Y) (coR A Y) (A.1 0)).2.1
      rw [rdV_end]
      rfl
    | succ d =>
      obtain ⟨f1, f2⟩ := foR_next (A.1 0) (A.1 3) (A.2.2.2.2 3) (loR A Y) (coR A Y) (okW ok) (a := x) (n := n) hF
      by_cases hs : rN A Y x < A.1 3
      · obtain ⟨h1, h2⟩ := shN_at (A.1 0) (A.1 3) (A.2.2.2.2 3) (loR A Y) (coR A Y) (a := x) hs
        have hw := okW ok _ hs
        have h1 : x + A.2.2.2.2 3 (rN A Y x) ≤ A.1 0 := h1
        have h2 : (rV A Y (x + A.2.2.2.2 3 (rN A Y x))).2.1 + 1 = (rV A Y x).2.1 := h2
        have := ih (A.1 0 - (x + A.2.2.2.2 3 (rN A Y x))) (by omega) (x + A.2.2.2.2 3 (rN A Y x)) (n + 1) (by omega) (f1 hs)
        omega
      · have bn := rV_b ok Y (show x + 1 ≤ A.1 0 by omega)
        have := ih d (by omega) (x + 1) n (by omega) (f2 hs)
        have hk := shN_skip (A.1 0) (A.1 3) (A.2.2.2.2 3) (loR A Y) (coR A Y) (okW ok) (fun a _ => loR_le A Y a) (show x < A.1 0 by omega) (fun k hk hkw => by
          have := rV_b ok Y hkw
          have := coR_le ok Y hk x
          show coR A Y k x + (rV A Y (x + A.2.2.2.2 3 k)).1 < 1000000000
          omega) (by
          have := loR_le A Y x
          show loR A Y x + (rV A Y (x + 1)).1 < 1000000000
          omega) hs
        have hk : (rV A Y x).2.1 = (rV A Y (x + 1)).2.1 := hk
        omega
theorem M_rwalk_run (X : qz_X) {s : sT} {m : Nat} {A : shT} {Y : Nat} (hm : m < 7) (ok : okA A) (hM : isM (gN s) m A) (hs4 : ∀ a, a < A.1 0 → s.1 354 a = if rN A Y a < A.1 3 then nI (rN A Y a) else -1) {cs cc : Nat → Int32} (hcs : ∀ a, a < A.1 0 → ∀ n, rF A Y a = (a, n) → rN A Y a < A.1 3 → n < (rF A Y (A.1 0)).2 ∧ cs n = nI (rN A Y a) ∧ cc n = nI a) (v : Int32) {L : Nat} (hL : L < 20) : ∀ d x n, x + d = A.1 0 → rF A Y x = (x, n) → n ≤ L → rn 271 125 [some (.ref 318), some (.int (nI m)), none, some (.int v), some (.int (nI (L - n))), some (.int (nI x)), none] [] (mk X s) = some (some (.long (if L < (rF A Y (A.1 0)).2 then (if nI 30 ≤ v then (cc L).toInt64 else (cs L).toInt64) else -1)), mk X s) := by
  have o1 := ok.1
  have o4 := ok.2.2.2.1
  intro d
  induction d using Nat.strongRecOn with
  | _ d ih =>
    intro x n hx hF hn
    rw [e_M_read_125, ck_M, M_wide_run X hm hM, r1_s]
    cases d with
    | zero =>
      have e : x = A.1 0 := by omega
      subst e
      rw [if_pos (nI_le (Nat.le_refl _) (by omega)), hF, if_neg (show ¬ L < n by omega)]
    | succ d =>
      obtain ⟨f1, f2⟩ := foR_next (A.1 0) (A.1 3) (A.2.2.2.2 3) (loR A Y) (coR A Y) (okW ok) (a := x) (n := n) hF
      have u1 : rn 104 0 [some (.int (nI 1))] [] (mk X s) = some (some (.int (nI 1)), mk X s) := M_unit_run _ true
      have u0 : rn 104 0 [some (.int (nI 0))] [] (mk X s) = some (some (.int (nI 0)), mk X s) := M_unit_run _ false
      rw [if_neg (nI_ge (show x < A.1 0 by omega) (by omega)), g_M_readShape, i_M_readShape (by omega), hs4 x (by omega)]
      by_cases hs : rN A Y x < A.1 3
      · obtain ⟨h1, -⟩ := shN_at (A.1 0) (A.1 3) (A.2.2.2.2 3) (loR A Y) (coR A Y) (a := x) hs
        have hw := okW ok _ hs
        have h1 : x + A.2.2.2.2 3 (rN A Y x) ≤ A.1 0 := h1
        obtain ⟨q1, q2, q3⟩ := hcs x (by omega) n hF hs
        obtain ⟨c1, -, -⟩ := hM.2.2.2.2.1 _ hs
        have c1 : s.1 325 (8 * m + rN A Y x) = nI (A.2.2.2.2 3 (rN A Y x)) := c1
        rw [if_pos hs, if_neg (nI_m1 (by omega))]
        by_cases e : L = n
        · subst e
          rw [Nat.sub_self, if_pos nI_0, if_pos q1, q2, q3]
          by_cases hv : nI 30 ≤ v
          · rw [if_pos hv, if_pos hv]
          · rw [if_neg hv, if_neg hv]
        · rw [if_neg (nI_ne0 (by omega) (by omega)), e_M_read_171, if_neg (nI_m1 (by omega)), u1, r1_s, if_neg (nI_m1 (by omega)), g_M_shapeWide, pk_mul, nI_add, i_M_shapeWide (by omega), c1, pk_sub (by omega), nI_add, Nat.sub_sub]
          exact ih (A.1 0 - (x + A.2.2.2.2 3 (rN A Y x))) (by omega) (x + A.2.2.2.2 3 (rN A Y x)) (n + 1) (by omega) (f1 hs) (by omega)
      · rw [if_neg hs, if_pos rfl, e_M_read_171, if_pos rfl, u0, r1_s, if_pos rfl, pk_sub (Nat.zero_le _), Nat.sub_zero, nI_add]
        exact ih d (by omega) (x + 1) n (by omega) (f2 hs) hn
theorem lf_10 : ∀ w, w < 30 → 10 ≤ w → (nI w - nI w / nI 10 * nI 10) + ((((nI w / nI 10) - (nI w / nI 10) / nI 3 * nI 3) - nI 1) * nI 10) = nI (w - 10) := by decide +kernel
theorem lf_40 : ∀ w, w < 60 → 40 ≤ w → (nI w - nI w / nI 10 * nI 10) + ((((nI w / nI 10) - (nI w / nI 10) / nI 3 * nI 3) - nI 1) * nI 10) = nI (w - 40) := by decide +kernel
/-- both answer one long number -/
def SimL (X : qz_X) (s : sT) (c m : Nat) (ac am : qz_L) : Prop := ∃ (r : Int64) (s1 s2 : sT) (G : gsT), rn c 0 ac [] (mk X s) = some (some (.long r), mk X s1) ∧ rn m 0 am [] (mk X s1) = some (some (.long r), mk X s2) ∧ Rel s2 G
theorem sim_ql {X : qz_X} {s s1 s2 : sT} {G : gsT} (h : Rel s G) {c m : Nat} {ac am : qz_L} {r : Value} (h1 : rn c 0 ac [] (mk X s) = some (some r, mk X s1)) (f1 : fr s s1) (h2 : rn m 0 am [] (mk X s1) = some (some r, mk X s2)) (f2 : fr s1 s2) (hr : ∃ x : Int64, r = .long x := by exact ⟨_, rfl⟩) : SimL X s c m ac am := by
  obtain ⟨x, rfl⟩ := hr
  exact ⟨x, s1, s2, G, h1, h2, (h.fr f1).fr f2⟩
theorem sim_read (X : qz_X) (s : sT) (G : gsT) (h : Rel s G) (v vy vw : Int32) : SimL X s 266 271 [some (.ref 0), some (.int v), some (.int vy), some (.int vw), none] [some (.ref 318), some (.int v), some (.int vy), some (.int vw), none, none, none] := by
  rcases tk_or G v with ⟨k, hk⟩ | hn
  · obtain ⟨hS, ok, hC, hM⟩ := tk_P h hk
    have hk6 := hk.1
    have hv : v = nI k := hk.2.1
    subst hv
    have o1 := ok.1
    have o2 := ok.2.1
    have hk7 : k < 7 := by omega
    rcases Classical.em (∃ Y, Y < (G.2.1.2.1 k).1 1 ∧ vy = nI Y) with ⟨Y, hY, rfl⟩ | hno
    · obtain ⟨z, ez, fz, z112, z114, z110, zt⟩ := cover_run X hS ok hC hY
      have f1 : fr s z := fr_of [110, 111, 112, 113, 115, 116] fz.1 fz.2 (by decide)
      have h1 := h.fr f1
      obtain ⟨-, -, -, hM1⟩ := tk_P h1 hk
      obtain ⟨w, ew, fw, w2, w4⟩ := M_reads_run X hk7 ok hM1 hY
      have f2 : fr z w := fr_of [352, 353, 354] fw.1 fw.2 (by decide)
      have hMw : isM (gN w) k (G.2.1.2.1 k) := isM_of (fun c p q => fw.2 c (by simp; omega)) hM1
      have b0 := rV_b ok Y (show 0 ≤ (G.2.1.2.1 k).1 0 by omega)
      have hN := rF_many ok Y ((G.2.1.2.1 k).1 0) 0 0 (by omega) rfl
      rw [Nat.zero_add] at hN
      have hcl : rn 266 0 [some (.ref 0), some (.int (nI k)), some (.int (nI Y)), some (.int vw), none] [] (mk X s) = qz_r2 (rn 265 0 [some (.ref 110), some (.int vw)] [] (mk X z)) (fun x8 w7 => some (some (.long x8), w7)) := by
        rw [e_C_read_0, ck_C, C_told_yes X h hk, r3_r, if_neg (nI_pos (by omega)), g_S_high hS, hC.1.2.1, if_pos (nI_lt hY (by omega)), g_C_reading, ck_R, ez, r0_s, g_C_reading, ck_R]
      have hrf : rn 271 0 [some (.ref 318), some (.int (nI k)), some (.int (nI Y)), some (.int vw), none, none, none] [] (mk X z) = (if (if vw < nI 0 then nI 0 else if nI 2 < vw then nI 0 else nI 1 : Int32) = 0 then (if (if vw < nI 10 then nI 0 else if nI 29 < vw then nI 0 else nI 1 : Int32) = 0 then (if (if vw < nI 40 then nI 0 else if nI 59 < vw then nI 0 else nI 1 : Int32) = 0 then some (some (.long (-1)), mk X w) else rn 271 104 [some (.ref 318), some (.int (nI k)), none, some (.int vw), none, none, none] [] (mk X w)) else rn 271 104 [some (.ref 318), some (.int (nI k)), none, some (.int vw), none, none, none] [] (mk X w)) else (if vw = 0 then some (some (.long (nI (rV (G.2.1.2.1 k) Y 0).1).toInt64), mk X w) else (if vw = (nI 1) then some (some (.long (nI (rV (G.2.1.2.1 k) Y 0).2.1).toInt64), mk X w) else some (some (.long (lN (rV (G.2.1.2.1 k) Y 0).2.2)), mk X w)))) := by
        obtain ⟨t1, t2, t3⟩ := w2 0 (by omega)
        rw [e_M_read_0, ck_M, M_sheet_yes X h1 hk, r1_s, if_neg (by decide), ck_M, M_high_run X hk7 hM1, r1_s, pk_sub (by omega), isIn_yes _ (by omega) (by omega), r1_s, if_neg (by decide), ck_M, ew, r0_s, isIn_run, r1_s, isIn_run, r1_s, isIn_run, r1_s, g_M_readCost, i_M_readCost (by decide), t1, g_M_readShapes, i_M_readShapes (by decide), t2 (by omega), g_M_ways, i_M_ways (by decide), t3]
      have n20 : (rF (G.2.1.2.1 k) Y ((G.2.1.2.1 k).1 0)).2 ≤ 20 := by omega
      have none63 : rn 265 63 [some (.ref 110), some (.int vw)] [] (mk X z) = (if vw < (nI 40) then some (some (.long (-1)), mk X z) else (if nI (40 + (rF (G.2.1.2.1 k) Y ((G.2.1.2.1 k).1 0)).2) ≤ vw then some (some (.long (-1)), mk X z) else qz_ia (mk X z).1 116 (vw - (nI 40)) (fun x3 => some (some (.long x3.toInt64), mk X z)))) := by
        rw [e_Reading_told_63, g_R_number, z110, nI_add, g_R_column]
      have htold : rn 265 0 [some (.ref 110), some (.int vw)] [] (mk X z) = (if vw = 0 then some (some (.long (nI (rV (G.2.1.2.1 k) Y 0).1).toInt64), mk X z) else (if vw = (nI 1) then some (some (.long (nI (rF (G.2.1.2.1 k) Y ((G.2.1.2.1 k).1 0)).2).toInt64), mk X z) else (if vw = (nI 2) then some (some (.long (lN (rV (G.2.1.2.1 k) Y 0).2.2)), mk X z) else (if vw < (nI 10) then rn 265 63 [some (.ref 110), some (.int vw)] [] (mk X z) else (if nI (10 + (rF (G.2.1.2.1 k) Y ((G.2.1.2.1 k).1 0)).2) ≤ vw then rn 265 63 [some (.ref 110), some (.int vw)] [] (mk X z) else qz_ia (mk X z).1 115 (vw - (nI 10)) (fun x3 => some (some (.long x3.toInt64), mk X z))))))) := by
        rw [e_Reading_told_0, g_R_cost, i_R_cost (by decide), z112, g_R_number, z110, g_R_ways, i_R_ways (by decide), z114, g_R_number, z110, nI_add, g_R_shape]
      have walk : ∀ L, L < 20 → rn 271 125 [some (.ref 318), some (.int (nI k)), none, some (.int vw), some (.int (nI L)), some (.int (nI 0)), none] [] (mk X w) = some (some (.long (if L < (rF (G.2.1.2.1 k) Y ((G.2.1.2.1 k).1 0)).2 then (if nI 30 ≤ vw then (z.1 116 L).toInt64 else (z.1 115 L).toInt64) else -1)), mk X w) := fun L hL => M_rwalk_run X hk7 ok hMw w4 (cs := z.1 115) (cc := z.1 116) zt vw hL ((G.2.1.2.1 k).1 0) 0 0 (by omega) rfl (Nat.zero_le L)
      by_cases v0 : vw < 0
      · refine sim_ql (r := .long (-1)) h (s1 := z) (s2 := w) ?_ f1 ?_ f2
        · have a0 : ¬ vw = 0 := fun e => by rw [e] at v0; revert v0; decide
          have a1 : ¬ vw = nI 1 := fun e => by rw [e] at v0; revert v0; decide
          have a2 : ¬ vw = nI 2 := fun e => by rw [e] at v0; revert v0; decide
          have a3 : vw < nI 10 := by
            rw [fa_lt] at v0 ⊢
            have : (nI 10).toInt = 10 := by decide
            have : (0 : Int32).toInt = 0 := by decide
            omega
          have a4 : vw < nI 40 := by
            rw [fa_lt] at v0 ⊢
            have : (nI 40).toInt = 40 := by decide
            have : (0 : Int32).toInt = 0 := by decide
            omega
          rw [hcl, htold, if_neg a0, if_neg a1, if_neg a2, if_pos a3, none63, if_pos a4, r2_s]
        · have a3 : vw < nI 10 := by
            rw [fa_lt] at v0 ⊢
            have : (nI 10).toInt = 10 := by decide
            have : (0 : Int32).toInt = 0 := by decide
            omega
          have a4 : vw < nI 40 := by
            rw [fa_lt] at v0 ⊢
            have : (nI 40).toInt = 40 := by decide
            have : (0 : Int32).toInt = 0 := by decide
            omega
          rw [hrf, if_pos (by rw [if_pos (by rw [nI_0]; exact v0), nI_0]), if_pos (by rw [if_pos a3, nI_0]), if_pos (by rw [if_pos a4, nI_0])]
      · obtain ⟨j, hj, rfl⟩ := nI_of v0
        by_cases j3 : j < 3
        · have hr2 : (if (if nI j < nI 0 then nI 0 else if nI 2 < nI j then nI 0 else nI 1 : Int32) = 0 then (1 : Nat) else 2) = 2 := by
            rw [if_neg]
            rw [if_neg (nI_nlt (by omega) hj), if_neg (nI_nlt (by omega) (by decide))]
            decide
          have cond : ¬ (if nI j < nI 0 then nI 0 else if nI 2 < nI j then nI 0 else nI 1 : Int32) = 0 := by
            rw [if_neg (nI_nlt (by omega) hj), if_neg (nI_nlt (by omega) (by decide))]
            decide
          rw [if_neg cond] at hrf
          rcases (show j = 0 ∨ j = 1 ∨ j = 2 by omega) with rfl | rfl | rfl
          · rw [if_pos nI_0] at hrf htold
            refine sim_ql (r := .long (nI (rV (G.2.1.2.1 k) Y 0).1).toInt64) h (s1 := z) (s2 := w) ?_ f1 hrf f2
            rw [hcl, htold, r2_s]
          · rw [if_neg (by decide), if_pos rfl] at hrf htold
            refine sim_ql (r := .long (nI (rV (G.2.1.2.1 k) Y 0).2.1).toInt64) h (s1 := z) (s2 := w) ?_ f1 hrf f2
            rw [hcl, htold, r2_s, hN]
          · rw [if_neg (by decide), if_neg (by decide)] at hrf
            rw [if_neg (by decide), if_neg (by decide), if_pos rfl] at htold
            refine sim_ql (r := .long (lN (rV (G.2.1.2.1 k) Y 0).2.2)) h (s1 := z) (s2 := w) ?_ f1 hrf f2
            rw [hcl, htold, r2_s]
        · have c0 : ¬ nI j = 0 := nI_ne0 (by omega) hj
          have c1 : ¬ nI j = nI 1 := fun e => by rw [nI_eq hj (by decide)] at e; omega
          have c2 : ¬ nI j = nI 2 := fun e => by rw [nI_eq hj (by decide)] at e; omega
          rw [if_neg c0, if_neg c1, if_neg c2] at htold
          rw [if_pos (by rw [if_neg (nI_nlt (by omega) hj), if_pos (nI_lt (by omega) hj), nI_0])] at hrf
          by_cases r10 : 10 ≤ j ∧ j < 30
          · rw [if_neg (by rw [if_neg (nI_nlt (by omega) hj), if_neg (nI_nlt (by omega) (by decide))]; decide), e_M_read_104, if_neg (by decide), if_neg (by decide), if_neg (by decide), lf_10 j r10.2 r10.1, walk (j - 10) (by omega)] at hrf
            rw [if_neg (nI_nlt (by omega) hj)] at htold
            by_cases hlt : j - 10 < (rF (G.2.1.2.1 k) Y ((G.2.1.2.1 k).1 0)).2
            · rw [if_pos hlt, if_neg (nI_ge (by omega) (by decide))] at hrf
              rw [if_neg (nI_ge (by omega) (by omega)), pk_sub (by omega), i_R_shape (by omega)] at htold
              refine sim_ql (r := .long (z.1 115 (j - 10)).toInt64) h (s1 := z) (s2 := w) ?_ f1 hrf f2
              rw [hcl, htold, r2_s]
            · rw [if_neg hlt] at hrf
              rw [if_pos (nI_le (by omega) hj), none63, if_pos (nI_lt (by omega) (by decide))] at htold
              refine sim_ql (r := .long (-1)) h (s1 := z) (s2 := w) ?_ f1 hrf f2
              rw [hcl, htold, r2_s]
          · rw [if_pos (show (if nI j < nI 10 then nI 0 else if nI 29 < nI j then nI 0 else nI 1 : Int32) = 0 by
              by_cases q : j < 10
              · rw [if_pos (nI_lt q (by decide)), nI_0]
              · rw [if_neg (nI_nlt (by omega) hj), if_pos (nI_lt (by omega) hj), nI_0])] at hrf
            have t63 : rn 265 0 [some (.ref 110), some (.int (nI j))] [] (mk X z) = rn 265 63 [some (.ref 110), some (.int (nI j))] [] (mk X z) := by
              rw [htold]
              by_cases q : j < 10
              · rw [if_pos (nI_lt q (by decide))]
              · rw [if_neg (nI_nlt (by omega) hj), if_pos (nI_le (by omega) hj)]
            by_cases r40 : 40 ≤ j ∧ j < 60
            · rw [if_neg (by rw [if_neg (nI_nlt (by omega) hj), if_neg (nI_nlt (by omega) (by decide))]; decide), e_M_read_104, if_neg (by decide), if_neg (by decide), if_neg (by decide), lf_40 j r40.2 r40.1, walk (j - 40) (by omega), if_pos (show nI 30 ≤ nI j from nI_le (by omega) hj)] at hrf
              rw [if_neg (nI_nlt (by omega) hj)] at none63
              by_cases hlt : j - 40 < (rF (G.2.1.2.1 k) Y ((G.2.1.2.1 k).1 0)).2
              · rw [if_pos hlt] at hrf
                rw [if_neg (nI_ge (by omega) (by omega)), pk_sub (by omega), i_R_column (by omega)] at none63
                refine sim_ql (r := .long (z.1 116 (j - 40)).toInt64) h (s1 := z) (s2 := w) ?_ f1 hrf f2
                rw [hcl, t63, none63, r2_s]
              · rw [if_neg hlt] at hrf
                rw [if_pos (nI_le (by omega) hj)] at none63
                refine sim_ql (r := .long (-1)) h (s1 := z) (s2 := w) ?_ f1 hrf f2
                rw [hcl, t63, none63, r2_s]
            · rw [if_pos (show (if nI j < nI 40 then nI 0 else if nI 59 < nI j then nI 0 else nI 1 : Int32) = 0 by
                by_cases q : j < 40
                · rw [if_pos (nI_lt q (by decide)), nI_0]
                · rw [if_neg (nI_nlt (by omega) hj), if_pos (nI_lt (by omega) hj), nI_0])] at hrf
              refine sim_ql (r := .long (-1)) h (s1 := z) (s2 := w) ?_ f1 hrf f2
              rw [hcl, t63, none63]
              by_cases q : j < 40
              · rw [if_pos (nI_lt q (by decide)), r2_s]
              · rw [if_neg (nI_nlt (by omega) hj), if_pos (nI_le (by omega) hj), r2_s]
    · refine sim_ql (r := .long (-1)) h (s1 := s) (s2 := s) ?_ (fr.rf s) ?_ (fr.rf s)
      · rw [e_C_read_0, ck_C, C_told_yes X h hk, r3_r]
        by_cases h0 : vy < 0
        · rw [if_pos h0]
        · rw [if_neg h0, g_S_high hS, hC.1.2.1, if_neg]
          intro z
          obtain ⟨j, hj, rfl⟩ := nI_of h0
          exact hno ⟨j, (nI_ltI hj (by omega)).mp z, rfl⟩
      · rw [e_M_read_0, ck_M, M_sheet_yes X h hk, r1_s, if_neg (by decide), ck_M, M_high_run X hk7 hM, r1_s]
        rcases isIn_lt (mk X s) vy (n := (G.2.1.2.1 k).1 1) (by omega) with ⟨g, -⟩ | ⟨-, e⟩
        · exact absurd g hno
        · rw [e, r1_s, if_pos nI_0]
  · refine sim_ql (r := .long (-1)) h (s1 := s) (s2 := s) ?_ (fr.rf s) ?_ (fr.rf s)
    · rw [e_C_read_0, ck_C, C_told_no X h hn, r3_n]
    · rw [e_M_read_0, ck_M, M_sheet_no X h hn, r1_s, if_pos nI_0]

/-! reading: the class -/
def hzB (A : shT) (Y k x : Nat) : Bool := decide (Y + k < A.1 1) && hol A (nI (A.1 5)) (20 * (Y + k) + x)
def loR (A : shT) (Y x : Nat) : Nat := fb_ct (fun k => hzB A Y k x) 8
def coR (A : shT) (Y k x : Nat) : Nat := fb_sm (fun y => fb_ct (fun a => hzB A Y y (x + a) ^^ (A.2.2.2.2 5 (8 * k + y)).testBit a) (A.2.2.2.2 3 k)) (A.2.2.2.2 4 k)
def rV (A : shT) (Y : Nat) : Nat → t3 := rdV (A.1 0) (A.1 3) (A.2.2.2.2 3) (loR A Y) (coR A Y)
def rN (A : shT) (Y : Nat) : Nat → Nat := shN (A.1 0) (A.1 3) (A.2.2.2.2 3) (loR A Y) (coR A Y)
def rF (A : shT) (Y : Nat) : Nat → Nat × Nat := foR (A.1 0) (A.1 3) (A.2.2.2.2 3) (loR A Y) (coR A Y)
theorem loR_le (A : shT) (Y x : Nat) : loR A Y x ≤ 8 := fb_ct_le _ _
theorem okW {A : shT} (ok : okA A) : ∀ k, k < A.1 3 → 1 ≤ A.2.2.2.2 3 k := fun k hk => (ok.2.2.2.2.2.2.2.2.2.2.2.2.2 k hk).1.1
theorem coR_le {A : shT} (ok : okA A) (Y : Nat) {k : Nat} (hk : k < A.1 3) (x : Nat) : coR A Y k x ≤ 64 := by
  obtain ⟨h1, h2, -⟩ := ok.2.2.2.2.2.2.2.2.2.2.2.2.2 k hk
  unfold coR
  have := fb_sm_bound (f := fun y => fb_ct (fun a => hzB A Y y (x + a) ^^ (A.2.2.2.2 5 (8 * k + y)).testBit a) (A.2.2.2.2 3 k)) (c := 8) (n := A.2.2.2.2 4 k) (fun y _ => Nat.le_trans (fb_ct_le _ _) h1.2)
  have h3 : A.2.2.2.2 4 k * 8 ≤ 8 * 8 := Nat.mul_le_mul_right _ h2.2
  omega
theorem rV_b {A : shT} (ok : okA A) (Y : Nat) {a : Nat} (ha : a ≤ A.1 0) : (rV A Y a).1 ≤ 160 ∧ (rV A Y a).2.1 ≤ 20 ∧ 1 ≤ (rV A Y a).2.2 ∧ (rV A Y a).2.2 ≤ 1000000000000000000 := by
  have o1 := ok.1
  have := rdV_b (A.1 0) (A.1 3) (A.2.2.2.2 3) (loR A Y) (coR A Y) (okW ok) (fun a _ => loR_le A Y a) (A.1 0 - a) (by omega)
  rw [show A.1 0 - (A.1 0 - a) = a by omega] at this
  obtain ⟨h1, h2, h3⟩ := this
  exact ⟨by show (rdV _ _ _ _ _ a).1 ≤ 160; omega, by show (rdV _ _ _ _ _ a).2.1 ≤ 20; omega, h3⟩
def tri (u : sT) (j : Nat) (x : t3) : Prop := u.1 112 j = nI x.1 ∧ u.1 113 j = nI x.2.1 ∧ u.2.1 114 j = lN x.2.2
def opR (u : sT) (A : shT) (Y : Nat) : Prop := ∀ k, k < 8 → ∀ x, x < 32 → bt (u.1 111 k) x = (decide (x < 20) && hzB A Y k x)
def rdF (s u : sT) : Prop := u.2.2 = s.2.2 ∧ ∀ c, c ∉ [110, 111, 112, 113, 115, 116] → u.1 c = s.1 c
theorem rdF.tr {s u v : sT} (h : rdF s u) (g : rdF u v) : rdF s v := ⟨by rw [g.1, h.1], fun c hc => by rw [g.2 c hc, h.2 c hc]⟩
theorem rdF.rf (s : sT) : rdF s s := ⟨rfl, fun _ _ => rfl⟩
theorem rdF_su {s : sT} {c k : Nat} {x : Int32} (hc : c ∈ [110, 111, 112, 113, 115, 116]) : rdF s (su s c k x) := ⟨rfl, fun c' hc' => by
  funext j
  rw [su_1, if_neg (fun e => hc' (by rw [e.1]; exact hc))]⟩
theorem rdF_sl {s : sT} {c k : Nat} {x : Int64} : rdF s (sl s c k x) := ⟨rfl, fun _ _ => rfl⟩
theorem isC_rd {s u : sT} {q : Nat} {A : shT} (hq : isS q) (h : rdF s u) (hC : isC s q A) : isC u q A := by
  have h1 := isS_gap q hq
  refine isC_cong (fun i hi => h.2 _ ?_) hC
  simp only [List.mem_cons, List.not_mem_nil, or_false, not_or]
  omega
theorem costLeftOut_run (X : qz_X) {s : sT} {A : shT} {Y : Nat} (ho : opR s A Y) {a : Nat} (ha : a < 20) : rn 258 0 [some (.ref 110), some (.int (nI a)), none, none] [] (mk X s) = some (some (.int (nI (loR A Y a))), mk X s) := by
  obtain ⟨v, rfl, e⟩ := it_up (fun k (v : Int32) => rn 258 4 [some (.ref 110), some (.int (nI a)), some (.int v), some (.int (nI k))] [] (mk X s)) (fun k v => v = nI (fb_ct (fun k => hzB A Y k a) k)) (Nat.zero_le 8) (by
    rintro k v _ hk rfl
    try dsimp only
    refine ⟨_, rfl, ?_⟩
    rw [e_Reading_costLeftOut_4, if_neg (nI_ge hk (by decide)), g_R_open, i_R_open hk, b_sel _ (show a < 32 by omega), ho k hk a (by omega), decide_eq_true ha, Bool.true_and, nI_add, fb_ct_succ]
    cases hzB A Y k a
    · rw [if_neg (by decide), if_neg (by decide), nI_add]
    · rw [if_pos rfl, if_pos rfl, nI_add]) (x := nI 0) rfl
  try dsimp only at e
  rw [e_Reading_costLeftOut_0, e, e_Reading_costLeftOut_4, if_pos (nI_le (by decide) (by decide))]
  rfl
theorem ct_low {p r : Nat → Bool} {w : Nat} (hw : w ≤ 32) (h : ∀ i, i < 32 → p i = (decide (i < w) && r i)) : fb_ct p 32 = fb_ct r w := by
  rw [show 32 = w + (32 - w) by omega, fb_ct_split]
  have h2 : fb_ct (fun k => p (w + k)) (32 - w) = 0 := fb_ct_zero.mpr (fun k hk => by
    show p (w + k) = false
    rw [h _ (by omega), decide_eq_false (by omega)]
    rfl)
  rw [h2, Nat.add_zero]
  refine fb_ct_cong (fun k hk => ?_)
  rw [h k (by omega), decide_eq_true hk, Bool.true_and]
theorem costOf_run (X : qz_X) {s : sT} {q : Nat} {A : shT} {Y : Nat} (hq : isS q) (ok : okA A) (hC : isC s q A) (ho : opR s A Y) {k a : Nat} (hk : k < A.1 3) (ha : a + A.2.2.2.2 3 k ≤ A.1 0) : rn 259 0 [some (.ref 110), some (.ref q), some (.int (nI k)), some (.int (nI a)), none, none, none] [] (mk X s) = some (some (.int (nI (coR A Y k a))), mk X s) := by
  have o1 := ok.1
  have o4 := ok.2.2.2.1
  obtain ⟨w1, w2, w3⟩ := ok.2.2.2.2.2.2.2.2.2.2.2.2.2 k hk
  obtain ⟨c1, c2, c3⟩ := hC.2.2.2.2.2.2 k hk
  obtain ⟨v, rfl, e⟩ := it_up (fun y (v : Int32) => rn 259 18 [some (.ref 110), some (.ref q), some (.int (nI k)), some (.int (nI a)), some (.int v), some (.int (nI (2 ^ A.2.2.2.2 3 k - 1))), some (.int (nI y))] [] (mk X s)) (fun y v => v = nI (fb_sm (fun y => fb_ct (fun i => hzB A Y y (a + i) ^^ (A.2.2.2.2 5 (8 * k + y)).testBit i) (A.2.2.2.2 3 k)) y)) (Nat.zero_le (A.2.2.2.2 4 k)) (by
    rintro y v _ hy rfl
    try dsimp only
    refine ⟨_, rfl, ?_⟩
    have hrow := c3 y hy
    have hlt := w3 y hy
    have hlt2 : A.2.2.2.2 5 (8 * k + y) < 2 ^ 31 := Nat.lt_of_lt_of_le hlt (Nat.pow_le_pow_right (by decide) (by omega))
    have hct : fb_ct (fun i => bt (((s.1 111 y >>> (nI a &&& 31)) &&& nI (2 ^ A.2.2.2.2 3 k - 1)) ^^^ nI (A.2.2.2.2 5 (8 * k + y))) i) 32 = fb_ct (fun i => hzB A Y y (a + i) ^^ (A.2.2.2.2 5 (8 * k + y)).testBit i) (A.2.2.2.2 3 k) := ct_low (by omega) (fun i hi => by
      rw [b_xor, b_and, low_all _ (by omega) i hi, bt_nat (by omega)]
      by_cases h : i < A.2.2.2.2 3 k
      · rw [decide_eq_true h, b_sshr a (by omega) _ hi, if_pos (by omega), ho y (by omega) _ (by omega), decide_eq_true (show a + i < 20 by omega)]
        simp
      · rw [decide_eq_false h, Nat.testBit_lt_two_pow (Nat.lt_of_lt_of_le hlt (Nat.pow_le_pow_right (by decide) (by omega)))]
        simp)
    rw [e_Reading_costOf_18, g_S_shapeHigh hq, i_S_shapeHigh hq (by omega), c2, if_neg (nI_ge hy (by omega)), g_R_open, i_R_open (by omega), g_S_shapeRows hq, pk_mul, nI_add, Nat.mul_comm k 8, i_S_shapeRows hq (by omega), hrow, pop_run, r1_s, hct, nI_add, nI_add, fb_sm_succ]) (x := nI 0) rfl
  try dsimp only at e
  rw [e_Reading_costOf_0, g_S_shapeWide hq, i_S_shapeWide hq (by omega), c1, one_n _ (by omega), e, e_Reading_costOf_18, g_S_shapeHigh hq, i_S_shapeHigh hq (by omega), c2, if_pos (nI_le (Nat.le_refl _) (by omega))]
  rfl
theorem min2_run (w : qz_W) {a b : Nat} (ha : a < 2 ^ 63) (hb : b < 2 ^ 63) : rn 260 0 [some (.long (lN a)), none, some (.long (lN b)), none] [] w = some (some (.long (lN (if b < a then b else a))), w) := by
  rw [e_Math_min2_0]
  by_cases h : b < a
  · rw [if_pos ((lg_cmp_gt _ _).mpr ((pk_lLT hb ha).mpr h)), if_pos h]
  · rw [if_neg (fun z => h ((pk_lLT hb ha).mp ((lg_cmp_gt _ _).mp z))), if_neg h]
theorem rweigh_run (X : qz_X) {s : sT} {a n p : Nat} {x y : t3} (ha : a < 21) (hn : n < 21) (hp : p ≤ 1000) (h1 : tri s a x) (h2 : tri s n y) (x1 : x.1 ≤ 1000) (y1 : y.1 ≤ 1000) (x2 : x.2.1 ≤ 1000) (y2 : y.2.1 ≤ 1000) (x3 : x.2.2 ≤ 1000000000000000000) (y3 : y.2.2 ≤ 1000000000000000000) : ∃ z : sT, rn 261 0 [some (.ref 110), some (.int (nI a)), some (.int (nI p)), some (.int (nI n)), none] [] (mk X s) = some (none, mk X z) ∧ tri z a (stp x (p + y.1, y.2.1 + 1, y.2.2)) ∧ (∀ j, j ≠ a → z.1 112 j = s.1 112 j ∧ z.1 113 j = s.1 113 j ∧ z.2.1 114 j = s.2.1 114 j) ∧ z.2.2 = s.2.2 ∧ ∀ c, c ∉ [112, 113] → z.1 c = s.1 c := by
  obtain ⟨a1, a2, a3⟩ := h1
  obtain ⟨b1, b2, b3⟩ := h2
  have keep : ∀ v w c, c ∉ [112, 113] → (su (su s 112 a v) 113 a w).1 c = s.1 c := fun v w c hc => by
    simp only [List.mem_cons, List.not_mem_nil, or_false, not_or] at hc
    funext j
    rw [su_1, if_neg (fun e => hc.2 e.1), su_1, if_neg (fun e => hc.1 e.1)]
  rw [e_Reading_weigh_0, g_R_cost, i_R_cost hn, b1, g_R_cost, i_R_cost ha, a1, nI_add]
  rcases Nat.lt_trichotomy (p + y.1) x.1 with h | h | h
  · rw [if_neg (nI_ge h (by omega)), g_R_cost, w_R_cost ha, g_R_used, g_R_used, i_R_used hn, su_1, if_neg (by omega), b2, nI_add, w_R_used ha, g_R_ways, g_R_ways, i_R_ways hn, w_R_ways ha]
    rw [stp_lt (y := (p + y.1, y.2.1 + 1, y.2.2)) h]
    refine ⟨_, rfl, ⟨?_, ?_, ?_⟩, fun j hj => ⟨?_, ?_, ?_⟩, rfl, fun c hc => ?_⟩
    · rw [sl_1, su_1, if_neg (by omega), su_1, if_pos ⟨rfl, rfl⟩]
    · rw [sl_1, su_1, if_pos ⟨rfl, rfl⟩]
    · rw [sl_2, if_pos ⟨rfl, rfl⟩]
      exact b3
    · rw [sl_1, su_1, if_neg (by omega), su_1, if_neg (fun e => hj e.2)]
    · rw [sl_1, su_1, if_neg (fun e => hj e.2), su_1, if_neg (by omega)]
    · rw [sl_2, if_neg (fun e => hj e.2)]
      rfl
    · rw [sl_1]; exact keep _ _ c hc
  · rw [if_pos (nI_le (by omega) (by omega)), g_R_cost, i_R_cost ha, a1, if_pos (by rw [h]), g_R_used, g_R_used, i_R_used ha, a2, g_R_used, i_R_used hn, b2, nI_add, min_run _ (by omega) (by omega), r1_s, w_R_used ha, g_R_ways, g_R_ways, i_R_ways ha, g_R_ways, i_R_ways hn]
    rw [show (su s 113 a (nI (if y.2.1 + 1 < x.2.1 then y.2.1 + 1 else x.2.1))).2.1 = s.2.1 from rfl, a3, b3, lN_add, min2_run _ (by decide) (by omega), r2_s, w_R_ways ha]
    rw [stp_eq (y := (p + y.1, y.2.1 + 1, y.2.2)) h]
    refine ⟨_, rfl, ⟨?_, ?_, ?_⟩, fun j hj => ⟨?_, ?_, ?_⟩, rfl, fun c hc => ?_⟩
    · rw [sl_1, su_1, if_neg (by omega)]; exact a1
    · rw [sl_1, su_1, if_pos ⟨rfl, rfl⟩]
    · rw [sl_2, if_pos ⟨rfl, rfl⟩]
    · rw [sl_1, su_1, if_neg (by omega)]
    · rw [sl_1, su_1, if_neg (fun e => hj e.2)]
    · rw [sl_2, if_neg (fun e => hj e.2)]
      rfl
    · simp only [List.mem_cons, List.not_mem_nil, or_false, not_or] at hc
      rw [sl_1]
      funext j
      rw [su_1, if_neg (fun e => hc.2 e.1)]
  · rw [if_pos (nI_le (by omega) (by omega)), g_R_cost, i_R_cost ha, a1, if_neg (fun z => by rw [nI_eq (by omega) (by omega)] at z; omega)]
    rw [stp_gt (y := (p + y.1, y.2.1 + 1, y.2.2)) h]
    exact ⟨s, rfl, ⟨a1, a2, a3⟩, fun j _ => ⟨rfl, rfl, rfl⟩, rfl, fun _ _ => rfl⟩
theorem shapeAt_run (X : qz_X) {s : sT} {q : Nat} {A : shT} {Y : Nat} (hq : isS q) (ok : okA A) (hC : isC s q A) (ho : opR s A Y) (ht : ∀ j, j ≤ A.1 0 → tri s j (rV A Y j)) {a : Nat} (ha : a < A.1 0) : rn 262 0 [some (.ref 110), some (.ref q), some (.int (nI a)), none, none] [] (mk X s) = some (some (.int (if rN A Y a < A.1 3 then nI (rN A Y a) else -1)), mk X s) := by
  have o1 := ok.1
  have o4 := ok.2.2.2.1
  have hS : s.1 q 10 = nI (A.1 3) := hC.1.2.2.2.1
  have hW : s.1 q 1 = nI (A.1 0) := hC.1.1
  have hle : rN A Y a ≤ A.1 3 := fa_first_le _ _
  have ba := rV_b ok Y (show a ≤ A.1 0 by omega)
  have body : ∀ k, k < A.1 3 → rn 262 2 [some (.ref 110), some (.ref q), some (.int (nI a)), some (.int (nI k)), none] [] (mk X s) = if shq (A.1 0) (A.1 3) (A.2.2.2.2 3) (loR A Y) (coR A Y) a k then some (some (.int (nI k)), mk X s) else rn 262 2 [some (.ref 110), some (.ref q), some (.int (nI a)), some (.int (nI (k + 1))), none] [] (mk X s) := by
    intro k hk
    obtain ⟨w1, w2, w3⟩ := ok.2.2.2.2.2.2.2.2.2.2.2.2.2 k hk
    obtain ⟨c1, c2, c3⟩ := hC.2.2.2.2.2.2 k hk
    rw [e_Reading_shapeAt_2, g_S_shapeNumber hq, hS, if_neg (nI_ge hk (by omega)), g_S_shapeWide hq, i_S_shapeWide hq (by omega), c1, g_S_wide hq, hW, nI_add, nI_add]
    unfold shq
    by_cases hw : a + A.2.2.2.2 3 k ≤ A.1 0
    · have bn := rV_b ok Y hw
      obtain ⟨t1, t2, -⟩ := ht _ hw
      obtain ⟨t3, t4, -⟩ := ht a (by omega)
      have hco := coR_le ok Y hk a
      rw [if_neg (nI_nlt hw (by omega)), decide_eq_true hw, Bool.true_and, g_R_used, i_R_used (by omega), t2, g_R_used, i_R_used (by omega), t4, nI_add]
      by_cases hu : (rV A Y (a + A.2.2.2.2 3 k)).2.1 + 1 = (rV A Y a).2.1
      · rw [if_pos (by rw [hu]), ck_R, costOf_run X hq ok hC ho hk hw, r1_s, g_R_cost, i_R_cost (by omega), t1, g_R_cost, i_R_cost (by omega), t3, nI_add]
        have hu' : (rdV (A.1 0) (A.1 3) (A.2.2.2.2 3) (loR A Y) (coR A Y) (a + A.2.2.2.2 3 k)).2.1 + 1 = (rdV (A.1 0) (A.1 3) (A.2.2.2.2 3) (loR A Y) (coR A Y) a).2.1 := hu
        rw [decide_eq_true hu', Bool.true_and]
        by_cases hc : coR A Y k a + (rV A Y (a + A.2.2.2.2 3 k)).1 = (rV A Y a).1
        · have hc' : coR A Y k a + (rdV (A.1 0) (A.1 3) (A.2.2.2.2 3) (loR A Y) (coR A Y) (a + A.2.2.2.2 3 k)).1 = (rdV (A.1 0) (A.1 3) (A.2.2.2.2 3) (loR A Y) (coR A Y) a).1 := hc
          rw [if_pos (by rw [hc]), decide_eq_true hc', if_pos rfl]
        · have hc' : ¬ coR A Y k a + (rdV (A.1 0) (A.1 3) (A.2.2.2.2 3) (loR A Y) (coR A Y) (a + A.2.2.2.2 3 k)).1 = (rdV (A.1 0) (A.1 3) (A.2.2.2.2 3) (loR A Y) (coR A Y) a).1 := hc
          rw [if_neg (fun z => hc ((nI_eq (by omega) (by omega)).mp z)), decide_eq_false hc', if_neg (by decide)]
      · have hu' : ¬ (rdV (A.1 0) (A.1 3) (A.2.2.2.2 3) (loR A Y) (coR A Y) (a + A.2.2.2.2 3 k)).2.1 + 1 = (rdV (A.1 0) (A.1 3) (A.2.2.2.2 3) (loR A Y) (coR A Y) a).2.1 := hu
        rw [if_neg (fun z => hu ((nI_eq (by omega) (by omega)).mp z)), decide_eq_false hu', Bool.false_and, if_neg (by decide)]
    · rw [if_pos (nI_lt (by omega) (by omega)), decide_eq_false hw, Bool.false_and, if_neg (by decide)]
  obtain ⟨v, -, e⟩ := it_up (fun k (_ : Unit) => rn 262 2 [some (.ref 110), some (.ref q), some (.int (nI a)), some (.int (nI k)), none] [] (mk X s)) (fun _ _ => True) (Nat.zero_le (rN A Y a)) (by
    rintro k _ _ hk _
    refine ⟨(), trivial, ?_⟩
    try dsimp only
    rw [body k (by omega), show shq (A.1 0) (A.1 3) (A.2.2.2.2 3) (loR A Y) (coR A Y) a k = false from fa_first_no _ _ k hk, if_neg (by decide)]) (x := ()) trivial
  try dsimp only at e
  rw [e_Reading_shapeAt_0]
  refine Eq.trans e ?_
  by_cases hlt : rN A Y a < A.1 3
  · rw [if_pos hlt, body _ hlt, show shq (A.1 0) (A.1 3) (A.2.2.2.2 3) (loR A Y) (coR A Y) a (rN A Y a) = true from fa_first_yes _ _ hlt, if_pos rfl]
  · rw [if_neg hlt, e_Reading_shapeAt_2, g_S_shapeNumber hq, hS, if_pos (nI_le (by omega) (by omega))]
theorem su3_a (u : sT) (m : Nat) (v v2 v3 : Int32) (n : Nat) : (su (su (su u 115 m v) 116 m v2) 110 6 v3).1 115 n = if n = m then v else u.1 115 n := by
  rw [su_1, if_neg (by omega), su_1, if_neg (by omega), su_1]
  by_cases e : n = m
  · rw [if_pos ⟨rfl, e⟩, if_pos e]
  · rw [if_neg (fun z => e z.2), if_neg e]
theorem su3_b (u : sT) (m : Nat) (v v2 v3 : Int32) (n : Nat) : (su (su (su u 115 m v) 116 m v2) 110 6 v3).1 116 n = if n = m then v2 else u.1 116 n := by
  rw [su_1, if_neg (by omega), su_1]
  by_cases e : n = m
  · rw [if_pos ⟨rfl, e⟩, if_pos e]
  · rw [if_neg (fun z => e z.2), if_neg e, su_1, if_neg (by omega)]
theorem rfollow_run (X : qz_X) {s : sT} {q : Nat} {A : shT} {Y : Nat} (hq : isS q) (ok : okA A) (hC : isC s q A) (ho : opR s A Y) (ht : ∀ j, j ≤ A.1 0 → tri s j (rV A Y j)) : ∃ z : sT, rn 263 0 [some (.ref 110), some (.ref q), none, none, none] [] (mk X s) = some (none, mk X z) ∧ z.2 = s.2 ∧ (∀ c, c ∉ [110, 115, 116] → z.1 c = s.1 c) ∧ z.1 110 6 = nI (rF A Y (A.1 0)).2 ∧ ∀ a, a < A.1 0 → ∀ n, rF A Y a = (a, n) → rN A Y a < A.1 3 → n < (rF A Y (A.1 0)).2 ∧ z.1 115 n = nI (rN A Y a) ∧ z.1 116 n = nI a := by
  have o1 := ok.1
  have sg := isS_gap q hq
  obtain ⟨z, ⟨z2, zc, zn, zt⟩, e⟩ := it_up (fun a (u : sT) => rn 263 9 [some (.ref 110), some (.ref q), some (.int (nI (rF A Y a).1)), some (.int (nI a)), none] [] (mk X u)) (fun a u => u.2 = s.2 ∧ (∀ c, c ∉ [110, 115, 116] → u.1 c = s.1 c) ∧ u.1 110 6 = nI (rF A Y a).2 ∧ ∀ b, b < a → ∀ n, rF A Y b = (b, n) → rN A Y b < A.1 3 → n < (rF A Y a).2 ∧ u.1 115 n = nI (rN A Y b) ∧ u.1 116 n = nI b) (Nat.zero_le (A.1 0)) (by
    rintro a u _ ha ⟨u2, uc, un, ut⟩
    try dsimp only
    have hCu : isC u q A := isC_cong (fun i hi => uc _ (by simp; omega)) hC
    have hou : opR u A Y := fun k hk x hx => by rw [uc 111 (by decide)]; exact ho k hk x hx
    have htu : ∀ j, j ≤ A.1 0 → tri u j (rV A Y j) := fun j hj => by
      obtain ⟨t1, t2, t3⟩ := ht j hj
      exact ⟨by rw [uc 112 (by decide)]; exact t1, by rw [uc 113 (by decide)]; exact t2, by rw [u2]; exact t3⟩
    have hge := foR_ge (A.1 0) (A.1 3) (A.2.2.2.2 3) (loR A Y) (coR A Y) (okW ok) a (by omega)
    have hge : a ≤ (rF A Y a).1 ∧ (rF A Y a).1 ≤ A.1 0 ∧ (rF A Y a).2 ≤ a := hge
    have hs : rF A Y (a + 1) = if (rF A Y a).1 = a then (if rN A Y a < A.1 3 then (a + A.2.2.2.2 3 (rN A Y a), (rF A Y a).2 + 1) else (a + 1, (rF A Y a).2)) else rF A Y a := rfl
    rw [e_Reading_follow_9, g_S_wide hq, hCu.1.1, if_neg (nI_ge ha (by omega))]
    by_cases hn : (rF A Y a).1 = a
    · rw [if_pos hn] at hs
      rw [if_pos (by rw [hn]), ck_R, shapeAt_run X hq ok hCu hou htu ha, r1_s]
      by_cases hk : rN A Y a < A.1 3
      · obtain ⟨w1, w2, w3⟩ := ok.2.2.2.2.2.2.2.2.2.2.2.2.2 _ hk
        obtain ⟨c1, -, -⟩ := hCu.2.2.2.2.2.2 _ hk
        have o4 := ok.2.2.2.1
        rw [if_pos hk] at hs ⊢
        have hmany : (rF A Y a).2 < 20 := by omega
        rw [if_neg (nI_m1 (by omega)), g_R_shape, g_R_number, un, w_R_shape hmany, g_R_column, g_R_number, su_1, if_neg (by omega), un, w_R_column hmany, g_R_number, su_1, if_neg (by omega), su_1, if_neg (by omega), un, nI_add, p_R_number, g_S_shapeWide hq, i_S_shapeWide hq (by omega)]
        have c1' : (su (su (su u 115 (rF A Y a).2 (nI (rN A Y a))) 116 (rF A Y a).2 (nI a)) 110 6 (nI ((rF A Y a).2 + 1))).1 (q + 7) (rN A Y a) = nI (A.2.2.2.2 3 (rN A Y a)) := by
          rw [su_1, if_neg (by omega), su_1, if_neg (by omega), su_1, if_neg (by omega)]
          exact c1
        rw [c1', nI_add, nI_add, hs]
        refine ⟨su (su (su u 115 (rF A Y a).2 (nI (rN A Y a))) 116 (rF A Y a).2 (nI a)) 110 6 (nI ((rF A Y a).2 + 1)), ⟨u2, fun c hc => ?_, ?_, fun b hb n hbn hbk => ?_⟩, rfl⟩
        · have hc2 := hc
          simp only [List.mem_cons, List.not_mem_nil, or_false, not_or] at hc2
          funext j
          rw [su_1, if_neg (by omega), su_1, if_neg (by omega), su_1, if_neg (by omega), uc c hc]
        · rw [su_1, if_pos ⟨rfl, rfl⟩]
        · rw [su3_a, su3_b]
          by_cases eb : b = a
          · subst eb
            have en : n = (rF A Y b).2 := by rw [hbn]
            rw [if_pos en, if_pos en, en]
            exact ⟨Nat.lt_succ_self _, rfl, rfl⟩
          · obtain ⟨t1, t2, t3⟩ := ut b (by omega) n hbn hbk
            rw [if_neg (by omega), if_neg (by omega)]
            exact ⟨by show n < (rF A Y a).2 + 1; omega, t2, t3⟩
      · rw [if_neg hk] at hs ⊢
        rw [if_pos rfl, if_pos (by rw [hn]), nI_add, hs]
        refine ⟨u, ⟨u2, uc, un, fun b hb n hbn hbk => ?_⟩, rfl⟩
        by_cases eb : b = a
        · subst eb; exact absurd hbk hk
        · exact ut b (by omega) n hbn hbk
    · rw [if_neg hn] at hs
      have hne : ¬ nI a = nI (rF A Y a).1 := fun z => hn ((nI_eq (by omega) (by omega)).mp z).symm
      rw [if_neg hne, if_pos rfl, if_neg hne, nI_add, hs]
      refine ⟨u, ⟨u2, uc, un, fun b hb n hbn hbk => ?_⟩, rfl⟩
      by_cases eb : b = a
      · subst eb; rw [hbn] at hn; exact absurd rfl hn
      · exact ut b (by omega) n hbn hbk) (x := su s 110 6 (nI 0)) ⟨rfl, fun c hc => by
      simp only [List.mem_cons, List.not_mem_nil, or_false, not_or] at hc
      funext j
      rw [su_1, if_neg (by omega)], by rw [su_1, if_pos ⟨rfl, rfl⟩]; rfl, fun b hb => absurd hb (Nat.not_lt_zero b)⟩
  try dsimp only at e
  refine ⟨z, ?_, z2, zc, zn, zt⟩
  have hCz : isC z q A := isC_cong (fun i hi => zc _ (by simp; omega)) hC
  rw [e_Reading_follow_0, p_R_number]
  refine Eq.trans e ?_
  rw [e_Reading_follow_9, g_S_wide hq, hCz.1.1, if_pos (nI_le (Nat.le_refl _) (by omega))]
theorem cover_run (X : qz_X) {s : sT} {q : Nat} {A : shT} {Y : Nat} (hq : isS q) (ok : okA A) (hC : isC s q A) (hY : Y < A.1 1) : ∃ z : sT, rn 264 0 [some (.ref 110), some (.ref q), some (.int (nI Y)), none, none] [] (mk X s) = some (none, mk X z) ∧ rdF s z ∧ z.1 112 0 = nI (rV A Y 0).1 ∧ z.2.1 114 0 = lN (rV A Y 0).2.2 ∧ z.1 110 6 = nI (rF A Y (A.1 0)).2 ∧ ∀ a, a < A.1 0 → ∀ n, rF A Y a = (a, n) → rN A Y a < A.1 3 → n < (rF A Y (A.1 0)).2 ∧ z.1 115 n = nI (rN A Y a) ∧ z.1 116 n = nI a := by
  have o1 := ok.1
  have o2 := ok.2.1
  have o4 := ok.2.2.2.1
  obtain ⟨u, ⟨hu, uo⟩, e1⟩ := it_up (fun k (u : sT) => rn 264 2 [some (.ref 110), some (.ref q), some (.int (nI Y)), some (.int (nI k)), none] [] (mk X u)) (fun k u => rdF s u ∧ ∀ j, j < k → ∀ x, x < 32 → bt (u.1 111 j) x = (decide (x < 20) && hzB A Y j x)) (Nat.zero_le 8) (by
    rintro k u _ hk ⟨hu, uo⟩
    try dsimp only
    have hCu := isC_rd hq hu hC
    have nx : ∀ r : Int32, (∀ x, x < 32 → bt r x = (decide (x < 20) && hzB A Y k x)) → ∃ y : sT, (rdF s y ∧ ∀ j, j < k + 1 → ∀ x, x < 32 → bt (y.1 111 j) x = (decide (x < 20) && hzB A Y j x)) ∧ rn 264 2 [some (.ref 110), some (.ref q), some (.int (nI Y)), some (.int (nI k + nI 1)), none] [] (mk X (su u 111 k r)) = rn 264 2 [some (.ref 110), some (.ref q), some (.int (nI Y)), some (.int (nI (k + 1))), none] [] (mk X y) := by
      intro r hr
      refine ⟨su u 111 k r, ⟨hu.tr (rdF_su (by decide)), fun j hj x hx => ?_⟩, by rw [nI_add]⟩
      rw [su_1]
      by_cases e : j = k
      · rw [if_pos ⟨rfl, e⟩, e]; exact hr x hx
      · rw [if_neg (fun z => e z.2)]; exact uo j (by omega) x hx
    rw [e_Reading_cover_2, if_neg (nI_ge hk (by decide)), g_R_open, g_S_high hq, hCu.1.2.1, nI_add]
    by_cases hin : Y + k < A.1 1
    · obtain ⟨r, er, br⟩ := openRow_run X hq ok hCu (y := Y + k) (by omega)
      rw [if_neg (nI_ge hin (by omega)), ck_S hq, er, r1_s, w_R_open hk]
      refine nx r (fun x hx => ?_)
      rw [br x hx]
      unfold hzB
      rw [decide_eq_true hin, Bool.true_and]
    · rw [if_pos (nI_le (by omega) (by omega)), w_R_open hk]
      refine nx (nI 0) (fun x hx => ?_)
      rw [b_n0]
      unfold hzB
      rw [decide_eq_false hin]
      simp) (x := s) ⟨rdF.rf s, fun j hj => absurd hj (Nat.not_lt_zero j)⟩
  try dsimp only at e1
  have hCu := isC_rd hq hu hC
  have hf0 : rdF s (sl (su (su u 112 (A.1 0) (nI 0)) 113 (A.1 0) (nI 0)) 114 (A.1 0) (lN 1)) := ((hu.tr (rdF_su (by decide))).tr (rdF_su (by decide))).tr rdF_sl
  have ho0 : opR (sl (su (su u 112 (A.1 0) (nI 0)) 113 (A.1 0) (nI 0)) 114 (A.1 0) (lN 1)) A Y := fun k hk x hx => by
    rw [sl_1, su_1, if_neg (by omega), su_1, if_neg (by omega)]
    exact uo k hk x hx
  obtain ⟨z, ⟨hz, zo, zt⟩, e2⟩ := it_dn (fun i (u : sT) => rn 264 78 [some (.ref 110), some (.ref q), none, some (.int (nI i + (-1))), none] [] (mk X u)) (fun i u => rdF s u ∧ opR u A Y ∧ ∀ j, i ≤ j → j ≤ A.1 0 → tri u j (rV A Y j)) (A.1 0) (by
    rintro i w hi ⟨hw, wo, wt⟩
    try dsimp only
    have bn := rV_b ok Y (show i + 1 ≤ A.1 0 by omega)
    obtain ⟨n1, n2, n3⟩ := wt (i + 1) (Nat.le_refl _) (by omega)
    have hlo := loR_le A Y i
    rw [pk_m1, e_Reading_cover_78, if_neg (nI_pos (by omega)), g_R_cost, ck_R, costLeftOut_run X wo (show i < 20 by omega), r1_s, g_R_cost, nI_add, i_R_cost (by omega), n1, nI_add, w_R_cost (by omega), g_R_used, g_R_used, i_R_used (by omega), su_1, if_neg (by omega), n2, w_R_used (by omega), g_R_ways, g_R_ways, i_R_ways (by omega)]
    rw [show (su (su w 112 i (nI (loR A Y i + (rV A Y (i + 1)).1))) 113 i (nI (rV A Y (i + 1)).2.1)).2.1 114 (i + 1) = lN (rV A Y (i + 1)).2.2 from n3, w_R_ways (by omega)]
    obtain ⟨b, ⟨hb, bo, bi, bt'⟩, eb⟩ := it_up (fun k (u : sT) => rn 264 133 [some (.ref 110), some (.ref q), none, some (.int (nI i)), some (.int (nI k))] [] (mk X u)) (fun k u => rdF s u ∧ opR u A Y ∧ tri u i (fld (A.1 0) (A.2.2.2.2 3) (coR A Y) (rV A Y) i (skp (loR A Y) (rV A Y) i) k) ∧ ∀ j, i < j → j ≤ A.1 0 → tri u j (rV A Y j)) (Nat.zero_le (A.1 3)) (by
      rintro k u _ hk ⟨hu, uo, ui, ut⟩
      try dsimp only
      have hCu := isC_rd hq hu hC
      obtain ⟨w1, w2, w3⟩ := ok.2.2.2.2.2.2.2.2.2.2.2.2.2 k hk
      obtain ⟨c1, c2, c3⟩ := hCu.2.2.2.2.2.2 k hk
      have hs : fld (A.1 0) (A.2.2.2.2 3) (coR A Y) (rV A Y) i (skp (loR A Y) (rV A Y) i) (k + 1) = if i + A.2.2.2.2 3 k ≤ A.1 0 then stp (fld (A.1 0) (A.2.2.2.2 3) (coR A Y) (rV A Y) i (skp (loR A Y) (rV A Y) i) k) (opt (A.2.2.2.2 3) (coR A Y) (rV A Y) i k) else fld (A.1 0) (A.2.2.2.2 3) (coR A Y) (rV A Y) i (skp (loR A Y) (rV A Y) i) k := rfl
      rw [e_Reading_cover_133, g_S_shapeNumber hq, hCu.1.2.2.2.1, if_neg (nI_ge hk (by omega)), g_S_shapeWide hq, i_S_shapeWide hq (by omega), c1, g_S_wide hq, hCu.1.1, nI_add, nI_add]
      by_cases hin : i + A.2.2.2.2 3 k ≤ A.1 0
      · rw [if_pos hin] at hs
        have bk := rV_b ok Y hin
        have hco := coR_le ok Y hk i
        have l1 := fld_1 (A.1 0) (A.2.2.2.2 3) (coR A Y) (f := rV A Y) (a := i) (x := skp (loR A Y) (rV A Y) i) k
        have l1' : (skp (loR A Y) (rV A Y) i).1 ≤ 168 := by show loR A Y i + (rV A Y (i + 1)).1 ≤ 168; omega
        have l2 := fld_u (A.1 0) (A.2.2.2.2 3) (coR A Y) (f := rV A Y) (a := i) (x := skp (loR A Y) (rV A Y) i) (b := 21) (by show (rV A Y (i + 1)).2.1 ≤ 21; omega) k (fun j hj hjw => by have := rV_b ok Y hjw; omega)
        have l3 := fld_w (A.1 0) (A.2.2.2.2 3) (coR A Y) (f := rV A Y) (a := i) (x := skp (loR A Y) (rV A Y) i) bn.2.2 k (fun j hj hjw => (rV_b ok Y hjw).2.2)
        obtain ⟨y, ey, yi, yo, y2, yc⟩ := rweigh_run X (a := i) (n := i + A.2.2.2.2 3 k) (p := coR A Y k i) (by omega) (by omega) (by omega) ui (ut _ (by omega) hin) (by omega) (by omega) (by omega) (by omega) l3.2 bk.2.2.2
        rw [if_neg (nI_nlt hin (by omega)), ck_R, costOf_run X hq ok hCu uo hk hin, r1_s, g_S_shapeWide hq, i_S_shapeWide hq (by omega), c1, ck_R, nI_add, ey, r0_s]
        refine ⟨y, ⟨hu.tr ⟨y2, fun c hc => yc c (by simp only [List.mem_cons, List.not_mem_nil, or_false, not_or] at hc ⊢; omega)⟩, fun k' hk' x hx => by rw [yc 111 (by decide)]; exact uo k' hk' x hx, by rw [hs]; exact yi, fun j h1 h2 => ?_⟩, rfl⟩
        obtain ⟨q1, q2, q3⟩ := yo j (by omega)
        obtain ⟨t1, t2, t3⟩ := ut j h1 h2
        exact ⟨by rw [q1]; exact t1, by rw [q2]; exact t2, by rw [q3]; exact t3⟩
      · rw [if_neg hin] at hs
        rw [if_pos (nI_lt (by omega) (by omega))]
        exact ⟨u, ⟨hu, uo, by rw [hs]; exact ui, ut⟩, rfl⟩) (x := sl (su (su w 112 i (nI (loR A Y i + (rV A Y (i + 1)).1))) 113 i (nI (rV A Y (i + 1)).2.1)) 114 i (lN (rV A Y (i + 1)).2.2)) ⟨((hw.tr (rdF_su (by decide))).tr (rdF_su (by decide))).tr rdF_sl, fun k hk x hx => by
        rw [sl_1, su_1, if_neg (by omega), su_1, if_neg (by omega)]
        exact wo k hk x hx, ⟨by rw [sl_1, su_1, if_neg (by omega), su_1, if_pos ⟨rfl, rfl⟩]; rfl, by rw [sl_1, su_1, if_pos ⟨rfl, rfl⟩]; rfl, by rw [sl_2, if_pos ⟨rfl, rfl⟩]; rfl⟩, fun j h1 h2 => by
        obtain ⟨t1, t2, t3⟩ := wt j (by omega) h2
        exact ⟨by rw [sl_1, su_1, if_neg (by omega), su_1, if_neg (by omega)]; exact t1, by rw [sl_1, su_1, if_neg (by omega), su_1, if_neg (by omega)]; exact t2, by rw [sl_2, if_neg (by omega)]; exact t3⟩⟩
    try dsimp only at eb
    refine ⟨b, ⟨hb, bo, fun j h1 h2 => ?_⟩, ?_⟩
    · by_cases e : j = i
      · subst e
        have := rdV_eq (A.1 0) (A.1 3) (A.2.2.2.2 3) (loR A Y) (coR A Y) (okW ok) (show j < A.1 0 by omega)
        show tri b j (rdV (A.1 0) (A.1 3) (A.2.2.2.2 3) (loR A Y) (coR A Y) j)
        rw [this]; exact bi
      · exact bt' j (by omega) h2
    · have hCb := isC_rd hq hb hC
      rw [eb, e_Reading_cover_133, g_S_shapeNumber hq, hCb.1.2.2.2.1, if_pos (nI_le (Nat.le_refl _) (by omega))]) (x := sl (su (su u 112 (A.1 0) (nI 0)) 113 (A.1 0) (nI 0)) 114 (A.1 0) (lN 1)) ⟨hf0, ho0, fun j h1 h2 => by
      have e : j = A.1 0 := by omega
      subst e
      show tri _ _ (rdV (A.1 0) (A.1 3) (A.2.2.2.2 3) (loR A Y) (coR A Y) (A.1 0))
      rw [rdV_end]
      exact ⟨by rw [sl_1, su_1, if_neg (by omega), su_1, if_pos ⟨rfl, rfl⟩], by rw [sl_1, su_1, if_pos ⟨rfl, rfl⟩], by rw [sl_2, if_pos ⟨rfl, rfl⟩]⟩⟩
  try dsimp only at e2
  have hCz := isC_rd hq hz hC
  obtain ⟨f, ef, f2, fc, fn, ft⟩ := rfollow_run X hq ok hCz zo (fun j hj => zt j (Nat.zero_le j) hj)
  obtain ⟨t1, -, t3⟩ := zt 0 (Nat.le_refl 0) (by omega)
  refine ⟨f, ?_, hz.tr ⟨by rw [f2], fun c hc => fc c (by simp only [List.mem_cons, List.not_mem_nil, or_false, not_or] at hc ⊢; omega)⟩, by rw [fc 112 (by decide)]; exact t1, by rw [f2]; exact t3, fn, ft⟩
  have hW1 : (su u 112 (A.1 0) (nI 0)).1 q 1 = nI (A.1 0) := (isC_rd hq (rdF_su (s := u) (c := 112) (k := A.1 0) (x := nI 0) (by decide)) hCu).1.1
  have hW2 : (su (su u 112 (A.1 0) (nI 0)) 113 (A.1 0) (nI 0)).1 q 1 = nI (A.1 0) := (isC_rd hq (rdF_su (s := su u 112 (A.1 0) (nI 0)) (c := 113) (k := A.1 0) (x := nI 0) (by decide)) (isC_rd hq (rdF_su (s := u) (c := 112) (k := A.1 0) (x := nI 0) (by decide)) hCu)).1.1
  have hW3 : (sl (su (su u 112 (A.1 0) (nI 0)) 113 (A.1 0) (nI 0)) 114 (A.1 0) (lN 1)).1 q 1 = nI (A.1 0) := hW2
  rw [e_Reading_cover_0, e1, e_Reading_cover_2, if_pos (nI_le (by decide) (by decide)), g_R_cost, g_S_wide hq, hCu.1.1, w_R_cost (by omega), g_R_used, g_S_wide hq, hW1, w_R_used (by omega), g_R_ways, g_S_wide hq, hW2, w_R_ways (by omega), g_S_wide hq, hW3, sub_1, e2, e_Reading_cover_78, if_pos (by decide), ck_R, ef, r0_s]

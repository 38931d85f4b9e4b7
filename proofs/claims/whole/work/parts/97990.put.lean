/-! put -/
def anyB : Nat → (Nat → Bool) → Bool
  | 0, _ => false
  | n + 1, f => anyB n f || f n
theorem anyB_t {f : Nat → Bool} : ∀ {n : Nat}, anyB n f = true → ∃ i, i < n ∧ f i = true
  | 0, h => by cases h
  | n + 1, h => by
    have h : (anyB n f || f n) = true := h
    rw [Bool.or_eq_true] at h
    rcases h with h | h
    · obtain ⟨i, h1, h2⟩ := anyB_t h
      exact ⟨i, by omega, h2⟩
    · exact ⟨n, by omega, h⟩
def thA (A : shT) (g : Nat → Bool) : shT := (A.1, g, A.2.2)
def hitq (A : shT) (k x y r xx yy j : Nat) : Bool := (A.2.2.2.2 5 (8 * k + yy)).testBit xx && decide (x + tX r xx yy (A.2.2.2.2 3 k) (A.2.2.2.2 4 k) < A.1 0 ∧ y + tY r xx yy (A.2.2.2.2 3 k) (A.2.2.2.2 4 k) < A.1 1 ∧ j = 20 * (y + tY r xx yy (A.2.2.2.2 3 k) (A.2.2.2.2 4 k)) + (x + tX r xx yy (A.2.2.2.2 3 k) (A.2.2.2.2 4 k)))
def ptG (A : shT) (k x y r yy xx j : Nat) : Bool := (A.2.1 j || anyB yy (fun b => anyB (A.2.2.2.2 3 k) (fun a => hitq A k x y r a b j))) || anyB xx (fun a => hitq A k x y r a yy j)
def ptA (A : shT) (k x y r : Nat) : shT := thA A (ptG A k x y r (A.2.2.2.2 4 k) 0)
theorem ptG_row (A : shT) (k x y r yy : Nat) : ptG A k x y r yy (A.2.2.2.2 3 k) = ptG A k x y r (yy + 1) 0 := by
  funext j
  show ((A.2.1 j || anyB yy _) || anyB _ _) = ((A.2.1 j || (anyB yy _ || anyB _ _)) || false)
  rw [Bool.or_false, Bool.or_assoc]
theorem ptG_0 (A : shT) (k x y r : Nat) : ptG A k x y r 0 0 = A.2.1 := by
  funext j
  show ((A.2.1 j || false) || false) = _
  rw [Bool.or_false, Bool.or_false]
theorem hitq_ins {A : shT} (ok : okA A) {k x y r xx yy j : Nat} (h : hitq A k x y r xx yy j = true) : ins A j = true := by
  have h1 := ok.1
  unfold hitq at h
  rw [Bool.and_eq_true, decide_eq_true_iff] at h
  unfold ins
  rw [decide_eq_true (show j % 20 < A.1 0 by omega), decide_eq_true (show j / 20 < A.1 1 by omega)]
  rfl
theorem thA_ok {A : shT} (ok : okA A) {g : Nat → Bool} (h : ∀ j, j < 400 → g j = true → ins A j = true) : okA (thA A g) := by
  obtain ⟨o1, o2, o3, o4, o5, o6, o7, o8, o9, o10, o11⟩ := ok
  exact ⟨o1, o2, o3, o4, o5, o6, o7, o8, o9, h, o11⟩
theorem ptG_ins {A : shT} (ok : okA A) {k x y r yy xx : Nat} : ∀ j, j < 400 → ptG A k x y r yy xx j = true → ins A j = true := by
  intro j hj h
  unfold ptG at h
  rw [Bool.or_eq_true, Bool.or_eq_true] at h
  rcases h with (h | h) | h
  · exact ok.2.2.2.2.2.2.2.2.2.1 j hj h
  · obtain ⟨b, _, h⟩ := anyB_t h
    obtain ⟨a, _, h⟩ := anyB_t h
    exact hitq_ins ok h
  · obtain ⟨a, _, h⟩ := anyB_t h
    exact hitq_ins ok h
theorem ptG_no {A : shT} {k x y r yy xx : Nat} (h : ∀ j, hitq A k x y r xx yy j = false) : ptG A k x y r yy (xx + 1) = ptG A k x y r yy xx := by
  funext j
  show (_ || (anyB xx _ || hitq A k x y r xx yy j)) = _
  rw [h j, Bool.or_false]
  rfl
theorem ptG_yes {A : shT} {k x y r yy xx j0 : Nat} (h : ∀ j, hitq A k x y r xx yy j = decide (j = j0)) : ptG A k x y r yy (xx + 1) = fun j => if j = j0 then true else ptG A k x y r yy xx j := by
  funext j
  show (_ || (anyB xx _ || hitq A k x y r xx yy j)) = _
  rw [h j]
  by_cases e : j = j0
  · rw [if_pos e, decide_eq_true e, Bool.or_true, Bool.or_true]
  · rw [if_neg e, decide_eq_false e, Bool.or_false]
    rfl
theorem hit_cases (A : shT) (k x y r xx yy : Nat) : ((A.2.2.2.2 5 (8 * k + yy)).testBit xx = false ∧ ∀ j, hitq A k x y r xx yy j = false) ∨ ((A.2.2.2.2 5 (8 * k + yy)).testBit xx = true ∧ ((¬ (x + tX r xx yy (A.2.2.2.2 3 k) (A.2.2.2.2 4 k) < A.1 0 ∧ y + tY r xx yy (A.2.2.2.2 3 k) (A.2.2.2.2 4 k) < A.1 1) ∧ ∀ j, hitq A k x y r xx yy j = false) ∨ ((x + tX r xx yy (A.2.2.2.2 3 k) (A.2.2.2.2 4 k) < A.1 0 ∧ y + tY r xx yy (A.2.2.2.2 3 k) (A.2.2.2.2 4 k) < A.1 1) ∧ ∀ j, hitq A k x y r xx yy j = decide (j = 20 * (y + tY r xx yy (A.2.2.2.2 3 k) (A.2.2.2.2 4 k)) + (x + tX r xx yy (A.2.2.2.2 3 k) (A.2.2.2.2 4 k)))))) := by
  unfold hitq
  cases e : (A.2.2.2.2 5 (8 * k + yy)).testBit xx
  · exact Or.inl ⟨rfl, fun j => rfl⟩
  · refine Or.inr ⟨rfl, ?_⟩
    by_cases g : x + tX r xx yy (A.2.2.2.2 3 k) (A.2.2.2.2 4 k) < A.1 0 ∧ y + tY r xx yy (A.2.2.2.2 3 k) (A.2.2.2.2 4 k) < A.1 1
    · refine Or.inr ⟨g, fun j => ?_⟩
      rw [Bool.true_and, Bool.eq_iff_iff, decide_eq_true_iff, decide_eq_true_iff]
      exact ⟨fun z => z.2.2, fun z => ⟨g.1, g.2, z⟩⟩
    · refine Or.inl ⟨g, fun j => ?_⟩
      rw [Bool.true_and]
      exact decide_eq_false (fun z => g ⟨z.1, z.2.1⟩)
section ST
variable {T : txT} {P q : Nat} {s t u : sT} {D : drT}
theorem inXY_nI {A : shT} (ok : okA A) {a b : Nat} (ha : a < 2 ^ 31) (hb : b < 2 ^ 31) (h : ¬ (a < A.1 0 ∧ b < A.1 1)) : ¬ inXY A (nI a) (nI b) := by
  have h1 := ok.1
  have h2 := ok.2.1
  rintro ⟨a', b', g1, g2, g3, g4⟩
  rw [(nI_eq ha (by omega)).mp g3, (nI_eq hb (by omega)).mp g4] at h
  exact h ⟨g1, g2⟩
theorem putC (X : qz_X) (hq : isS q) (hq2 : q < 70) {A : shT} (ok : okA A) (hC : isC s q A) {k x y r : Nat} (hk : k < A.1 3) (hx : x < 20) (hy : y < 20) (hr : r < 4) : ∃ z : sT, rn 48 0 [some (.ref q), some (.int (nI k)), some (.int (nI x)), some (.int (nI y)), some (.int (nI r)), none, none, none, none] [] (mk X s) = some (none, mk X z) ∧ z.2 = s.2 ∧ (∀ c, c ≠ q + 1 → z.1 c = s.1 c) ∧ isC z q (ptA A k x y r) := by
  have o4 := ok.2.2.2.1
  obtain ⟨s1, s2, s3⟩ := ok.2.2.2.2.2.2.2.2.2.2.2.2.2 k hk
  obtain ⟨z, ⟨z2, zc, zi⟩, e⟩ := it_up (fun yy (z : sT) => rn 48 3 [some (.ref q), some (.int (nI k)), some (.int (nI x)), some (.int (nI y)), some (.int (nI r)), some (.int (nI yy)), none, none, none] [] (mk X z)) (fun yy z => z.2 = s.2 ∧ (∀ c, c ≠ q + 1 → z.1 c = s.1 c) ∧ isC z q (thA A (ptG A k x y r yy 0))) (Nat.zero_le (A.2.2.2.2 4 k)) (by
    rintro yy z _ hyy ⟨z2, zc, zi⟩
    try dsimp only
    obtain ⟨g, ⟨g2, gc, gi⟩, eg⟩ := it_up (fun xx (g : sT) => rn 48 17 [some (.ref q), some (.int (nI k)), some (.int (nI x)), some (.int (nI y)), some (.int (nI r)), some (.int (nI yy)), some (.int (nI xx)), none, none] [] (mk X g)) (fun xx g => g.2 = s.2 ∧ (∀ c, c ≠ q + 1 → g.1 c = s.1 c) ∧ isC g q (thA A (ptG A k x y r yy xx))) (Nat.zero_le (A.2.2.2.2 3 k)) (by
      rintro xx g _ hxx ⟨g2, gc, gi⟩
      try dsimp only
      have okg : okA (thA A (ptG A k x y r yy xx)) := thA_ok ok (ptG_ins ok)
      have w7 : g.1 (q + 7) k = nI (A.2.2.2.2 3 k) := (gi.2.2.2.2.2.2 k hk).1
      have w8 : g.1 (q + 8) k = nI (A.2.2.2.2 4 k) := (gi.2.2.2.2.2.2 k hk).2.1
      have w9 : g.1 (q + 9) (8 * k + yy) = nI (A.2.2.2.2 5 (8 * k + yy)) := (gi.2.2.2.2.2.2 k hk).2.2 yy hyy
      have hR := s3 yy hyy
      have hR8 : 2 ^ A.2.2.2.2 3 k ≤ 2 ^ 8 := Nat.pow_le_pow_right (by decide) s1.2
      have hb : bt (nI (A.2.2.2.2 5 (8 * k + yy))) xx = (A.2.2.2.2 5 (8 * k + yy)).testBit xx := bt_nat (by omega)
      have tl := tX_lt (t := r) hxx hyy (show A.2.2.2.2 3 k ≤ 20 by omega) (show A.2.2.2.2 4 k ≤ 20 by omega)
      have h0 : rn 48 17 [some (.ref q), some (.int (nI k)), some (.int (nI x)), some (.int (nI y)), some (.int (nI r)), some (.int (nI yy)), some (.int (nI xx)), none, none] [] (mk X g) = (if (nI (A.2.2.2.2 5 (8 * k + yy)) >>> (nI xx &&& 31)) &&& nI 1 = 0 then rn 48 17 [some (.ref q), some (.int (nI k)), some (.int (nI x)), some (.int (nI y)), some (.int (nI r)), some (.int (nI yy)), some (.int (nI (xx + 1))), none, none] [] (mk X g) else qz_r0 (rn 47 0 [some (.ref q), some (.int (nI (x + tX r xx yy (A.2.2.2.2 3 k) (A.2.2.2.2 4 k)))), some (.int (nI (y + tY r xx yy (A.2.2.2.2 3 k) (A.2.2.2.2 4 k)))), some (.int (nI 1))] [] (mk X g)) (fun w17 => rn 48 17 [some (.ref q), some (.int (nI k)), some (.int (nI x)), some (.int (nI y)), some (.int (nI r)), some (.int (nI yy)), some (.int (nI (xx + 1))), none, none] [] w17)) := by
        rw [e_Sheet_putShape_17, g_S_shapeWide hq, i_S_shapeWide hq (by omega), w7, if_neg (nI_ge hxx (by omega)), g_S_shapeRows hq, pk_mul, nI_add, show k * 8 + yy = 8 * k + yy by omega, i_S_shapeRows hq (by omega), w9, g_S_shapeWide hq, i_S_shapeWide hq (by omega), w7, g_S_shapeHigh hq, i_S_shapeHigh hq (by omega), w8, C_tX _ hr hxx hyy (by omega) (by omega), r1_s, g_S_shapeWide hq, i_S_shapeWide hq (by omega), w7, g_S_shapeHigh hq, i_S_shapeHigh hq (by omega), w8, C_tY _ hr hxx hyy (by omega) (by omega), r1_s, ck_S hq, nI_add, nI_add, nI_add]
      rw [h0]
      rcases hit_cases A k x y r xx yy with ⟨c1, c2⟩ | ⟨c1, ⟨c2, c3⟩ | ⟨c2, c3⟩⟩
      · refine ⟨g, ⟨g2, gc, ?_⟩, ?_⟩
        · rw [ptG_no c2]; exact gi
        · rw [if_pos ((b_selz _ (by omega)).mpr (by rw [hb]; exact c1))]
      · refine ⟨g, ⟨g2, gc, ?_⟩, ?_⟩
        · rw [ptG_no c3]; exact gi
        · rw [if_neg (fun z => by have := (b_selz _ (by omega)).mp z; rw [hb, c1] at this; cases this), e_Sheet_setThrough_0, ck_S hq, C_has_no X hq okg gi (inXY_nI okg (by omega) (by omega) c2), r1_s, if_pos (by decide), r0_s]
      · obtain ⟨v, ev, hv⟩ := setThrough_run X hq okg gi c2.1 c2.2 true
        have h1 := ok.1
        have h2 := ok.2.1
        refine ⟨su g (q + 1) (y + tY r xx yy (A.2.2.2.2 3 k) (A.2.2.2.2 4 k)) v, ⟨?_, ?_, ?_⟩, ?_⟩
        · exact g2
        · exact fun c hc => funext fun j => by rw [su_1, if_neg (fun z => hc z.1), gc c hc]
        · have := isC_set gi (show x + tX r xx yy (A.2.2.2.2 3 k) (A.2.2.2.2 4 k) < 20 by omega) (show y + tY r xx yy (A.2.2.2.2 3 k) (A.2.2.2.2 4 k) < 20 by omega) hv
          rw [ptG_yes c3]
          exact this
        · rw [if_neg (fun z => by have := (b_selz _ (by omega)).mp z; rw [hb, c1] at this; cases this)]
          have ev : rn 47 0 [some (.ref q), some (.int (nI (x + tX r xx yy (A.2.2.2.2 3 k) (A.2.2.2.2 4 k)))), some (.int (nI (y + tY r xx yy (A.2.2.2.2 3 k) (A.2.2.2.2 4 k)))), some (.int (nI 1))] [] (mk X g) = _ := ev
          rw [ev, r0_s]) (x := z) ⟨z2, zc, zi⟩
    try dsimp only at eg
    have z8 : z.1 (q + 8) k = nI (A.2.2.2.2 4 k) := (zi.2.2.2.2.2.2 k hk).2.1
    have g7 : g.1 (q + 7) k = nI (A.2.2.2.2 3 k) := (gi.2.2.2.2.2.2 k hk).1
    refine ⟨g, ⟨g2, gc, by rw [← ptG_row]; exact gi⟩, ?_⟩
    rw [e_Sheet_putShape_3, g_S_shapeHigh hq, i_S_shapeHigh hq (by omega), z8, if_neg (nI_ge hyy (by omega)), eg, e_Sheet_putShape_17, g_S_shapeWide hq, i_S_shapeWide hq (by omega), g7, if_pos (nI_le (Nat.le_refl _) (by omega)), nI_add]) (x := s) ⟨rfl, fun _ _ => rfl, by rw [ptG_0]; exact hC⟩
  try dsimp only at e
  have z8 : z.1 (q + 8) k = nI (A.2.2.2.2 4 k) := (zi.2.2.2.2.2.2 k hk).2.1
  refine ⟨z, ?_, z2, zc, zi⟩
  rw [e_Sheet_putShape_0, e, e_Sheet_putShape_3, g_S_shapeHigh hq, i_S_shapeHigh hq (by omega), z8, if_pos (nI_le (Nat.le_refl _) (by omega))]
theorem putM (X : qz_X) {A : shT} (ok : okA A) (hM : isM (gN t) 6 A) {k x y r : Nat} (hk : k < A.1 3) (hx : x < 20) (hy : y < 20) (hr : r < 4) (h25 : t.1 318 25 = nI x) (h26 : t.1 318 26 = nI y) : ∃ z : sT, rn 95 80 [some (.ref 318), none, none, some (.int (nI (48 + k))), some (.int (nI r)), some (.int (nI 0)), none, none, none] [] (mk X t) = some (some (.int (nI 1)), mk X z) ∧ z.2 = t.2 ∧ (∀ c, c ≠ 322 → z.1 c = t.1 c) ∧ (∀ j, j < 2400 → z.1 322 j = t.1 322 j) ∧ isM (gN z) 6 (ptA A k x y r) := by
  have o4 := ok.2.2.2.1
  have k1 := ok.1
  have k2 := ok.2.1
  obtain ⟨s1, s2, s3⟩ := ok.2.2.2.2.2.2.2.2.2.2.2.2.2 k hk
  obtain ⟨z, ⟨z2, zc, zl, zi⟩, e⟩ := it_up (fun yy (z : sT) => rn 95 80 [some (.ref 318), none, none, some (.int (nI (48 + k))), some (.int (nI r)), some (.int (nI yy)), none, none, none] [] (mk X z)) (fun yy z => z.2 = t.2 ∧ (∀ c, c ≠ 322 → z.1 c = t.1 c) ∧ (∀ j, j < 2400 → z.1 322 j = t.1 322 j) ∧ isM (gN z) 6 (thA A (ptG A k x y r yy 0))) (Nat.zero_le (A.2.2.2.2 4 k)) (by
    rintro yy z _ hyy ⟨z2, zc, zl, zi⟩
    try dsimp only
    obtain ⟨g, ⟨g2, gc, gl, gi⟩, eg⟩ := it_up (fun xx (g : sT) => rn 95 94 [some (.ref 318), none, none, some (.int (nI (48 + k))), some (.int (nI r)), some (.int (nI yy)), some (.int (nI xx)), none, none] [] (mk X g)) (fun xx g => g.2 = t.2 ∧ (∀ c, c ≠ 322 → g.1 c = t.1 c) ∧ (∀ j, j < 2400 → g.1 322 j = t.1 322 j) ∧ isM (gN g) 6 (thA A (ptG A k x y r yy xx))) (Nat.zero_le (A.2.2.2.2 3 k)) (by
      rintro xx g _ hxx ⟨g2, gc, gl, gi⟩
      try dsimp only
      have okg : okA (thA A (ptG A k x y r yy xx)) := thA_ok ok (ptG_ins ok)
      have w7 : g.1 325 (48 + k) = nI (A.2.2.2.2 3 k) := (gi.2.2.2.2.1 k hk).1
      have w8 : g.1 326 (48 + k) = nI (A.2.2.2.2 4 k) := (gi.2.2.2.2.1 k hk).2.1
      have w9 : g.1 327 (8 * (48 + k) + yy) = nI (A.2.2.2.2 5 (8 * k + yy)) := (gi.2.2.2.2.1 k hk).2.2 yy hyy
      have g25 : g.1 318 25 = nI x := by rw [gc 318 (by decide)]; exact h25
      have g26 : g.1 318 26 = nI y := by rw [gc 318 (by decide)]; exact h26
      have hR := s3 yy hyy
      have hR8 : 2 ^ A.2.2.2.2 3 k ≤ 2 ^ 8 := Nat.pow_le_pow_right (by decide) s1.2
      have hb : bt (nI (A.2.2.2.2 5 (8 * k + yy))) xx = (A.2.2.2.2 5 (8 * k + yy)).testBit xx := bt_nat (by omega)
      have tl := tX_lt (t := r) hxx hyy (show A.2.2.2.2 3 k ≤ 20 by omega) (show A.2.2.2.2 4 k ≤ 20 by omega)
      rw [e_M_put_94, g_M_shapeWide, i_M_shapeWide (by omega), w7, if_neg (nI_ge hxx (by omega)), g_M_shapeRow, pk_mul, nI_add, i_M_shapeRow (by omega), w9, M_has_run _ _ (by omega), r1_s, hb]
      rcases hit_cases A k x y r xx yy with ⟨c1, c2⟩ | ⟨c1, c2⟩
      · refine ⟨g, ⟨g2, gc, gl, by rw [ptG_no c2]; exact gi⟩, ?_⟩
        rw [c1, if_pos (by decide), nI_add]
      · rw [c1, if_pos rfl, if_neg (by decide), g_M_shapeWide, i_M_shapeWide (by omega), w7, g_M_shapeHigh, i_M_shapeHigh (by omega), w8, M_turned_run _ hr (c := 0) (by decide) hxx hyy (by omega) (by omega), r1_s, g_M_toldX, g25, g_M_shapeWide, i_M_shapeWide (by omega), w7, g_M_shapeHigh, i_M_shapeHigh (by omega), w8, M_turned_run _ hr (c := 1) (by decide) hxx hyy (by omega) (by omega), r1_s, g_M_toldY, g26, ck_M, if_pos rfl, if_neg (by decide), nI_add, nI_add, nI_add, Nat.add_comm _ x, Nat.add_comm _ y]
        rcases c2 with ⟨c2, c3⟩ | ⟨c2, c3⟩
        · refine ⟨g, ⟨g2, gc, gl, by rw [ptG_no c3]; exact gi⟩, ?_⟩
          rw [M_within_no X (by decide) okg gi (inXY_nI okg (by omega) (by omega) c2), r1_s, if_pos (by decide)]
        · refine ⟨su g 322 (400 * 6 + (20 * (y + tY r xx yy (A.2.2.2.2 3 k) (A.2.2.2.2 4 k)) + (x + tX r xx yy (A.2.2.2.2 3 k) (A.2.2.2.2 4 k)))) (nI 1), ⟨g2, fun c hc => funext fun j => by rw [su_1, if_neg (fun z => hc z.1), gc c hc], fun j hj => by rw [su_1, if_neg (by omega), gl j hj], ?_⟩, ?_⟩
          · rw [ptG_yes c3]
            refine isM_through (s := g) (A := thA A (ptG A k x y r yy xx)) (fun c _ _ hc => funext fun j => by rw [su_1, if_neg (fun z => hc z.1)]) ⟨rfl, rfl⟩ (fun j hj => ?_) gi
            have old : g.1 322 (400 * 6 + j) = if ptG A k x y r yy xx j then nI 1 else nI 0 := gi.2.1 j hj
            show _ = if (if j = _ then true else ptG A k x y r yy xx j) then nI 1 else nI 0
            rw [su_1, old]
            by_cases ej : j = 20 * (y + tY r xx yy (A.2.2.2.2 3 k) (A.2.2.2.2 4 k)) + (x + tX r xx yy (A.2.2.2.2 3 k) (A.2.2.2.2 4 k))
            · rw [if_pos ⟨rfl, by omega⟩, if_pos ej, if_pos rfl]
            · rw [if_neg (fun z => ej (by omega)), if_neg ej]
          · rw [M_within_yes X (by decide) okg gi c2.1 c2.2, r1_s, if_neg (by decide), g_M_through, M_at_run, r1_s, w_M_through (by omega)]) (x := z) ⟨z2, zc, zl, zi⟩
    try dsimp only at eg
    have z8 : z.1 326 (48 + k) = nI (A.2.2.2.2 4 k) := (zi.2.2.2.2.1 k hk).2.1
    have g7 : g.1 325 (48 + k) = nI (A.2.2.2.2 3 k) := (gi.2.2.2.2.1 k hk).1
    refine ⟨g, ⟨g2, gc, gl, by rw [← ptG_row]; exact gi⟩, ?_⟩
    rw [e_M_put_80, g_M_shapeHigh, i_M_shapeHigh (by omega), z8, if_neg (nI_ge hyy (by omega)), eg, e_M_put_94, g_M_shapeWide, i_M_shapeWide (by omega), g7, if_pos (nI_le (Nat.le_refl _) (by omega)), nI_add]) (x := t) ⟨rfl, fun _ _ => rfl, fun _ _ => rfl, by rw [ptG_0]; exact hM⟩
  try dsimp only at e
  have z8 : z.1 326 (48 + k) = nI (A.2.2.2.2 4 k) := (zi.2.2.2.2.1 k hk).2.1
  refine ⟨z, ?_, z2, zc, zl, zi⟩
  rw [e, e_M_put_80, g_M_shapeHigh, i_M_shapeHigh (by omega), z8, if_pos (nI_le (Nat.le_refl _) (by omega))]
end ST

/-! plate: places moved, sheets taken over -/
def plm (s : sT) (k v : Nat) : sT := (s.1, s.2.1, fun j => if j = k then v else s.2.2 j)
theorem rf_o {p p' : Nat → Nat} {i : Nat} (h4 : i ≠ 4) (h6 : i = 0 → p' 6 = p 6) : rf p' i = rf p i := by
  funext j
  unfold rf
  rw [if_neg h4, if_neg h4]
  by_cases e : i = 0 ∧ j = 7
  · rw [if_pos e, if_pos e, h6 e.1]
  · rw [if_neg e, if_neg e]
theorem ms_c_o {s : sT} {p' : Nat → Nat} {i : Nat} (h : rf p' i = rf s.2.2 i) : ms_c (s.1, s.2.1, rf p') i = ms_c (s.1, s.2.1, rf s.2.2) i := by
  unfold ms_c
  dsimp only
  rw [h]
theorem ms_k45x {k n : Nat} (h : k = 4 ∨ k = 5) (m : Nat → Int32) (ml : Nat → Int64) {r r' : Nat → Nat} (e : ∀ j, j < n → r j = r' j) : ms_k (k, n) m ml r = ms_k (k, n) m ml r' := by
  have : (fun j => if j < n then some (r j) else none) = (fun j => if j < n then some (r' j) else none) := funext fun j => by
    by_cases hj : j < n
    · rw [if_pos hj, if_pos hj, e j hj]
    · rw [if_neg hj, if_neg hj]
  rcases h with rfl | rfl
  · show (Sum.inl (_, n, Sum.inr (Sum.inr (Sum.inr (Sum.inr _)))) : qz_E) = _
    rw [this]
    rfl
  · show (Sum.inl (_, n, Sum.inr (Sum.inr (Sum.inr (Sum.inr _)))) : qz_E) = _
    rw [this]
    rfl
theorem mk_as (X : qz_X) {s : sT} {k v : Nat} (hk : k < 6) (hv : isS v) (f : qz_W → Option qz_R) : qz_as (mk X s) 4 (nI k) v f = f (mk X (plm s k v)) := by
  have hlt := isS_lt v hv
  unfold qz_as
  rw [show (mk X s).1 4 = _ from mkw_at (by decide), show (mk X s).1 v = _ from mkw_at (by omega)]
  unfold ms_c
  rw [(isS_S v hv).1]
  show (if nI k < 0 ∨ 6 ≤ (nI k).toNatClampNeg then none else if qz_at qz_cn 8 = some "TinStencils$Sheet" then f (va_up (mk X s).1 4 (.inl (.object "TinStencils$Sheet", 6, .inr (.inr (.inr (.inr (va_up (fun j => if j < 6 then some (rf s.2.2 4 j) else none) (nI k).toNatClampNeg (some v))))))), (mk X s).2) else none) = _
  rw [if_neg (nI_in hk (by decide)), nI_clamp (by omega), if_pos (by decide)]
  congr 1
  refine mk_up (by decide) ?_ (fun i hi _ => ?_) (fun i hi => ?_)
  · show (.inl (.object "TinStencils$Sheet", 6, .inr (.inr (.inr (.inr (fun j => if j < 6 then some (rf (plm s k v).2.2 4 j) else none))))) : qz_E) = _
    congr 7
    funext j
    unfold va_up
    show (if j < 6 then some (if j = k then v else s.2.2 j) else none) = if j = k then some v else if j < 6 then some (s.2.2 j) else none
    by_cases e : j = k
    · rw [if_pos (by omega), if_pos e, if_pos e]
    · rw [if_neg e, if_neg e]
  · exact ms_c_o (s := s) (rf_o hi (fun _ => if_neg (by omega)))
  · exact ms_c_o (s := s) (rf_o (by omega) (fun _ => if_neg (by omega)))
theorem mk_pd (X : qz_X) {s : sT} {v : Nat} (f : qz_W → Option qz_R) : qz_pf (mk X s) 0 11 7 (.ref v) f = f (mk X (plm s 6 v)) := by
  unfold qz_pf
  rw [show (mk X s).1 0 = _ from mkw_at (by decide)]
  show cond (Nat.beq 11 11) (f (va_up (mk X s).1 0 (.inr (11, (ms_f 11 (s.1 0) (rf s.2.2 0)).set 7 (.ref v))), (mk X s).2)) none = _
  rw [Nat.beq_refl]
  show f _ = _
  congr 1
  refine mk_up (by decide) rfl (fun i hi _ => ?_) (fun i hi => ?_)
  · by_cases h4 : i = 4
    · subst h4
      refine ms_k45x (k := 4) (n := 6) (by decide) _ _ (fun j hj => ?_)
      show (if j = 6 then v else s.2.2 j) = s.2.2 j
      rw [if_neg (by omega)]
    · exact ms_c_o (s := s) (rf_o h4 (fun z => absurd z hi))
  · exact ms_c_o (s := s) (rf_o (by omega) (fun z => by omega))
/-- block k of a row taken from block 6 -/
def cpB (c B k : Nat) (t z : sT) : Prop := (∀ i, i < B → z.1 c (B * k + i) = t.1 c (B * 6 + i)) ∧ ∀ i, ¬ (B * k ≤ i ∧ i < B * k + B) → z.1 c i = t.1 c i
theorem cpB_step {c B k i : Nat} {t z : sT} (hk : k < 6) (h : (∀ j, j < i → z.1 c (B * k + j) = t.1 c (B * 6 + j)) ∧ ∀ j, ¬ (B * k ≤ j ∧ j < B * k + B) → z.1 c j = t.1 c j) (hi : i < B) : z.1 c (B * 6 + i) = t.1 c (B * 6 + i) := by
  refine h.2 _ (fun g => ?_)
  have : B * k + B ≤ B * 6 := by
    have : B * (k + 1) ≤ B * 6 := Nat.mul_le_mul_left B (by omega)
    rw [Nat.mul_add, Nat.mul_one] at this
    exact this
  omega
theorem cpB_su {c B k i : Nat} {t z : sT} {x : Int32} (hx : x = t.1 c (B * 6 + i)) (hi : i < B) (h : (∀ j, j < i → z.1 c (B * k + j) = t.1 c (B * 6 + j)) ∧ ∀ j, ¬ (B * k ≤ j ∧ j < B * k + B) → z.1 c j = t.1 c j) : (∀ j, j < i + 1 → (su z c (B * k + i) x).1 c (B * k + j) = t.1 c (B * 6 + j)) ∧ ∀ j, ¬ (B * k ≤ j ∧ j < B * k + B) → (su z c (B * k + i) x).1 c j = t.1 c j := by
  refine ⟨fun j hj => ?_, fun j hj => ?_⟩
  · rw [su_1]
    by_cases e : j = i
    · rw [if_pos ⟨rfl, by omega⟩, hx, e]
    · rw [if_neg (by omega), h.1 j (by omega)]
  · rw [su_1, if_neg (by omega), h.2 j hj]
theorem cpB_o {c c' B k i o : Nat} {t z : sT} {x : Int32} (hc : c ≠ c') (h : (∀ j, j < i → z.1 c (B * k + j) = t.1 c (B * 6 + j)) ∧ ∀ j, ¬ (B * k ≤ j ∧ j < B * k + B) → z.1 c j = t.1 c j) : (∀ j, j < i → (su z c' o x).1 c (B * k + j) = t.1 c (B * 6 + j)) ∧ ∀ j, ¬ (B * k ≤ j ∧ j < B * k + B) → (su z c' o x).1 c j = t.1 c j := by
  have e : ∀ j, (su z c' o x).1 c j = z.1 c j := fun j => by rw [su_1, if_neg (fun g => hc g.1)]
  exact ⟨fun j hj => by rw [e]; exact h.1 j hj, fun j hj => by rw [e]; exact h.2 j hj⟩
theorem over_1 (X : qz_X) {k : Nat} (hk : k < 6) (t : sT) : ∃ z : sT, rn 111 9 [some (.ref 318), some (.int (nI k)), some (.int (nI 0)), none] [] (mk X t) = rn 111 39 [some (.ref 318), some (.int (nI k)), some (.int (nI 0)), none] [] (mk X z) ∧ z.2 = t.2 ∧ (∀ c, c ≠ 320 → z.1 c = t.1 c) ∧ cpB 320 16 k t z := by
  obtain ⟨z, ⟨z2, zc, zb⟩, e⟩ := it_up (fun i (z : sT) => rn 111 9 [some (.ref 318), some (.int (nI k)), some (.int (nI i)), none] [] (mk X z)) (fun i z => z.2 = t.2 ∧ (∀ c, c ≠ 320 → z.1 c = t.1 c) ∧ (∀ j, j < i → z.1 320 (16 * k + j) = t.1 320 (16 * 6 + j)) ∧ ∀ j, ¬ (16 * k ≤ j ∧ j < 16 * k + 16) → z.1 320 j = t.1 320 j) (Nat.zero_le 16) (by
    rintro i z _ hi ⟨z2, zc, zb⟩
    try dsimp only
    have h6 := cpB_step hk zb hi
    refine ⟨su z 320 (16 * k + i) (z.1 320 (16 * 6 + i)), ⟨z2, fun c hc => funext fun j => by rw [su_1, if_neg (fun g => hc g.1), zc c hc], cpB_su h6 hi zb⟩, ?_⟩
    rw [e_M_takesOver_9, if_neg (nI_ge hi (by decide)), g_M_about, ck_M, e_M_draft_0, g_M_about, nI_add, i_M_about (by omega), r1_s, pk_mul, nI_add, w_M_about (by omega), nI_add]) (x := t) ⟨rfl, fun _ _ => rfl, fun j hj => absurd hj (Nat.not_lt_zero j), fun _ _ => rfl⟩
  try dsimp only at e
  exact ⟨z, by rw [e, e_M_takesOver_9, if_pos (nI_le (by decide) (by decide))], z2, zc, zb⟩
theorem over_2 (X : qz_X) {k : Nat} (hk : k < 6) (t : sT) : ∃ z : sT, rn 111 39 [some (.ref 318), some (.int (nI k)), some (.int (nI 0)), none] [] (mk X t) = rn 111 120 [some (.ref 318), some (.int (nI k)), some (.int (nI 0)), none] [] (mk X z) ∧ z.2 = t.2 ∧ (∀ c, c ≠ 322 → c ≠ 323 → c ≠ 324 → z.1 c = t.1 c) ∧ cpB 322 400 k t z ∧ cpB 323 400 k t z ∧ cpB 324 400 k t z := by
  obtain ⟨z, ⟨z2, zc, z3, z4, z5⟩, e⟩ := it_up (fun i (z : sT) => rn 111 39 [some (.ref 318), some (.int (nI k)), some (.int (nI i)), none] [] (mk X z)) (fun i z => z.2 = t.2 ∧ (∀ c, c ≠ 322 → c ≠ 323 → c ≠ 324 → z.1 c = t.1 c) ∧ ((∀ j, j < i → z.1 322 (400 * k + j) = t.1 322 (400 * 6 + j)) ∧ ∀ j, ¬ (400 * k ≤ j ∧ j < 400 * k + 400) → z.1 322 j = t.1 322 j) ∧ ((∀ j, j < i → z.1 323 (400 * k + j) = t.1 323 (400 * 6 + j)) ∧ ∀ j, ¬ (400 * k ≤ j ∧ j < 400 * k + 400) → z.1 323 j = t.1 323 j) ∧ ((∀ j, j < i → z.1 324 (400 * k + j) = t.1 324 (400 * 6 + j)) ∧ ∀ j, ¬ (400 * k ≤ j ∧ j < 400 * k + 400) → z.1 324 j = t.1 324 j)) (Nat.zero_le 400) (by
    rintro i z _ hi ⟨z2, zc, z3, z4, z5⟩
    try dsimp only
    have h3 := cpB_step hk z3 hi
    have h4 := cpB_step hk z4 hi
    have h5 := cpB_step hk z5 hi
    refine ⟨su (su (su z 322 (400 * k + i) (t.1 322 (400 * 6 + i))) 323 (400 * k + i) (t.1 323 (400 * 6 + i))) 324 (400 * k + i) (t.1 324 (400 * 6 + i)), ⟨z2, fun c a1 a2 a3 => funext fun j => by rw [su_1, if_neg (fun g => a3 g.1), su_1, if_neg (fun g => a2 g.1), su_1, if_neg (fun g => a1 g.1), zc c a1 a2 a3], cpB_o (by decide) (cpB_o (by decide) (cpB_su rfl hi z3)), cpB_o (by decide) (cpB_su rfl hi (cpB_o (by decide) z4)), cpB_su rfl hi (cpB_o (by decide) (cpB_o (by decide) z5))⟩, ?_⟩
    rw [e_M_takesOver_39, if_neg (nI_ge hi (by decide)), g_M_through, g_M_through, nI_add, i_M_through (by omega), show 2400 + i = 400 * 6 + i from rfl, h3, pk_mul, nI_add, w_M_through (by omega), g_M_worth, g_M_worth, i_M_worth (by omega), su_1, if_neg (by omega), h4, w_M_worth (by omega), g_M_bridgeAt, g_M_bridgeAt, i_M_bridgeAt (by omega), su_1, if_neg (by omega), su_1, if_neg (by omega), h5, w_M_bridgeAt (by omega), nI_add]) (x := t) ⟨rfl, fun _ _ _ _ => rfl, ⟨fun j hj => absurd hj (Nat.not_lt_zero j), fun _ _ => rfl⟩, ⟨fun j hj => absurd hj (Nat.not_lt_zero j), fun _ _ => rfl⟩, fun j hj => absurd hj (Nat.not_lt_zero j), fun _ _ => rfl⟩
  try dsimp only at e
  exact ⟨z, by rw [e, e_M_takesOver_39, if_pos (nI_le (by decide) (by decide))], z2, zc, z3, z4, z5⟩
theorem over_3 (X : qz_X) {k : Nat} (hk : k < 6) (t : sT) : ∃ z : sT, rn 111 120 [some (.ref 318), some (.int (nI k)), some (.int (nI 0)), none] [] (mk X t) = rn 111 218 [some (.ref 318), some (.int (nI k)), some (.int (nI 0)), none] [] (mk X z) ∧ z.2 = t.2 ∧ (∀ c, c ≠ 325 → c ≠ 326 → c ≠ 327 → z.1 c = t.1 c) ∧ cpB 325 8 k t z ∧ cpB 326 8 k t z ∧ cpB 327 64 k t z := by
  obtain ⟨z, ⟨z2, zc, z3, z4, z5⟩, e⟩ := it_up (fun i (z : sT) => rn 111 120 [some (.ref 318), some (.int (nI k)), some (.int (nI i)), none] [] (mk X z)) (fun i z => z.2 = t.2 ∧ (∀ c, c ≠ 325 → c ≠ 326 → c ≠ 327 → z.1 c = t.1 c) ∧ ((∀ j, j < i → z.1 325 (8 * k + j) = t.1 325 (8 * 6 + j)) ∧ ∀ j, ¬ (8 * k ≤ j ∧ j < 8 * k + 8) → z.1 325 j = t.1 325 j) ∧ ((∀ j, j < i → z.1 326 (8 * k + j) = t.1 326 (8 * 6 + j)) ∧ ∀ j, ¬ (8 * k ≤ j ∧ j < 8 * k + 8) → z.1 326 j = t.1 326 j) ∧ ((∀ j, j < 8 * i → z.1 327 (64 * k + j) = t.1 327 (64 * 6 + j)) ∧ ∀ j, ¬ (64 * k ≤ j ∧ j < 64 * k + 64) → z.1 327 j = t.1 327 j)) (Nat.zero_le 8) (by
    rintro i z _ hi ⟨z2, zc, z3, z4, z5⟩
    try dsimp only
    have h3 := cpB_step hk z3 hi
    have h4 := cpB_step hk z4 hi
    have hy : ∃ y : sT, y = su (su z 325 (8 * k + i) (t.1 325 (8 * 6 + i))) 326 (8 * k + i) (t.1 326 (8 * 6 + i)) := ⟨_, rfl⟩
    obtain ⟨y, hy⟩ := hy
    have y5 : (∀ j, j < 8 * i → y.1 327 (64 * k + j) = t.1 327 (64 * 6 + j)) ∧ ∀ j, ¬ (64 * k ≤ j ∧ j < 64 * k + 64) → y.1 327 j = t.1 327 j := by rw [hy]; exact cpB_o (by decide) (cpB_o (by decide) z5)
    obtain ⟨w, ⟨w2, wc, w5⟩, ew⟩ := it_up (fun l (w : sT) => rn 111 168 [some (.ref 318), some (.int (nI k)), some (.int (nI i)), some (.int (nI l))] [] (mk X w)) (fun l w => w.2 = y.2 ∧ (∀ c, c ≠ 327 → w.1 c = y.1 c) ∧ ((∀ j, j < 8 * i + l → w.1 327 (64 * k + j) = t.1 327 (64 * 6 + j)) ∧ ∀ j, ¬ (64 * k ≤ j ∧ j < 64 * k + 64) → w.1 327 j = t.1 327 j)) (Nat.zero_le 8) (by
      rintro l w _ hl ⟨w2, wc, w5⟩
      try dsimp only
      have h5 := cpB_step hk w5 (show 8 * i + l < 64 by omega)
      refine ⟨su w 327 (64 * k + (8 * i + l)) (t.1 327 (64 * 6 + (8 * i + l))), ⟨w2, fun c hc => funext fun j => by rw [su_1, if_neg (fun g => hc g.1), wc c hc], cpB_su rfl (show 8 * i + l < 64 by omega) w5⟩, ?_⟩
      rw [e_M_takesOver_168, if_neg (nI_ge hl (by decide)), g_M_shapeRow, g_M_shapeRow, nI_add, pk_mul, nI_add, show 8 * (48 + i) + l = 64 * 6 + (8 * i + l) by omega, i_M_shapeRow (by omega), h5, pk_mul, nI_add, pk_mul, nI_add, show 8 * (8 * k + i) + l = 64 * k + (8 * i + l) by omega, w_M_shapeRow (by omega), nI_add]) (x := y) ⟨rfl, fun _ _ => rfl, y5⟩
    try dsimp only at ew
    refine ⟨w, ⟨by rw [w2, hy]; exact z2, fun c a1 a2 a3 => ?_, ?_, ?_, w5⟩, ?_⟩
    · rw [wc c a3, hy]
      funext j
      rw [su_1, if_neg (fun g => a2 g.1), su_1, if_neg (fun g => a1 g.1), zc c a1 a2 a3]
    · have := cpB_o (c := 325) (c' := 326) (o := 8 * k + i) (x := t.1 326 (8 * 6 + i)) (by decide) (cpB_su rfl hi z3)
      rw [← hy] at this
      rw [wc 325 (by decide)]
      exact this
    · have := cpB_su (x := t.1 326 (8 * 6 + i)) rfl hi (cpB_o (c := 326) (c' := 325) (o := 8 * k + i) (x := t.1 325 (8 * 6 + i)) (by decide) z4)
      rw [← hy] at this
      rw [wc 326 (by decide)]
      exact this
    · rw [e_M_takesOver_120, if_neg (nI_ge hi (by decide)), g_M_shapeWide, g_M_shapeWide, nI_add, show 48 + i = 8 * 6 + i from rfl, i_M_shapeWide (by omega), h3, pk_mul, nI_add, w_M_shapeWide (by omega), g_M_shapeHigh, g_M_shapeHigh, i_M_shapeHigh (by omega), su_1, if_neg (by omega), h4, w_M_shapeHigh (by omega), ← hy, ew, e_M_takesOver_168, if_pos (nI_le (by decide) (by decide)), nI_add]) (x := t) ⟨rfl, fun _ _ _ _ => rfl, ⟨fun j hj => absurd hj (Nat.not_lt_zero j), fun _ _ => rfl⟩, ⟨fun j hj => absurd hj (Nat.not_lt_zero j), fun _ _ => rfl⟩, fun j hj => absurd hj (Nat.not_lt_zero j), fun _ _ => rfl⟩
  try dsimp only at e
  exact ⟨z, by rw [e, e_M_takesOver_120, if_pos (nI_le (by decide) (by decide))], z2, zc, z3, z4, z5⟩
theorem over_4 (X : qz_X) {k : Nat} (hk : k < 6) (t : sT) : ∃ z : sT, rn 111 218 [some (.ref 318), some (.int (nI k)), some (.int (nI 0)), none] [] (mk X t) = some (none, mk X z) ∧ z.2 = t.2 ∧ (∀ c, c ≠ 328 → c ≠ 329 → c ≠ 330 → z.1 c = t.1 c) ∧ cpB 328 12 k t z ∧ cpB 329 12 k t z ∧ cpB 330 12 k t z := by
  obtain ⟨z, ⟨z2, zc, z3, z4, z5⟩, e⟩ := it_up (fun i (z : sT) => rn 111 218 [some (.ref 318), some (.int (nI k)), some (.int (nI i)), none] [] (mk X z)) (fun i z => z.2 = t.2 ∧ (∀ c, c ≠ 328 → c ≠ 329 → c ≠ 330 → z.1 c = t.1 c) ∧ ((∀ j, j < i → z.1 328 (12 * k + j) = t.1 328 (12 * 6 + j)) ∧ ∀ j, ¬ (12 * k ≤ j ∧ j < 12 * k + 12) → z.1 328 j = t.1 328 j) ∧ ((∀ j, j < i → z.1 329 (12 * k + j) = t.1 329 (12 * 6 + j)) ∧ ∀ j, ¬ (12 * k ≤ j ∧ j < 12 * k + 12) → z.1 329 j = t.1 329 j) ∧ ((∀ j, j < i → z.1 330 (12 * k + j) = t.1 330 (12 * 6 + j)) ∧ ∀ j, ¬ (12 * k ≤ j ∧ j < 12 * k + 12) → z.1 330 j = t.1 330 j)) (Nat.zero_le 12) (by
    rintro i z _ hi ⟨z2, zc, z3, z4, z5⟩
    try dsimp only
    have h3 := cpB_step hk z3 hi
    have h4 := cpB_step hk z4 hi
    have h5 := cpB_step hk z5 hi
    refine ⟨su (su (su z 328 (12 * k + i) (t.1 328 (12 * 6 + i))) 329 (12 * k + i) (t.1 329 (12 * 6 + i))) 330 (12 * k + i) (t.1 330 (12 * 6 + i)), ⟨z2, fun c a1 a2 a3 => funext fun j => by rw [su_1, if_neg (fun g => a3 g.1), su_1, if_neg (fun g => a2 g.1), su_1, if_neg (fun g => a1 g.1), zc c a1 a2 a3], cpB_o (by decide) (cpB_o (by decide) (cpB_su rfl hi z3)), cpB_o (by decide) (cpB_su rfl hi (cpB_o (by decide) z4)), cpB_su rfl hi (cpB_o (by decide) (cpB_o (by decide) z5))⟩, ?_⟩
    rw [e_M_takesOver_218, if_neg (nI_ge hi (by decide)), g_M_bridgeKind, g_M_bridgeKind, nI_add, show 72 + i = 12 * 6 + i from rfl, i_M_bridgeKind (by omega), h3, pk_mul, nI_add, w_M_bridgeKind (by omega), g_M_bridgeHidden, g_M_bridgeHidden, i_M_bridgeHidden (by omega), su_1, if_neg (by omega), h4, w_M_bridgeHidden (by omega), g_M_bridgeLasts, g_M_bridgeLasts, i_M_bridgeLasts (by omega), su_1, if_neg (by omega), su_1, if_neg (by omega), h5, w_M_bridgeLasts (by omega), nI_add]) (x := t) ⟨rfl, fun _ _ _ _ => rfl, ⟨fun j hj => absurd hj (Nat.not_lt_zero j), fun _ _ => rfl⟩, ⟨fun j hj => absurd hj (Nat.not_lt_zero j), fun _ _ => rfl⟩, fun j hj => absurd hj (Nat.not_lt_zero j), fun _ _ => rfl⟩
  try dsimp only at e
  exact ⟨z, by rw [e, e_M_takesOver_218, if_pos (nI_le (by decide) (by decide))], z2, zc, z3, z4, z5⟩

/-! TIN, in the class's rows and the reference's squares -/
/-- a row filled up to i -/
theorem fl_s (f g : Nat → Int32) (i : Nat) : (fun j => if j = i then f i else if j < i then f j else g j) = (fun j => if j < i + 1 then f j else g j) := by
  funext j
  by_cases h1 : j = i
  · subst h1
    show (if j = j then f j else if j < j then f j else g j) = if j < j + 1 then f j else g j
    rw [if_pos rfl, if_pos (Nat.lt_succ_self j)]
  · show (if j = i then f i else if j < i then f j else g j) = if j < i + 1 then f j else g j
    rw [if_neg h1]
    by_cases h2 : j < i
    · rw [if_pos h2, if_pos (Nat.lt_succ_of_lt h2)]
    · rw [if_neg h2, if_neg (by omega)]
theorem fl_0 (f g : Nat → Int32) : (fun j => if j < 0 then f j else g j) = g := by
  funext j
  exact if_neg (Nat.not_lt_zero j)
def brs (A : shT) (v : Int32) (q : Nat) : Bool := (List.range 12).any (fun b => bt v b && A.2.2.2.1 b q)
def tin (A : shT) (v : Int32) (q : Nat) : Bool := ins A q && (!A.2.1 q || brs A v q)
theorem brs_iff {A : shT} {v : Int32} {q : Nat} : brs A v q = true ↔ ∃ b, b < 12 ∧ bt v b = true ∧ A.2.2.2.1 b q = true := by
  unfold brs
  simp only [List.any_eq_true, List.mem_range, Bool.and_eq_true]
theorem ins_xy (A : shT) {x y : Nat} (hx : x < 20) : ins A (20 * y + x) = (decide (x < A.1 0) && decide (y < A.1 1)) := by
  unfold ins
  rw [show (20 * y + x) % 20 = x by omega, show (20 * y + x) / 20 = y by omega]
theorem fullRow_run (X : qz_X) {s : sT} {q : Nat} {A : shT} (hq : isS q) (ok : okA A) (hC : isC s q A) {y : Nat} (hy : y < 2 ^ 31) : ∃ r : Int32, rn 116 0 [some (.ref q), some (.int (nI y))] [] (mk X s) = some (some (.int r), mk X s) ∧ ∀ x, x < 32 → bt r x = (decide (x < A.1 0) && decide (y < A.1 1)) := by
  have h1 := ok.1
  have h2 := ok.2.1
  rw [e_Sheet_fullRow_0, if_neg (nI_pos hy), g_S_high hq, hC.1.2.1]
  by_cases h : A.1 1 ≤ y
  · refine ⟨nI 0, by rw [if_pos (nI_le h hy)], fun x hx => ?_⟩
    rw [b_n0, decide_eq_false (show ¬ y < A.1 1 by omega), Bool.and_false]
  · refine ⟨(nI 1 <<< (nI (A.1 0) &&& 31)) - nI 1, by rw [if_neg (nI_ge (by omega) (by omega)), g_S_wide hq, hC.1.1], fun x hx => ?_⟩
    rw [b_low _ (by omega) x hx, decide_eq_true (show y < A.1 1 by omega), Bool.and_true]
theorem tinRow_run (X : qz_X) {s : sT} {q : Nat} {A : shT} (hq : isS q) (ok : okA A) (hC : isC s q A) (v : Int32) {y : Nat} (hy : y < 20) : ∃ r : Int32, rn 117 0 [some (.ref q), some (.int (nI y)), some (.int v), none, none] [] (mk X s) = some (some (.int r), mk X s) ∧ ∀ x, x < 32 → bt r x = (decide (x < 20) && tin A v (20 * y + x)) := by
  have h1 := ok.1
  have h2 := ok.2.1
  have h12 := ok.2.2.2.2.1
  obtain ⟨f, hf, bf⟩ := fullRow_run X hq ok hC (y := y) (by omega)
  have hs : ∀ (i : Nat) (r : Int32), 0 ≤ i → i < A.1 4 → (∀ x, x < 32 → (bt r x = true ↔ x < 20 ∧ ((ins A (20 * y + x) = true ∧ A.2.1 (20 * y + x) = false) ∨ ∃ b, b < i ∧ bt v b = true ∧ A.2.2.2.1 b (20 * y + x) = true))) → ∃ r2 : Int32, (∀ x, x < 32 → (bt r2 x = true ↔ x < 20 ∧ ((ins A (20 * y + x) = true ∧ A.2.1 (20 * y + x) = false) ∨ ∃ b, b < i + 1 ∧ bt v b = true ∧ A.2.2.2.1 b (20 * y + x) = true))) ∧ rn 117 18 [some (.ref q), some (.int (nI y)), some (.int v), some (.int r), some (.int (nI i))] [] (mk X s) = rn 117 18 [some (.ref q), some (.int (nI y)), some (.int v), some (.int r2), some (.int (nI (i + 1)))] [] (mk X s) := by
    intro i r _ hi hr
    rw [e_Sheet_tinRow_18, g_S_bridges hq, g_B_number hq, hC.1.2.2.2.2.1, if_neg (nI_ge hi (by omega))]
    cases hb : bt v i
    · refine ⟨r, fun x hx => ?_, by rw [if_pos ((b_selz v (by omega)).mpr hb), nI_add]⟩
      rw [hr x hx]
      constructor
      · rintro ⟨a, b | ⟨c, hc, d⟩⟩
        · exact ⟨a, Or.inl b⟩
        · exact ⟨a, Or.inr ⟨c, by omega, d⟩⟩
      · rintro ⟨a, b | ⟨c, hc, d, e⟩⟩
        · exact ⟨a, Or.inl b⟩
        · by_cases hci : c = i
          · subst hci; rw [hb] at d; cases d
          · exact ⟨a, Or.inr ⟨c, by omega, d, e⟩⟩
    · have hn : ¬ (v >>> (nI i &&& 31)) &&& nI 1 = 0 := fun h => by rw [b_selz v (by omega), hb] at h; cases h
      refine ⟨r ||| s.1 (q + 6) (20 * i + y), fun x hx => ?_, ?_⟩
      · have hrow := hC.2.2.2.1 i hi y hy x hx
        rw [b_or, Bool.or_eq_true, hr x hx, hrow, Bool.and_eq_true, decide_eq_true_eq]
        constructor
        · rintro (⟨a, b | ⟨c, hc, d⟩⟩ | ⟨a, b⟩)
          · exact ⟨a, Or.inl b⟩
          · exact ⟨a, Or.inr ⟨c, by omega, d⟩⟩
          · exact ⟨a, Or.inr ⟨i, by omega, hb, b⟩⟩
        · rintro ⟨a, b | ⟨c, hc, d, e⟩⟩
          · exact Or.inl ⟨a, Or.inl b⟩
          · by_cases hci : c = i
            · subst hci; exact Or.inr ⟨a, e⟩
            · exact Or.inl ⟨a, Or.inr ⟨c, by omega, d, e⟩⟩
      · rw [if_neg hn, g_S_bridges hq, g_B_rows hq, pk_mul, nI_add, i_B_rows hq (by omega), nI_add, Nat.mul_comm i 20]
  obtain ⟨r, hr, e⟩ := it_up (fun i (r : Int32) => rn 117 18 [some (.ref q), some (.int (nI y)), some (.int v), some (.int r), some (.int (nI i))] [] (mk X s)) (fun i r => ∀ x, x < 32 → (bt r x = true ↔ x < 20 ∧ ((ins A (20 * y + x) = true ∧ A.2.1 (20 * y + x) = false) ∨ ∃ b, b < i ∧ bt v b = true ∧ A.2.2.2.1 b (20 * y + x) = true))) (Nat.zero_le (A.1 4)) hs (x := f &&& (s.1 (q + 1) y ^^^ (-1))) (by
    intro x hx
    rw [b_and, b_not _ hx, bf x hx, hC.2.1 y hy x hx]
    by_cases h20 : x < 20
    · rw [ins_xy A h20, decide_eq_true h20]
      constructor
      · intro h
        simp only [Bool.and_eq_true, Bool.true_and, Bool.not_eq_true'] at h
        exact ⟨h20, Or.inl ⟨by rw [Bool.and_eq_true]; exact h.1, h.2⟩⟩
      · rintro ⟨-, ⟨h, h'⟩ | ⟨b, hb, -⟩⟩
        · rw [h, h']; rfl
        · exact absurd hb (Nat.not_lt_zero b)
    · rw [decide_eq_false (show ¬ x < A.1 0 by omega)]
      constructor
      · intro h; simp at h
      · intro h; exact absurd h.1 h20)
  try dsimp only at e
  refine ⟨r, ?_, fun x hx => ?_⟩
  · rw [e_Sheet_tinRow_0, ck_S hq, hf, r1_s, g_S_through hq, i_S_through hq hy, e, e_Sheet_tinRow_18, g_S_bridges hq, g_B_number hq, hC.1.2.2.2.2.1, if_pos (nI_le (Nat.le_refl _) (by omega))]
  · rw [Bool.eq_iff_iff, hr x hx, Bool.and_eq_true, decide_eq_true_eq]
    unfold tin
    rw [Bool.and_eq_true, Bool.or_eq_true, Bool.not_eq_true', brs_iff]
    constructor
    · rintro ⟨a, ⟨b, c⟩ | ⟨b, hb, c, d⟩⟩
      · exact ⟨a, b, Or.inl c⟩
      · exact ⟨a, (ok.2.2.2.2.2.2.2.2.2.2.2.1 b _ (by omega) d).2, Or.inr ⟨b, by omega, c, d⟩⟩
    · rintro ⟨a, b, c | ⟨e, he, f, g⟩⟩
      · exact ⟨a, Or.inl ⟨b, c⟩⟩
      · exact ⟨a, Or.inr ⟨e, (ok.2.2.2.2.2.2.2.2.2.2.2.1 e _ (by omega) g).1, f, g⟩⟩
/-- counting by rows -/
theorem ct_rows (t : Nat → Bool) : ∀ n, fb_ct t (20 * n) = fb_sm (fun y => fb_ct (fun x => t (20 * y + x)) 20) n
  | 0 => rfl
  | n + 1 => by rw [show 20 * (n + 1) = 20 * n + 20 by omega, fb_ct_split, ct_rows t n, fb_sm_succ]
theorem ct_400 {t : Nat → Bool} {h : Nat} (hh : h ≤ 20) (hz : ∀ q, q < 400 → 20 * h ≤ q → t q = false) : fb_ct t 400 = fb_sm (fun y => fb_ct (fun x => t (20 * y + x)) 20) h := by
  have e2 : fb_ct (fun k => t (20 * h + k)) (20 * (20 - h)) = 0 := fb_ct_zero.mpr (fun k hk => hz _ (by omega) (by omega))
  rw [show 400 = 20 * h + 20 * (20 - h) by omega, fb_ct_split, ct_rows, e2]
  rfl
theorem tin_out {A : shT} {v : Int32} {q : Nat} (h : ins A q = false) : tin A v q = false := by
  unfold tin
  rw [h]
  rfl
/-- the count of a row's bits -/
theorem pop_row (w : qz_W) {r : Int32} {p : Nat → Bool} (h : ∀ x, x < 32 → bt r x = (decide (x < 20) && p x)) : rn 62 0 [some (.int r)] [] w = some (some (.int (nI (fb_ct p 20))), w) := by
  rw [pop_run, show 32 = 20 + 12 from rfl, ct_cut h]
theorem tinSquares_run (X : qz_X) {s : sT} {q : Nat} {A : shT} (hq : isS q) (ok : okA A) (hC : isC s q A) (v : Int32) : rn 118 0 [some (.ref q), some (.int v), none, none] [] (mk X s) = some (some (.int (nI (fb_ct (tin A v) 400))), mk X s) := by
  have h1 := ok.1
  have h2 := ok.2.1
  have hs : ∀ (i : Nat) (r : Int32), 0 ≤ i → i < A.1 1 → r = nI (fb_sm (fun y => fb_ct (fun x => tin A v (20 * y + x)) 20) i) → ∃ r2 : Int32, r2 = nI (fb_sm (fun y => fb_ct (fun x => tin A v (20 * y + x)) 20) (i + 1)) ∧ rn 118 4 [some (.ref q), some (.int v), some (.int r), some (.int (nI i))] [] (mk X s) = rn 118 4 [some (.ref q), some (.int v), some (.int r2), some (.int (nI (i + 1)))] [] (mk X s) := by
    rintro i r _ hi rfl
    obtain ⟨t, ht, bt⟩ := tinRow_run X hq ok hC v (y := i) (by omega)
    refine ⟨_, rfl, ?_⟩
    rw [e_Sheet_tinSquares_4, g_S_high hq, hC.1.2.1, if_neg (nI_ge hi (by omega)), ck_S hq, ht, r1_s, pop_row _ bt, r1_s, nI_add, nI_add, fb_sm_succ]
  obtain ⟨y, hy, e⟩ := it_up (fun i (r : Int32) => rn 118 4 [some (.ref q), some (.int v), some (.int r), some (.int (nI i))] [] (mk X s)) (fun i r => r = nI (fb_sm (fun y => fb_ct (fun x => tin A v (20 * y + x)) 20) i)) (Nat.zero_le (A.1 1)) hs (x := nI 0) rfl
  try dsimp only at e
  rw [e_Sheet_tinSquares_0, e, e_Sheet_tinSquares_4, g_S_high hq, hC.1.2.1, if_pos (nI_le (Nat.le_refl _) (by omega)), hy, ct_400 (h := A.1 1) (by omega) (fun q hq h => tin_out (by unfold ins; rw [decide_eq_false (show ¬ q / 20 < A.1 1 by omega), Bool.and_false]))]
theorem M_isTin_run (X : qz_X) {s : sT} {k : Nat} {A : shT} (hk : k < 7) (hM : isM (gN s) k A) (v : Int32) {x y : Nat} (hx : x < 20) (hy : y < 20) : rn 122 0 [some (.ref 318), some (.int (nI k)), some (.int (nI x)), some (.int (nI y)), some (.int v)] [] (mk X s) = some (some (.int (if (!A.2.1 (20 * y + x) || brs A v (20 * y + x)) then nI 1 else nI 0)), mk X s) := by
  have e1 : s.1 322 (400 * k + (20 * y + x)) = if A.2.1 (20 * y + x) then nI 1 else nI 0 := hM.2.1 _ (by omega)
  rw [e_M_isTin_0, g_M_through, M_at_run, r1_s, i_M_through (by omega), e1, told_int]
  cases ht : A.2.1 (20 * y + x)
  · rfl
  · have e3 : ∀ b, b < 32 → bt (s.1 324 (400 * k + (20 * y + x))) b = (decide (b < 12) && A.2.2.2.1 b (20 * y + x)) := hM.2.2.2.1 _ (by omega)
    simp only [if_true, Bool.not_true, Bool.false_or]
    rw [g_M_bridgeAt, M_at_run, r1_s, i_M_bridgeAt (by omega)]
    cases hb : brs A v (20 * y + x)
    · rw [if_pos]
      · rfl
      · rw [b_zero]
        intro i hi
        rw [b_and, e3 i hi]
        cases h : (decide (i < 12) && A.2.2.2.1 i (20 * y + x) && bt v i)
        · rfl
        · exfalso
          rw [Bool.and_eq_true, Bool.and_eq_true, decide_eq_true_eq] at h
          have := brs_iff.mpr ⟨i, h.1.1, h.2, h.1.2⟩
          rw [hb] at this
          cases this
    · rw [if_neg]
      · rfl
      · intro h
        rw [b_zero] at h
        obtain ⟨b, h1, h2, h3⟩ := brs_iff.mp hb
        have := h b (by omega)
        rw [b_and, e3 b (by omega), h2, h3, decide_eq_true h1] at this
        cases this
theorem M_unit_0 (w : qz_W) : rn 104 0 [some (.int (nI 0))] [] w = some (some (.int (nI 0)), w) := M_unit_run w false
theorem M_unit_1 (w : qz_W) : rn 104 0 [some (.int (nI 1))] [] w = some (some (.int (nI 1)), w) := M_unit_run w true
theorem div20 {q : Nat} (h : q < 2 ^ 31) : nI q / nI 20 = nI (q / 20) := pk_div h (by decide) (by decide)
theorem rem20 {q : Nat} (h : q < 2 ^ 31) : nI q - nI (q / 20) * nI 20 = nI (q % 20) := by
  have := pk_rem (a := q) (d := 20) h (by decide) (by decide)
  rw [div20 h] at this
  exact this
theorem xy_q (q : Nat) : 20 * (q / 20) + q % 20 = q := by omega
theorem ins_iff {A : shT} {q : Nat} : ins A q = true ↔ q % 20 < A.1 0 ∧ q / 20 < A.1 1 := by
  unfold ins
  rw [Bool.and_eq_true, decide_eq_true_eq, decide_eq_true_eq]
/-- isWithin of a square by its number -/
theorem M_within_q (X : qz_X) {s : sT} {k : Nat} {A : shT} (hk : k < 7) (ok : okA A) (hM : isM (gN s) k A) {q : Nat} (hq : q < 400) : rn 94 0 [some (.ref 318), some (.int (nI k)), some (.int (nI (q % 20))), some (.int (nI (q / 20)))] [] (mk X s) = some (some (.int (if ins A q then nI 1 else nI 0)), mk X s) := by
  cases hb : ins A q
  · rw [M_within_no X hk ok hM]
    · rfl
    · rintro ⟨a, b, ha, hb2, e1, e2⟩
      have h1 := ok.1
      have h2 := ok.2.1
      rw [nI_eq (by omega) (by omega)] at e1 e2
      have : ins A q = true := ins_iff.mpr ⟨by omega, by omega⟩
      rw [hb] at this
      cases this
  · have := ins_iff.mp hb
    rw [M_within_yes X hk ok hM this.1 this.2]
    rfl
theorem isM_sa {s : sT} {o : Nat} {g : Nat → Int32} {k : Nat} {A : shT} (h : ¬ (320 ≤ o ∧ o ≤ 330)) (hM : isM (gN s) k A) : isM (gN (sa s o g)) k A := isM_cong (gN_c (fun i p q => by rw [sa_1, if_neg (by omega)])) hM
theorem isM_su {s : sT} {o j : Nat} {x : Int32} {k : Nat} {A : shT} (h : ¬ (320 ≤ o ∧ o ≤ 330)) (hM : isM (gN s) k A) : isM (gN (su s o j x)) k A := isM_cong (gN_c (fun i p q => funext fun l => by rw [su_1, if_neg (by omega)])) hM
theorem tins_run (X : qz_X) {s : sT} {k : Nat} {A : shT} (hk : k < 7) (ok : okA A) (hM : isM (gN s) k A) (v : Int32) : rn 123 0 [some (.ref 318), some (.int (nI k)), some (.int v), none] [] (mk X s) = some (none, mk X (sa s 334 (fun j => if j < 400 then (if tin A v j then nI 1 else nI 0) else s.1 334 j))) := by
  have hs : ∀ (i : Nat) (t : sT), 0 ≤ i → i < 400 → t = sa s 334 (fun j => if j < i then (if tin A v j then nI 1 else nI 0) else s.1 334 j) → ∃ y : sT, y = sa s 334 (fun j => if j < i + 1 then (if tin A v j then nI 1 else nI 0) else s.1 334 j) ∧ rn 123 2 [some (.ref 318), some (.int (nI k)), some (.int v), some (.int (nI i))] [] (mk X t) = rn 123 2 [some (.ref 318), some (.int (nI k)), some (.int v), some (.int (nI (i + 1)))] [] (mk X y) := by
    rintro i t _ hi rfl
    refine ⟨_, rfl, ?_⟩
    have hM2 := isM_sa (o := 334) (g := fun j => if j < i then (if tin A v j then nI 1 else nI 0) else s.1 334 j) (by omega) hM
    have e := fl_s (fun j => if tin A v j then nI 1 else nI 0) (s.1 334) i
    try dsimp only at e
    rw [e_M_tins_2, if_neg (nI_ge hi (by decide)), g_M_tin, if_neg (by decide), if_neg (by decide), ck_M, div20 (by omega), rem20 (by omega), M_within_q X hk ok hM2 hi, r1_s, told_int, ← e]
    cases hb : ins A i
    · rw [if_neg (by decide), M_unit_0, r1_s, w_M_tin hi, su_sa, nI_add, tin_out hb]
      rfl
    · rw [if_pos rfl, if_neg (by decide), if_neg (by decide), ck_M, M_isTin_run X hk hM2 v (by omega) (by omega), r1_s, told_int, xy_q]
      have et : tin A v i = (!A.2.1 i || brs A v i) := by
        unfold tin
        rw [hb]
        rfl
      rw [et]
      cases hc : (!A.2.1 i || brs A v i)
      · rw [if_neg (by decide), M_unit_0, r1_s, w_M_tin hi, su_sa, nI_add]
        rfl
      · rw [if_pos rfl, M_unit_1, r1_s, w_M_tin hi, su_sa, nI_add]
        rfl
  obtain ⟨y, hy, e⟩ := it_up (fun i (t : sT) => rn 123 2 [some (.ref 318), some (.int (nI k)), some (.int v), some (.int (nI i))] [] (mk X t)) (fun i t => t = sa s 334 (fun j => if j < i then (if tin A v j then nI 1 else nI 0) else s.1 334 j)) (Nat.zero_le 400) hs (x := s) (by
    have e := fl_0 (fun j => if tin A v j then nI 1 else nI 0) (s.1 334)
    try dsimp only at e
    rw [e, sa_id])
  try dsimp only at e
  rw [e_M_tins_0, e, hy, e_M_tins_2, if_pos (nI_le (by decide) (by decide))]
theorem tinMany_run (X : qz_X) {s : sT} {t : Nat → Bool} (ht : ∀ j, j < 400 → s.1 334 j = if t j then nI 1 else nI 0) : rn 124 0 [some (.ref 318), none, none] [] (mk X s) = some (some (.int (nI (fb_ct t 400))), mk X s) := by
  have hs : ∀ (i : Nat) (v : Int32), 0 ≤ i → i < 400 → v = nI (fb_ct t i) → ∃ y : Int32, y = nI (fb_ct t (i + 1)) ∧ rn 124 4 [some (.ref 318), some (.int v), some (.int (nI i))] [] (mk X s) = rn 124 4 [some (.ref 318), some (.int y), some (.int (nI (i + 1)))] [] (mk X s) := by
    rintro i v _ hi rfl
    refine ⟨_, rfl, ?_⟩
    rw [e_M_tinMany_4, if_neg (nI_ge hi (by decide)), g_M_tin, i_M_tin hi, ht i hi, fb_ct_succ, nI_add]
    cases t i
    · simp only [Bool.false_eq_true, if_false, nI_add]
    · simp only [if_true, nI_add]
  obtain ⟨y, hy, e⟩ := it_up (fun i (v : Int32) => rn 124 4 [some (.ref 318), some (.int v), some (.int (nI i))] [] (mk X s)) (fun i v => v = nI (fb_ct t i)) (Nat.zero_le 400) hs (x := nI 0) rfl
  try dsimp only at e
  rw [e_M_tinMany_0, e, e_M_tinMany_4, if_pos (nI_le (by decide) (by decide)), hy]

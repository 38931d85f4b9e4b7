/-! judge, first, sheet, bridge -/
/-- what the next sheet lets paint -/
def covG (G : gsT) (k q : Nat) : Bool := decide (k + 1 < 6) && (G.2.1.1 (k + 1) && (ins (G.2.1.2.1 (k + 1)) q && (G.2.1.2.1 (k + 1)).2.1 q))
theorem cut_run (X : qz_X) {s : sT} {G : gsT} (h : Rel s G) {k : Nat} (hk : k < 6) (x y : Nat) (hx : x < 20) (hy : y < 20) : rn 185 0 [some (.ref 318), some (.int (nI k)), some (.int (nI x)), some (.int (nI y))] [] (mk X s) = some (some (.int (bI (covG G k (20 * y + x)))), mk X s) := by
  rw [e_M_isCutBelow_0, nI_add]
  unfold covG
  by_cases h6 : k + 1 < 6
  · rw [if_neg (nI_ge h6 (by decide)), g_M_isTold, i_M_isTold h6, (h.2.2.2.2.1.2.1 (k + 1) h6).2.1, told_one, decide_eq_true h6]
    cases hT : G.2.1.1 (k + 1)
    · rfl
    · have ok := h.2.2.2.2.1.1.2 (k + 1) h6 hT
      have hM := ((h.2.2.2.2.1.2.1 (k + 1) h6).2.2 hT).2
      have e1 : s.1 322 (400 * (k + 1) + (20 * y + x)) = if (G.2.1.2.1 (k + 1)).2.1 (20 * y + x) then nI 1 else nI 0 := hM.2.1 _ (by omega)
      have ew := M_within_q X (show k + 1 < 7 by omega) ok hM (q := 20 * y + x) (by omega)
      rw [show (20 * y + x) % 20 = x by omega, show (20 * y + x) / 20 = y by omega] at ew
      rw [if_pos rfl, ck_M, ew, r1_s, told_int]
      cases hi : ins (G.2.1.2.1 (k + 1)) (20 * y + x)
      · rfl
      · rw [if_pos rfl, g_M_through, M_at_run, r1_s, i_M_through (by omega), e1, told_one]
        cases (G.2.1.2.1 (k + 1)).2.1 (20 * y + x) <;> rfl
  · rw [if_pos (nI_le (by omega) (by omega)), decide_eq_false h6]
    rfl
/-- the class's next sheet -/
theorem next_run (X : qz_X) {s : sT} {G : gsT} (h : Rel s G) {k : Nat} (hk : k < 6) : ∃ nv : Value, rn 115 0 [some (.ref 0), some (.int (nI (k + 1)))] [] (mk X s) = some (some nv, mk X s) ∧ nxt s nv (covG G k) := by
  by_cases hT : k + 1 < 6 ∧ G.2.1.1 (k + 1) = true
  · have htk : tk G (nI (k + 1)) (k + 1) := ⟨hT.1, rfl, hT.2⟩
    obtain ⟨hS, ok, hC, -⟩ := tk_P h htk
    refine ⟨_, C_told_yes X h htk, Or.inr ⟨_, G.2.1.2.1 (k + 1), rfl, hS, ok, hC, fun q hq => ?_⟩⟩
    unfold covG
    rw [decide_eq_true hT.1, hT.2]
    rfl
  · refine ⟨_, C_told_no X h (fun j hj => ?_), Or.inl ⟨rfl, fun q hq => ?_⟩⟩
    · have : k + 1 = j := (nI_eq (by omega) (by have := hj.1; omega)).mp hj.2.1
      subst this
      exact hT ⟨hj.1, hj.2.2⟩
    · unfold covG
      by_cases h6 : k + 1 < 6
      · cases hT2 : G.2.1.1 (k + 1)
        · simp
        · exact absurd ⟨h6, hT2⟩ hT
      · rw [decide_eq_false h6]; rfl
theorem fst_u {p : Nat → Bool} {n j : Nat} (hj : j < n) (pj : p j = true) (hn : ∀ i, i < j → p i = false) : fa_first p n = j := by
  have h1 := fa_first_le p n
  rcases Nat.lt_trichotomy (fa_first p n) j with h | h | h
  · have := fa_first_yes p n (by omega)
    rw [hn _ h] at this
    cases this
  · exact h
  · have := fa_first_no p n j h
    rw [pj] at this
    cases this
theorem fst_n {p : Nat → Bool} {n : Nat} (hn : ∀ i, i < n → p i = false) : fa_first p n = n := by
  have h1 := fa_first_le p n
  rcases Nat.lt_or_ge (fa_first p n) n with h | h
  · have := fa_first_yes p n h
    rw [hn _ h] at this
    cases this
  · omega
def wearP (A : shT) (b : Nat) : Bool := bt (nI (A.1 5)) b && decide (A.2.2.2.2 2 b < A.1 8)
def wearI (A : shT) : Int32 := if fa_first (wearP A) 12 < 12 then nI (fa_first (wearP A) 12) else -1
theorem wear_C (X : qz_X) {s : sT} {q : Nat} {A : shT} (hq : isS q) (ok : okA A) (hC : isC s q A) : rn 178 0 [some (.ref (q + 3)), some (.int (nI (A.1 8))), none] [] (mk X s) = some (some (.int (wearI A)), mk X s) := by
  have o5 := ok.2.2.2.2.1
  have o8 := ok.2.2.2.2.2.2.2.2.1
  have hs : ∀ (i : Nat) (u : Unit), 0 ≤ i → i < A.1 4 → (∀ j, j < i → wearP A j = false) → (∃ u2 : Unit, (∀ j, j < i + 1 → wearP A j = false) ∧ rn 178 2 [some (.ref (q + 3)), some (.int (nI (A.1 8))), some (.int (nI i))] [] (mk X s) = rn 178 2 [some (.ref (q + 3)), some (.int (nI (A.1 8))), some (.int (nI (i + 1)))] [] (mk X s)) ∨ rn 178 2 [some (.ref (q + 3)), some (.int (nI (A.1 8))), some (.int (nI i))] [] (mk X s) = some (some (.int (wearI A)), mk X s) := by
    intro i _ _ hi hno
    have hl := (hC.2.2.2.2.2.1 i hi).2
    have hlb := (ok.2.2.2.2.2.2.2.2.2.2.2.2.1 i hi).2.2
    rw [e_Bridges_firstBelow_2, g_B_number hq, hC.1.2.2.2.2.1, if_neg (nI_ge hi (by omega)), g_B_in hq, hC.1.2.2.2.2.2.1]
    have go : wearP A i = false → ∀ j, j < i + 1 → wearP A j = false := by
      intro h j hj
      by_cases e : j = i
      · subst e; exact h
      · exact hno j (by omega)
    cases hb : bt (nI (A.1 5)) i
    · rw [if_pos ((b_selz _ (by omega)).mpr hb), nI_add]
      exact Or.inl ⟨(), go (by unfold wearP; rw [hb]; rfl), rfl⟩
    · rw [if_neg (fun z => by rw [b_selz _ (by omega), hb] at z; cases z), g_B_lasts hq, i_B_lasts hq (by omega), hl]
      by_cases hw : A.1 8 ≤ A.2.2.2.2 2 i
      · rw [if_pos (nI_le hw (by omega)), nI_add]
        exact Or.inl ⟨(), go (by unfold wearP; rw [decide_eq_false (by omega)]; simp), rfl⟩
      · rw [if_neg (nI_ge (by omega) (by omega))]
        have hf : fa_first (wearP A) 12 = i := fst_u (by omega) (by unfold wearP; rw [hb, decide_eq_true (by omega)]; rfl) hno
        unfold wearI
        rw [hf, if_pos (by omega)]
        exact Or.inr rfl
  rw [e_Bridges_firstBelow_0]
  rcases it_ex (fun i (_ : Unit) => rn 178 2 [some (.ref (q + 3)), some (.int (nI (A.1 8))), some (.int (nI i))] [] (mk X s)) (fun i _ => ∀ j, j < i → wearP A j = false) (fun o => o = some (some (.int (wearI A)), mk X s)) (Nat.zero_le (A.1 4)) hs (x := ()) (fun j hj => absurd hj (Nat.not_lt_zero j)) with ⟨_, hno, e⟩ | e
  · try dsimp only at e
    have hf : fa_first (wearP A) 12 = 12 := fst_n (fun i hi => by
      by_cases h4 : i < A.1 4
      · exact hno i h4
      · unfold wearP
        rw [in_out ok (by omega) (by omega)]; rfl)
    rw [e, e_Bridges_firstBelow_2, g_B_number hq, hC.1.2.2.2.2.1, if_pos (nI_le (Nat.le_refl _) (by omega))]
    unfold wearI
    rw [hf, if_neg (by omega)]
  · exact e
theorem wear_M (X : qz_X) {s : sT} {k : Nat} {A : shT} (hk : k < 7) (ok : okA A) (hM : isM (gN s) k A) : rn 187 54 [some (.ref 318), some (.int (nI k)), none, some (.int (nI (A.1 5))), some (.int (nI 0))] [] (mk X s) = some (some (.int (wearI A)), mk X s) := by
  have o5 := ok.2.2.2.2.1
  have o8 := ok.2.2.2.2.2.2.2.2.1
  have ha : s.1 320 (16 * k + 8) = nI (A.1 8) := ab_at hM (by decide)
  have hs : ∀ (i : Nat) (u : Unit), 0 ≤ i → i < 12 → (∀ j, j < i → wearP A j = false) → (∃ u2 : Unit, (∀ j, j < i + 1 → wearP A j = false) ∧ rn 187 54 [some (.ref 318), some (.int (nI k)), none, some (.int (nI (A.1 5))), some (.int (nI i))] [] (mk X s) = rn 187 54 [some (.ref 318), some (.int (nI k)), none, some (.int (nI (A.1 5))), some (.int (nI (i + 1)))] [] (mk X s)) ∨ rn 187 54 [some (.ref 318), some (.int (nI k)), none, some (.int (nI (A.1 5))), some (.int (nI i))] [] (mk X s) = some (some (.int (wearI A)), mk X s) := by
    intro i _ _ hi hno
    rw [e_M_judge_54, if_neg (nI_ge hi (by decide)), M_has_run _ _ (by omega), r1_s, told_int]
    have go : wearP A i = false → ∀ j, j < i + 1 → wearP A j = false := by
      intro h j hj
      by_cases e : j = i
      · subst e; exact h
      · exact hno j (by omega)
    cases hb : bt (nI (A.1 5)) i
    · rw [if_neg (by decide), nI_add]
      exact Or.inl ⟨(), go (by unfold wearP; rw [hb]; rfl), rfl⟩
    · have hi4 : i < A.1 4 := by
        rcases Nat.lt_or_ge i (A.1 4) with g | g
        · exact g
        · rw [in_out ok g (by omega)] at hb; cases hb
      have hl : s.1 330 (12 * k + i) = nI (A.2.2.2.2 2 i) := (hM.2.2.2.2.2 i hi4).2.2
      have hlb := (ok.2.2.2.2.2.2.2.2.2.2.2.2.1 i hi4).2.2
      rw [if_pos rfl, g_M_bridgeLasts, pk_mul, nI_add, i_M_bridgeLasts (by omega), hl, g_M_about, pk_mul, nI_add, i_M_about (by omega), ha]
      by_cases hw : A.1 8 ≤ A.2.2.2.2 2 i
      · rw [if_pos (nI_le hw (by omega)), nI_add]
        exact Or.inl ⟨(), go (by unfold wearP; rw [decide_eq_false (by omega)]; simp), rfl⟩
      · rw [if_neg (nI_ge (by omega) (by omega))]
        have hf : fa_first (wearP A) 12 = i := fst_u (by omega) (by unfold wearP; rw [hb, decide_eq_true (by omega)]; rfl) hno
        unfold wearI
        rw [hf, if_pos (by omega)]
        exact Or.inr rfl
  rcases it_ex (fun i (_ : Unit) => rn 187 54 [some (.ref 318), some (.int (nI k)), none, some (.int (nI (A.1 5))), some (.int (nI i))] [] (mk X s)) (fun i _ => ∀ j, j < i → wearP A j = false) (fun o => o = some (some (.int (wearI A)), mk X s)) (Nat.zero_le 12) hs (x := ()) (fun j hj => absurd hj (Nat.not_lt_zero j)) with ⟨_, hno, e⟩ | e
  · try dsimp only at e
    rw [e, e_M_judge_54, if_pos (nI_le (by decide) (by decide))]
    unfold wearI
    rw [fst_n hno, if_neg (by omega)]
  · exact e
/-- a number of 0 to n, or none such -/
theorem num_or (v : Int32) (n : Nat) : (∃ j, j ≤ n ∧ v = nI j) ∨ ∀ j, j ≤ n → v ≠ nI j := by
  rcases Classical.em (∃ j, j ≤ n ∧ v = nI j) with h | h
  · exact Or.inl h
  · exact Or.inr fun j hj e => h ⟨j, hj, e⟩
theorem sim_judge (X : qz_X) (s : sT) (G : gsT) (h : Rel s G) (v w : Int32) : Sim X s 182 187 [some (.ref 0), some (.int v), some (.int w), none] [some (.ref 318), some (.int v), some (.int w), none, none] := by
  rcases tk_or G v with ⟨k, hk⟩ | hn
  · obtain ⟨hS, ok, hC, hM⟩ := tk_P h hk
    have hk6 := hk.1
    have hk7 : k < 7 := by omega
    have hv : v = nI k := hk.2.1
    subst hv
    rcases num_or w 2 with ⟨j, hj, rfl⟩ | hno
    · rcases (show j = 0 ∨ j = 1 ∨ j = 2 by omega) with rfl | rfl | rfl
      · obtain ⟨t1, a1, a2, a3, a4⟩ := C_fall_run X hS ok hC (nI ((G.2.1.2.1 k).1 5))
        have f1 : fr s t1 := fr_of [87, 88, 89] (by rw [a3]) a4 (by decide)
        have h1 := h.fr f1
        have hM1 : isM (gN t1) k (G.2.1.2.1 k) := isM_of (fun c p q => a4 c (by simp; omega)) hM
        obtain ⟨t2, b1, b3, b4⟩ := M_allHang_run X hk7 ok hM1 (nI ((G.2.1.2.1 k).1 5))
        have hle := fb_ct_le (fal (G.2.1.2.1 k) (nI ((G.2.1.2.1 k).1 5))) 400
        refine sim_q (r := .int (bI (decide (fb_ct (fal (G.2.1.2.1 k) (nI ((G.2.1.2.1 k).1 5))) 400 = 0)))) h (s1 := t1) (s2 := t2) ?_ f1 ?_ (fr_of [334, 335, 336] (by rw [b3]) b4 (by decide))
        · rw [e_C_judge_0, ck_C, C_told_yes X h hk, r3_r, if_pos rfl, g_C_hanging, g_S_bridges hS, g_B_in hS, hC.1.2.2.2.2.2.1, ck_H, a1, r0_s, g_C_hanging, ck_H, a2, r1_s]
          by_cases h0 : fb_ct (fal (G.2.1.2.1 k) (nI ((G.2.1.2.1 k).1 5))) 400 = 0
          · rw [if_pos (by rw [h0]; rfl), decide_eq_true h0]; rfl
          · rw [if_neg (nI_ne0 (by omega) (by omega)), decide_eq_false h0]; rfl
        · rw [e_M_judge_0, ck_M, M_sheet_yes X h1 hk, r1_s, if_neg (by decide), isIn_yes _ (by decide) (by decide), r1_s, if_neg (by decide), ck_M, M_in_run X hk7 hM1, r1_s, if_pos (by decide), ck_M, b1, r1_s, bI_unit, r1_s]
      · refine sim_q (r := .int (wearI (G.2.1.2.1 k))) h (s1 := s) (s2 := s) ?_ (fr.rf s) ?_ (fr.rf s)
        · rw [e_C_judge_0, ck_C, C_told_yes X h hk, r3_r, if_neg (by decide), if_pos rfl, g_S_bridges hS, g_S_wear hS, hC.1.2.2.2.2.2.2.2.2, ck_B hS, wear_C X hS ok hC, r1_s]
        · rw [e_M_judge_0, ck_M, M_sheet_yes X h hk, r1_s, if_neg (by decide), isIn_yes _ (by decide) (by decide), r1_s, if_neg (by decide), ck_M, M_in_run X hk7 hM, r1_s, if_neg (by decide), if_neg (by decide), wear_M X hk7 ok hM]
      · obtain ⟨nv, hnv, hnx⟩ := next_run X h hk6
        have hsn := seen_run X hS ok hC hnx (nI ((G.2.1.2.1 k).1 5))
        refine sim_q (r := .int (nI (SEEN (G.2.1.2.1 k) (covG G k) (nI ((G.2.1.2.1 k).1 5))))) h (s1 := s) (s2 := s) ?_ (fr.rf s) ?_ (fr.rf s)
        · rw [e_C_judge_0, ck_C, C_told_yes X h hk, r3_r, if_neg (by decide), if_neg (by decide), if_pos rfl, g_S_bridges hS, g_B_in hS, hC.1.2.2.2.2.2.1, ck_C, nI_add, hnv]
          rcases hnx with ⟨rfl, -⟩ | ⟨p, A2, rfl, -⟩
          · rw [r3_n, ck_S hS, hsn, r1_s]
          · rw [r3_r, ck_S hS, hsn, r1_s]
        · rw [e_M_judge_0, ck_M, M_sheet_yes X h hk, r1_s, if_neg (by decide), isIn_yes _ (by decide) (by decide), r1_s, if_neg (by decide), ck_M, M_in_run X hk7 hM, r1_s, if_neg (by decide), if_pos (by decide), ck_M, M_seen_run X hk7 ok hM (cut_run X h hk6), r1_s]
    · refine sim_q (r := .int (-1)) h (s1 := s) (s2 := s) ?_ (fr.rf s) ?_ (fr.rf s)
      · rw [e_C_judge_0, ck_C, C_told_yes X h hk, r3_r, if_neg (hno 0 (by decide)), if_neg (hno 1 (by decide)), if_neg (hno 2 (by decide))]
      · rw [e_M_judge_0, ck_M, M_sheet_yes X h hk, r1_s, if_neg (by decide), isIn_no _ (by decide) hno, r1_s, if_pos (by decide)]
  · refine sim_q (r := .int (-1)) h (s1 := s) (s2 := s) ?_ (fr.rf s) ?_ (fr.rf s)
    · rw [e_C_judge_0, ck_C, C_told_no X h hn, r3_n]
    · rw [e_M_judge_0, ck_M, M_sheet_no X h hn, r1_s, if_pos (by decide)]
/-- FIRST: 99 where there is none -/
def bF (A : shT) : Nat → Nat
  | 0 => 99
  | i + 1 => if bt (nI (A.1 5)) i then (if bF A i = 99 then i else if A.2.2.2.2 2 (bF A i) ≤ A.2.2.2.2 2 i then bF A i else i) else bF A i
theorem bF_lt (A : shT) : ∀ i, bF A i = 99 ∨ bF A i < i
  | 0 => Or.inl rfl
  | i + 1 => by
    have := bF_lt A i
    unfold bF
    split
    · split
      · omega
      · split <;> omega
    · omega
def bFI (A : shT) (i : Nat) : Int32 := if bF A i = 99 then -1 else nI (bF A i)
theorem bF_12 {A : shT} (ok : okA A) : bF A 12 = bF A (A.1 4) := by
  have o5 := ok.2.2.2.2.1
  have key : ∀ d, A.1 4 + d ≤ 12 → bF A (A.1 4 + d) = bF A (A.1 4) := by
    intro d
    induction d with
    | zero => exact fun _ => rfl
    | succ d ih =>
      intro hd
      rw [show A.1 4 + (d + 1) = (A.1 4 + d) + 1 by omega, show bF A (A.1 4 + d + 1) = if bt (nI (A.1 5)) (A.1 4 + d) then (if bF A (A.1 4 + d) = 99 then A.1 4 + d else if A.2.2.2.2 2 (bF A (A.1 4 + d)) ≤ A.2.2.2.2 2 (A.1 4 + d) then bF A (A.1 4 + d) else A.1 4 + d) else bF A (A.1 4 + d) from rfl]
      rw [in_out ok (by omega) (by omega), if_neg (by decide)]
      exact ih (by omega)
  have := key (12 - A.1 4) (by omega)
  rwa [show A.1 4 + (12 - A.1 4) = 12 by omega] at this
theorem first_C (X : qz_X) {s : sT} {q : Nat} {A : shT} (hq : isS q) (ok : okA A) (hC : isC s q A) : rn 225 0 [some (.ref (q + 3)), none, none] [] (mk X s) = some (some (.int (bFI A 12)), mk X s) := by
  have o5 := ok.2.2.2.2.1
  have hs : ∀ (i : Nat) (v : Int32), 0 ≤ i → i < A.1 4 → v = bFI A i → ∃ y : Int32, y = bFI A (i + 1) ∧ rn 225 4 [some (.ref (q + 3)), some (.int v), some (.int (nI i))] [] (mk X s) = rn 225 4 [some (.ref (q + 3)), some (.int y), some (.int (nI (i + 1)))] [] (mk X s) := by
    rintro i v _ hi rfl
    refine ⟨_, rfl, ?_⟩
    have hl := fun b hb => (hC.2.2.2.2.2.1 b hb).2
    have hlb := fun b hb => (ok.2.2.2.2.2.2.2.2.2.2.2.2.1 b hb).2.2
    have hlt := bF_lt A i
    rw [e_Bridges_leastLasting_4, g_B_number hq, hC.1.2.2.2.2.1, if_neg (nI_ge hi (by omega)), g_B_in hq, hC.1.2.2.2.2.2.1, nI_add]
    unfold bFI
    rw [show bF A (i + 1) = if bt (nI (A.1 5)) i then (if bF A i = 99 then i else if A.2.2.2.2 2 (bF A i) ≤ A.2.2.2.2 2 i then bF A i else i) else bF A i from rfl]
    cases hb : bt (nI (A.1 5)) i
    · rw [if_pos ((b_selz _ (by omega)).mpr hb)]
      rfl
    · rw [if_neg (fun z => by rw [b_selz _ (by omega), hb] at z; cases z), if_pos rfl]
      by_cases h9 : bF A i = 99
      · rw [if_pos h9, if_pos rfl, if_pos h9, if_neg (by omega)]
      · rw [if_neg h9, if_neg (nI_m1 (by omega)), if_neg h9, g_B_lasts hq, i_B_lasts hq (by omega), hl i hi, g_B_lasts hq, i_B_lasts hq (by omega), hl _ (by omega)]
        have b1 := hlb i hi
        have b2 := hlb (bF A i) (by omega)
        by_cases hc : A.2.2.2.2 2 (bF A i) ≤ A.2.2.2.2 2 i
        · rw [if_pos (nI_le hc (by omega)), if_pos hc, if_neg h9]
        · rw [if_neg (nI_ge (by omega) (by omega)), if_neg hc, if_neg (by omega)]
  obtain ⟨y, hy, e⟩ := it_up (fun i (v : Int32) => rn 225 4 [some (.ref (q + 3)), some (.int v), some (.int (nI i))] [] (mk X s)) (fun i v => v = bFI A i) (Nat.zero_le (A.1 4)) hs (x := -1) rfl
  try dsimp only at e
  rw [e_Bridges_leastLasting_0, e, e_Bridges_leastLasting_4, g_B_number hq, hC.1.2.2.2.2.1, if_pos (nI_le (Nat.le_refl _) (by omega)), hy]
  unfold bFI
  rw [bF_12 ok]
theorem first_M (X : qz_X) {s : sT} {k : Nat} {A : shT} (hk : k < 7) (ok : okA A) (hM : isM (gN s) k A) : rn 227 14 [some (.ref 318), some (.int (nI k)), some (.int (-1)), some (.int (nI 0))] [] (mk X s) = some (some (.int (bFI A 12)), mk X s) := by
  have o5 := ok.2.2.2.2.1
  have hs : ∀ (i : Nat) (v : Int32), 0 ≤ i → i < 12 → (v = bFI A i ∧ (bF A i = 99 ∨ bF A i < A.1 4)) → ∃ y : Int32, (y = bFI A (i + 1) ∧ (bF A (i + 1) = 99 ∨ bF A (i + 1) < A.1 4)) ∧ rn 227 14 [some (.ref 318), some (.int (nI k)), some (.int v), some (.int (nI i))] [] (mk X s) = rn 227 14 [some (.ref 318), some (.int (nI k)), some (.int y), some (.int (nI (i + 1)))] [] (mk X s) := by
    rintro i v _ hi ⟨rfl, h94⟩
    have hl : ∀ b, b < A.1 4 → s.1 330 (12 * k + b) = nI (A.2.2.2.2 2 b) := fun b hb => (hM.2.2.2.2.2 b hb).2.2
    have hlb := fun b hb => (ok.2.2.2.2.2.2.2.2.2.2.2.2.1 b hb).2.2
    have hlt := bF_lt A i
    have eF : bF A (i + 1) = if bt (nI (A.1 5)) i then (if bF A i = 99 then i else if A.2.2.2.2 2 (bF A i) ≤ A.2.2.2.2 2 i then bF A i else i) else bF A i := rfl
    have hi4 : bt (nI (A.1 5)) i = true → i < A.1 4 := fun hb => by
      rcases Nat.lt_or_ge i (A.1 4) with g | g
      · exact g
      · rw [in_out ok g (by omega)] at hb; cases hb
    refine ⟨_, ⟨rfl, ?_⟩, ?_⟩
    · rw [eF]
      cases hb : bt (nI (A.1 5)) i
      · exact h94
      · have := hi4 hb
        rw [if_pos rfl]
        split
        · exact Or.inr this
        · split
          · exact h94
          · exact Or.inr this
    · rw [e_M_first_14, if_neg (nI_ge hi (by decide)), ck_M, M_in_run X hk hM, r1_s, M_has_run _ _ (by omega), r1_s, told_int, nI_add]
      unfold bFI
      rw [eF]
      cases hb : bt (nI (A.1 5)) i
      · rfl
      · have h4 := hi4 hb
        rw [if_pos rfl, if_pos rfl]
        by_cases h9 : bF A i = 99
        · rw [if_pos h9, if_pos rfl, if_pos h9, if_neg (by omega)]
        · have hb4 : bF A i < A.1 4 := by omega
          rw [if_neg h9, if_neg (nI_m1 (by omega)), if_neg h9, g_M_bridgeLasts, pk_mul, nI_add, i_M_bridgeLasts (by omega), hl i h4, g_M_bridgeLasts, nI_add, i_M_bridgeLasts (by omega), hl _ hb4]
          have b1 := hlb i h4
          have b2 := hlb (bF A i) hb4
          by_cases hc : A.2.2.2.2 2 (bF A i) ≤ A.2.2.2.2 2 i
          · rw [if_pos (nI_le hc (by omega)), if_pos hc, if_neg h9]
          · rw [if_neg (nI_ge (by omega) (by omega)), if_neg hc, if_neg (by omega)]
  obtain ⟨y, ⟨hy, -⟩, e⟩ := it_up (fun i (v : Int32) => rn 227 14 [some (.ref 318), some (.int (nI k)), some (.int v), some (.int (nI i))] [] (mk X s)) (fun i v => v = bFI A i ∧ (bF A i = 99 ∨ bF A i < A.1 4)) (Nat.zero_le 12) hs (x := -1) ⟨rfl, Or.inl rfl⟩
  try dsimp only at e
  rw [e, e_M_first_14, if_pos (nI_le (by decide) (by decide)), hy]
theorem sim_first (X : qz_X) (s : sT) (G : gsT) (h : Rel s G) (v : Int32) : Sim X s 226 227 [some (.ref 0), some (.int v), none] [some (.ref 318), some (.int v), none, none] := by
  rcases tk_or G v with ⟨k, hk⟩ | hn
  · obtain ⟨hS, ok, hC, hM⟩ := tk_P h hk
    have hk6 := hk.1
    have hv : v = nI k := hk.2.1
    subst hv
    refine sim_q (r := .int (bFI (G.2.1.2.1 k) 12)) h (s1 := s) (s2 := s) ?_ (fr.rf s) ?_ (fr.rf s)
    · rw [e_C_first_0, ck_C, C_told_yes X h hk, r3_r, g_S_bridges hS, ck_B hS, first_C X hS ok hC, r1_s]
    · rw [e_M_first_0, ck_M, M_sheet_yes X h hk, r1_s, if_neg (by decide), first_M X (by omega) ok hM]
  · refine sim_q (r := .int (-1)) h (s1 := s) (s2 := s) ?_ (fr.rf s) ?_ (fr.rf s)
    · rw [e_C_first_0, ck_C, C_told_no X h hn, r3_n]
    · rw [e_M_first_0, ck_M, M_sheet_no X h hn, r1_s, if_pos (by decide)]
theorem sim_sheet (X : qz_X) (s : sT) (G : gsT) (h : Rel s G) (v w : Int32) : Sim X s 119 125 [some (.ref 0), some (.int v), some (.int w), none] [some (.ref 318), some (.int v), some (.int w)] := by
  rcases tk_or G v with ⟨k, hk⟩ | hn
  · obtain ⟨hS, ok, hC, hM⟩ := tk_P h hk
    have hk6 := hk.1
    have hk7 : k < 7 := by omega
    have hv : v = nI k := hk.2.1
    subst hv
    rcases num_or w 9 with ⟨j, hj, rfl⟩ | hno
    · have M9 : ∀ j, j < 9 → rn 125 0 [some (.ref 318), some (.int (nI k)), some (.int (nI j))] [] (mk X s) = some (some (.int (nI ((G.2.1.2.1 k).1 j))), mk X s) := by
        intro j hj
        have ha : s.1 320 (16 * k + j) = nI ((G.2.1.2.1 k).1 j) := ab_at hM hj
        rw [e_M_sheet_0, ck_M, M_sheet_yes X h hk, r1_s, if_neg (by decide), isIn_yes _ (by omega) (by decide), r1_s, if_neg (by decide), if_neg (nI_ge (by omega) (by decide)), g_M_about, pk_mul, nI_add, i_M_about (by omega), ha]
      rcases (show j = 0 ∨ j = 1 ∨ j = 2 ∨ j = 3 ∨ j = 4 ∨ j = 5 ∨ j = 6 ∨ j = 7 ∨ j = 8 ∨ j = 9 by omega) with rfl | rfl | rfl | rfl | rfl | rfl | rfl | rfl | rfl | rfl
      · refine sim_q (r := .int (nI ((G.2.1.2.1 k).1 0))) h (s1 := s) (s2 := s) ?_ (fr.rf s) (M9 0 (by decide)) (fr.rf s)
        rw [e_C_sheet_0, ck_C, C_told_yes X h hk, r3_r, if_pos rfl, g_S_wide hS, hC.1.1]
      · refine sim_q (r := .int (nI ((G.2.1.2.1 k).1 1))) h (s1 := s) (s2 := s) ?_ (fr.rf s) (M9 1 (by decide)) (fr.rf s)
        rw [e_C_sheet_0, ck_C, C_told_yes X h hk, r3_r, if_neg (by decide), if_pos rfl, g_S_high hS, hC.1.2.1]
      · refine sim_q (r := .int (nI ((G.2.1.2.1 k).1 2))) h (s1 := s) (s2 := s) ?_ (fr.rf s) (M9 2 (by decide)) (fr.rf s)
        rw [e_C_sheet_0, ck_C, C_told_yes X h hk, r3_r, if_neg (by decide), if_neg (by decide), if_pos rfl, g_S_statements hS, hC.1.2.2.1]
      · refine sim_q (r := .int (nI ((G.2.1.2.1 k).1 3))) h (s1 := s) (s2 := s) ?_ (fr.rf s) (M9 3 (by decide)) (fr.rf s)
        rw [e_C_sheet_0, ck_C, C_told_yes X h hk, r3_r, if_neg (by decide), if_neg (by decide), if_neg (by decide), if_pos rfl, g_S_shapeNumber hS, hC.1.2.2.2.1]
      · refine sim_q (r := .int (nI ((G.2.1.2.1 k).1 4))) h (s1 := s) (s2 := s) ?_ (fr.rf s) (M9 4 (by decide)) (fr.rf s)
        rw [e_C_sheet_0, ck_C, C_told_yes X h hk, r3_r, if_neg (by decide), if_neg (by decide), if_neg (by decide), if_neg (by decide), if_pos rfl, g_S_bridges hS, g_B_number hS, hC.1.2.2.2.2.1]
      · refine sim_q (r := .int (nI ((G.2.1.2.1 k).1 5))) h (s1 := s) (s2 := s) ?_ (fr.rf s) (M9 5 (by decide)) (fr.rf s)
        rw [e_C_sheet_0, ck_C, C_told_yes X h hk, r3_r, if_neg (by decide), if_neg (by decide), if_neg (by decide), if_neg (by decide), if_neg (by decide), if_pos rfl, g_S_bridges hS, g_B_in hS, hC.1.2.2.2.2.2.1]
      · refine sim_q (r := .int (nI ((G.2.1.2.1 k).1 6))) h (s1 := s) (s2 := s) ?_ (fr.rf s) (M9 6 (by decide)) (fr.rf s)
        rw [e_C_sheet_0, ck_C, C_told_yes X h hk, r3_r, if_neg (by decide), if_neg (by decide), if_neg (by decide), if_neg (by decide), if_neg (by decide), if_neg (by decide), if_pos rfl, g_S_held hS, hC.1.2.2.2.2.2.2.1]
      · refine sim_q (r := .int (nI ((G.2.1.2.1 k).1 7))) h (s1 := s) (s2 := s) ?_ (fr.rf s) (M9 7 (by decide)) (fr.rf s)
        rw [e_C_sheet_0, ck_C, C_told_yes X h hk, r3_r, if_neg (by decide), if_neg (by decide), if_neg (by decide), if_neg (by decide), if_neg (by decide), if_neg (by decide), if_neg (by decide), if_pos rfl, g_S_brush hS, hC.1.2.2.2.2.2.2.2.1]
      · refine sim_q (r := .int (nI ((G.2.1.2.1 k).1 8))) h (s1 := s) (s2 := s) ?_ (fr.rf s) (M9 8 (by decide)) (fr.rf s)
        rw [e_C_sheet_0, ck_C, C_told_yes X h hk, r3_r, if_neg (by decide), if_neg (by decide), if_neg (by decide), if_neg (by decide), if_neg (by decide), if_neg (by decide), if_neg (by decide), if_neg (by decide), if_pos rfl, g_S_wear hS, hC.1.2.2.2.2.2.2.2.2]
      · refine sim_q (r := .int (nI (fb_ct (tin (G.2.1.2.1 k) (nI ((G.2.1.2.1 k).1 5))) 400))) h (s1 := s) ?_ (fr.rf s) ?_ (fr_sa (s := s) (o := 334) (g := fun j => if j < 400 then (if tin (G.2.1.2.1 k) (nI ((G.2.1.2.1 k).1 5)) j then nI 1 else nI 0) else s.1 334 j) (fun j => by rw [scr_j (by decide)]; rfl))
        · rw [e_C_sheet_0, ck_C, C_told_yes X h hk, r3_r, if_neg (by decide), if_neg (by decide), if_neg (by decide), if_neg (by decide), if_neg (by decide), if_neg (by decide), if_neg (by decide), if_neg (by decide), if_neg (by decide), if_pos rfl, g_S_bridges hS, g_B_in hS, hC.1.2.2.2.2.2.1, ck_S hS, tinSquares_run X hS ok hC, r1_s]
        · rw [e_M_sheet_0, ck_M, M_sheet_yes X h hk, r1_s, if_neg (by decide), isIn_yes _ (by decide) (by decide), r1_s, if_neg (by decide), if_pos (by decide), ck_M, M_in_run X hk7 hM, r1_s, ck_M, tins_run X hk7 ok hM, r0_s, ck_M, tinMany_run X (M_tins_row _), r1_s]
    · refine sim_q (r := .int (-1)) h (s1 := s) (s2 := s) ?_ (fr.rf s) ?_ (fr.rf s)
      · rw [e_C_sheet_0, ck_C, C_told_yes X h hk, r3_r, if_neg (hno 0 (by decide)), if_neg (hno 1 (by decide)), if_neg (hno 2 (by decide)), if_neg (hno 3 (by decide)), if_neg (hno 4 (by decide)), if_neg (hno 5 (by decide)), if_neg (hno 6 (by decide)), if_neg (hno 7 (by decide)), if_neg (hno 8 (by decide)), if_neg (hno 9 (by decide))]
      · rw [e_M_sheet_0, ck_M, M_sheet_yes X h hk, r1_s, if_neg (by decide), isIn_no _ (by decide) hno, r1_s, if_pos (by decide)]
  · refine sim_q (r := .int (-1)) h (s1 := s) (s2 := s) ?_ (fr.rf s) ?_ (fr.rf s)
    · rw [e_C_sheet_0, ck_C, C_told_no X h hn, r3_n]
    · rw [e_M_sheet_0, ck_M, M_sheet_no X h hn, r1_s, if_pos (by decide)]

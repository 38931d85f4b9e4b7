/-! hole; what is told of pieces -/
noncomputable def np2 (t : Nat → Bool) (f : Nat) : Nat := fb_ct (cnB t f) 400
noncomputable def ptv (t : Nat → Bool) (f : Nat) (w : Int32) : Int32 := if w = nI 0 then nI (np2 t f) else if w = nI 1 then nI (f % 20) else if w = nI 2 then nI (f / 20) else -1
theorem pc_or (t : Nat → Bool) (v : Int32) : (∃ f, f < 400 ∧ isF t f = true ∧ v = nI (np t f)) ∨ ¬ ∃ p, p < np t 400 ∧ v = nI p := by
  rcases Classical.em (∃ p, p < np t 400 ∧ v = nI p) with ⟨p, hp, rfl⟩ | h
  · obtain ⟨i, hi, h1, h2⟩ := fb_ct_kth hp
    refine Or.inl ⟨i, hi, h1, ?_⟩
    rw [← h2]; rfl
  · exact Or.inr h
theorem np_in {t : Nat → Bool} {f : Nat} (hf : f < 400) (h : isF t f = true) : np t f < np t 400 := by
  have h1 : np t (f + 1) ≤ np t 400 := fb_ct_mono _ (by omega)
  rw [np_succ, h, if_pos rfl] at h1
  omega
theorem has_yes (X : qz_X) {s : sT} {t : Nat → Bool} (hP : Pcs s t) {f : Nat} (hf : f < 400) (h : isF t f = true) : rn 153 0 [some (.ref 96), some (.int (nI (np t f)))] [] (mk X s) = some (some (.int (nI 1)), mk X s) := by
  have h1 := np_in hf h
  have h2 := np_le t (i := 400) (by decide)
  rw [e_Parts_has_0, if_neg (nI_pos (by omega)), g_P_number, hP.1, if_neg (nI_ge h1 (by omega))]
theorem has_no (X : qz_X) {s : sT} {t : Nat → Bool} (hP : Pcs s t) {v : Int32} (h : ¬ ∃ p, p < np t 400 ∧ v = nI p) : rn 153 0 [some (.ref 96), some (.int v)] [] (mk X s) = some (some (.int (nI 0)), mk X s) := by
  have h2 := np_le t (i := 400) (by decide)
  rw [e_Parts_has_0]
  by_cases h0 : v < 0
  · rw [if_pos h0]
  · obtain ⟨b, hb4, rfl⟩ := nI_of h0
    rw [if_neg h0, g_P_number, hP.1, if_pos (nI_le (by
      rcases Nat.lt_or_ge b (np t 400) with g | g
      · exact absurd ⟨b, g, rfl⟩ h
      · exact g) (by omega))]
theorem told_at (X : qz_X) {s : sT} {t : Nat → Bool} (hP : Pcs s t) {f : Nat} (hf : f < 400) (h : isF t f = true) (w : Int32) : rn 157 0 [some (.ref 96), some (.int (nI (np t f))), some (.int w)] [] (mk X s) = some (some (.int (ptv t f w)), mk X s) := by
  have hl := np_lt hf h
  have hs := hP.2.2 f hf h
  have e : rn 157 14 [some (.ref 96), some (.int (nI (np t f))), some (.int w)] [] (mk X s) = some (some (.int (ptv t f w)), mk X s) := by
    rw [e_Parts_told_14, ck_P, has_yes X hP hf h, r1_s, if_neg (by decide)]
    unfold ptv
    by_cases h0 : w = nI 0
    · rw [if_pos h0, if_pos h0, g_P_size, i_P_size hl, hs.2]
      rfl
    · rw [if_neg h0, if_neg h0]
      by_cases h1 : w = nI 1
      · rw [if_pos h1, if_pos h1, g_P_start, i_P_start hl, hs.1, if_neg (by decide), div20 (by omega), rem20 (by omega)]
      · rw [if_neg h1, if_neg h1]
        by_cases h2 : w = nI 2
        · rw [if_pos h2, if_pos h2, g_P_start, i_P_start hl, hs.1, if_neg (by decide), div20 (by omega)]
        · rw [if_neg h2, if_neg h2]
  rw [e_Parts_told_0, if_neg (nI_m1 (by omega)), e]
theorem told_all (X : qz_X) {s : sT} {t : Nat → Bool} (hP : Pcs s t) (w : Int32) : rn 157 0 [some (.ref 96), some (.int (-1)), some (.int w)] [] (mk X s) = some (some (.int (if w = 0 then nI (np t 400) else -1)), mk X s) := by
  rw [e_Parts_told_0, if_pos rfl]
  by_cases h0 : w = 0
  · rw [if_pos h0, if_pos h0, g_P_number, hP.1]
  · rw [if_neg h0, if_neg h0, e_Parts_told_14, ck_P, has_no X hP (fun ⟨p, hp, e⟩ => nI_m1 (by have := np_le t (i := 400) (by decide); omega) e.symm), r1_s, if_pos (by decide)]
theorem told_out (X : qz_X) {s : sT} {t : Nat → Bool} (hP : Pcs s t) {v : Int32} (hv : ¬ v = -1) (h : ¬ ∃ p, p < np t 400 ∧ v = nI p) (w : Int32) : rn 157 0 [some (.ref 96), some (.int v), some (.int w)] [] (mk X s) = some (some (.int (-1)), mk X s) := by
  rw [e_Parts_told_0, if_neg hv, e_Parts_told_14, ck_P, has_no X hP h, r1_s, if_pos (by decide)]
def hol (A : shT) (v : Int32) (q : Nat) : Bool := !tin A v q && ins A q
theorem rd_125 (X : qz_X) : rd X 125 := fun _ _ _ h => i_C_open h
theorem openRow_run (X : qz_X) {s : sT} {q : Nat} {A : shT} (hq : isS q) (ok : okA A) (hC : isC s q A) {y : Nat} (hy : y < 20) : ∃ r : Int32, rn 241 0 [some (.ref q), some (.int (nI y))] [] (mk X s) = some (some (.int r), mk X s) ∧ ∀ x, x < 32 → bt r x = (decide (x < 20) && hol A (nI (A.1 5)) (20 * y + x)) := by
  obtain ⟨r1, e1, b1⟩ := fullRow_run X hq ok hC (y := y) (by omega)
  obtain ⟨r2, e2, b2⟩ := tinRow_run X hq ok hC (nI (A.1 5)) hy
  refine ⟨r1 &&& (r2 ^^^ (-1)), ?_, fun x hx => ?_⟩
  · rw [e_Sheet_openRow_0, ck_S hq, e1, r1_s, g_S_bridges hq, g_B_in hq, hC.1.2.2.2.2.2.1, ck_S hq, e2, r1_s]
  · have o1 := ok.1
    rw [b_and, b_not _ hx, b1 x hx, b2 x hx]
    unfold hol ins
    by_cases h20 : x < 20
    · rw [decide_eq_true h20, show (20 * y + x) % 20 = x by omega, show (20 * y + x) / 20 = y by omega, Bool.true_and, Bool.true_and]
      cases tin A (nI (A.1 5)) (20 * y + x)
      · simp
      · simp
    · rw [decide_eq_false h20, decide_eq_false (show ¬ x < A.1 0 by omega)]
      simp
theorem findHoles_run (X : qz_X) {s : sT} {q : Nat} {A : shT} (hq : isS q) (ok : okA A) (hC : isC s q A) : ∃ st : sT, rn 272 0 [some (.ref 0), some (.ref q), none] [] (mk X s) = some (none, mk X st) ∧ st.2 = s.2 ∧ (∀ c, c ∉ [125, 96, 97, 98, 99, 100] → st.1 c = s.1 c) ∧ Pcs st (hol A (nI (A.1 5))) := by
  have hg := isS_gap q hq
  obtain ⟨u, ⟨h2, hc, hr⟩, eq⟩ := it_up (fun i (u : sT) => rn 272 2 [some (.ref 0), some (.ref q), some (.int (nI i))] [] (mk X u)) (fun i u => u.2 = s.2 ∧ (∀ c, c ∉ [125] → u.1 c = s.1 c) ∧ ∀ y, y < i → ∀ x, x < 32 → bt (u.1 125 y) x = (decide (x < 20) && hol A (nI (A.1 5)) (20 * y + x))) (Nat.zero_le 20) (by
    rintro i u _ hi ⟨h2, hc, hr⟩
    try dsimp only
    have hCu : isC u q A := isC_cong (fun j hj => hc _ (by simp; omega)) hC
    obtain ⟨r, e, b⟩ := openRow_run X hq ok hCu hi
    refine ⟨su u 125 i r, ⟨h2, fun c hc' => ?_, fun y hy x hx => ?_⟩, ?_⟩
    · have hc2 := hc'
      simp only [List.mem_cons, List.not_mem_nil, or_false] at hc2
      funext j
      rw [su_1, if_neg (fun z => hc2 z.1), hc c hc']
    · rw [su_1]
      by_cases e : y = i
      · subst e
        rw [if_pos ⟨rfl, rfl⟩, b x hx]
      · rw [if_neg (fun z => e z.2), hr y (by omega) x hx]
    · rw [e_C_findHoles_2, if_neg (nI_ge hi (by decide)), g_C_open, ck_S hq, e, r1_s, w_C_open hi, nI_add]) (x := s) ⟨rfl, fun _ _ => rfl, fun y hy => absurd hy (Nat.not_lt_zero y)⟩
  try dsimp only at eq
  obtain ⟨st, e2, k2, kc, kp⟩ := split_run X (R := 125) (s := u) (t := hol A (nI (A.1 5))) (rd_125 X) (by decide) hr
  refine ⟨st, ?_, by rw [k2, h2], fun c hc' => ?_, kp⟩
  · rw [e_C_findHoles_0, eq, e_C_findHoles_2, if_pos (nI_le (by decide) (by decide)), g_C_parts, g_C_open, ck_P, e2, r0_s]
  · simp only [List.mem_cons, List.not_mem_nil, or_false, not_or] at hc'
    rw [kc c (by simp; omega), hc c (by simp; omega)]
theorem ptv_out {t : Nat → Bool} {f : Nat} {w : Int32} (h : ¬ ∃ j, j < 3 ∧ w = nI j) : ptv t f w = -1 := by
  unfold ptv
  rw [if_neg (fun e => h ⟨0, by decide, e⟩), if_neg (fun e => h ⟨1, by decide, e⟩), if_neg (fun e => h ⟨2, by decide, e⟩)]
theorem M_holes_run (X : qz_X) {s : sT} {k : Nat} {A : shT} (hk : k < 7) (ok : okA A) (hM : isM (gN s) k A) : ∃ u st : sT, rn 123 0 [some (.ref 318), some (.int (nI k)), some (.int (nI (A.1 5))), none] [] (mk X s) = some (none, mk X u) ∧ rn 148 0 [some (.ref 318), some (.int (nI k)), some (.int (nI 0)), none, none, none, none, none] [] (mk X u) = some (none, mk X st) ∧ st.2 = s.2 ∧ (∀ c, c ∉ [318, 334, 336, 337, 338, 339] → st.1 c = s.1 c) ∧ (∀ j, j ≠ 36 → st.1 318 j = s.1 318 j) ∧ PcsM st (hol A (nI (A.1 5))) ∧ (∀ j, j < 400 → st.1 334 j = if tin A (nI (A.1 5)) j then nI 1 else nI 0) := by
  obtain ⟨st, e2, hm, hp⟩ := M_parts_run X (wh := nI 0) (isPart_hole X hk ok (isM_sa (o := 334) (by omega) hM) (M_tins_row (s := s) (tin A (nI (A.1 5)))))
  refine ⟨_, st, tins_run X hk ok hM _, e2, hm.1, fun c hc' => ?_, fun j hj => ?_, hp, fun j hj => ?_⟩
  · simp only [List.mem_cons, List.not_mem_nil, or_false, not_or] at hc'
    rw [hm.2.1 c (by simp; omega), sa_1, if_neg (by omega)]
  · rw [hm.2.2 j hj, sa_1, if_neg (by omega)]
  · rw [hm.2.1 334 (by decide)]
    exact M_tins_row _ j hj
theorem fr_m {s st : sT} (l : List Nat) (h2 : st.2.2 = s.2.2) (hc : ∀ c, c ∉ 318 :: l → st.1 c = s.1 c) (hl : ∀ c, c ∈ l → c ≠ 318 ∧ scr c 0 = true) (h3 : ∀ j, scr 318 j = false → st.1 318 j = s.1 318 j) : fr s st := by
  refine ⟨h2, fun i j hs => ?_⟩
  by_cases h318 : i = 318
  · subst h318; exact h3 j hs
  by_cases hi : i ∈ l
  · obtain ⟨h3, h4⟩ := hl i hi
    rw [scr_j h3, h4] at hs
    cases hs
  · rw [hc i (by simp only [List.mem_cons, not_or]; exact ⟨h318, hi⟩)]
theorem scr_36 {j : Nat} (h : scr 318 j = false) : j ≠ 36 := by
  intro e; subst e; revert h; decide
theorem sim_hole (X : qz_X) (s : sT) (G : gsT) (h : Rel s G) (v vk vw : Int32) : Sim X s 273 274 [some (.ref 0), some (.int v), some (.int vk), some (.int vw), none] [some (.ref 318), some (.int v), some (.int vk), some (.int vw)] := by
  rcases tk_or G v with ⟨k, hk⟩ | hn
  · obtain ⟨hS, ok, hC, hM⟩ := tk_P h hk
    have hk6 := hk.1
    have hv : v = nI k := hk.2.1
    subst hv
    obtain ⟨t1, a1, a2, a3, aP⟩ := findHoles_run X hS ok hC
    have f1 : fr s t1 := fr_of [125, 96, 97, 98, 99, 100] (by rw [a2]) a3 (by decide)
    have h1 := h.fr f1
    obtain ⟨-, -, -, hM1⟩ := tk_P h1 hk
    obtain ⟨u, t2, b1, b2, b3, b4, b5, bP, -⟩ := M_holes_run X (show k < 7 by omega) ok hM1
    have f2 : fr t1 t2 := fr_m [334, 336, 337, 338, 339] (by rw [b3]) b4 (by decide) (fun j hj => b5 j (scr_36 hj))
    have hnl := np_le (hol (G.2.1.2.1 k) (nI ((G.2.1.2.1 k).1 5))) (i := 400) (by decide)
    by_cases hm1 : vk = -1
    · subst hm1
      refine sim_q (r := .int (if vw = 0 then nI (np (hol (G.2.1.2.1 k) (nI ((G.2.1.2.1 k).1 5))) 400) else -1)) h (s1 := t1) (s2 := t2) ?_ f1 ?_ f2
      · rw [e_C_hole_0, ck_C, C_told_yes X h hk, r3_r, ck_C, a1, r0_s, g_C_parts, ck_P, told_all X aP, r1_s]
      · rw [e_M_hole_0, ck_M, M_sheet_yes X h1 hk, r1_s, if_neg (by decide), ck_M, M_in_run X (by omega) hM1, r1_s, ck_M, b1, r0_s, ck_M, b2, r0_s, if_pos rfl]
        by_cases h0 : vw = 0
        · rw [if_pos h0, if_pos h0, g_M_pieces, bP.1]
        · rw [if_neg h0, if_neg h0]
    · rcases pc_or (hol (G.2.1.2.1 k) (nI ((G.2.1.2.1 k).1 5))) vk with ⟨f, hf, hF, rfl⟩ | hno
      · have hnf := np_in hf hF
        have hnl2 := np_lt hf hF
        have hs := bP.2.2 f hf hF
        refine sim_q (r := .int (ptv (hol (G.2.1.2.1 k) (nI ((G.2.1.2.1 k).1 5))) f vw)) h (s1 := t1) (s2 := t2) ?_ f1 ?_ f2
        · rw [e_C_hole_0, ck_C, C_told_yes X h hk, r3_r, ck_C, a1, r0_s, g_C_parts, ck_P, told_at X aP hf hF, r1_s]
        · rw [e_M_hole_0, ck_M, M_sheet_yes X h1 hk, r1_s, if_neg (by decide), ck_M, M_in_run X (by omega) hM1, r1_s, ck_M, b1, r0_s, ck_M, b2, r0_s, if_neg hm1, g_M_pieces, bP.1, pk_sub (by omega), isIn_yes _ (by omega) (by omega), r1_s, if_neg (by decide)]
          rcases Classical.em (∃ j, j < 3 ∧ vw = nI j) with ⟨j, hj, rfl⟩ | hw
          · rw [isIn_yes _ (by omega) (by decide), r1_s, if_neg (by decide)]
            have hj3 : j = 0 ∨ j = 1 ∨ j = 2 := by omega
            rcases hj3 with rfl | rfl | rfl
            · rw [if_pos (by decide), g_M_pieceMany, i_M_pieceMany hnl2, hs.2]
              rfl
            · rw [if_neg (by decide), if_pos rfl, g_M_pieceFirst, i_M_pieceFirst hnl2, hs.1, if_neg (by decide), div20 (by omega), rem20 (by omega)]
              rfl
            · rw [if_neg (by decide), if_neg (by decide), g_M_pieceFirst, i_M_pieceFirst hnl2, hs.1, if_neg (by decide), div20 (by omega)]
              rfl
          · rw [isIn_no _ (by decide) (fun j hj e => hw ⟨j, by omega, e⟩), r1_s, if_pos (by decide), ptv_out hw]
      · refine sim_q (r := .int (-1)) h (s1 := t1) (s2 := t2) ?_ f1 ?_ f2
        · rw [e_C_hole_0, ck_C, C_told_yes X h hk, r3_r, ck_C, a1, r0_s, g_C_parts, ck_P, told_out X aP hm1 hno, r1_s]
        · rw [e_M_hole_0, ck_M, M_sheet_yes X h1 hk, r1_s, if_neg (by decide), ck_M, M_in_run X (by omega) hM1, r1_s, ck_M, b1, r0_s, ck_M, b2, r0_s, if_neg hm1, g_M_pieces, bP.1]
          rcases isIn_lt (mk X t2) vk (n := np (hol (G.2.1.2.1 k) (nI ((G.2.1.2.1 k).1 5))) 400) (by omega) with ⟨g, -⟩ | ⟨-, e⟩
          · exact absurd g hno
          · rw [e, r1_s, if_pos (by decide)]
  · refine sim_q (r := .int (-1)) h (s1 := s) (s2 := s) ?_ (fr.rf s) ?_ (fr.rf s)
    · rw [e_C_hole_0, ck_C, C_told_no X h hn, r3_n]
    · rw [e_M_hole_0, ck_M, M_sheet_no X h hn, r1_s, if_pos (by decide)]

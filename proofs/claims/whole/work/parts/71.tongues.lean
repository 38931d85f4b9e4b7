/-! tongues -/
theorem rd_87 (X : qz_X) : rd X 87 := fun _ _ _ h => i_H_tin h
theorem rd_124 (X : qz_X) : rd X 124 := fun _ _ _ h => i_C_anchors h
theorem walkHeld_run (X : qz_X) {s : sT} {q : Nat} {A : shT} (hq : isS q) (ok : okA A) (hC : isC s q A) : ∃ st : sT, rn 140 0 [some (.ref 0), some (.ref q), none] [] (mk X s) = some (none, mk X st) ∧ st.2 = s.2 ∧ (∀ c, c ∉ [86, 87, 88, 89, 90, 91, 92, 93, 94, 95, 124] → st.1 c = s.1 c) ∧ ∀ j, j < 400 → st.1 90 j = nI (tgs (tin A (nI (A.1 5))) (rim A) j) := by
  have hg := isS_gap q hq
  obtain ⟨u, e0, u2, uc, u87, -, -⟩ := spread_run X hq ok hC (nI (A.1 5))
  obtain ⟨w, ⟨w2, wc, wr⟩, e1⟩ := it_up (fun i (z : sT) => rn 140 17 [some (.ref 0), some (.ref q), some (.int (nI i))] [] (mk X z)) (fun i z => z.2 = s.2 ∧ (∀ c, c ≠ 124 → z.1 c = u.1 c) ∧ ∀ y, y < i → ∀ x, x < 32 → bt (z.1 124 y) x = (decide (x < 20) && rim A (20 * y + x))) (Nat.zero_le 20) (by
    rintro i z _ hi ⟨z2, zc, zr⟩
    try dsimp only
    have hCz : isC z q A := isC_cong (fun j hj => by rw [zc _ (by omega), uc _ (by omega) (by omega) (by omega)]) hC
    obtain ⟨r, er, br⟩ := rimRow_run X hq ok hCz hi
    refine ⟨su z 124 i r, ⟨z2, fun c hc => ?_, fun y hy x hx => ?_⟩, ?_⟩
    · funext j
      rw [su_1, if_neg (fun e => hc e.1), zc c hc]
    · rw [su_1]
      by_cases e : y = i
      · subst e
        rw [if_pos ⟨rfl, rfl⟩, br x hx]
      · rw [if_neg (fun z => e z.2), zr y (by omega) x hx]
    · rw [e_C_walkHeld_17, if_neg (nI_ge hi (by decide)), g_C_anchors, ck_S hq, er, r1_s, w_C_anchors hi, nI_add]) (x := u) ⟨u2, fun _ _ => rfl, fun y hy => absurd hy (Nat.not_lt_zero y)⟩
  try dsimp only at e1
  obtain ⟨st, e2, s2, sc, -, s90⟩ := walk_run X (s := w) (R := 87) (K := 124) (rd_87 X) (by decide) (by rw [wc 87 (by decide)]; exact u87) (rd_124 X) (by decide) wr
  refine ⟨st, ?_, by rw [s2, w2], fun c hc => ?_, s90⟩
  · rw [e_C_walkHeld_0, g_C_hanging, g_S_bridges hq, g_B_in hq, hC.1.2.2.2.2.2.1, ck_H, e0, r0_s, e1, e_C_walkHeld_17, if_pos (nI_le (by decide) (by decide)), g_C_hanging, g_C_hanging, g_H_tin, g_C_anchors, ck_H, e2, r0_s]
  · simp only [List.mem_cons, List.not_mem_nil, or_false, not_or] at hc
    rw [sc c (by simp; omega), wc c (by omega), uc c (by omega) (by omega) (by omega)]
theorem abv_nat {g : Nat → Nat} (hg : ∀ q, g q ≤ 400) {m : Nat} (hm : m < 2 ^ 31) (q : Nat) : abv g (nI m) q = decide (m < g q) := by
  have := hg q
  unfold abv
  by_cases h : m < g q
  · rw [decide_eq_true h, decide_eq_true (show 0 < g q by omega), decide_eq_false (nI_ge h (by omega))]; rfl
  · rw [decide_eq_false h, decide_eq_true (nI_le (by omega) (by omega))]
    simp
theorem scr_n {j : Nat} (h : scr 318 j = false) : j ≠ 39 ∧ j ≠ 40 ∧ j ≠ 41 := by
  refine ⟨?_, ?_, ?_⟩ <;> (intro e; subst e; revert h; decide)
theorem sim_tongues (X : qz_X) (s : sT) (G : gsT) (h : Rel s G) (v vw : Int32) : Sim X s 164 166 [some (.ref 0), some (.int v), some (.int vw), none] [some (.ref 318), some (.int v), some (.int vw)] := by
  rcases tk_or G v with ⟨k, hk⟩ | hn
  · obtain ⟨hS, ok, hC, hM⟩ := tk_P h hk
    have hk6 := hk.1
    have hv : v = nI k := hk.2.1
    subst hv
    rcases Classical.em (∃ j, j < 3 ∧ vw = nI j) with ⟨j, hj, rfl⟩ | hw
    · obtain ⟨t1, a1, a2, a3, a4⟩ := walkHeld_run X hS ok hC
      have f1 : fr s t1 := fr_of [86, 87, 88, 89, 90, 91, 92, 93, 94, 95, 124] (by rw [a2]) a3 (by decide)
      have h1 := h.fr f1
      obtain ⟨-, -, hC1, hM1⟩ := tk_P h1 hk
      have hp0 : (s.2.2 k) = t1.2.2 k := by rw [a2]
      rw [← hp0] at hC1
      have hk7 : k < 7 := by omega
      have f2 : fr t1 (sa t1 334 (fun j => if j < 400 then (if tin (G.2.1.2.1 k) (nI ((G.2.1.2.1 k).1 5)) j then nI 1 else nI 0) else t1.1 334 j)) := fr_sa (fun k => rfl)
      have h2 := h1.fr f2
      obtain ⟨-, -, -, hM2⟩ := tk_P h2 hk
      obtain ⟨t3, c1, c2, c3, c4, c39, c40, c41⟩ := necks_run X hk7 ok hM2 (t := tin (G.2.1.2.1 k) (nI ((G.2.1.2.1 k).1 5))) (a := rim (G.2.1.2.1 k)) (d := fun _ => false) (root := -1) (v := nI ((G.2.1.2.1 k).1 7)) (M_tins_row _) (Or.inl ⟨rfl, fun _ _ => rfl⟩) (fun q hq => neg1_lt hq)
      have f3 : fr (sa t1 334 (fun j => if j < 400 then (if tin (G.2.1.2.1 k) (nI ((G.2.1.2.1 k).1 5)) j then nI 1 else nI 0) else t1.1 334 j)) t3 := fr_m [335, 336, 340] (by rw [c2]) c3 (by decide) (fun j hj => c4 j (scr_n hj).1 (scr_n hj).2.1 (scr_n hj).2.2)
      have hb7 : (sa t1 334 (fun j => if j < 400 then (if tin (G.2.1.2.1 k) (nI ((G.2.1.2.1 k).1 5)) j then nI 1 else nI 0) else t1.1 334 j)).1 320 (16 * k + 7) = nI ((G.2.1.2.1 k).1 7) := ab_at hM2 (by decide)
      have o7 := ok.2.2.2.2.2.2.2.1
      have hm : ∀ r : Int32, (if nI j = 0 then some (some (Value.int (t3.1 318 39)), mk X t3) else if nI j = nI 1 then some (some (Value.int (t3.1 318 40)), mk X t3) else some (some (Value.int (t3.1 318 41)), mk X t3) : Option qz_R) = some (some (.int r), mk X t3) → rn 166 0 [some (.ref 318), some (.int (nI k)), some (.int (nI j))] [] (mk X t1) = some (some (.int r), mk X t3) := by
        intro r hr
        rw [e_M_tongues_0, ck_M, M_sheet_yes X h1 hk, r1_s, if_neg (by decide), isIn_yes _ (by omega) (by decide), r1_s, if_neg (by decide), ck_M, M_in_run X hk7 hM1, r1_s, ck_M, tins_run X hk7 ok hM1, r0_s, g_M_about, pk_mul, nI_add, i_M_about (by omega), hb7, ck_M, c1, r0_s, g_M_neckMany, g_M_greatest, g_M_aboveMany, hr]
      have hc : ∀ (r : Int32), (if nI j = 0 then qz_r1 (rn 161 0 [some (.ref 86), some (.int (nI 0)), some (.int (-1)), none, none] [] (mk X t1)) (fun x13 w12 => some (some (.int x13), w12)) else if nI j = nI 1 then qz_r1 (rn 163 0 [some (.ref 86), some (.int (-1)), none, none] [] (mk X t1)) (fun x10 w9 => some (some (.int x10), w9)) else qz_r1 (rn 161 0 [some (.ref 86), some (.int (nI ((G.2.1.2.1 k).1 7))), some (.int (-1)), none, none] [] (mk X t1)) (fun x7 w6 => some (some (.int x7), w6))) = some (some (.int r), mk X t1) → rn 164 0 [some (.ref 0), some (.int (nI k)), some (.int (nI j)), none] [] (mk X s) = some (some (.int r), mk X t1) := by
        intro r hr
        rw [e_C_tongues_0, ck_C, C_told_yes X h hk, r3_r, if_neg (nI_pos (by omega)), if_pos (nI_le (by omega) (by omega)), ck_C, a1, r0_s, g_C_hanging, ck_H, g_C_hanging, ck_H, g_C_hanging, g_S_brush hS, hC1.1.2.2.2.2.2.2.2.1, ck_H, hr]
      have hj3 : j = 0 ∨ j = 1 ∨ j = 2 := by omega
      rcases hj3 with rfl | rfl | rfl
      · refine sim_q (r := .int (nI (fb_ct (fun q => decide (0 < exq (fun _ => false) (tgs (tin (G.2.1.2.1 k) (nI ((G.2.1.2.1 k).1 5))) (rim (G.2.1.2.1 k))) q)) 400))) h (s1 := t1) (s2 := t3) (hc _ ?_) f1 (hm _ ?_) (f2.tr f3)
        · rw [if_pos nI_0, above_run X (d := fun _ => false) (fun q hq => neg1_lt hq) a4 (tgs_le _ _) (by decide), r1_s]
        · rw [if_pos nI_0, c39]
      · refine sim_q (r := .int (nI (gmx (exq (fun _ => false) (tgs (tin (G.2.1.2.1 k) (nI ((G.2.1.2.1 k).1 5))) (rim (G.2.1.2.1 k)))) 400))) h (s1 := t1) (s2 := t3) (hc _ ?_) f1 (hm _ ?_) (f2.tr f3)
        · rw [if_neg (by decide), if_pos rfl, greatest_run X (d := fun _ => false) (fun q hq => neg1_lt hq) a4 (tgs_le _ _), r1_s]
        · rw [if_neg (by decide), if_pos rfl, c40]
      · refine sim_q (r := .int (nI (fb_ct (fun q => decide ((G.2.1.2.1 k).1 7 < exq (fun _ => false) (tgs (tin (G.2.1.2.1 k) (nI ((G.2.1.2.1 k).1 5))) (rim (G.2.1.2.1 k))) q)) 400))) h (s1 := t1) (s2 := t3) (hc _ ?_) f1 (hm _ ?_) (f2.tr f3)
        · rw [if_neg (by decide), if_neg (by decide), above_run X (d := fun _ => false) (fun q hq => neg1_lt hq) a4 (tgs_le _ _) (by omega), r1_s]
        · rw [if_neg (by decide), if_neg (by decide), c41]
          rw [fb_ct_cong (fun q _ => abv_nat (exq_le (d := fun _ => false) (tgs_le (tin (G.2.1.2.1 k) (nI ((G.2.1.2.1 k).1 5))) (rim (G.2.1.2.1 k)))) (show (G.2.1.2.1 k).1 7 < 2 ^ 31 by omega) q)]
    · refine sim_q (r := .int (-1)) h (s1 := s) (s2 := s) ?_ (fr.rf s) ?_ (fr.rf s)
      · rw [e_C_tongues_0, ck_C, C_told_yes X h hk, r3_r]
        by_cases h0 : vw < 0
        · rw [if_pos h0]
        · obtain ⟨m, hm, rfl⟩ := nI_of h0
          rw [if_neg h0, if_neg (nI_ge (by
            rcases Nat.lt_or_ge 2 m with g | g
            · exact g
            · exact absurd ⟨m, by omega, rfl⟩ hw) (by omega))]
      · rw [e_M_tongues_0, ck_M, M_sheet_yes X h hk, r1_s, if_neg (by decide), isIn_no _ (by decide) (fun j hj e => hw ⟨j, by omega, e⟩), r1_s, if_pos (by decide)]
  · refine sim_q (r := .int (-1)) h (s1 := s) (s2 := s) ?_ (fr.rf s) ?_ (fr.rf s)
    · rw [e_C_tongues_0, ck_C, C_told_no X h hn, r3_n]
    · rw [e_M_tongues_0, ck_M, M_sheet_no X h hn, r1_s, if_pos (by decide)]

theorem pcs_f {t : Nat → Bool} {u : Nat → Nat → Int32} {P S Z f : Nat} (h : pcs t 400 u P S Z) (hf : f < 400) (hF : isF t f = true) : u P f = nI (np t f) := by
  have hF2 := hF
  unfold isF at hF2
  rw [Bool.and_eq_true, decide_eq_true_eq] at hF2
  rw [h.1 f hf, dO_all hf, hF2.1, if_pos rfl]
  unfold pO
  rw [hF2.1, if_pos rfl, hF2.2]
theorem sim_falls (X : qz_X) (s : sT) (G : gsT) (h : Rel s G) (v vk vw : Int32) : Sim X s 158 160 [some (.ref 0), some (.int v), some (.int vk), some (.int vw), none] [some (.ref 318), some (.int v), some (.int vk), some (.int vw)] := by
  rcases tk_or G v with ⟨k, hk⟩ | hn
  · obtain ⟨hS, ok, hC, hM⟩ := tk_P h hk
    have hk6 := hk.1
    have hv : v = nI k := hk.2.1
    subst hv
    have hg := isS_gap _ hS
    obtain ⟨t1, a1, a2, a3, aP, a87⟩ := findPieces_run X hS ok hC (nI ((G.2.1.2.1 k).1 5))
    have f1 : fr s t1 := fr_of [87, 88, 89, 96, 97, 98, 99, 100] (by rw [a2]) a3 (by decide)
    have h1 := h.fr f1
    obtain ⟨-, -, hC1, hM1⟩ := tk_P h1 hk
    have hnl := np_le (fal (G.2.1.2.1 k) (nI ((G.2.1.2.1 k).1 5))) (i := 400) (by decide)
    have hp0 : (s.2.2 k) = t1.2.2 k := by rw [a2]
    by_cases hgp : vw = nI 3 ∧ ∃ f, f < 400 ∧ isF (fal (G.2.1.2.1 k) (nI ((G.2.1.2.1 k).1 5))) f = true ∧ vk = nI (np (fal (G.2.1.2.1 k) (nI ((G.2.1.2.1 k).1 5))) f)
    · obtain ⟨rfl, f, hf, hF, rfl⟩ := hgp
      have hnf := np_in hf hF
      have hnl2 := np_lt hf hF
      obtain ⟨D, r, hD⟩ := gD_ex (ins (G.2.1.2.1 k)) (fun j => decide (t1.1 97 j = nI (np (fal (G.2.1.2.1 k) (nI ((G.2.1.2.1 k).1 5))) f))) (tin (G.2.1.2.1 k) (nI ((G.2.1.2.1 k).1 5))) ⟨f, hf, decide_eq_true (pcs_f aP.2 hf hF)⟩
      rw [← hp0] at hC1
      obtain ⟨t2, b1, b2, b3⟩ := C_gap_run X hS ok hC1 a87 hD.1 hD.2.1 hD.2.2.1 hD.2.2.2
      have f2 : fr t1 t2 := fr_of [101, 102] (by rw [b2]) b3 (by decide)
      have h2 := h1.fr f2
      obtain ⟨-, -, -, hM2⟩ := tk_P h2 hk
      obtain ⟨t3, c1, c2, c3, c4, cP, c334, -⟩ := M_looks_run X (show k < 7 by omega) ok hM2 (nI ((G.2.1.2.1 k).1 5))
      have f3 : fr t2 t3 := fr_m [334, 335, 336, 337, 338, 339] (by rw [c2]) c3 (by decide) (fun j hj => c4 j (scr_36 hj))
      have f4 : fr t3 (su t3 318 38 (nI k)) := fr_su (by decide)
      have h4 := (h2.fr f3).fr f4
      obtain ⟨-, -, -, hM4⟩ := tk_P h4 hk
      obtain ⟨t5, d1, d2, d3⟩ := M_gap_run X (s := su t3 318 38 (nI k)) (show k < 7 by omega) ok hM4 (by rw [su_1, if_pos ⟨rfl, rfl⟩]) (t := tin (G.2.1.2.1 k) (nI ((G.2.1.2.1 k).1 5))) (fun j hj => by rw [su_1, if_neg (by omega), c334 j hj]) (v := nI (np (fal (G.2.1.2.1 k) (nI ((G.2.1.2.1 k).1 5))) f)) (fun q hq => by rw [su_1, if_neg (by omega), cP.2.1 q hq, aP.2.1 q hq]) hD
      have f5 : fr (su t3 318 38 (nI k)) t5 := fr_of [336, 341] (by rw [d2]) d3 (by decide)
      refine sim_q (r := .int r) h (s1 := t2) (s2 := t5) ?_ (f1.tr f2) ?_ ((f3.tr f4).tr f5)
      · rw [e_C_falls_0, ck_C, C_told_yes X h hk, r3_r, g_S_bridges hS, g_B_in hS, hC.1.2.2.2.2.2.1, ck_C, a1, r0_s, if_pos rfl, g_C_parts, ck_P, has_yes X aP hf hF, r1_s, if_neg (by decide), g_C_parts, g_C_hanging, g_H_tin, ck_P, b1, r1_s]
      · rw [e_M_falls_0, ck_M, M_sheet_yes X h2 hk, r1_s, if_neg (by decide), ck_M, M_in_run X (by omega) hM2, r1_s, ck_M, c1, r0_s, if_neg (nI_m1 (by omega)), g_M_pieces, cP.1, pk_sub (by omega), isIn_yes _ (by omega) (by omega), r1_s, if_neg (by decide), isIn_yes _ (by decide) (by decide), r1_s, if_neg (by decide), p_M_gapSheet, if_neg (by decide), if_neg (by decide), if_neg (by decide), ck_M, d1, r1_s]
    · obtain ⟨t3, c1, c2, c3, c4, cP, c334, -⟩ := M_looks_run X (show k < 7 by omega) ok hM1 (nI ((G.2.1.2.1 k).1 5))
      have f3 : fr t1 t3 := fr_m [334, 335, 336, 337, 338, 339] (by rw [c2]) c3 (by decide) (fun j hj => c4 j (scr_36 hj))
      have f4 : fr t3 (su t3 318 38 (nI k)) := fr_su (by decide)
      have cc : ∀ r : Int32, rn 157 0 [some (.ref 96), some (.int vk), some (.int vw)] [] (mk X t1) = some (some (.int r), mk X t1) → rn 158 0 [some (.ref 0), some (.int (nI k)), some (.int vk), some (.int vw), none] [] (mk X s) = some (some (.int r), mk X t1) := by
        intro r hr
        rw [e_C_falls_0, ck_C, C_told_yes X h hk, r3_r, g_S_bridges hS, g_B_in hS, hC.1.2.2.2.2.2.1, ck_C, a1, r0_s]
        by_cases h3 : vw = nI 3
        · rcases pc_or (fal (G.2.1.2.1 k) (nI ((G.2.1.2.1 k).1 5))) vk with hy | hno
          · exact absurd ⟨h3, hy⟩ hgp
          · rw [if_pos h3, g_C_parts, ck_P, has_no X aP hno, r1_s, if_pos (by decide), g_C_parts, ck_P, hr, r1_s]
        · rw [if_neg h3, g_C_parts, ck_P, hr, r1_s]
      by_cases hm1 : vk = -1
      · subst hm1
        refine sim_q (r := .int (if vw = 0 then nI (np (fal (G.2.1.2.1 k) (nI ((G.2.1.2.1 k).1 5))) 400) else -1)) h (s1 := t1) (s2 := t3) (cc _ (told_all X aP vw)) f1 ?_ f3
        rw [e_M_falls_0, ck_M, M_sheet_yes X h1 hk, r1_s, if_neg (by decide), ck_M, M_in_run X (by omega) hM1, r1_s, ck_M, c1, r0_s, if_pos rfl]
        by_cases h0 : vw = 0
        · rw [if_pos h0, if_pos h0, g_M_pieces, cP.1]
        · rw [if_neg h0, if_neg h0]
      · rcases pc_or (fal (G.2.1.2.1 k) (nI ((G.2.1.2.1 k).1 5))) vk with ⟨f, hf, hF, rfl⟩ | hno
        · have hnf := np_in hf hF
          have hnl2 := np_lt hf hF
          have hs := cP.2.2 f hf hF
          have hw3 : vw ≠ nI 3 := fun e => hgp ⟨e, f, hf, hF, rfl⟩
          rcases Classical.em (∃ j, j < 3 ∧ vw = nI j) with ⟨j, hj, rfl⟩ | hw
          · refine sim_q (r := .int (ptv (fal (G.2.1.2.1 k) (nI ((G.2.1.2.1 k).1 5))) f (nI j))) h (s1 := t1) (s2 := su t3 318 38 (nI k)) (cc _ (told_at X aP hf hF _)) f1 ?_ (f3.tr f4)
            have hs1 : (su t3 318 38 (nI k)).1 338 (np (fal (G.2.1.2.1 k) (nI ((G.2.1.2.1 k).1 5))) f) = nI f := by rw [su_1, if_neg (by omega), hs.1]
            have hs2 : (su t3 318 38 (nI k)).1 339 (np (fal (G.2.1.2.1 k) (nI ((G.2.1.2.1 k).1 5))) f) = nI (np2 (fal (G.2.1.2.1 k) (nI ((G.2.1.2.1 k).1 5))) f) := by rw [su_1, if_neg (by omega), hs.2]; rfl
            rw [e_M_falls_0, ck_M, M_sheet_yes X h1 hk, r1_s, if_neg (by decide), ck_M, M_in_run X (by omega) hM1, r1_s, ck_M, c1, r0_s, if_neg hm1, g_M_pieces, cP.1, pk_sub (by omega), isIn_yes _ (by omega) (by omega), r1_s, if_neg (by decide), isIn_yes _ (by omega) (by decide), r1_s, if_neg (by decide), p_M_gapSheet]
            have hj3 : j = 0 ∨ j = 1 ∨ j = 2 := by omega
            rcases hj3 with rfl | rfl | rfl
            · rw [if_pos (by decide), g_M_pieceMany, i_M_pieceMany hnl2, hs2]
              rfl
            · rw [if_neg (by decide), if_pos rfl, g_M_pieceFirst, i_M_pieceFirst hnl2, hs1, if_neg (by decide), div20 (by omega), rem20 (by omega)]
              rfl
            · rw [if_neg (by decide), if_neg (by decide), if_pos rfl, g_M_pieceFirst, i_M_pieceFirst hnl2, hs1, if_neg (by decide), div20 (by omega)]
              rfl
          · refine sim_q (r := .int (-1)) h (s1 := t1) (s2 := t3) (cc _ (by rw [told_at X aP hf hF, ptv_out hw])) f1 ?_ f3
            rw [e_M_falls_0, ck_M, M_sheet_yes X h1 hk, r1_s, if_neg (by decide), ck_M, M_in_run X (by omega) hM1, r1_s, ck_M, c1, r0_s, if_neg hm1, g_M_pieces, cP.1, pk_sub (by omega), isIn_yes _ (by omega) (by omega), r1_s, if_neg (by decide), isIn_no _ (by decide) (fun j hj e => (by
              by_cases h3 : j = 3
              · subst h3; exact hw3 e
              · exact hw ⟨j, by omega, e⟩)), r1_s, if_pos (by decide)]
        · refine sim_q (r := .int (-1)) h (s1 := t1) (s2 := t3) (cc _ (told_out X aP hm1 hno vw)) f1 ?_ f3
          rw [e_M_falls_0, ck_M, M_sheet_yes X h1 hk, r1_s, if_neg (by decide), ck_M, M_in_run X (by omega) hM1, r1_s, ck_M, c1, r0_s, if_neg hm1, g_M_pieces, cP.1]
          rcases isIn_lt (mk X t3) vk (n := np (fal (G.2.1.2.1 k) (nI ((G.2.1.2.1 k).1 5))) 400) (by omega) with ⟨g, -⟩ | ⟨-, e⟩
          · exact absurd g hno
          · rw [e, r1_s, if_pos (by decide)]
  · refine sim_q (r := .int (-1)) h (s1 := s) (s2 := s) ?_ (fr.rf s) ?_ (fr.rf s)
    · rw [e_C_falls_0, ck_C, C_told_no X h hn, r3_n]
    · rw [e_M_falls_0, ck_M, M_sheet_no X h hn, r1_s, if_pos (by decide)]

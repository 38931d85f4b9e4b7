/-! square -/
theorem sel_i (v : Int32) {x : Nat} (hx : x < 32) {b : Bool} (h : bt v x = b) : (v >>> (nI x &&& 31)) &&& nI 1 = if b then nI 1 else nI 0 := by rw [b_sel v hx, h]
theorem sim_square (X : qz_X) (s : sT) (G : gsT) (h : Rel s G) (v vx vy vw : Int32) : Sim X s 141 152 [some (.ref 0), some (.int v), some (.int vx), some (.int vy), some (.int vw), none, none] [some (.ref 318), some (.int v), some (.int vx), some (.int vy), some (.int vw), none] := by
  rcases tk_or G v with ⟨k, hk⟩ | hn
  · obtain ⟨hS, ok, hC, hM⟩ := tk_P h hk
    have hk6 := hk.1
    have hv : v = nI k := hk.2.1
    subst hv
    have hk7 : k < 7 := by omega
    have o1 := ok.1
    have o2 := ok.2.1
    rcases Classical.em (inXY (G.2.1.2.1 k) vx vy) with ⟨x, y, hx, hy, rfl, rfl⟩ | hno
    · have hq4 : 20 * y + x < 400 := by omega
      have mm : ∀ {u : sT} (hu : Rel u G) {j : Nat}, j < 6 → j ≠ 0 → j ≠ 2 → ∃ z : sT, fr u z ∧ PcsM z (fal (G.2.1.2.1 k) (nI ((G.2.1.2.1 k).1 5))) ∧ (∀ i, i < 400 → z.1 334 i = if tin (G.2.1.2.1 k) (nI ((G.2.1.2.1 k).1 5)) i then nI 1 else nI 0) ∧ (∀ i, i < 400 → z.1 335 i = if hB (tin (G.2.1.2.1 k) (nI ((G.2.1.2.1 k).1 5))) (rim (G.2.1.2.1 k)) i then nI 1 else nI 0) ∧ rn 152 0 [some (.ref 318), some (.int (nI k)), some (.int (nI x)), some (.int (nI y)), some (.int (nI j)), none] [] (mk X u) = (if nI j = nI 1 then some (some (.int (z.1 334 (20 * y + x))), mk X z) else (if nI j = nI 3 then some (some (.int (z.1 335 (20 * y + x))), mk X z) else (if nI j = nI 4 then some (some (.int (z.1 337 (20 * y + x))), mk X z) else qz_r1 (rn 151 0 [some (.ref 318), some (.int (nI k)), some (.int (nI (20 * y + x))), none] [] (mk X z)) (fun x11 w10 => some (some (.int x11), w10))))) := by
        intro u hu j hj h0 h2
        obtain ⟨-, -, -, hMu⟩ := tk_P hu hk
        obtain ⟨t3, c1, c2, c3, c4, cP, c334, c335⟩ := M_looks_run X hk7 ok hMu (nI ((G.2.1.2.1 k).1 5))
        refine ⟨t3, fr_m [334, 335, 336, 337, 338, 339] (by rw [c2]) c3 (by decide) (fun j hj => c4 j (scr_36 hj)), cP, c334, c335, ?_⟩
        rw [e_M_square_0, ck_M, M_sheet_yes X hu hk, r1_s, if_neg (by decide), ck_M, M_within_yes X hk7 ok hMu hx hy, r1_s, if_neg (by decide), isIn_yes _ (by omega) (by decide), r1_s, if_neg (by decide), if_neg (fun z => h0 (by rw [← nI_0, nI_eq (by omega) (by decide)] at z; exact z)), if_neg (fun z => h2 (by rw [nI_eq (by omega) (by decide)] at z; exact z)), ck_M, M_in_run X hk7 hMu, r1_s, ck_M, c1, r0_s, ydm, g_M_tin, i_M_tin hq4, g_M_hangs, i_M_hangs hq4, g_M_piece, i_M_piece hq4, ck_M]
      have c0 : rn 141 0 [some (.ref 0), some (.int (nI k)), some (.int (nI x)), some (.int (nI y)), some (.int vw), none, none] [] (mk X s) = (if vw = nI 0 then qz_ga (mk X s).1 (s.2.2 k) 8 7 (fun q5 => qz_ia (mk X s).1 q5 (nI y) (fun x6 => some (some (.int ((x6 >>> (nI x &&& 31)) &&& (nI 1))), mk X s))) else (if vw = nI 1 then qz_ga (mk X s).1 (s.2.2 k) 8 9 (fun q7 => qz_gi (mk X s).1 q7 0 1 (fun x8 => qz_ck (mk X s).1 (s.2.2 k) 8 (qz_r1 (rn 117 0 [some (.ref (s.2.2 k)), some (.int (nI y)), some (.int x8), none, none] [] (mk X s)) (fun x10 w9 => some (some (.int ((x10 >>> (nI x &&& 31)) &&& (nI 1))), w9))))) else (if vw = nI 2 then qz_ga (mk X s).1 (s.2.2 k) 8 8 (fun q11 => qz_ia (mk X s).1 q11 (((nI y) * (nI 20)) + nI x) (fun x12 => some (some (.int x12), mk X s))) else (if vw = nI 3 then qz_ga (mk X s).1 0 11 9 (fun q13 => qz_ga (mk X s).1 (s.2.2 k) 8 9 (fun q14 => qz_gi (mk X s).1 q14 0 1 (fun x15 => qz_ck (mk X s).1 q13 3 (qz_r0 (rn 129 0 [some (.ref q13), some (.ref (s.2.2 k)), some (.int x15), none, none, none] [] (mk X s)) (fun w16 => qz_ga w16.1 0 11 9 (fun q17 => qz_ga w16.1 q17 3 1 (fun q18 => qz_ia w16.1 q18 (nI y) (fun x19 => some (some (.int ((x19 >>> (nI x &&& 31)) &&& (nI 1))), w16))))))))) else (if vw = nI 4 then qz_ga (mk X s).1 (s.2.2 k) 8 9 (fun q20 => qz_gi (mk X s).1 q20 0 1 (fun x21 => qz_ck (mk X s).1 0 11 (qz_r0 (rn 134 0 [some (.ref 0), some (.ref (s.2.2 k)), some (.int x21)] [] (mk X s)) (fun w22 => qz_ga w22.1 0 11 10 (fun q23 => qz_ga w22.1 q23 5 1 (fun q24 => qz_ia w22.1 q24 (((nI y) * (nI 20)) + nI x) (fun x25 => some (some (.int x25), w22)))))))) else (if vw = nI 5 then qz_ck (mk X s).1 0 11 (qz_r0 (rn 140 0 [some (.ref 0), some (.ref (s.2.2 k)), none] [] (mk X s)) (fun w26 => qz_ga w26.1 0 11 9 (fun q27 => qz_ga w26.1 q27 3 3 (fun q28 => qz_ia w26.1 q28 (((nI y) * (nI 20)) + nI x) (fun x29 => some (some (.int x29), w26)))))) else (some (some (.int (-1)), mk X s)))))))) := by
        rw [e_C_square_0, ck_C, C_told_yes X h hk, r3_r, ck_S hS, C_has_yes X hS ok hC hx hy, r1_s, if_neg (by decide)]
      rcases Classical.em (∃ j, j < 6 ∧ vw = nI j) with ⟨j, hj, rfl⟩ | hw
      · have hj6 : j = 0 ∨ j = 1 ∨ j = 2 ∨ j = 3 ∨ j = 4 ∨ j = 5 := by omega
        rcases hj6 with rfl | rfl | rfl | rfl | rfl | rfl
        · have hb := hC.2.1 y (by omega) x (by omega)
          rw [decide_eq_true (show x < 20 by omega), Bool.true_and] at hb
          have hm : s.1 322 (400 * k + (20 * y + x)) = if (G.2.1.2.1 k).2.1 (20 * y + x) then nI 1 else nI 0 := hM.2.1 _ hq4
          refine sim_q (r := .int (if (G.2.1.2.1 k).2.1 (20 * y + x) then nI 1 else nI 0)) h (s1 := s) (s2 := s) ?_ (fr.rf s) ?_ (fr.rf s)
          · rw [c0, if_pos rfl, g_S_through hS, i_S_through hS (by omega), sel_i _ (by omega) hb]
          · rw [e_M_square_0, ck_M, M_sheet_yes X h hk, r1_s, if_neg (by decide), ck_M, M_within_yes X hk7 ok hM hx hy, r1_s, if_neg (by decide), isIn_yes _ (by decide) (by decide), r1_s, if_neg (by decide), if_pos nI_0, g_M_through, M_at_run, r1_s, i_M_through (by omega), hm]
        · obtain ⟨r, e, b⟩ := tinRow_run X hS ok hC (nI ((G.2.1.2.1 k).1 5)) (y := y) (by omega)
          have hb := b x (by omega)
          rw [decide_eq_true (show x < 20 by omega), Bool.true_and] at hb
          obtain ⟨z, fz, zP, z334, z335, ez⟩ := mm h (j := 1) (by decide) (by decide) (by decide)
          refine sim_q (r := .int (if tin (G.2.1.2.1 k) (nI ((G.2.1.2.1 k).1 5)) (20 * y + x) then nI 1 else nI 0)) h (s1 := s) (s2 := z) ?_ (fr.rf s) ?_ fz
          · rw [c0, if_neg (by decide), if_pos rfl, g_S_bridges hS, g_B_in hS, hC.1.2.2.2.2.2.1, ck_S hS, e, r1_s, sel_i _ (by omega) hb]
          · rw [ez, if_pos rfl, z334 _ hq4]
        · have hm : s.1 323 (400 * k + (20 * y + x)) = nI ((G.2.1.2.1 k).2.2.1 (20 * y + x)) := hM.2.2.1 _ hq4
          refine sim_q (r := .int (nI ((G.2.1.2.1 k).2.2.1 (20 * y + x)))) h (s1 := s) (s2 := s) ?_ (fr.rf s) ?_ (fr.rf s)
          · rw [c0, if_neg (by decide), if_neg (by decide), if_pos rfl, g_S_worth hS, ydx, i_S_worth hS hq4, hC.2.2.1 _ hq4]
          · rw [e_M_square_0, ck_M, M_sheet_yes X h hk, r1_s, if_neg (by decide), ck_M, M_within_yes X hk7 ok hM hx hy, r1_s, if_neg (by decide), isIn_yes _ (by decide) (by decide), r1_s, if_neg (by decide), if_neg (by decide), if_pos rfl, g_M_worth, M_at_run, r1_s, i_M_worth (by omega), hm]
        · obtain ⟨t1, e, t2, tc, -, t88, -⟩ := spread_run X hS ok hC (nI ((G.2.1.2.1 k).1 5))
          have f1 : fr s t1 := fr_of [87, 88, 89] (by rw [t2]) (fun c hc => (by
            simp only [List.mem_cons, List.not_mem_nil, or_false, not_or] at hc
            exact tc c hc.1 hc.2.1 hc.2.2)) (by decide)
          have hb := t88 y (by omega) x (by omega)
          rw [decide_eq_true (show x < 20 by omega), Bool.true_and] at hb
          obtain ⟨z, fz, zP, z334, z335, ez⟩ := mm (h.fr f1) (j := 3) (by decide) (by decide) (by decide)
          refine sim_q (r := .int (if hB (tin (G.2.1.2.1 k) (nI ((G.2.1.2.1 k).1 5))) (rim (G.2.1.2.1 k)) (20 * y + x) then nI 1 else nI 0)) h (s1 := t1) (s2 := z) ?_ f1 ?_ fz
          · rw [c0, if_neg (by decide), if_neg (by decide), if_neg (by decide), if_pos rfl, g_C_hanging, g_S_bridges hS, g_B_in hS, hC.1.2.2.2.2.2.1, ck_H, e, r0_s, g_C_hanging, g_H_hung, i_H_hung (by omega), sel_i _ (by omega) hb]
          · rw [ez, if_neg (by decide), if_pos rfl, z335 _ hq4]
        · obtain ⟨t1, a1, a2, a3, aP, -⟩ := findPieces_run X hS ok hC (nI ((G.2.1.2.1 k).1 5))
          have f1 : fr s t1 := fr_of [87, 88, 89, 96, 97, 98, 99, 100] (by rw [a2]) a3 (by decide)
          obtain ⟨z, fz, zP, z334, z335, ez⟩ := mm (h.fr f1) (j := 4) (by decide) (by decide) (by decide)
          refine sim_q (r := .int (t1.1 97 (20 * y + x))) h (s1 := t1) (s2 := z) ?_ f1 ?_ fz
          · rw [c0, if_neg (by decide), if_neg (by decide), if_neg (by decide), if_neg (by decide), if_pos rfl, g_S_bridges hS, g_B_in hS, hC.1.2.2.2.2.2.1, ck_C, a1, r0_s, g_C_parts, g_P_partOf, ydx, i_P_partOf hq4]
          · rw [ez, if_neg (by decide), if_neg (by decide), if_pos rfl, zP.2.1 _ hq4, aP.2.1 _ hq4]
        · obtain ⟨t1, a1, a2, a3, a4⟩ := walkHeld_run X hS ok hC
          have f1 : fr s t1 := fr_of [86, 87, 88, 89, 90, 91, 92, 93, 94, 95, 124] (by rw [a2]) a3 (by decide)
          obtain ⟨z, fz, zP, z334, z335, ez⟩ := mm (h.fr f1) (j := 5) (by decide) (by decide) (by decide)
          obtain ⟨-, -, -, hMz⟩ := tk_P ((h.fr f1).fr fz) hk
          obtain ⟨z2, d1, d2, dc, d335⟩ := M_hang_run X hk7 ok hMz z334
          have f2 : fr z z2 := fr_of [335, 336] (by rw [d2]) (fun c hc => (by
            simp only [List.mem_cons, List.not_mem_nil, or_false, not_or] at hc
            exact dc c hc.1 hc.2)) (by decide)
          cases hb : hB (tin (G.2.1.2.1 k) (nI ((G.2.1.2.1 k).1 5))) (rim (G.2.1.2.1 k)) (20 * y + x)
          · have hz : tgs (tin (G.2.1.2.1 k) (nI ((G.2.1.2.1 k).1 5))) (rim (G.2.1.2.1 k)) (20 * y + x) = 0 := by unfold tgs; rw [hb]; rfl
            refine sim_q (r := .int (nI 0)) h (s1 := t1) (s2 := z2) ?_ f1 ?_ (fz.tr f2)
            · rw [c0, if_neg (by decide), if_neg (by decide), if_neg (by decide), if_neg (by decide), if_neg (by decide), if_pos rfl, ck_C, a1, r0_s, g_C_hanging, g_H_tongue, ydx, i_H_tongue hq4, a4 _ hq4, hz]
            · rw [ez, if_neg (by decide), if_neg (by decide), if_neg (by decide), e_M_tongue_0, ck_M, d1, r1_s, g_M_hangs, i_M_hangs hq4, d335 _ hq4, told_one, hb, if_neg (by decide), r1_s]
          · have hz : tgs (tin (G.2.1.2.1 k) (nI ((G.2.1.2.1 k).1 5))) (rim (G.2.1.2.1 k)) (20 * y + x) = tgn (tin (G.2.1.2.1 k) (nI ((G.2.1.2.1 k).1 5))) (rim (G.2.1.2.1 k)) (20 * y + x) := by unfold tgs; rw [hb]; rfl
            have htn := tgn_eq hq4 hb
            have hct := fb_ct_le (hB (tin (G.2.1.2.1 k) (nI ((G.2.1.2.1 k).1 5))) (rim (G.2.1.2.1 k))) 400
            obtain ⟨-, -, -, hMz2⟩ := tk_P (((h.fr f1).fr fz).fr f2) hk
            obtain ⟨z3, e1, e2, ec, -⟩ := M_hanging_run X hk7 ok hMz2 (d := fun q => decide (q = 20 * y + x)) (t' := tv (tin (G.2.1.2.1 k) (nI ((G.2.1.2.1 k).1 5))) (20 * y + x)) (a := rim (G.2.1.2.1 k)) (root := -1) (wo := nI (20 * y + x)) (t := tin (G.2.1.2.1 k) (nI ((G.2.1.2.1 k).1 5))) (fun j hj => by rw [dc 334 (by decide) (by decide)]; exact z334 j hj) (fun q hq => by rw [nI_eq (by omega) (by omega), decide_eq_true_eq]) (fun q _ => rfl) (Or.inl ⟨rfl, fun _ _ => rfl⟩)
            have f3 : fr z2 z3 := fr_of [335, 336] (by rw [e2]) (fun c hc => (by
              simp only [List.mem_cons, List.not_mem_nil, or_false, not_or] at hc
              exact ec c hc.1 hc.2)) (by decide)
            have hval : nI (fb_ct (hB (tin (G.2.1.2.1 k) (nI ((G.2.1.2.1 k).1 5))) (rim (G.2.1.2.1 k))) 400) - nI 1 - nI (fb_ct (hB (tv (tin (G.2.1.2.1 k) (nI ((G.2.1.2.1 k).1 5))) (20 * y + x)) (rim (G.2.1.2.1 k))) 400) = nI (tgn (tin (G.2.1.2.1 k) (nI ((G.2.1.2.1 k).1 5))) (rim (G.2.1.2.1 k)) (20 * y + x)) := by
              rw [pk_sub (by omega), pk_sub (by omega)]
              congr 1
              omega
            refine sim_q (r := .int (nI (tgn (tin (G.2.1.2.1 k) (nI ((G.2.1.2.1 k).1 5))) (rim (G.2.1.2.1 k)) (20 * y + x)))) h (s1 := t1) (s2 := z3) ?_ f1 ?_ ((fz.tr f2).tr f3)
            · rw [c0, if_neg (by decide), if_neg (by decide), if_neg (by decide), if_neg (by decide), if_neg (by decide), if_pos rfl, ck_C, a1, r0_s, g_C_hanging, g_H_tongue, ydx, i_H_tongue hq4, a4 _ hq4, hz]
            · rw [ez, if_neg (by decide), if_neg (by decide), if_neg (by decide), e_M_tongue_0, ck_M, d1, r1_s, g_M_hangs, i_M_hangs hq4, d335 _ hq4, told_one, hb, if_pos rfl, ck_M, e_M_tongueOf_0, ck_M, e1, r1_s, hval, r1_s, r1_s]
      · refine sim_q (r := .int (-1)) h (s1 := s) (s2 := s) ?_ (fr.rf s) ?_ (fr.rf s)
        · rw [c0, if_neg (fun e => hw ⟨0, by decide, e⟩), if_neg (fun e => hw ⟨1, by decide, e⟩), if_neg (fun e => hw ⟨2, by decide, e⟩), if_neg (fun e => hw ⟨3, by decide, e⟩), if_neg (fun e => hw ⟨4, by decide, e⟩), if_neg (fun e => hw ⟨5, by decide, e⟩)]
        · rw [e_M_square_0, ck_M, M_sheet_yes X h hk, r1_s, if_neg (by decide), ck_M, M_within_yes X hk7 ok hM hx hy, r1_s, if_neg (by decide), isIn_no _ (by decide) (fun j hj e => hw ⟨j, by omega, e⟩), r1_s, if_pos (by decide)]
    · refine sim_q (r := .int (-1)) h (s1 := s) (s2 := s) ?_ (fr.rf s) ?_ (fr.rf s)
      · rw [e_C_square_0, ck_C, C_told_yes X h hk, r3_r, ck_S hS, C_has_no X hS ok hC hno, r1_s, if_pos (by decide)]
      · rw [e_M_square_0, ck_M, M_sheet_yes X h hk, r1_s, if_neg (by decide), ck_M, M_within_no X hk7 ok hM hno, r1_s, if_pos (by decide)]
  · refine sim_q (r := .int (-1)) h (s1 := s) (s2 := s) ?_ (fr.rf s) ?_ (fr.rf s)
    · rw [e_C_square_0, ck_C, C_told_no X h hn, r3_n]
    · rw [e_M_square_0, ck_M, M_sheet_no X h hn, r1_s, if_pos (by decide)]

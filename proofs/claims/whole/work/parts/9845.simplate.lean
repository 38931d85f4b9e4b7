/-! plate, tied -/
theorem mplate (X : qz_X) {T : txT} (hT : okT T) {t : sT} {N k : Nat} (hN : T.1 ≤ N) (hN2 : N ≤ 1200) (hk : k < 6) (h14 : t.1 318 14 = nI N) (ht : ∀ j, j < T.1 → t.1 332 j = sb (T.2 j)) : ((ttS T).1 = false → ∃ w : sT, rn 112 0 [some (.ref 318), some (.int (nI k)), some (.int (nI T.1)), none] [] (mk X t) = some (some (.int (-1)), mk X w) ∧ w.2.2 = t.2.2 ∧ (∀ c j, ¬ inM c j → ¬ (c = 318 ∧ (j = 14 ∨ j = 17)) → ¬ (c = 319 ∧ j = 2) → w.1 c j = t.1 c j) ∧ w.1 318 14 = nI 0 ∧ w.1 318 17 = nI (ttS T).2.1 ∧ w.1 319 2 = t.1 319 2 + nI 1) ∧ ((ttS T).1 = true → ∃ w : sT, rn 112 0 [some (.ref 318), some (.int (nI k)), some (.int (nI T.1)), none] [] (mk X t) = some (some (.int (nI ((ttS T).2.2.1.1 2))), mk X w) ∧ w.2.2 = t.2.2 ∧ (∀ c j, ¬ (320 ≤ c ∧ c ≤ 330) → ¬ inM c j → ¬ (c = 318 ∧ (j = 14 ∨ j = 17)) → w.1 c j = t.1 c j) ∧ w.1 318 14 = nI 0 ∧ w.1 318 17 = -1 ∧ (∀ j, w.1 321 j = if j = k then nI 1 else t.1 321 j) ∧ isM (gN w) k (fA (ttS T).2.2.1) ∧ ∀ j A, j < 6 → j ≠ k → okA A → isM (gN t) j A → isM (gN w) j A) := by
  have hn := hT.1
  obtain ⟨z, ez, z2, zc, zt⟩ := copy_M X hT (v := nI k) ht
  have hy : ∃ y : sT, y = su (su (su z 318 15 (nI T.1)) 318 14 (nI 0)) 318 16 (nI 0) := ⟨_, rfl⟩
  obtain ⟨y, hy⟩ := hy
  have yc : ∀ c, c ≠ 318 → c ≠ 333 → y.1 c = t.1 c := fun c h1 h2 => by
    rw [← zc c h2, hy]
    funext j
    rw [su_1, if_neg (fun g => h1 g.1), su_1, if_neg (fun g => h1 g.1), su_1, if_neg (fun g => h1 g.1)]
  have y8 : ∀ j, j ≠ 14 → j ≠ 15 → j ≠ 16 → y.1 318 j = t.1 318 j := fun j h1 h2 h3 => by
    rw [hy, su_1, if_neg (fun g => h3 g.2), su_1, if_neg (fun g => h1 g.2), su_1, if_neg (fun g => h2 g.2), zc 318 (by decide)]
  have y14 : y.1 318 14 = nI 0 := by rw [hy, su_1, if_neg (by omega), su_1, if_pos ⟨rfl, rfl⟩]
  have y2 : y.2 = t.2 := by rw [hy]; exact z2
  have my : mPo T (sk T 0) y := by
    refine ⟨fun j hj => ?_, ?_, 0, Nat.zero_le _, ?_, rfl⟩
    · rw [hy, su_1, if_neg (by omega), su_1, if_neg (by omega), su_1, if_neg (by omega)]; exact zt j hj
    · rw [hy, su_1, if_neg (by omega), su_1, if_neg (by omega), su_1, if_pos ⟨rfl, rfl⟩]
    · rw [hy, su_1, if_pos ⟨rfl, rfl⟩]
  have ym : ∀ c j, ¬ inM c j → ¬ (c = 318 ∧ (j = 14 ∨ j = 17)) → y.1 c j = t.1 c j := fun c j h1 h2 => by
    by_cases e : c = 318
    · subst e
      refine y8 j (fun g => h2 ⟨rfl, Or.inl g⟩) (fun g => h1 (Or.inl ⟨rfl, by rw [g]; decide⟩)) (fun g => h1 (Or.inl ⟨rfl, by rw [g]; decide⟩))
    · rw [yc c e (fun g => h1 (by unfold inM; omega))]
  obtain ⟨w, ew, fw, mw, dw⟩ := M_tell X hT my
  have e0 : rn 112 0 [some (.ref 318), some (.int (nI k)), some (.int (nI T.1)), none] [] (mk X t) = (if bI (ttS T).1 = 0 then qz_ck (mk X w).1 318 12 (qz_r0 (rn 75 0 [some (.ref 318)] [] (mk X w)) (fun w6 => rn 112 82 [some (.ref 318), some (.int (nI k)), none, some (.int (bI (ttS T).1))] [] w6)) else rn 112 82 [some (.ref 318), some (.int (nI k)), none, some (.int (bI (ttS T).1))] [] (mk X w)) := by
    rw [e_M_plate_0, isIn_yes _ (show k ≤ 5 by omega) (by decide), r1_s, if_neg (by decide), g_M_taped, h14, isIn_yes _ hN (by omega), r1_s, if_neg (by decide), ez, e_M_plate_31, if_pos (nI_le (Nat.le_refl _) (by omega)), p_M_size, p_M_taped, p_M_at, ← hy, ck_M, ew, r1_s]
  have w14 : w.1 318 14 = nI 0 := by rw [fw.2 318 14 (by unfold inM; simp)]; exact y14
  constructor
  · intro hb
    rw [hb] at e0
    rw [e0]
    refine ⟨su (su (su w 318 16 (nI (ttS T).2.1)) 318 17 (nI (ttS T).2.1)) 319 2 (w.1 319 2 + nI 1), ?_, ?_, fun c j h1 h2 h3 => ?_, ?_, ?_, ?_⟩
    · rw [if_pos (by decide), ck_M, M_blank X hT mw, r0_s, e_M_plate_82, if_pos (by decide), g_M_at, su_1, if_pos ⟨rfl, rfl⟩, p_M_fault, if_pos (by decide), ck_M, M_refuse X _ (by decide), r1_s, su_1, if_neg (by omega), su_1, if_neg (by omega)]
    · show w.2.2 = _
      rw [fw.1, y2]
    · rw [su_1, if_neg (fun g => h3 g), su_1, if_neg (fun g => h2 ⟨g.1, Or.inr g.2⟩), su_1, if_neg (fun g => h1 (Or.inl ⟨g.1, by rw [g.2]; decide⟩)), fw.2 c j h1, ym c j h1 h2]
    · rw [su_1, if_neg (by omega), su_1, if_neg (by omega), su_1, if_neg (by omega)]; exact w14
    · rw [su_1, if_neg (by omega), su_1, if_pos ⟨rfl, rfl⟩]
    · rw [su_1, if_pos ⟨rfl, rfl⟩, fw.2 319 2 (by unfold inM; omega), ym 319 2 (by unfold inM; omega) (by omega)]
  · intro hb
    have dw := dw hb
    have okw := fA_ok (ttS_ok hb).1
    obtain ⟨x, ex, x2, xc, xt, xk, xo⟩ := over_M X hk (su w 318 17 (-1))
    have sw : ∀ c, c ≠ 318 → (su w 318 17 (-1)).1 c = w.1 c := fun c hc => funext fun j => by rw [su_1, if_neg (fun g => hc g.1)]
    have iw : isM (gN (su w 318 17 (-1))) 6 (fA (ttS T).2.2.1) := isM_all (fun c p q => sw c (by omega)) dw
    have xi := xk _ okw iw
    have xa : x.1 320 (16 * k + 2) = nI ((ttS T).2.2.1.1 2) := ab_at xi (by decide)
    rw [hb] at e0
    rw [e0]
    refine ⟨x, ?_, by rw [x2]; show w.2.2 = _; rw [fw.1, y2], fun c j h0 h1 h2 => ?_, ?_, ?_, fun j => ?_, xi, fun j A hj hjk ok hM => xo j A hj hjk ok (isM_all (fun c p q => sw c (by omega)) (isM_low hj ok (fun c i p q h => by rw [fw.2 c i h, ym c i h (by omega)]) hM))⟩
    · rw [if_neg (by decide), e_M_plate_82, if_neg (by decide), p_M_fault, if_neg (by decide), ck_M, ex, r0_s, g_M_about, pk_mul, nI_add, i_M_about (by omega), xa]
    · rw [xc c h0, su_1, if_neg (fun g => h2 ⟨g.1, Or.inr g.2⟩), fw.2 c j h1, ym c j h1 h2]
    · rw [xc 318 (by omega), su_1, if_neg (by omega)]; exact w14
    · rw [xc 318 (by omega), su_1, if_pos ⟨rfl, rfl⟩]
    · rw [xt j, sw 321 (by decide), fw.2 321 j (by unfold inM; omega), ym 321 j (by unfold inM; omega) (by omega)]
theorem sim_plate (X : qz_X) (s : sT) (G : gsT) (h : Rel s G) (v v2 : Int32) : Sim X s 71 112 [some (.ref 0), some (.int v), some (.int v2), none, none] [some (.ref 318), some (.int v), some (.int v2), none] := by
  obtain ⟨h1, ⟨t1, t2, t3, t4⟩, h3, h4, ⟨n1, n2, n3, n4⟩, h6⟩ := id h
  by_cases hc : (∃ k, k < 6 ∧ v = nI k) ∧ ∃ n, n ≤ G.1.1 ∧ v2 = nI n
  case neg =>
    have hm := plate_mno X (s := su s 2 0 (s.1 2 0 + nI 1)) t1 (by rw [su_1, if_neg (by omega)]; exact t3) hc
    rw [su_319] at hm
    exact ⟨-2, _, _, G, plate_no X h hc, hm, h.refuse (by decide)⟩
  obtain ⟨⟨k, hk, rfl⟩, n, hn, rfl⟩ := hc
  have eT : ∃ T : txT, T = (n, G.1.2) := ⟨_, rfl⟩
  obtain ⟨T, eT⟩ := eT
  have eT1 : T.1 = n := by rw [eT]
  have eT2 : T.2 = G.1.2 := by rw [eT]
  have hT : okT T := ⟨by omega, fun j hj => by rw [eT2]; exact (t4 j (by omega)).1⟩
  have hq : ∃ q, q = s.2.2 6 := ⟨_, rfl⟩
  obtain ⟨q, hq⟩ := hq
  have hqp := h1.1 6 (by decide)
  rw [← hq] at hqp
  have hp := isS_pl q hqp
  have hS : isS q := hp.1
  obtain ⟨u, eu, fu, cu, du⟩ := C_tell (q := q) X hT hS (by omega) (s := s) (fun j hj => by rw [eT2]; exact (t4 j (by omega)).2.1)
  have e0 : rn 71 0 [some (.ref 0), some (.int (nI k)), some (.int (nI n)), none, none] [] (mk X s) = (qz_pf (mk X u) 0 11 1 (.int (nI 0)) (fun w16 => (if bI (ttS T).1 = 0 then qz_ga w16.1 0 11 8 (fun q30 => qz_ck w16.1 q30 9 (qz_r1 (rn 70 0 [some (.ref q30)] [] w16) (fun x32 w31 => qz_pf w31 0 11 2 (.int x32) (fun w33 => qz_ga w33.1 0 11 3 (fun q34 => qz_ia w33.1 q34 (nI 2) (fun x35 => qz_is w33 q34 (nI 2) (x35 + (nI 1)) (fun w36 => some (some (.int (-1)), w36)))))))) else qz_pf w16 0 11 2 (.int (-1)) (fun w17 => qz_ga w17.1 0 11 4 (fun q18 => qz_ga w17.1 q18 6 0 (fun q19 => qz_aa w17.1 q19 (nI k) (fun q20 => qz_ga w17.1 0 11 4 (fun q21 => qz_ga w17.1 q21 6 0 (fun q22 => qz_ga w17.1 0 11 7 (fun q23 => qz_as w17 q22 (nI k) q23 (fun w24 => qz_pf w24 0 11 7 (.ref q20) (fun w25 => qz_ga w25.1 0 11 4 (fun q26 => qz_ga w25.1 q26 6 0 (fun q27 => qz_aa w25.1 q27 (nI k) (fun q28 => qz_gi w25.1 q28 8 3 (fun x29 => some (some (.int x29), w25)))))))))))))))) ) := by
    rw [eT1] at eu
    rw [e_C_plate_0, if_neg (nI_pos (by omega)), g_C_tapeLength, t2, if_neg (nI_nlt hn (by omega)), if_neg (nI_pos (by omega)), if_pos (nI_lt hk (by decide)), g_C_teller, g_C_tape, g_C_draft, ← hq, ck_L, eu, r1_s]
  have hu : ∃ y : sT, y = su u 0 1 (nI 0) := ⟨_, rfl⟩
  obtain ⟨y, hy⟩ := hu
  have yc : ∀ c, c ≠ 0 → ¬ (78 ≤ c ∧ c ≤ 85) → ¬ (q ≤ c ∧ c < q + 10) → y.1 c = s.1 c := fun c a b d => by
    rw [← fu.2 c (by omega), hy]
    funext j
    rw [su_1, if_neg (fun g => a g.1)]
  have y0 : ∀ j, j ≠ 1 → y.1 0 j = s.1 0 j := fun j hj => by
    rw [← fu.2 0 (by omega), hy, su_1, if_neg (fun g => hj g.2)]
  have y01 : y.1 0 1 = nI 0 := by rw [hy, su_1, if_pos ⟨rfl, rfl⟩]
  have y2 : y.2.2 = s.2.2 := by rw [hy]; exact fu.1
  have cy : cPo T (ttS T).2.1 y := by rw [hy]; exact cPo_su cu (by decide)
  have t332 : ∀ t : sT, t.1 332 = s.1 332 → ∀ j, j < T.1 → t.1 332 j = sb (T.2 j) := fun t ht j hj => by
    rw [ht, eT2]
    exact (t4 j (by omega)).2.2
  -- places apart from the draft's
  have apart : ∀ j, j < 6 → s.2.2 j + 10 ≤ q ∨ q + 10 ≤ s.2.2 j := fun j hj => by
    have hne : s.2.2 j ≠ q := fun e => by have := h1.2 j 6 (by omega) (by decide) (e.trans hq); omega
    have := pl_apart _ (h1.1 j (by omega)) _ hqp hne
    omega
  cases hb : (ttS T).1
  · obtain ⟨hP, a, ha, r1, r2, r3, r4, r5⟩ := cPo_rd hT cy
    have hx : ∃ x : sT, x = su (su y 0 2 (nI (ttS T).2.1)) 2 2 (s.1 2 2 + nI 1) := ⟨_, rfl⟩
    obtain ⟨x, hx⟩ := hx
    have xc : ∀ c, c ≠ 0 → c ≠ 2 → ¬ (78 ≤ c ∧ c ≤ 85) → ¬ (q ≤ c ∧ c < q + 10) → x.1 c = s.1 c := fun c a1 a2 a3 a4 => by
      rw [← yc c a1 a3 a4, hx]
      funext j
      rw [su_1, if_neg (fun g => a2 g.1), su_1, if_neg (fun g => a1 g.1)]
    have x0 : ∀ j, j ≠ 1 → j ≠ 2 → x.1 0 j = s.1 0 j := fun j a1 a2 => by
      rw [hx, su_1, if_neg (by omega), su_1, if_neg (fun g => a2 g.2), y0 j a1]
    have ex : rn 71 0 [some (.ref 0), some (.int (nI k)), some (.int (nI n)), none, none] [] (mk X s) = some (some (.int (-1)), mk X x) := by
      rw [e0, hb, p_C_tapeLength, ← hy, if_pos (by decide), g_C_teller, ck_L, e_Teller_place_0, g_L_tokens, g_K_start, g_L_at, r1, i_K_start ha, r3, r1_s, p_C_faultPlace, g_C_refused, i_C_refused (by decide), w_C_refused (by decide), su_1, if_neg (by omega), yc 2 (by decide) (by omega) (by omega), hx]
    obtain ⟨w, ew, w2, wc, w14, w17, w319⟩ := (mplate X hT (t := x) (N := G.1.1) (k := k) (by omega) t1 hk (by rw [xc 318 (by decide) (by decide) (by omega) (by omega)]; exact t3) (t332 x (xc 332 (by decide) (by decide) (by omega) (by omega)))).1 hb
    rw [eT1] at ew
    have wl : ∀ c, c < 318 → w.1 c = x.1 c := fun c hc' => funext fun j => wc c j (by unfold inM; omega) (by omega) (by omega)
    have wh : ∀ c, 360 ≤ c → w.1 c = x.1 c := fun c hc' => funext fun j => wc c j (by unfold inM; omega) (by omega) (by omega)
    have xx2 : x.2.2 = s.2.2 := by rw [hx]; exact y2
    refine ⟨-1, x, w, ((0, G.1.2), G.2), ex, ew, rPl_c (w2.trans xx2) h1, ⟨Nat.zero_le _, ?_, w14, fun j hj => absurd hj (Nat.not_lt_zero j)⟩, ?_, fun j hj => ?_, ⟨n1, fun j hj => ?_, ?_, ?_⟩, rIm_c ?_ ?_ (fun i p r => ?_) ?_ ?_ h6⟩
    · rw [wl 0 (by decide), hx, su_1, if_neg (by omega), su_1, if_neg (by omega)]; exact y01
    · unfold rFa
      rw [w17, wl 0 (by decide), hx, su_1, if_neg (by omega), su_1, if_pos ⟨rfl, rfl⟩]
    · rw [wl 2 (by decide), hx, su_1]
      by_cases e : j = 2
      · subst e
        rw [if_pos ⟨rfl, rfl⟩, w319, xc 319 (by decide) (by decide) (by omega) (by omega), h4 2 (by decide)]
      · rw [if_neg (fun g => e g.2), su_1, if_neg (by omega), yc 2 (by decide) (by omega) (by omega), wc 319 j (by unfold inM; omega) (by omega) (by omega), xc 319 (by decide) (by decide) (by omega) (by omega)]
        exact h4 j hj
    · obtain ⟨p1, p2, p3⟩ := n2 j hj
      have ap := apart j hj
      have hpj := isS_pl _ (h1.1 j (by omega))
      rw [w2, xx2]
      refine ⟨?_, ?_, fun htj => ⟨isC_cong (s := s) (fun i hi => ?_) (p3 htj).1, isM_low hj (n1.2 j hj htj) (fun c i p r hi => ?_) (p3 htj).2⟩⟩
      · rw [wl _ (by omega), xc _ (by omega) (by omega) (by omega) (by omega)]; exact p1
      · rw [wc 321 j (by unfold inM; omega) (by omega) (by omega), xc 321 (by decide) (by decide) (by omega) (by omega)]; exact p2
      · rw [wl _ (by omega), xc _ (by omega) (by omega) (by omega) (by omega)]
      · rw [wc c i hi (by omega) (by omega), xc c (by omega) (by omega) (by omega) (by omega)]
    · intro j hj
      rw [wl 5 (by decide), xc 5 (by decide) (by decide) (by omega) (by omega)]; exact n3 j hj
    · rw [wc 318 1 (by unfold inM; simp) (by omega) (by omega), xc 318 (by decide) (by decide) (by omega) (by omega)]; exact n4
    · rw [wl 0 (by decide), x0 6 (by decide) (by decide)]
    · rw [wc 318 61 (by unfold inM; simp) (by omega) (by omega), xc 318 (by decide) (by decide) (by omega) (by omega)]
    · rw [wl i (by omega), xc i (by omega) (by omega) (by omega) (by omega)]
    · rw [wh 360 (by decide), xc 360 (by decide) (by decide) (by omega) (by omega)]
    · rw [wh 361 (by decide), xc 361 (by decide) (by decide) (by omega) (by omega)]
  · have du := du hb
    have okD := ttS_ok hb
    have hx : ∃ x : sT, x = plm (plm (su y 0 2 (-1)) k q) 6 (s.2.2 k) := ⟨_, rfl⟩
    obtain ⟨x, hx⟩ := hx
    have x1 : x.1 = (su y 0 2 (-1)).1 := by rw [hx]; rfl
    have xc : ∀ c, c ≠ 0 → x.1 c = y.1 c := fun c a1 => by
      rw [x1]
      funext j
      rw [su_1, if_neg (fun g => a1 g.1)]
    have x0 : ∀ j, j ≠ 1 → j ≠ 2 → x.1 0 j = s.1 0 j := fun j a1 a2 => by
      rw [x1, su_1, if_neg (fun g => a2 g.2), y0 j a1]
    have x2 : ∀ j, x.2.2 j = if j = 6 then s.2.2 k else if j = k then q else s.2.2 j := fun j => by
      rw [hx]
      show (if j = 6 then s.2.2 k else if j = k then q else (su y 0 2 (-1)).2.2 j) = _
      rw [show (su y 0 2 (-1)).2.2 = s.2.2 from y2]
    have dx : dCd T q (ttS T).2.2 x := dCd_c du (fun i hi => by rw [xc _ (by omega), hy]; funext j; rw [su_1, if_neg (by omega)]) (by rw [hx, hy]; rfl)
    have hSk : isS (s.2.2 k) := (isS_pl _ (h1.1 k (by omega))).1
    have xq3 : x.1 q 3 = nI ((ttS T).2.2.1.1 2) := dx.1.1.2.2.1
    have sy2 : (su y 0 2 (-1)).2.2 = s.2.2 := y2
    have ex : rn 71 0 [some (.ref 0), some (.int (nI k)), some (.int (nI n)), none, none] [] (mk X s) = some (some (.int (nI ((ttS T).2.2.1.1 2))), mk X x) := by
      rw [e0, hb, p_C_tapeLength, ← hy, if_neg (by decide), p_C_faultPlace, g_C_now, g_N_sheets, i_N_sheets hk, g_C_now, g_N_sheets, g_C_draft, sy2, ← hq, mk_as X hk hS, mk_pd, ← hx, g_C_now, g_N_sheets, i_N_sheets hk, x2 k, if_neg (by omega), if_pos rfl, g_S_statements hS, xq3]
    have xs : ∀ c, c ≠ 0 → ¬ (78 ≤ c ∧ c ≤ 85) → ¬ (q ≤ c ∧ c < q + 10) → x.1 c = s.1 c := fun c a b d => by rw [xc c a, yc c a b d]
    obtain ⟨w, ew, w2, wc, w14, w17, w321, wk, wo⟩ := (mplate X hT (t := x) (N := G.1.1) (k := k) (by omega) t1 hk (by rw [xs 318 (by decide) (by omega) (by omega)]; exact t3) (t332 x (xs 332 (by decide) (by omega) (by omega)))).2 hb
    rw [eT1] at ew
    have wl : ∀ c, c < 318 → w.1 c = x.1 c := fun c hc' => funext fun j => wc c j (by omega) (by unfold inM; omega) (by omega)
    have wh : ∀ c, 360 ≤ c → w.1 c = x.1 c := fun c hc' => funext fun j => wc c j (by omega) (by unfold inM; omega) (by omega)
    refine ⟨nI ((ttS T).2.2.1.1 2), x, w, ((0, G.1.2), ((fun j => if j = k then true else G.2.1.1 j), (fun j => if j = k then fA (ttS T).2.2.1 else G.2.1.2.1 j), G.2.1.2.2), G.2.2), ex, ew, ⟨fun j hj => ?_, fun i j hi hj e => ?_⟩, ⟨Nat.zero_le _, ?_, w14, fun j hj => absurd hj (Nat.not_lt_zero j)⟩, ?_, fun j hj => ?_, ⟨⟨n1.1, fun j hj htj => ?_⟩, fun j hj => ?_, ?_, ?_⟩, rIm_c ?_ ?_ (fun i p r => ?_) ?_ ?_ h6⟩
    · rw [w2, x2]
      by_cases e6 : j = 6
      · rw [if_pos e6]; exact h1.1 k (by omega)
      · rw [if_neg e6]
        by_cases ek : j = k
        · rw [if_pos ek]; exact hqp
        · rw [if_neg ek]; exact h1.1 j hj
    · rw [w2, x2, x2] at e
      have inj := h1.2
      by_cases i6 : i = 6
      · by_cases j6 : j = 6
        · omega
        · rw [if_pos i6, if_neg j6] at e
          by_cases jk : j = k
          · rw [if_pos jk, hq] at e
            have := inj k 6 (by omega) (by decide) e
            omega
          · rw [if_neg jk] at e
            have := inj k j (by omega) hj e
            omega
      · rw [if_neg i6] at e
        by_cases j6 : j = 6
        · rw [if_pos j6] at e
          by_cases ik : i = k
          · rw [if_pos ik, hq] at e
            have := inj 6 k (by decide) (by omega) e
            omega
          · rw [if_neg ik] at e
            have := inj i k hi (by omega) e
            omega
        · rw [if_neg j6] at e
          by_cases ik : i = k
          · by_cases jk : j = k
            · omega
            · rw [if_pos ik, if_neg jk, hq] at e
              have := inj 6 j (by decide) hj e
              omega
          · by_cases jk : j = k
            · rw [if_neg ik, if_pos jk, hq] at e
              have := inj i 6 hi (by decide) e
              omega
            · rw [if_neg ik, if_neg jk] at e
              exact inj i j hi hj e
    · rw [wl 0 (by decide), x1, su_1, if_neg (by omega)]; exact y01
    · unfold rFa
      rw [w17, wl 0 (by decide), x1, su_1, if_pos ⟨rfl, rfl⟩]
    · rw [wl 2 (by decide), xs 2 (by decide) (by omega) (by omega), wc 319 j (by omega) (by unfold inM; omega) (by omega), xs 319 (by decide) (by omega) (by omega)]
      exact h4 j hj
    · show okA (if j = k then fA (ttS T).2.2.1 else G.2.1.2.1 j)
      have htj : (if j = k then true else G.2.1.1 j) = true := htj
      by_cases ek : j = k
      · rw [if_pos ek]; exact fA_ok okD.1
      · rw [if_neg ek] at htj ⊢
        exact n1.2 j hj htj
    · obtain ⟨p1, p2, p3⟩ := n2 j hj
      have ap := apart j hj
      have hpj := isS_pl _ (h1.1 j (by omega))
      rw [w2, x2 j, if_neg (show ¬ j = 6 by omega), w321 j]
      show _ = (if (if j = k then true else G.2.1.1 j) then nI 1 else nI 0) ∧ _ = (if (if j = k then true else G.2.1.1 j) then nI 1 else nI 0) ∧ ((if j = k then true else G.2.1.1 j) = true → isC w _ (if j = k then fA (ttS T).2.2.1 else G.2.1.2.1 j) ∧ isM (gN w) j (if j = k then fA (ttS T).2.2.1 else G.2.1.2.1 j))
      by_cases ek : j = k
      · rw [if_pos ek, if_pos ek, if_pos ek, if_pos ek, if_pos rfl]
        refine ⟨?_, rfl, fun _ => ⟨isC_cong (s := x) (fun i hi => wl _ (by omega)) dx.1, by rw [ek]; exact wk⟩⟩
        rw [wl q (by omega)]
        exact dx.2.1
      · rw [if_neg ek, if_neg ek, if_neg ek, if_neg ek]
        refine ⟨?_, ?_, fun htj => ⟨isC_cong (s := s) (fun i hi => ?_) (p3 htj).1, ?_⟩⟩
        · rw [wl _ (by omega), xs _ (by omega) (by omega) (by omega)]; exact p1
        · rw [xs 321 (by decide) (by omega) (by omega)]; exact p2
        · rw [wl _ (by omega), xs _ (by omega) (by omega) (by omega)]
        · exact wo j _ hj ek (n1.2 j hj htj) (isM_all (fun c p r => xs c (by omega) (by omega) (by omega)) (p3 htj).2)
    · intro j hj
      rw [wl 5 (by decide), xs 5 (by decide) (by omega) (by omega)]; exact n3 j hj
    · rw [wc 318 1 (by omega) (by unfold inM; simp) (by omega), xs 318 (by decide) (by omega) (by omega)]; exact n4
    · rw [wl 0 (by decide), x0 6 (by decide) (by decide)]
    · rw [wc 318 61 (by omega) (by unfold inM; simp) (by omega), xs 318 (by decide) (by omega) (by omega)]
    · rw [wl i (by omega), xs i (by omega) (by omega) (by omega)]
    · rw [wh 360 (by decide), xs 360 (by decide) (by omega) (by omega)]
    · rw [wh 361 (by decide), xs 361 (by decide) (by omega) (by omega)]

/-! put, told -/
def shf (T : txT) (D : drT) (P : Nat) : Nat := if okn T P then fa_first (fun k => decide (wdv T (D.2 k) = wdv T P)) (D.1.1 3) else D.1.1 3
def ptS2 (T : txT) (D : drT) (k x y P : Nat) : rsT := if tK T 4 P then (if tN T 0 3 (nx T P) then (true, nx T (nx T P), (ptA D.1 k x y (nv T (nx T P)), D.2)) else (false, nx T P, D)) else (true, P, (ptA D.1 k x y 0, D.2))
def ptS1 (T : txT) (D : drT) (k P : Nat) : rsT := if tP T 0 0 (D.1.1 0) (D.1.1 1) P then ptS2 T D k (nv T P) (nv T (nx T P)) (nx T (nx T P)) else (false, plP T 0 0 (D.1.1 0) (D.1.1 1) P, D)
def ptS (T : txT) (D : drT) (P : Nat) : rsT := if shf T D P < D.1.1 3 then ptS1 T D (shf T D P) (nx T P) else (false, P, D)
section ST
variable {T : txT} {P q : Nat} {s t u : sT} {D : drT}
theorem ptA_ok (h : okDr T D) {k x y r : Nat} : okDr T (ptA D.1 k x y r, D.2) := ⟨thA_ok h.1 (ptG_ins h.1), h.2.1, h.2.2⟩
theorem ptS_ok (h : okDr T D) : (ptS T D P).1 = true → okDr T (ptS T D P).2.2 := by
  unfold ptS
  by_cases c : shf T D P < D.1.1 3
  · rw [if_pos c]
    unfold ptS1
    cases c1 : tP T 0 0 (D.1.1 0) (D.1.1 1) (nx T P)
    · exact fun z => by cases z
    · rw [if_pos rfl]
      unfold ptS2
      cases c2 : tK T 4 (nx T (nx T (nx T P)))
      · exact fun _ => ptA_ok h
      · rw [if_pos rfl]
        cases c3 : tN T 0 3 (nx T (nx T (nx T (nx T P))))
        · exact fun z => by cases z
        · exact fun _ => ptA_ok h
  · rw [if_neg c]
    exact fun z => by cases z
theorem fa_cong {p p' : Nat → Bool} : ∀ m, (∀ j, j < m → p j = p' j) → fa_first p m = fa_first p' m
  | 0, _ => rfl
  | m + 1, h => by
    unfold fa_first
    rw [fa_cong m (fun j hj => h j (by omega)), h m (by omega)]
theorem shf_C (ok : okDr T D) : (if okn T P then fa_first (fun k => decide (p27 T (D.2 k) = p27 T P)) (D.1.1 3) else D.1.1 3) = shf T D P := by
  unfold shf
  by_cases h : okn T P
  · rw [if_pos h, if_pos h]
    refine fa_cong _ (fun j hj => ?_)
    rw [Bool.eq_iff_iff, decide_eq_true_iff, decide_eq_true_iff]
    exact p27_iff (ok.2.2 j hj) h
  · rw [if_neg h, if_neg h]
theorem C_find (X : qz_X) (hq : isS q) (ok : okDr T D) (hd : dCd T q D s) : rn 39 0 [some (.ref 78), some (.long (lN (if okn T P then p27 T P else 0))), none, some (.ref q), none] [] (mk X s) = some (some (.int (if shf T D P < D.1.1 3 then nI (shf T D P) else -1)), mk X s) := by
  have h10 : s.1 q 10 = nI (D.1.1 3) := hd.1.1.2.2.2.1
  rw [C_named X hq ok.1.2.2.2.1 h10 (nn := fun i => p27 T (D.2 i)) (fun i hi => ⟨hd.2.2.2 i hi, (p27_bd (ok.2.2 i hi)).2⟩) (by
    by_cases h : okn T P
    · rw [if_pos h]; exact (p27_bd h).2
    · rw [if_neg h]; decide)]
  rw [← shf_C ok]
  by_cases h : okn T P
  · rw [if_pos h, if_pos h]
  · rw [if_neg h, if_neg h, fa_none (fun j hj => decide_eq_false (fun e => by have := (p27_bd (ok.2.2 j hj)).1; omega))]
theorem M_find (X : qz_X) (hP : P ≤ T.1) (ok : okDr T D) (hd : dMd T D t) : rn 89 0 [some (.ref 318), some (.long (lN (wdv T P))), none, none] [] (mk X t) = some (some (.int (if fa_first (fun k => decide (wdv T (D.2 k) = wdv T P)) (D.1.1 3) < D.1.1 3 then nI (48 + fa_first (fun k => decide (wdv T (D.2 k) = wdv T P)) (D.1.1 3)) else -1)), mk X t) :=
  M_named X hd.1 rfl ok.1.2.2.2.1 (nn := fun i => wdv T (D.2 i)) (fun i hi => ⟨hd.2 i hi, by
    rw [okn_wdv (ok.2.2 i hi), gp_pkw]
    have hb := ok.2.2 i hi
    have hP2 : D.2 i ≤ T.1 := by have := (ln_en hb.1 (Or.inl rfl)).1; omega
    have := wdv_lt hP2
    rw [okn_wdv hb, gp_pkw] at this
    exact this⟩) (wdv_lt hP)
theorem wdv_0 (h : kd T P = 1 → 8 < ln T P) : wdv T P = 0 := by
  unfold wdv wdl
  by_cases h1 : kd T P = 1
  · rw [if_pos h1, if_neg (by have := h h1; omega)]
  · rw [if_neg h1, if_pos (by decide)]
    rfl
theorem wdv_n0 (h1 : kd T P = 1) (h8 : ln T P ≤ 8) : 0 < wdv T P := by
  obtain ⟨hP, _, hd⟩ := ln_en h1 (Or.inl rfl)
  have hl := ln_pos hP
  have hb := (pkw_bd (f := wdf T P) (ln T P) (fun i hi => kdb1_b (hd i hi))).2 hl.1
  unfold wdv wdl
  rw [if_pos h1, if_pos h8]
  have : 0 < 256 ^ (ln T P - 1) := Nat.pow_pos (by decide)
  omega
theorem shf_kw (ok : okDr T D) (hP : P ≤ T.1) (hk : kd T P = 1 ∧ kw T P < 20) : ∀ j, j < D.1.1 3 → decide (wdv T (D.2 j) = wdv T P) = false := by
  intro j hj
  refine decide_eq_false (fun e => ?_)
  have hb := ok.2.2 j hj
  have hP2 : D.2 j ≤ T.1 := by have := (ln_en hb.1 (Or.inl rfl)).1; omega
  have e1 := (kw_iff hP hk.2).mpr ⟨hk.1, rfl⟩
  have e2 := (kw_iff hP2 hk.2).mp (e.trans e1)
  have := hb.2.2
  omega
theorem okn_lt (h : okn T P) : P < T.1 := (ln_en h.1 (Or.inl rfl)).1
theorem C_put (X : qz_X) (hT : okT T) (hq : isS q) (hq2 : q < 70) (ok : okDr T D) (h : cPo T P s) (hd : dCd T q D s) : CRn X T q s 49 [some (.ref 78), some (.ref q), none, none] (ptS T D P) := by
  have h1 := ok.1.1
  have h2 := ok.1.2.1
  have h3 := ok.1.2.2.2.1
  unfold CRn ptS
  rw [e_Teller_tellPut_0, ck_L, C_name X hT h, r2_s, ck_L, C_find X hq ok hd, r1_s]
  by_cases c : shf T D P < D.1.1 3
  · have hP : P < T.1 := okn_lt (by
      by_cases hk : okn T P
      · exact hk
      · unfold shf at c; rw [if_neg hk] at c; omega)
    rw [if_pos c, if_neg (nI_m1 (by omega)), if_pos c, g_L_at, p_L_at]
    have cu : cPo T (nx T P) (up2 s) := cPo_up h hP
    have du := dCd_78 hq hd (o78_up s)
    rw [show su s 78 2 (s.1 78 2 + nI 1) = up2 s from rfl]
    obtain ⟨z, e1, o1, c1, v1⟩ : ∃ u : sT, rn 43 0 [some (.ref 78), some (.ref q)] [] (mk X (up2 s)) = some (some (.int (bI (tP T 0 0 (D.1.1 0) (D.1.1 1) (nx T P)))), mk X u) ∧ o78 (up2 s) u ∧ cPo T (plP T 0 0 (D.1.1 0) (D.1.1 1) (nx T P)) u ∧ (tP T 0 0 (D.1.1 0) (D.1.1 1) (nx T P) = true → u.1 78 4 = nI (nv T (nx T P)) ∧ u.1 78 5 = nI (nv T (nx T (nx T P)))) := C_place X hT cu (fA_ok ok.1) hq du.1
    have oz : o78 s z := (o78_up s).tr o1
    rw [ck_L, e1, r1_s]
    unfold ptS1
    cases c2 : tP T 0 0 (D.1.1 0) (D.1.1 1) (nx T P)
    · exact ⟨z, by rw [if_pos (by decide)]; rfl, oz.fr, c1, fun z => by cases z⟩
    · obtain ⟨p1, p2, p3, p4, p5⟩ := plP_y c2
      obtain ⟨x1, x2⟩ := v1 c2
      rw [p1] at c1
      have dz := dCd_78 hq hd oz
      rw [if_neg (by decide), ck_L, C_key X hT c1 (by decide), r1_s, if_pos rfl]
      unfold ptS2
      have fin : ∀ (y : sT) (r : Nat), o78 s y → y.1 78 4 = nI (nv T (nx T P)) → y.1 78 5 = nI (nv T (nx T (nx T P))) → r < 4 → ∃ w : sT, rn 48 0 [some (.ref q), some (.int (nI (shf T D P))), some (.int (nI (nv T (nx T P)))), some (.int (nI (nv T (nx T (nx T P))))), some (.int (nI r)), none, none, none, none] [] (mk X y) = some (none, mk X w) ∧ frC q s w ∧ (∀ Q, cPo T Q y → cPo T Q w) ∧ dCd T q (ptA D.1 (shf T D P) (nv T (nx T P)) (nv T (nx T (nx T P))) r, D.2) w := fun y r oy y4 y5 hr => by
        have dy := dCd_78 hq hd oy
        obtain ⟨w, ew, w2, wc, wi⟩ := putC X hq hq2 (fA_ok ok.1) dy.1 (k := shf T D P) (x := nv T (nx T P)) (y := nv T (nx T (nx T P))) (r := r) c (by omega) (by omega) hr
        refine ⟨w, ew, oy.fr.tr ⟨by rw [w2], fun c hc => wc c (by omega)⟩, fun Q hQ => cPo_cong hQ (fun c p r => wc c (by omega)) (by rw [wc 78 (by omega)]), ?_⟩
        exact ⟨wi, by rw [wc q (by omega)]; exact dy.2.1, fun b g1 g2 y' hy' => by rw [wc (q + 6) (by omega)]; exact dy.2.2.1 b g1 g2 y' hy', fun i hi => by rw [w2]; exact dy.2.2.2 i hi⟩
      cases ck : tK T 4 (nx T (nx T (nx T P)))
      · obtain ⟨w, ew, fw, cw, dw⟩ := fin z 0 oz x1 x2 (by decide)
        refine ⟨w, ?_, fw, cw _ c1, fun _ => dw⟩
        rw [if_pos (by decide), if_neg (by decide), g_L_x, x1, g_L_y, x2, ck_S hq, ew, r0_s]
        rfl
      · have hkP : nx T (nx T (nx T P)) < T.1 := kd_lt.mp (by have := (of_decide_eq_true ck).1; omega)
        have cy : cPo T (nx T (nx T (nx T (nx T P)))) (up2 z) := cPo_up c1 hkP
        rw [if_neg (by decide), if_pos rfl, ck_L, C_num X hT cy (by decide) (by decide), r1_s, if_pos rfl]
        cases c3 : tN T 0 3 (nx T (nx T (nx T (nx T P))))
        · exact ⟨up2 z, by rw [if_pos (by decide)]; rfl, (oz.tr (o78_up z)).fr, cy, fun z => by cases z⟩
        · have t3 := tN_lt c3
          have hx : ∃ x : sT, x = up2 (su (up2 z) 78 3 (nI (nv T (nx T (nx T (nx T (nx T P))))))) := ⟨_, rfl⟩
          obtain ⟨x, hx⟩ := hx
          have ox : o78 s x := by rw [hx]; exact ((oz.tr (o78_up z)).tr o78_su).tr (o78_up _)
          have cx : cPo T (nx T (nx T (nx T (nx T (nx T P))))) x := by rw [hx]; exact cPo_up (cPo_78 cy (by decide)) t3.1
          have x3 : x.1 78 3 = nI (nv T (nx T (nx T (nx T (nx T P))))) := by rw [hx, up2_o (by decide), su_1, if_pos ⟨rfl, rfl⟩]
          have x4 : x.1 78 4 = nI (nv T (nx T P)) := by rw [hx, up2_o (by decide), su_1, if_neg (by omega), up2_o (by decide)]; exact x1
          have x5 : x.1 78 5 = nI (nv T (nx T (nx T P))) := by rw [hx, up2_o (by decide), su_1, if_neg (by omega), up2_o (by decide)]; exact x2
          obtain ⟨w, ew, fw, cw, dw⟩ := fin x _ ox x4 x5 (show nv T (nx T (nx T (nx T (nx T P)))) < 4 by omega)
          refine ⟨w, ?_, fw, cw _ cx, fun _ => dw⟩
          rw [if_neg (by decide), if_pos rfl, ← hx, g_L_number, x3, g_L_x, x4, g_L_y, x5, ck_S hq, ew, r0_s]
          rfl
  · rw [if_neg c, if_pos rfl, if_neg c]
    exact ⟨s, rfl, frC.rf s, h, fun z => by cases z⟩
theorem M_put (X : qz_X) (hT : okT T) (ok : okDr T D) (h : mPo T P t) (hd : dMd T D t) : MRn X T t 95 [some (.ref 318), none, none, none, none, none, none, none, none] (ptS T D P) := by
  have h1 := ok.1.1
  have h2 := ok.1.2.1
  have h3 := ok.1.2.2.2.1
  have hP := (mPo_le h).1
  have k20 := kw20 T P
  have dW := dMd_o hd (W20_o T P t)
  unfold MRn ptS
  rw [e_M_put_0, ck_M, word_run X hT h, r2_s]
  by_cases hw : kd T P = 1 ∧ ln T P ≤ 8
  · have hw0 := wdv_n0 hw.1 hw.2
    have hwl := wdv_lt hP
    rw [if_neg (fun z => by have := (pk_lEQ hwl (by decide)).mp ((lg_cmp_eq _ _).mp z); omega), ck_M, M_find X hP ok dW, r1_s]
    have hf : fa_first (fun k => decide (wdv T (D.2 k) = wdv T P)) (D.1.1 3) = shf T D P := by
      unfold shf
      by_cases hk : okn T P
      · rw [if_pos hk]
      · rw [if_neg hk]
        exact fa_none (shf_kw ok hP ⟨hw.1, by
          rcases Nat.lt_or_ge (kw T P) 20 with g | g
          · exact g
          · exact absurd ⟨hw.1, hw.2, by omega⟩ hk⟩)
    rw [hf]
    by_cases c : shf T D P < D.1.1 3
    · rw [if_pos c, if_neg (nI_m1 (by omega)), if_pos c, g_M_wordEnd, W20_20, p_M_at]
      have hu : ∃ u : sT, u = su (W20 T P t) 318 16 (nI (P + wdl T P)) := ⟨_, rfl⟩
      obtain ⟨u, hu⟩ := hu
      have ou : oM [16, 20] t u := by rw [hu]; exact (W20_o T P t).tr (oM_su (by decide))
      have mu : mPo T (nx T P) u := by rw [hu]; exact W20_nx h hw.1
      have du := dMd_o hd ou
      rw [← hu]
      obtain ⟨z, e1, o1, c1, v1⟩ := M_place X hT mu ok.1 du.1 (a := 0) (b := 0) (by decide) (by decide)
      have fz := (ou.fr (by decide)).tr (o1.fr (by decide))
      rw [ck_M, e1, r1_s]
      unfold ptS1
      cases c2 : tP T 0 0 (D.1.1 0) (D.1.1 1) (nx T P)
      · exact ⟨z, by rw [if_pos (by decide)]; rfl, fz, c1, fun z => by cases z⟩
      · obtain ⟨p1, p2, p3, p4, p5⟩ := plP_y c2
        obtain ⟨x1, x2⟩ := v1 c2
        rw [p1] at c1
        have dz := dMd_o du o1
        obtain ⟨y, ey, oy, cy⟩ := M_key X hT c1 (k := 4) (by decide) (v := lN 128047779833188)
        have fy := fz.tr (oy.fr (by decide))
        have dy := dMd_o dz oy
        rw [if_neg (by decide), ck_M, ey, r1_s, if_pos rfl]
        unfold ptS2
        have fin : ∀ (x : sT) (r : Nat), frM t x → dMd T D x → x.1 318 25 = nI (nv T (nx T P)) → x.1 318 26 = nI (nv T (nx T (nx T P))) → r < 4 → ∃ w : sT, rn 95 80 [some (.ref 318), none, none, some (.int (nI (48 + shf T D P))), some (.int (nI r)), some (.int (nI 0)), none, none, none] [] (mk X x) = some (some (.int (nI 1)), mk X w) ∧ frM t w ∧ (∀ Q, mPo T Q x → mPo T Q w) ∧ dMd T (ptA D.1 (shf T D P) (nv T (nx T P)) (nv T (nx T (nx T P))) r, D.2) w := fun x r fx dx y4 y5 hr => by
          obtain ⟨w, ew, w2, wc, wl, wi⟩ := putM X ok.1 dx.1 (k := shf T D P) (x := nv T (nx T P)) (y := nv T (nx T (nx T P))) (r := r) c (by omega) (by omega) hr y4 y5
          refine ⟨w, ew, fx.tr ⟨by rw [w2], fun c j hc => ?_⟩, fun Q hQ => mPo_c hQ (wc 318 (by decide)) (wc 333 (by decide)), wi, fun i hi => by rw [w2]; exact dx.2 i hi⟩
          by_cases e3 : c = 322
          · subst e3
            exact wl j (by
              rcases Nat.lt_or_ge j 2400 with g | g
              · exact g
              · exact absurd (by unfold inM; omega) hc)
          · rw [wc c e3]
        have y25 : y.1 318 25 = nI (nv T (nx T P)) := by rw [oy.2 318 25 (by decide)]; exact x1
        have y26 : y.1 318 26 = nI (nv T (nx T (nx T P))) := by rw [oy.2 318 26 (by decide)]; exact x2
        cases ck : tK T 4 (nx T (nx T (nx T P)))
        · rw [ck] at cy
          obtain ⟨w, ew, fw, cw, dw⟩ := fin y 0 fy dy y25 y26 (by decide)
          refine ⟨w, ?_, fw, cw _ cy, fun _ => dw⟩
          rw [if_pos (by decide), if_neg (by decide), ew]
          rfl
        · rw [ck, if_pos rfl] at cy
          obtain ⟨x, ex, ox, cx, vx⟩ := M_num X hT cy (lo := 0) (hi := 3) (by decide) (by decide)
          have fx := fy.tr (ox.fr (by decide))
          rw [if_neg (by decide), ck_M, ex, r1_s, if_pos rfl]
          cases c3 : tN T 0 3 (nx T (nx T (nx T (nx T P))))
          · rw [c3] at cx
            exact ⟨x, by rw [if_pos (by decide)]; rfl, fx, cx, fun z => by cases z⟩
          · rw [c3, if_pos rfl] at cx
            have t3 := tN_lt c3
            obtain ⟨w, ew, fw, cw, dw⟩ := fin x _ fx (dMd_o dy ox) (by rw [ox.2 318 25 (by decide)]; exact y25) (by rw [ox.2 318 26 (by decide)]; exact y26) (show nv T (nx T (nx T (nx T (nx T P)))) < 4 by omega)
            refine ⟨w, ?_, fw, cw _ cx, fun _ => dw⟩
            rw [if_neg (by decide), g_M_read, vx c3, ew]
            rfl
    · rw [if_neg c, if_pos rfl, if_neg c]
      exact ⟨_, rfl, (W20_o T P t).fr (by decide), W20_p h, fun z => by cases z⟩
  · rw [wdv_0 (fun h1 => by
      rcases Nat.lt_or_ge 8 (ln T P) with g | g
      · exact g
      · exact absurd ⟨h1, g⟩ hw), if_pos ((lg_cmp_eq _ _).mpr rfl), if_pos rfl]
    have hk : ¬ okn T P := fun z => hw ⟨z.1, z.2.1⟩
    have hf : shf T D P = D.1.1 3 := by unfold shf; rw [if_neg hk]
    rw [hf, if_neg (Nat.lt_irrefl _)]
    exact ⟨_, rfl, (W20_o T P t).fr (by decide), W20_p h, fun z => by cases z⟩
end ST

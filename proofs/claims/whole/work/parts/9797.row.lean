/-! row, hold, worth -/
def rowA (A : shT) (y l : Nat) (f : Nat → Bool) : shT := (A.1, (fun k => if k / 20 = y ∧ k % 20 < l then f (k % 20) else A.2.1 k), A.2.2)
def sqf (T : txT) (P x : Nat) : Bool := decide (T.2 (P + x) = 116)
def rwS (T : txT) (D : drT) (P : Nat) : rsT := if tN T 0 (D.1.1 1 - 1) P then (if tQ T 1 (D.1.1 0) (nx T P) then (true, nx T (nx T P), (rowA D.1 (nv T P) (ln T (nx T P)) (sqf T (nx T P)), D.2)) else (false, nx T P, D)) else (false, P, D)
section ST
variable {T : txT} {P q : Nat} {s t : sT} {D : drT}
theorem tQ_lt {lo hi : Nat} (h : tQ T lo hi P = true) : P < T.1 ∧ lo ≤ ln T P ∧ ln T P ≤ hi := by
  have := of_decide_eq_true h
  exact ⟨kd_lt.mp (by omega), this.2.1, this.2.2.1⟩
theorem rwS_ok (h : okDr T D) : (rwS T D P).1 = true → okDr T (rwS T D P).2.2 := by
  unfold rwS
  cases c : tN T 0 (D.1.1 1 - 1) P
  · exact fun z => by cases z
  · rw [if_pos rfl]
    cases c2 : tQ T 1 (D.1.1 0) (nx T P)
    · exact fun z => by cases z
    · intro _
      rw [if_pos rfl]
      have hv := tN_lt c
      have hq := tQ_lt c2
      obtain ⟨⟨o1, o2, o3, o4, o5, o6, o7, o8, o9, o10, o11⟩, p2, p3⟩ := h
      refine ⟨⟨o1, o2, o3, o4, o5, o6, o7, o8, o9, fun k hk hb => ?_, o11⟩, p2, p3⟩
      have hb : (if k / 20 = nv T P ∧ k % 20 < ln T (nx T P) then sqf T (nx T P) (k % 20) else D.1.2.1 k) = true := hb
      by_cases e : k / 20 = nv T P ∧ k % 20 < ln T (nx T P)
      · show (decide (k % 20 < D.1.1 0) && decide (k / 20 < D.1.1 1)) = true
        rw [decide_eq_true (by omega), decide_eq_true (by omega)]
        rfl
      · rw [if_neg e] at hb
        exact o10 k hk hb
theorem C_row (X : qz_X) (hT : okT T) (hq : isS q) (hq2 : q < 70) (ok : okDr T D) (h : cPo T P s) (hd : dCd T q D s) : CRn X T q s 37 [some (.ref 78), some (.ref q), none, none] (rwS T D P) := by
  have h1 := ok.1.1
  have h2 := ok.1.2.1
  have b1 : s.1 q 1 = nI (D.1.1 0) := hd.1.1.1
  have b2 : s.1 q 2 = nI (D.1.1 1) := hd.1.1.2.1
  unfold CRn rwS
  rw [e_Teller_tellRow_0, g_S_high hq, b2, pk_sub (by omega), ck_L, C_num X hT h (by decide) (by omega), r1_s]
  cases c : tN T 0 (D.1.1 1 - 1) P
  · exact ⟨s, by rw [if_pos (by decide)]; rfl, frC.rf s, h, fun z => by cases z⟩
  · have hv := tN_lt c
    have hz : ∃ z : sT, z = up2 (su s 78 3 (nI (nv T P))) := ⟨_, rfl⟩
    obtain ⟨z, hz⟩ := hz
    have oz : o78 s z := by rw [hz]; exact o78_su.tr (o78_up _)
    have cz : cPo T (nx T P) z := by rw [hz]; exact cPo_up (cPo_78 h (by decide)) hv.1
    have z3 : z.1 78 3 = nI (nv T P) := by rw [hz, up2_o (by decide), su_1, if_pos ⟨rfl, rfl⟩]
    have zd := dCd_78 hq hd oz
    have zq : z.1 q 1 = nI (D.1.1 0) := zd.1.1.1
    rw [if_neg (by decide), if_pos rfl, ← hz, g_L_number, z3, g_S_wide hq, zq, ck_L, C_squares X hT cz (by decide) (by omega), r1_s, if_pos rfl]
    cases c2 : tQ T 1 (D.1.1 0) (nx T P)
    · exact ⟨z, by rw [if_pos (by decide)]; rfl, oz.fr, cz, fun z => by cases z⟩
    · have hl := tQ_lt c2
      have hy : ∃ y : sT, y = up2 (su (su z 78 6 (nI (qv T (nx T P) (ln T (nx T P))))) 78 7 (nI (ln T (nx T P)))) := ⟨_, rfl⟩
      obtain ⟨y, hy⟩ := hy
      have oy : o78 s y := by rw [hy]; exact ((oz.tr o78_su).tr o78_su).tr (o78_up _)
      have cy : cPo T (nx T (nx T P)) y := by rw [hy]; exact cPo_up (cPo_78 (cPo_78 cz (by decide)) (by decide)) hl.1
      have y7 : y.1 78 7 = nI (ln T (nx T P)) := by rw [hy, up2_o (by decide), su_1, if_pos ⟨rfl, rfl⟩]
      have y6 : y.1 78 6 = nI (qv T (nx T P) (ln T (nx T P))) := by rw [hy, up2_o (by decide), su_1, if_neg (by omega), su_1, if_pos ⟨rfl, rfl⟩]
      have yd := dCd_78 hq hd oy
      rw [if_neg (by decide), if_pos rfl, ← hy, g_L_squaresLong, y7, g_S_through hq, g_S_through hq, i_S_through hq (by omega), g_L_squares, y6, w_S_through hq (by omega)]
      refine ⟨_, rfl, oy.fr.tr (frC_su (by omega)), cPo_su cy (by omega), fun _ => ?_⟩
      obtain ⟨⟨a1, c2', c3, c4, c5, c6, c7⟩, a2, a3, a4⟩ := yd
      have e : ∀ i x, i ≠ 1 → (su y (q + 1) (nv T P) x).1 (q + i) = y.1 (q + i) := fun i x hi => funext fun k => by rw [su_1, if_neg (by omega)]
      have e0 : ∀ x, (su y (q + 1) (nv T P) x).1 q = y.1 q := fun x => e 0 x (by decide)
      refine ⟨?_, by rw [e0]; exact a2, fun b g1 g2 y' hy' => by rw [e 6 _ (by decide)]; exact a3 b g1 g2 y' hy', a4⟩
      unfold isC
      rw [e0, e 2 _ (by decide), e 3 _ (by decide), e 4 _ (by decide), e 5 _ (by decide), e 6 _ (by decide), e 7 _ (by decide), e 8 _ (by decide), e 9 _ (by decide)]
      refine ⟨a1, fun y' hy' x hx => ?_, c3, c4, c5, c6, c7⟩
      show _ = (decide (x < 20) && (if (20 * y' + x) / 20 = nv T P ∧ (20 * y' + x) % 20 < ln T (nx T P) then sqf T (nx T P) ((20 * y' + x) % 20) else D.1.2.1 (20 * y' + x)))
      have old := c2' y' hy' x hx
      have old : bt (y.1 (q + 1) y') x = (decide (x < 20) && D.1.2.1 (20 * y' + x)) := old
      rw [su_1]
      by_cases ey : y' = nv T P
      · have hqv := qv_lt T (nx T P) (ln T (nx T P))
        have h20 : 2 ^ ln T (nx T P) ≤ 2 ^ 20 := Nat.pow_le_pow_right (by decide) (by omega)
        rw [if_pos ⟨rfl, ey⟩, b_or, b_and, b_not _ hx, b_low _ (by omega) x hx, bt_nat (by omega), qv_bit, ← ey, old]
        by_cases hx20 : x < 20
        · rw [decide_eq_true hx20, Bool.true_and, Bool.true_and, show (20 * y' + x) / 20 = y' by omega, show (20 * y' + x) % 20 = x by omega]
          by_cases hxl : x < ln T (nx T P)
          · rw [if_pos ⟨rfl, hxl⟩, decide_eq_true hxl]
            unfold sqf
            simp [hxl]
          · rw [if_neg (fun z => hxl z.2), decide_eq_false hxl, decide_eq_false (fun z => hxl z.1)]
            simp
        · have hz : decide (x < ln T (nx T P) ∧ T.2 (nx T P + x) = 116) = false := decide_eq_false (fun z => by omega)
          rw [decide_eq_false hx20, hz]
          simp
      · rw [if_neg (fun z => ey z.2), old]
        by_cases hx20 : x < 20
        · rw [if_neg (by omega)]
        · rw [decide_eq_false hx20]; rfl
theorem M_row (X : qz_X) (hT : okT T) (ok : okDr T D) (h : mPo T P t) (hd : dMd T D t) : MRn X T t 85 [some (.ref 318), none, none] (rwS T D P) := by
  have h1 := ok.1.1
  have h2 := ok.1.2.1
  unfold MRn rwS
  obtain ⟨u, e, o, m, v⟩ := M_num X hT h (lo := 0) (hi := D.1.1 1 - 1) (by decide) (by omega)
  rw [e_M_row_0, ck_M, M_high_run X (by decide) hd.1, r1_s, ck_M, pk_sub (by omega), e, r1_s]
  cases c : tN T 0 (D.1.1 1 - 1) P
  · rw [c] at m
    exact ⟨u, by rw [if_pos (by decide)]; rfl, o.fr (by decide), m, fun z => by cases z⟩
  · rw [c] at m
    have m : mPo T (nx T P) u := m
    have hv := tN_lt c
    have du := dMd_o hd o
    obtain ⟨z, ez, oz, mz, vz⟩ := M_squares X hT m (lo := 1) (hi := D.1.1 0) (by decide) (by decide) (by omega)
    rw [if_neg (by decide), g_M_read, v c, ck_M, M_wide_run X (by decide) du.1, r1_s, ck_M, ez, r1_s, if_pos rfl]
    have fz : frM t z := (o.fr (by decide)).tr (oz.fr (by decide))
    cases c2 : tQ T 1 (D.1.1 0) (nx T P)
    · rw [c2] at mz
      exact ⟨z, by rw [if_pos (by decide)]; rfl, fz, mz, fun z => by cases z⟩
    · rw [c2] at mz
      have hl := tQ_lt c2
      obtain ⟨v1, v2⟩ := vz c2
      have dz := dMd_o du oz
      have hqv := qv_lt T (nx T P) (ln T (nx T P))
      have h20 : 2 ^ ln T (nx T P) ≤ 2 ^ 20 := Nat.pow_le_pow_right (by decide) (by omega)
      obtain ⟨y, ⟨y2, yc, y3⟩, ey⟩ := it_up (fun i (y : sT) => rn 85 41 [some (.ref 318), some (.int (nI (nv T P))), some (.int (nI i))] [] (mk X y)) (fun i y => y.2 = z.2 ∧ (∀ c, c ≠ 322 → y.1 c = z.1 c) ∧ ∀ k, y.1 322 k = if k / 20 = 120 + nv T P ∧ k % 20 < i then (if sqf T (nx T P) (k % 20) then nI 1 else nI 0) else z.1 322 k) (Nat.zero_le (ln T (nx T P))) (by
        rintro i y _ hi ⟨y2, yc, y3⟩
        try dsimp only
        refine ⟨su y 322 (2400 + (20 * nv T P + i)) (if sqf T (nx T P) i then nI 1 else nI 0), ⟨y2, fun c hc => funext fun k => ?_, fun k => ?_⟩, ?_⟩
        · rw [su_1, if_neg (fun z => hc z.1), yc c hc]
        · rw [su_1]
          by_cases ek : k = 2400 + (20 * nv T P + i)
          · rw [if_pos ⟨rfl, ek⟩, if_pos (show k / 20 = 120 + nv T P ∧ k % 20 < i + 1 by omega), show k % 20 = i by omega]
          · rw [if_neg (fun z => ek z.2), y3 k]
            by_cases g : k / 20 = 120 + nv T P ∧ k % 20 < i
            · rw [if_pos g, if_pos (show k / 20 = 120 + nv T P ∧ k % 20 < i + 1 by omega)]
            · rw [if_neg g, if_neg (show ¬ (k / 20 = 120 + nv T P ∧ k % 20 < i + 1) by omega)]
        · rw [e_M_row_41, g_M_squaresMany, yc 318 (by decide), v1, if_neg (nI_ge hi (by omega)), g_M_through, M_at_run, r1_s, g_M_squaresBits, yc 318 (by decide), v2, b_sel _ (by omega), bt_nat (by omega), qv_bit, w_M_through (by omega), nI_add]
          unfold sqf
          by_cases g : T.2 (nx T P + i) = 116
          · rw [decide_eq_true ⟨hi, g⟩, decide_eq_true g]
          · rw [decide_eq_false (fun z => g z.2), decide_eq_false g]) (x := z) ⟨rfl, fun _ _ => rfl, fun k => by rw [if_neg (by omega)]⟩
      try dsimp only at ey
      refine ⟨y, ?_, fz.tr ⟨by rw [y2], fun c j hc => ?_⟩, mPo_c mz (yc 318 (by decide)) (yc 333 (by decide)), fun _ => ⟨?_, fun i hi => by rw [y2]; exact dz.2 i hi⟩⟩
      · rw [if_neg (by decide), ey, e_M_row_41, g_M_squaresMany, yc 318 (by decide), v1, if_pos (nI_le (Nat.le_refl _) (by omega))]
        rfl
      · by_cases e322 : c = 322
        · subst e322
          rw [y3 j, if_neg (fun g => hc (by unfold inM; omega))]
        · rw [yc c e322]
      · refine isM_through (s := z) (A := D.1) (fun c _ _ hc => yc c hc) ⟨rfl, rfl⟩ (fun k hk => ?_) dz.1
        have m2 : z.1 322 (2400 + k) = if D.1.2.1 k then nI 1 else nI 0 := dz.1.2.1 k hk
        show y.1 322 (2400 + k) = if (if k / 20 = nv T P ∧ k % 20 < ln T (nx T P) then sqf T (nx T P) (k % 20) else D.1.2.1 k) then nI 1 else nI 0
        rw [y3, show (2400 + k) / 20 = 120 + k / 20 by omega, show (2400 + k) % 20 = k % 20 by omega, m2]
        by_cases g : k / 20 = nv T P ∧ k % 20 < ln T (nx T P)
        · rw [if_pos (show 120 + k / 20 = 120 + nv T P ∧ k % 20 < ln T (nx T P) by omega), if_pos g]
        · rw [if_neg (show ¬ (120 + k / 20 = 120 + nv T P ∧ k % 20 < ln T (nx T P)) by omega), if_neg g]
/-- sides told one after another -/
def hdL (T : txT) : Nat → Nat → Nat → Nat × Nat
  | 0, acc, P => (acc, P)
  | f + 1, acc, P => if tD T P then hdL T f (acc ||| 2 ^ dv T P) (nx T P) else (acc, P)
def hdS (T : txT) (D : drT) (P : Nat) : rsT := if tD T P then (true, (hdL T 1200 (2 ^ dv T P) (nx T P)).2, (setN D.1 6 (hdL T 1200 (2 ^ dv T P) (nx T P)).1, D.2)) else (false, P, D)
theorem tD_lt (h : tD T P = true) : P < T.1 ∧ dv T P < 4 := by
  have := of_decide_eq_true h
  exact ⟨kd_lt.mp (by omega), by unfold dv; omega⟩
theorem hdL_bd : ∀ f acc P, 1 ≤ acc → acc < 16 → 1 ≤ (hdL T f acc P).1 ∧ (hdL T f acc P).1 < 16
  | 0, acc, P, h1, h2 => ⟨h1, h2⟩
  | f + 1, acc, P, h1, h2 => by
    unfold hdL
    cases c : tD T P
    · rw [if_neg (by decide)]; exact ⟨h1, h2⟩
    · rw [if_pos rfl]
      have hd := (tD_lt c).2
      refine hdL_bd f _ _ ?_ ?_
      · have := Nat.left_le_or (n := acc) (m := 2 ^ dv T P)
        omega
      · exact Nat.or_lt_two_pow (n := 4) h2 (Nat.pow_lt_pow_right (by decide) hd)
theorem hdS_ok (h : okDr T D) : (hdS T D P).1 = true → okDr T (hdS T D P).2.2 := by
  unfold hdS
  cases c : tD T P
  · exact fun z => by cases z
  · intro _
    rw [if_pos rfl]
    have hd := (tD_lt c).2
    have hb := hdL_bd (T := T) 1200 (2 ^ dv T P) (nx T P) (Nat.two_pow_pos _) (Nat.pow_lt_pow_right (n := 4) (by decide) hd)
    obtain ⟨⟨o1, o2, o3, o4, o5, o6, o7, o8⟩, p2, p3⟩ := h
    exact ⟨⟨o1, o2, o3, o4, o5, o6, ⟨hb.1, Nat.le_of_lt_succ hb.2⟩, o8⟩, p2, p3⟩
theorem C_hold (X : qz_X) (hT : okT T) (hq : isS q) (hq2 : q < 70) (h : cPo T P s) (hd : dCd T q D s) : CRn X T q s 51 [some (.ref 78), some (.ref q), none] (hdS T D P) := by
  unfold CRn hdS
  rw [e_Teller_tellHold_0, ck_L, C_side X hT h, r1_s]
  cases c : tD T P
  · exact ⟨s, by rw [if_pos (by decide)]; rfl, frC.rf s, h, fun z => by cases z⟩
  · have hv := tD_lt c
    have ho : o78 s (up2 (su s 78 3 (nI (dv T P)))) := o78_su.tr (o78_up _)
    rw [if_neg (by decide), if_pos rfl, g_L_number, up2_o (by decide), su_1, if_pos ⟨rfl, rfl⟩, p_S_held hq, one_2 _ (by omega), if_pos rfl]
    have key : ∀ f v acc P' (u : sT), v + f = 1200 → frC q s u → cPo T P' u → dCd T q (setN D.1 6 acc, D.2) u → acc < 16 → ∃ z : sT, rn 51 21 [some (.ref 78), some (.ref q), some (.int (nI v))] [] (mk X u) = some (some (.int (nI 1)), mk X z) ∧ frC q s z ∧ cPo T (hdL T f acc P').2 z ∧ dCd T q (setN D.1 6 (hdL T f acc P').1, D.2) z := by
      intro f
      induction f with
      | zero =>
        intro v acc P' u hvf fu cu du ha
        exact ⟨u, by rw [e_Teller_tellHold_21, if_pos (nI_le (by omega) (by omega))], fu, cu, du⟩
      | succ f ih =>
        intro v acc P' u hvf fu cu du ha
        rw [e_Teller_tellHold_21, if_neg (nI_ge (by omega) (by omega)), ck_L, C_side X hT cu, r1_s]
        unfold hdL
        cases c' : tD T P'
        · exact ⟨u, by rw [if_pos (by decide)]; rfl, fu, cu, du⟩
        · have hv' := tD_lt c'
          have ho' : o78 u (up2 (su u 78 3 (nI (dv T P')))) := o78_su.tr (o78_up _)
          have d4 : (up2 (su u 78 3 (nI (dv T P')))).1 q 4 = nI acc := (dCd_78 hq du ho').1.1.2.2.2.2.2.2.1
          rw [if_neg (by decide), if_pos rfl, g_S_held hq, d4, g_L_number, up2_o (by decide), su_1, if_pos ⟨rfl, rfl⟩, p_S_held hq, one_2 _ (by omega), fa_or, nI_add, if_pos rfl]
          have dn := dCd_num (f := 4) (j := 6) (v := acc ||| 2 ^ dv T P') (by omega) (dCd_78 hq du ho')
          have es : setN (setN D.1 6 acc) 6 (acc ||| 2 ^ dv T P') = setN D.1 6 (acc ||| 2 ^ dv T P') := by
            unfold setN
            refine Prod.ext (funext fun i => ?_) rfl
            show (if i = 6 then _ else if i = 6 then _ else _) = (if i = 6 then _ else _)
            by_cases e : i = 6
            · rw [if_pos e, if_pos e]
            · rw [if_neg e, if_neg e, if_neg e]
          have dn : dCd T q (setN D.1 6 (acc ||| 2 ^ dv T P'), D.2) (su (up2 (su u 78 3 (nI (dv T P')))) q 4 (nI (acc ||| 2 ^ dv T P'))) := by
            rw [← es]; exact dn
          exact ih (v + 1) _ _ _ (by omega) ((fu.tr ho'.fr).tr (frC_su (by omega))) (cPo_su (cPo_up (cPo_78 cu (by decide)) hv'.1) (by omega)) dn (Nat.or_lt_two_pow (n := 4) ha (Nat.pow_lt_pow_right (by decide) hv'.2))
    obtain ⟨z, e, f1, c1, d1⟩ := key 1200 0 (2 ^ dv T P) (nx T P) _ (by decide) (ho.fr.tr (frC_su (c := q) (j := 4) (x := nI (2 ^ dv T P)) (by omega))) (cPo_su (cPo_up (cPo_78 h (by decide)) hv.1) (by omega)) (dCd_num (by omega) (dCd_78 hq hd ho)) (Nat.pow_lt_pow_right (n := 4) (by decide) hv.2)
    exact ⟨z, e, f1, c1, fun _ => d1⟩
theorem tS_59 (hT : okT T) (hP : P ≤ T.1) : tS T 59 P = true ↔ (P < T.1 ∧ T.2 P = 59) := by
  unfold tS
  rw [decide_eq_true_iff]
  constructor
  · rintro ⟨h1, h2⟩
    exact ⟨kd_lt.mp (by omega), h2⟩
  · rintro ⟨h1, h2⟩
    refine ⟨?_, h2⟩
    rw [kd_y h1, h2]
    decide
theorem nx_le (hP : P ≤ T.1) : nx T P ≤ T.1 := sk_le (ln_le hP)
theorem nx_gt (hP : P < T.1) : P < nx T P := by
  have := ln_pos hP
  have h2 : P + ln T P ≤ nx T P := sk_ge
  omega
theorem M_hold (X : qz_X) (hT : okT T) (h : mPo T P t) (hd : dMd T D t) : MRx X T t 97 [some (.ref 318), none] (hdS T D P) := by
  have hn := hT.1
  have key : ∀ f acc P (u : sT), T.1 < P + f → acc < 16 → frM t u → mPo T P u → dMd T D u → (tD T P = false ∧ ∃ z : sT, rn 97 2 [some (.ref 318), some (.int (nI acc))] [] (mk X u) = some (some (.int (nI 0)), mk X z) ∧ frM t z ∧ mPo T P z) ∨ (tD T P = true ∧ ((∃ z : sT, rn 97 2 [some (.ref 318), some (.int (nI acc))] [] (mk X u) = some (some (.int (nI 1)), mk X z) ∧ frM t z ∧ mPo T (hdL T (f - 1) (acc ||| 2 ^ dv T P) (nx T P)).2 z ∧ dMd T (setN D.1 6 (hdL T (f - 1) (acc ||| 2 ^ dv T P) (nx T P)).1, D.2) z) ∨ (tS T 59 (hdL T (f - 1) (acc ||| 2 ^ dv T P) (nx T P)).2 = false ∧ ∃ z : sT, rn 97 2 [some (.ref 318), some (.int (nI acc))] [] (mk X u) = some (some (.int (nI 0)), mk X z) ∧ frM t z ∧ mPo T (hdL T (f - 1) (acc ||| 2 ^ dv T P) (nx T P)).2 z))) := by
    intro f
    induction f with
    | zero =>
      intro acc P u hf ha fu mu du
      have := (mPo_le mu).1
      omega
    | succ f ih =>
      intro acc P u hf ha fu mu du
      obtain ⟨z, e, o, m, v⟩ := M_side X hT mu
      rw [e_M_hold_2, ck_M, e, r1_s]
      cases c : tD T P
      · rw [c] at m
        exact Or.inl ⟨rfl, z, by rw [if_pos (by decide)], fu.tr (o.fr (by decide)), m⟩
      · refine Or.inr ⟨rfl, ?_⟩
        rw [c] at m
        have m : mPo T (nx T P) z := m
        have hv := tD_lt c
        have hP1 := (mPo_le m).1
        have ha2 : acc ||| 2 ^ dv T P < 16 := Nat.or_lt_two_pow (n := 4) ha (Nat.pow_lt_pow_right (by decide) hv.2)
        rw [if_neg (by decide), g_M_side, v c, ck_M, M_blank X hT m, r0_s, one_2 _ (by omega), fa_or, Nat.add_sub_cancel]
        have o2 : oM [16, 20, 24] u (su z 318 16 (nI (nx T P))) := o.tr (oM_su (by decide))
        have m2 : mPo T (nx T P) (su z 318 16 (nI (nx T P))) := by
          have := mPo_at m (oM_su (L := [16]) (j := 16) (x := nI (nx T P)) (by decide)) (by decide) hP1 (by rw [su_1, if_pos ⟨rfl, rfl⟩])
          rwa [(mPo_le m).2] at this
        have f2 := fu.tr (o2.fr (by decide))
        have d2 := dMd_o du o2
        have r16 : (su z 318 16 (nI (nx T P))).1 318 16 = nI (nx T P) := by rw [su_1, if_pos ⟨rfl, rfl⟩]
        have stop : tD T (nx T P) = false → hdL T f (acc ||| 2 ^ dv T P) (nx T P) = (acc ||| 2 ^ dv T P, nx T P) := fun hs => by
          cases f with
          | zero => rfl
          | succ f => unfold hdL; rw [hs, if_neg (by decide)]
        have fin : tD T (nx T P) = false → qz_ck (mk X (su z 318 16 (nI (nx T P)))).1 318 12 (qz_r0 (rn 74 0 [some (.ref 318), some (.int (nI 6)), some (.int (nI (acc ||| 2 ^ dv T P)))] [] (mk X (su z 318 16 (nI (nx T P))))) (fun w7 => some (some (.int (nI 1)), w7))) = some (some (.int (nI 1)), mk X (su (su z 318 16 (nI (nx T P))) 320 (96 + 6) (nI (acc ||| 2 ^ dv T P)))) := fun _ => by
          rw [ck_M, says_run X _ (by decide), r0_s]
        have res : ∀ hs : tD T (nx T P) = false, frM t (su (su z 318 16 (nI (nx T P))) 320 (96 + 6) (nI (acc ||| 2 ^ dv T P))) ∧ mPo T (hdL T f (acc ||| 2 ^ dv T P) (nx T P)).2 (su (su z 318 16 (nI (nx T P))) 320 (96 + 6) (nI (acc ||| 2 ^ dv T P))) ∧ dMd T (setN D.1 6 (hdL T f (acc ||| 2 ^ dv T P) (nx T P)).1, D.2) (su (su z 318 16 (nI (nx T P))) 320 (96 + 6) (nI (acc ||| 2 ^ dv T P))) := fun hs => by
          rw [stop hs]
          exact ⟨f2.tr (frM_su (by unfold inM; omega)), mPo_su m2 (by decide) (by decide), dMd_num (by decide) (by decide) (by decide) d2⟩
        rw [g_M_at, g_M_size, r16, m2.2.1]
        by_cases hE : T.1 ≤ nx T P
        · have hs : tD T (nx T P) = false := by
            cases c3 : tD T (nx T P)
            · rfl
            · have := (tD_lt c3).1; omega
          exact Or.inl ⟨_, by rw [if_pos (nI_le hE (by omega)), fin hs], res hs⟩
        · have hb := hT.2 (nx T P) (by omega)
          rw [if_neg (nI_ge (by omega) (by omega)), g_M_text, g_M_at, r16, i_M_text (by omega), m2.1 _ (by omega)]
          by_cases h59 : T.2 (nx T P) = 59
          · have hs : tD T (nx T P) = false := by
              cases c3 : tD T (nx T P)
              · rfl
              · have := (of_decide_eq_true c3).1
                rw [kd_y (by omega), h59] at this
                cases this
            exact Or.inl ⟨_, by rw [if_pos ((sb_eq (Or.inr rfl) _ hb).mpr h59), fin hs], res hs⟩
          · rw [if_neg (fun z => h59 ((sb_eq (Or.inr rfl) _ hb).mp z))]
            have hgt := nx_gt hv.1
            rcases ih (acc ||| 2 ^ dv T P) (nx T P) _ (by omega) ha2 f2 m2 d2 with ⟨i1, y, i2, i3, i4⟩ | ⟨i1, i2⟩
            · refine Or.inr ⟨?_, y, i2, i3, ?_⟩
              · rw [stop i1]
                cases c4 : tS T 59 (nx T P)
                · rfl
                · exact absurd ((tS_59 hT hP1).mp c4).2 h59
              · rw [stop i1]; exact i4
            · have es : hdL T f (acc ||| 2 ^ dv T P) (nx T P) = hdL T (f - 1) (acc ||| 2 ^ dv T P ||| 2 ^ dv T (nx T P)) (nx T (nx T P)) := by
                cases f with
                | zero => omega
                | succ f => show (if tD T (nx T P) then _ else _) = _; rw [i1, if_pos rfl]; rfl
              rw [es]
              exact i2
  unfold MRx MRn hdS
  rw [e_M_hold_0]
  rcases key 1201 0 P t (by omega) (by decide) (frM.rf t) h hd with ⟨i1, y, i2, i3, i4⟩ | ⟨i1, ⟨y, i2, i3, i4, i5⟩ | ⟨i2, y, i3, i4, i5⟩⟩
  · rw [i1]
    exact Or.inl ⟨y, i2, i3, i4, fun z => by cases z⟩
  · rw [i1]
    rw [Nat.zero_or] at i4 i5
    exact Or.inl ⟨y, i2, i3, i4, fun _ => i5⟩
  · rw [i1]
    rw [Nat.zero_or] at i2 i5
    exact Or.inr ⟨i2, y, i3, i4, i5⟩
end ST

/-! worth, put -/
def wtA (A : shT) (x y r b v : Nat) : shT := (A.1, A.2.1, (fun k => if (x ≤ k % 20 ∧ k % 20 ≤ r) ∧ (y ≤ k / 20 ∧ k / 20 ≤ b) then v else A.2.2.1 k), A.2.2.2)
def wtS2 (T : txT) (D : drT) (x y P : Nat) : rsT := if tP T x y (D.1.1 0) (D.1.1 1) P then (if tN T 0 99 (nx T (nx T P)) then (true, nx T (nx T (nx T P)), (wtA D.1 x y (nv T P) (nv T (nx T P)) (nv T (nx T (nx T P))), D.2)) else (false, nx T (nx T P), D)) else (false, plP T x y (D.1.1 0) (D.1.1 1) P, D)
def wtS1 (T : txT) (D : drT) (x y P : Nat) : rsT := if tK T 7 P then wtS2 T D x y (nx T P) else (false, P, D)
def wtS (T : txT) (D : drT) (P : Nat) : rsT := if tP T 0 0 (D.1.1 0) (D.1.1 1) P then wtS1 T D (nv T P) (nv T (nx T P)) (nx T (nx T P)) else (false, plP T 0 0 (D.1.1 0) (D.1.1 1) P, D)
section ST
variable {T : txT} {P q : Nat} {s t u : sT} {D : drT}
theorem plP_y {a b w h : Nat} (e : tP T a b w h P = true) : plP T a b w h P = nx T (nx T P) ∧ (a ≤ nv T P ∧ nv T P ≤ w - 1) ∧ (b ≤ nv T (nx T P) ∧ nv T (nx T P) ≤ h - 1) ∧ P < T.1 ∧ nx T P < T.1 := by
  unfold tP at e
  rw [Bool.and_eq_true] at e
  have e1 := tN_lt e.1
  have e2 := tN_lt e.2
  unfold plP
  rw [if_pos e.1, if_pos e.2]
  exact ⟨rfl, e1.2, e2.2, e1.1, e2.1⟩
theorem wtS_ok (h : okDr T D) : (wtS T D P).1 = true → okDr T (wtS T D P).2.2 := by
  unfold wtS
  cases c : tP T 0 0 (D.1.1 0) (D.1.1 1) P
  · exact fun z => by cases z
  · rw [if_pos rfl]
    unfold wtS1
    cases c2 : tK T 7 (nx T (nx T P))
    · exact fun z => by cases z
    · rw [if_pos rfl]
      unfold wtS2
      cases c3 : tP T (nv T P) (nv T (nx T P)) (D.1.1 0) (D.1.1 1) (nx T (nx T (nx T P)))
      · exact fun z => by cases z
      · rw [if_pos rfl]
        cases c4 : tN T 0 99 (nx T (nx T (nx T (nx T (nx T P)))))
        · exact fun z => by cases z
        · intro _
          rw [if_pos rfl]
          have hv := tN_lt c4
          obtain ⟨⟨o1, o2, o3, o4, o5, o6, o7, o8, o9, o10, o11, o12⟩, p2, p3⟩ := h
          refine ⟨⟨o1, o2, o3, o4, o5, o6, o7, o8, o9, o10, fun k hk => ?_, o12⟩, p2, p3⟩
          show (if _ then _ else D.1.2.2.1 k) ≤ 99
          by_cases e : (nv T P ≤ k % 20 ∧ k % 20 ≤ nv T (nx T (nx T (nx T P)))) ∧ (nv T (nx T P) ≤ k / 20 ∧ k / 20 ≤ nv T (nx T (nx T (nx T (nx T P)))))
          · rw [if_pos e]; exact hv.2.2
          · rw [if_neg e]; exact o11 k hk
theorem C_has_y2 (X : qz_X) (hq : isS q) {w h a b : Nat} (h1 : s.1 q 1 = nI w) (h2 : s.1 q 2 = nI h) (hw : w ≤ 20) (hh : h ≤ 20) (ha : a < w) (hb : b < h) : rn 46 0 [some (.ref q), some (.int (nI a)), some (.int (nI b))] [] (mk X s) = some (some (.int (nI 1)), mk X s) := by
  rw [e_Sheet_has_0, if_neg (nI_pos (by omega)), g_S_wide hq, h1, if_neg (nI_ge ha (by omega)), if_neg (nI_pos (by omega)), g_S_high hq, h2, if_neg (nI_ge hb (by omega))]
theorem wl_C (X : qz_X) (hq : isS q) {w h x y r b v : Nat} (h1 : u.1 q 1 = nI w) (h2 : u.1 q 2 = nI h) (hw : w ≤ 20) (hh : h ≤ 20) (h3 : u.1 78 3 = nI v) (hx : x ≤ r) (hr : r < w) (hy : y ≤ b) (hb : b < h) (hq2 : q < 70) : ∃ z : sT, rn 53 88 [some (.ref 78), some (.ref q), some (.int (nI x)), none, some (.int (nI r)), some (.int (nI b)), some (.int (nI y)), none] [] (mk X u) = some (some (.int (nI 1)), mk X z) ∧ z.2 = u.2 ∧ (∀ c, c ≠ q + 2 → z.1 c = u.1 c) ∧ ∀ k, k < 400 → z.1 (q + 2) k = if (x ≤ k % 20 ∧ k % 20 ≤ r) ∧ (y ≤ k / 20 ∧ k / 20 ≤ b) then nI v else u.1 (q + 2) k := by
  obtain ⟨z, ⟨z2, zc, z3⟩, e⟩ := it_up (fun i (z : sT) => rn 53 88 [some (.ref 78), some (.ref q), some (.int (nI x)), none, some (.int (nI r)), some (.int (nI b)), some (.int (nI i)), none] [] (mk X z)) (fun i z => z.2 = u.2 ∧ (∀ c, c ≠ q + 2 → z.1 c = u.1 c) ∧ ∀ k, k < 400 → z.1 (q + 2) k = if (x ≤ k % 20 ∧ k % 20 ≤ r) ∧ (y ≤ k / 20 ∧ k / 20 < i) then nI v else u.1 (q + 2) k) (show y ≤ b + 1 by omega) (by
    rintro i z hi1 hi2 ⟨z2, zc, z3⟩
    try dsimp only
    obtain ⟨g, ⟨g2, gc, g3⟩, eg⟩ := it_up (fun j (g : sT) => rn 53 98 [some (.ref 78), some (.ref q), some (.int (nI x)), none, some (.int (nI r)), some (.int (nI b)), some (.int (nI i)), some (.int (nI j))] [] (mk X g)) (fun j g => g.2 = u.2 ∧ (∀ c, c ≠ q + 2 → g.1 c = u.1 c) ∧ ∀ k, k < 400 → g.1 (q + 2) k = if k / 20 = i ∧ x ≤ k % 20 ∧ k % 20 < j then nI v else z.1 (q + 2) k) (show x ≤ r + 1 by omega) (by
      rintro j g hj1 hj2 ⟨g2, gc, g3⟩
      try dsimp only
      refine ⟨su g (q + 2) (20 * i + j) (nI v), ⟨g2, fun c hc => funext fun k => ?_, fun k hk => ?_⟩, ?_⟩
      · rw [su_1, if_neg (fun z => hc z.1), gc c hc]
      · rw [su_1]
        by_cases ek : k = 20 * i + j
        · rw [if_pos ⟨rfl, ek⟩, if_pos (show k / 20 = i ∧ x ≤ k % 20 ∧ k % 20 < j + 1 by omega)]
        · rw [if_neg (fun z => ek z.2), g3 k hk]
          by_cases f : k / 20 = i ∧ x ≤ k % 20 ∧ k % 20 < j
          · rw [if_pos f, if_pos (show k / 20 = i ∧ x ≤ k % 20 ∧ k % 20 < j + 1 by omega)]
          · rw [if_neg f, if_neg (show ¬ (k / 20 = i ∧ x ≤ k % 20 ∧ k % 20 < j + 1) by omega)]
      · rw [e_Teller_tellWorth_98, if_neg (nI_nlt (by omega) (by omega)), g_L_number, gc 78 (by omega), h3, ck_S hq, e_Sheet_setWorth_0, ck_S hq, C_has_y2 X hq (by rw [gc q (by omega)]; exact h1) (by rw [gc q (by omega)]; exact h2) hw hh (by omega) (by omega), r1_s, if_neg (by decide), g_S_worth hq, pk_mul, nI_add, show i * 20 + j = 20 * i + j by omega, w_S_worth hq (by omega), r0_s, nI_add]) (x := z) ⟨z2, zc, fun k _ => by rw [if_neg (by omega)]⟩
    try dsimp only at eg
    refine ⟨g, ⟨g2, gc, fun k hk => ?_⟩, ?_⟩
    · rw [g3 k hk, z3 k hk]
      by_cases f : k / 20 = i ∧ x ≤ k % 20 ∧ k % 20 < r + 1
      · rw [if_pos f, if_pos (show (x ≤ k % 20 ∧ k % 20 ≤ r) ∧ (y ≤ k / 20 ∧ k / 20 < i + 1) by omega)]
      · rw [if_neg f]
        by_cases f2 : (x ≤ k % 20 ∧ k % 20 ≤ r) ∧ (y ≤ k / 20 ∧ k / 20 < i)
        · rw [if_pos f2, if_pos (show (x ≤ k % 20 ∧ k % 20 ≤ r) ∧ (y ≤ k / 20 ∧ k / 20 < i + 1) by omega)]
        · rw [if_neg f2, if_neg (show ¬ ((x ≤ k % 20 ∧ k % 20 ≤ r) ∧ (y ≤ k / 20 ∧ k / 20 < i + 1)) by omega)]
    · rw [e_Teller_tellWorth_88, if_neg (nI_nlt (by omega) (by omega)), eg, e_Teller_tellWorth_98, if_pos (nI_lt (by omega) (by omega)), nI_add]) (x := u) ⟨rfl, fun _ _ => rfl, fun k _ => by rw [if_neg (by omega)]⟩
  try dsimp only at e
  refine ⟨z, ?_, z2, zc, fun k hk => ?_⟩
  · rw [e, e_Teller_tellWorth_88, if_pos (nI_lt (by omega) (by omega))]
  · rw [z3 k hk]
    by_cases f : (x ≤ k % 20 ∧ k % 20 ≤ r) ∧ (y ≤ k / 20 ∧ k / 20 < b + 1)
    · rw [if_pos f, if_pos (by omega)]
    · rw [if_neg f, if_neg (by omega)]
theorem wl_M (X : qz_X) {x y r b v : Nat} (h25 : u.1 318 25 = nI r) (h26 : u.1 318 26 = nI b) (h21 : u.1 318 21 = nI v) (hx : x ≤ r) (hr : r < 20) (hy : y ≤ b) (hb : b < 20) : ∃ z : sT, rn 98 54 [some (.ref 318), some (.int (nI x)), none, some (.int (nI y)), none] [] (mk X u) = some (some (.int (nI 1)), mk X z) ∧ z.2 = u.2 ∧ (∀ c, c ≠ 323 → z.1 c = u.1 c) ∧ ∀ k, z.1 323 k = if 2400 ≤ k ∧ (x ≤ k % 20 ∧ k % 20 ≤ r) ∧ (y + 120 ≤ k / 20 ∧ k / 20 ≤ b + 120) then nI v else u.1 323 k := by
  obtain ⟨z, ⟨z2, zc, z3⟩, e⟩ := it_up (fun i (z : sT) => rn 98 54 [some (.ref 318), some (.int (nI x)), none, some (.int (nI i)), none] [] (mk X z)) (fun i z => z.2 = u.2 ∧ (∀ c, c ≠ 323 → z.1 c = u.1 c) ∧ ∀ k, z.1 323 k = if 2400 ≤ k ∧ (x ≤ k % 20 ∧ k % 20 ≤ r) ∧ (y + 120 ≤ k / 20 ∧ k / 20 < i + 120) then nI v else u.1 323 k) (show y ≤ b + 1 by omega) (by
    rintro i z hi1 hi2 ⟨z2, zc, z3⟩
    try dsimp only
    obtain ⟨g, ⟨g2, gc, g3⟩, eg⟩ := it_up (fun j (g : sT) => rn 98 65 [some (.ref 318), some (.int (nI x)), none, some (.int (nI i)), some (.int (nI j))] [] (mk X g)) (fun j g => g.2 = u.2 ∧ (∀ c, c ≠ 323 → g.1 c = u.1 c) ∧ ∀ k, g.1 323 k = if k / 20 = i + 120 ∧ x ≤ k % 20 ∧ k % 20 < j then nI v else z.1 323 k) (show x ≤ r + 1 by omega) (by
      rintro j g hj1 hj2 ⟨g2, gc, g3⟩
      try dsimp only
      refine ⟨su g 323 (400 * 6 + (20 * i + j)) (nI v), ⟨g2, fun c hc => funext fun k => ?_, fun k => ?_⟩, ?_⟩
      · rw [su_1, if_neg (fun z => hc z.1), gc c hc]
      · rw [su_1]
        by_cases ek : k = 400 * 6 + (20 * i + j)
        · rw [if_pos ⟨rfl, ek⟩, if_pos (show k / 20 = i + 120 ∧ x ≤ k % 20 ∧ k % 20 < j + 1 by omega)]
        · rw [if_neg (fun z => ek z.2), g3 k]
          by_cases f : k / 20 = i + 120 ∧ x ≤ k % 20 ∧ k % 20 < j
          · rw [if_pos f, if_pos (show k / 20 = i + 120 ∧ x ≤ k % 20 ∧ k % 20 < j + 1 by omega)]
          · rw [if_neg f, if_neg (show ¬ (k / 20 = i + 120 ∧ x ≤ k % 20 ∧ k % 20 < j + 1) by omega)]
      · rw [e_M_worthTold_65, g_M_toldX, gc 318 (by omega), h25, if_neg (nI_nlt (by omega) (by omega)), g_M_worth, M_at_run, r1_s, g_M_read, gc 318 (by omega), h21, w_M_worth (by omega), nI_add]) (x := z) ⟨z2, zc, fun k => by rw [if_neg (by omega)]⟩
    try dsimp only at eg
    refine ⟨g, ⟨g2, gc, fun k => ?_⟩, ?_⟩
    · rw [g3 k, z3 k]
      by_cases f : k / 20 = i + 120 ∧ x ≤ k % 20 ∧ k % 20 < r + 1
      · rw [if_pos f, if_pos (show 2400 ≤ k ∧ (x ≤ k % 20 ∧ k % 20 ≤ r) ∧ (y + 120 ≤ k / 20 ∧ k / 20 < i + 1 + 120) by omega)]
      · rw [if_neg f]
        by_cases f2 : 2400 ≤ k ∧ (x ≤ k % 20 ∧ k % 20 ≤ r) ∧ (y + 120 ≤ k / 20 ∧ k / 20 < i + 120)
        · rw [if_pos f2, if_pos (show 2400 ≤ k ∧ (x ≤ k % 20 ∧ k % 20 ≤ r) ∧ (y + 120 ≤ k / 20 ∧ k / 20 < i + 1 + 120) by omega)]
        · rw [if_neg f2, if_neg (show ¬ (2400 ≤ k ∧ (x ≤ k % 20 ∧ k % 20 ≤ r) ∧ (y + 120 ≤ k / 20 ∧ k / 20 < i + 1 + 120)) by omega)]
    · rw [e_M_worthTold_54, g_M_toldY, zc 318 (by omega), h26, if_neg (nI_nlt (by omega) (by omega)), eg, e_M_worthTold_65, g_M_toldX, gc 318 (by omega), h25, if_pos (nI_lt (by omega) (by omega)), nI_add]) (x := u) ⟨rfl, fun _ _ => rfl, fun k => by rw [if_neg (by omega)]⟩
  try dsimp only at e
  refine ⟨z, ?_, z2, zc, fun k => ?_⟩
  · rw [e, e_M_worthTold_54, g_M_toldY, zc 318 (by omega), h26, if_pos (nI_lt (by omega) (by omega))]
  · rw [z3 k]
    by_cases f : 2400 ≤ k ∧ (x ≤ k % 20 ∧ k % 20 ≤ r) ∧ (y + 120 ≤ k / 20 ∧ k / 20 < b + 1 + 120)
    · rw [if_pos f, if_pos (by omega)]
    · rw [if_neg f, if_neg (by omega)]
theorem C_worth (X : qz_X) (hT : okT T) (hq : isS q) (hq2 : q < 70) (ok : okDr T D) (h : cPo T P s) (hd : dCd T q D s) : CRn X T q s 53 [some (.ref 78), some (.ref q), none, none, none, none, none, none] (wtS T D P) := by
  have h1 := ok.1.1
  have h2 := ok.1.2.1
  obtain ⟨u, e1, o1, c1, v1⟩ : ∃ u : sT, rn 43 0 [some (.ref 78), some (.ref q)] [] (mk X s) = some (some (.int (bI (tP T 0 0 (D.1.1 0) (D.1.1 1) P))), mk X u) ∧ o78 s u ∧ cPo T (plP T 0 0 (D.1.1 0) (D.1.1 1) P) u ∧ (tP T 0 0 (D.1.1 0) (D.1.1 1) P = true → u.1 78 4 = nI (nv T P) ∧ u.1 78 5 = nI (nv T (nx T P))) := C_place X hT h (fA_ok ok.1) hq hd.1
  unfold CRn wtS
  rw [e_Teller_tellWorth_0, ck_L, e1, r1_s]
  cases c : tP T 0 0 (D.1.1 0) (D.1.1 1) P
  · exact ⟨u, by rw [if_pos (by decide)]; rfl, o1.fr, c1, fun z => by cases z⟩
  · obtain ⟨p1, p2, p3, p4, p5⟩ := plP_y c
    obtain ⟨x1, x2⟩ := v1 c
    rw [p1] at c1
    rw [if_neg (by decide), ck_L, C_key X hT c1 (by decide), r1_s, if_pos rfl]
    unfold wtS1
    cases ck : tK T 7 (nx T (nx T P))
    · exact ⟨u, by rw [if_pos (by decide)]; rfl, o1.fr, c1, fun z => by cases z⟩
    · have hkP : nx T (nx T P) < T.1 := kd_lt.mp (by have := (of_decide_eq_true ck).1; omega)
      rw [if_neg (by decide), if_pos rfl, if_pos rfl]
      have hz : ∃ z : sT, z = up2 u := ⟨_, rfl⟩
      obtain ⟨z, hz⟩ := hz
      have oz : o78 s z := by rw [hz]; exact o1.tr (o78_up _)
      have cz : cPo T (nx T (nx T (nx T P))) z := by rw [hz]; exact cPo_up c1 hkP
      have z4 : z.1 78 4 = nI (nv T P) := by rw [hz, up2_o (by decide)]; exact x1
      have z5 : z.1 78 5 = nI (nv T (nx T P)) := by rw [hz, up2_o (by decide)]; exact x2
      rw [← hz]
      clear hz
      revert cz
      generalize nx T (nx T (nx T P)) = Q
      intro cz
      have zd := dCd_78 hq hd oz
      have zq1 : z.1 q 1 = nI (D.1.1 0) := zd.1.1.1
      rw [g_L_x, z4, g_L_y, z5, g_S_wide hq, zq1, pk_sub (by omega), ck_L, C_num X hT cz (by omega) (by omega), r1_s]
      unfold wtS2 tP plP
      cases c3 : tN T (nv T P) (D.1.1 0 - 1) Q
      · exact ⟨z, by rw [if_pos (by decide)]; rfl, oz.fr, cz, fun z => by cases z⟩
      · have t3 := tN_lt c3
        have hy : ∃ y : sT, y = up2 (su z 78 3 (nI (nv T Q))) := ⟨_, rfl⟩
        obtain ⟨y, hy⟩ := hy
        have oy : o78 s y := by rw [hy]; exact (oz.tr o78_su).tr (o78_up _)
        have cy : cPo T (nx T Q) y := by rw [hy]; exact cPo_up (cPo_78 cz (by decide)) t3.1
        have y3 : y.1 78 3 = nI (nv T Q) := by rw [hy, up2_o (by decide), su_1, if_pos ⟨rfl, rfl⟩]
        have yd := dCd_78 hq hd oy
        have yq2 : y.1 q 2 = nI (D.1.1 1) := yd.1.1.2.1
        rw [if_neg (by decide), if_pos rfl, ← hy, g_L_number, y3, g_S_high hq, yq2, pk_sub (by omega), ck_L, C_num X hT cy (by omega) (by omega), r1_s]
        cases c4 : tN T (nv T (nx T P)) (D.1.1 1 - 1) (nx T Q)
        · exact ⟨y, by rw [if_pos (by decide)]; rfl, oy.fr, cy, fun z => by cases z⟩
        · have t4 := tN_lt c4
          have hx : ∃ x : sT, x = up2 (su y 78 3 (nI (nv T (nx T Q)))) := ⟨_, rfl⟩
          obtain ⟨x, hx⟩ := hx
          have ox : o78 s x := by rw [hx]; exact (oy.tr o78_su).tr (o78_up _)
          have cx : cPo T (nx T (nx T Q)) x := by rw [hx]; exact cPo_up (cPo_78 cy (by decide)) t4.1
          have x3 : x.1 78 3 = nI (nv T (nx T Q)) := by rw [hx, up2_o (by decide), su_1, if_pos ⟨rfl, rfl⟩]
          rw [if_neg (by decide), if_pos rfl, ← hx, g_L_number, x3, ck_L, C_num X hT cx (by decide) (by decide), r1_s]
          rw [show (true && true) = true from rfl, if_pos rfl]
          cases c5 : tN T 0 99 (nx T (nx T Q))
          · exact ⟨x, by rw [if_pos (by decide)]; rfl, ox.fr, cx, fun z => by cases z⟩
          · have t5 := tN_lt c5
            have hv : ∃ v : sT, v = up2 (su x 78 3 (nI (nv T (nx T (nx T Q))))) := ⟨_, rfl⟩
            obtain ⟨v, hv⟩ := hv
            have ov : o78 s v := by rw [hv]; exact (ox.tr o78_su).tr (o78_up _)
            have cv : cPo T (nx T (nx T (nx T Q))) v := by rw [hv]; exact cPo_up (cPo_78 cx (by decide)) t5.1
            have v3 : v.1 78 3 = nI (nv T (nx T (nx T Q))) := by rw [hv, up2_o (by decide), su_1, if_pos ⟨rfl, rfl⟩]
            have vd := dCd_78 hq hd ov
            have vq1 : v.1 q 1 = nI (D.1.1 0) := vd.1.1.1
            have vq2 : v.1 q 2 = nI (D.1.1 1) := vd.1.1.2.1
            obtain ⟨w, ew, w2, wc, w3⟩ := wl_C X hq vq1 vq2 h1.2 h2.2 v3 (x := nv T P) (y := nv T (nx T P)) (r := nv T Q) (b := nv T (nx T Q)) t3.2.1 (by omega) t4.2.1 (by omega) hq2
            refine ⟨w, by rw [if_neg (by decide), if_pos rfl, ← hv, ew]; rfl, ov.fr.tr ⟨by rw [w2], fun c hc => wc c (by omega)⟩, cPo_cong cv (fun c p q => wc c (by omega)) (by rw [wc 78 (by omega)]), fun _ => ?_⟩
            obtain ⟨⟨a1, b2, b3, b4, b5, b6, b7⟩, a2, a3, a4⟩ := vd
            have e : ∀ i, i ≠ 2 → w.1 (q + i) = v.1 (q + i) := fun i hi => wc _ (by omega)
            have e0 : w.1 q = v.1 q := e 0 (by decide)
            refine ⟨?_, by rw [e0]; exact a2, fun b g1 g2 y' hy' => by rw [e 6 (by decide)]; exact a3 b g1 g2 y' hy', fun i hi => by rw [w2]; exact a4 i hi⟩
            unfold isC
            rw [e0, e 1 (by decide), e 3 (by decide), e 4 (by decide), e 5 (by decide), e 6 (by decide), e 7 (by decide), e 8 (by decide), e 9 (by decide)]
            refine ⟨a1, b2, fun k hk => ?_, b4, b5, b6, b7⟩
            rw [w3 k hk, b3 k hk]
            show _ = nI (if _ then _ else D.1.2.2.1 k)
            by_cases f : (nv T P ≤ k % 20 ∧ k % 20 ≤ nv T Q) ∧ (nv T (nx T P) ≤ k / 20 ∧ k / 20 ≤ nv T (nx T Q))
            · rw [if_pos f, if_pos f]
            · rw [if_neg f, if_neg f]
              rfl
theorem M_worth (X : qz_X) (hT : okT T) (ok : okDr T D) (h : mPo T P t) (hd : dMd T D t) : MRn X T t 98 [some (.ref 318), none, none, none, none] (wtS T D P) := by
  have h1 := ok.1.1
  have h2 := ok.1.2.1
  obtain ⟨u, e1, o1, c1, v1⟩ := M_place X hT h ok.1 hd.1 (a := 0) (b := 0) (by decide) (by decide)
  unfold MRn wtS
  rw [e_M_worthTold_0, ck_M, e1, r1_s]
  cases c : tP T 0 0 (D.1.1 0) (D.1.1 1) P
  · exact ⟨u, by rw [if_pos (by decide)]; rfl, o1.fr (by decide), c1, fun z => by cases z⟩
  · obtain ⟨p1, p2, p3, p4, p5⟩ := plP_y c
    obtain ⟨x1, x2⟩ := v1 c
    rw [p1] at c1
    obtain ⟨z, ez, oz, cz⟩ := M_key X hT c1 (k := 7) (by decide) (v := lN 29807)
    rw [if_neg (by decide), g_M_toldX, x1, g_M_toldY, x2, ck_M, ez, r1_s, if_pos rfl]
    unfold wtS1
    have fz := (o1.fr (by decide)).tr (oz.fr (by decide))
    cases ck : tK T 7 (nx T (nx T P))
    · rw [ck] at cz
      exact ⟨z, by rw [if_pos (by decide)]; rfl, fz, cz, fun z => by cases z⟩
    · rw [ck, if_pos rfl] at cz
      have dz := dMd_o (dMd_o hd o1) oz
      revert cz
      rw [if_neg (by decide), if_pos rfl]
      generalize nx T (nx T (nx T P)) = Q
      intro cz
      obtain ⟨y, ey, oy, cy, vy⟩ := M_place X hT cz ok.1 dz.1 (a := nv T P) (b := nv T (nx T P)) (by omega) (by omega)
      rw [ck_M, ey, r1_s]
      unfold wtS2
      have fy := fz.tr (oy.fr (by decide))
      cases c3 : tP T (nv T P) (nv T (nx T P)) (D.1.1 0) (D.1.1 1) Q
      · exact ⟨y, by rw [if_pos (by decide)]; rfl, fy, cy, fun z => by cases z⟩
      · obtain ⟨q1, q2, q3, q4, q5⟩ := plP_y c3
        obtain ⟨y1, y2⟩ := vy c3
        rw [q1] at cy
        obtain ⟨x, ex, ox, cx, vx⟩ := M_num X hT cy (lo := 0) (hi := 99) (by decide) (by decide)
        have fx := fy.tr (ox.fr (by decide))
        rw [if_neg (by decide), ck_M, ex, r1_s, if_pos rfl]
        cases c5 : tN T 0 99 (nx T (nx T Q))
        · rw [c5] at cx
          exact ⟨x, by rw [if_pos (by decide)]; rfl, fx, cx, fun z => by cases z⟩
        · rw [c5, if_pos rfl] at cx
          have dx := dMd_o (dMd_o dz oy) ox
          obtain ⟨w, ew, w2, wc, w3⟩ := wl_M X (u := x) (x := nv T P) (y := nv T (nx T P)) (r := nv T Q) (b := nv T (nx T Q)) (v := nv T (nx T (nx T Q))) (by rw [ox.2 318 25 (by decide)]; exact y1) (by rw [ox.2 318 26 (by decide)]; exact y2) (vx c5) q2.1 (by omega) q3.1 (by omega)
          refine ⟨w, by rw [if_neg (by decide), ew]; rfl, fx.tr ⟨by rw [w2], fun c j hc => ?_⟩, mPo_c cx (wc 318 (by decide)) (wc 333 (by decide)), fun _ => ⟨?_, fun i hi => by rw [w2]; exact dx.2 i hi⟩⟩
          · by_cases e3 : c = 323
            · subst e3
              rw [w3 j, if_neg (fun g => hc (by unfold inM; omega))]
            · rw [wc c e3]
          · obtain ⟨m1, m2, m3, m4, m5, m6⟩ := dx.1
            have e : ∀ i, i < 10 → i ≠ 2 → gN w i = gN x i := fun i hi h2 => wc _ (by
              rcases (show i = 0 ∨ i = 1 ∨ i = 3 ∨ i = 4 ∨ i = 5 ∨ i = 6 ∨ i = 7 ∨ i = 8 ∨ i = 9 by omega) with rfl | rfl | rfl | rfl | rfl | rfl | rfl | rfl | rfl <;> decide)
            unfold isM
            rw [e 0 (by decide) (by decide), e 1 (by decide) (by decide), e 3 (by decide) (by decide), e 4 (by decide) (by decide), e 5 (by decide) (by decide), e 6 (by decide) (by decide), e 7 (by decide) (by decide), e 8 (by decide) (by decide), e 9 (by decide) (by decide)]
            refine ⟨m1, m2, fun k hk => ?_, m4, m5, m6⟩
            have m3k : x.1 323 (2400 + k) = nI (D.1.2.2.1 k) := m3 k hk
            show w.1 323 (2400 + k) = nI (if _ then _ else D.1.2.2.1 k)
            rw [w3, m3k]
            by_cases f : (nv T P ≤ k % 20 ∧ k % 20 ≤ nv T Q) ∧ (nv T (nx T P) ≤ k / 20 ∧ k / 20 ≤ nv T (nx T Q))
            · rw [if_pos f, if_pos (by omega)]
            · rw [if_neg f, if_neg (by omega)]
end ST

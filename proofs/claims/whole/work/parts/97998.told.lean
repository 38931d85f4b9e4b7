/-! bridges told square by square; hidden; the reference's kinds -/
def tdL (T : txT) (A : shT) : Nat → (Nat → Bool) → Nat → bsT
  | 0, E, P => (true, P, E, 60 * fb_ct E 400)
  | f + 1, E, P => if tS T 44 P then (if tP T 0 0 (A.1 0) (A.1 1) (nx T P) then tdL T A f (fun j => if j = 20 * nv T (nx2 T P) + nv T (nx T P) then true else E j) (nx3 T P) else (false, plP T 0 0 (A.1 0) (A.1 1) (nx T P), nE, 0)) else (true, P, E, 60 * fb_ct E 400)
def tdB (T : txT) (A : shT) (P : Nat) : bsT := if tP T 0 0 (A.1 0) (A.1 1) P then tdL T A 7 (fun j => if j = 20 * nv T (nx T P) + nv T P then true else false) (nx2 T P) else (false, plP T 0 0 (A.1 0) (A.1 1) P, nE, 0)
section BR
variable {T : txT} {P q : Nat} {s t u : sT} {D : drT} {A : shT} {E : Nat → Bool}
theorem ct_400le (E : Nat → Bool) : ∀ n, fb_ct E n ≤ n
  | 0 => Nat.le_refl 0
  | n + 1 => by
    have := ct_400le E n
    rw [fb_ct_succ]
    cases E n
    · simp; omega
    · simp; omega
theorem sq_ins (ok : okA A) {x y : Nat} (hx : x < A.1 0) (hy : y < A.1 1) (h : ∀ j, j < 400 → E j = true → ins A j = true) : ∀ j, j < 400 → (if j = 20 * y + x then true else E j) = true → ins A j = true := by
  have h1 := ok.1
  intro j hj he
  by_cases e : j = 20 * y + x
  · unfold ins
    rw [decide_eq_true (show j % 20 < A.1 0 by omega), decide_eq_true (show j / 20 < A.1 1 by omega)]
    rfl
  · rw [if_neg e] at he
    exact h j hj he
theorem tdL_ok (ok : okA A) : ∀ f E P, (∀ j, j < 400 → E j = true → ins A j = true) → okB A (tdL T A f E P)
  | 0, E, P, h => fun _ => ⟨h, by show 60 * fb_ct E 400 ≤ 24000; have := ct_400le E 400; omega⟩
  | f + 1, E, P, h => by
    have h1 := ok.1
    have h2 := ok.2.1
    unfold tdL
    cases c : tS T 44 P
    · exact fun _ => ⟨h, by show 60 * fb_ct E 400 ≤ 24000; have := ct_400le E 400; omega⟩
    · rw [if_pos rfl]
      cases c2 : tP T 0 0 (A.1 0) (A.1 1) (nx T P)
      · exact fun z => by cases z
      · obtain ⟨p1, p2, p3, p4, p5⟩ := plP_y c2
        have p3' : nv T (nx2 T P) ≤ A.1 1 - 1 := p3.2
        exact tdL_ok ok f _ _ (sq_ins ok (by omega) (by omega) h)
theorem tdB_ok (ok : okA A) : okB A (tdB T A P) := by
  have h1 := ok.1
  have h2 := ok.2.1
  unfold tdB
  cases c2 : tP T 0 0 (A.1 0) (A.1 1) P
  · exact fun z => by cases z
  · obtain ⟨p1, p2, p3, p4, p5⟩ := plP_y c2
    exact tdL_ok ok 7 _ _ (sq_ins (E := nE) ok (by omega) (by omega) (fun j _ h => by cases h))
theorem last_C (X : qz_X) (hq : isS q) (hq2 : q < 69) (ok : okA D.1) (h12 : D.1.1 4 < 12) {kn hi la : Nat} (hk : kn ≤ 3) (hh : hi ≤ 1) (hla : la ≤ 24000) (hE : ∀ j, j < 400 → E j = true → ins D.1 j = true) (hd : dCd T q (brF D.1 E kn hi la, D.2) s) : ∃ u : sT, rn 64 0 [some (.ref (q + 3)), some (.int (nI 60))] [] (mk X s) = some (none, mk X u) ∧ u.2 = s.2 ∧ (∀ c, c ≠ q + 5 → u.1 c = s.1 c) ∧ dCd T q (brF D.1 E kn hi (60 * fb_ct E 400), D.2) u := by
  have okb := fA_ok (brF_ok ok h12 hE hk hh hla)
  have hsq := squares_run X hq okb hd.1 (b := D.1.1 4) (show D.1.1 4 < D.1.1 4 + 1 by omega)
  have ef : (fA (brF D.1 E kn hi la)).2.2.2.1 (D.1.1 4) = E := by
    funext j
    show (if D.1.1 4 = D.1.1 4 then E j else _) = _
    rw [if_pos rfl]
  rw [ef] at hsq
  obtain ⟨⟨a0, c2, c3, c4, c5, c6, c7⟩, e2, e3, e4⟩ := hd
  have n0 : s.1 (q + 3) 0 = nI (D.1.1 4 + 1) := a0.2.2.2.2.1
  have hu : ∃ u : sT, u = su s (q + 5) (D.1.1 4) (nI (60 * fb_ct E 400)) := ⟨_, rfl⟩
  obtain ⟨u, hu⟩ := hu
  have uc : ∀ c, c ≠ q + 5 → u.1 c = s.1 c := fun c hc => funext fun j => by rw [hu, su_1, if_neg (fun z => hc z.1)]
  refine ⟨u, ?_, by rw [hu]; rfl, uc, ?_, ?_, fun b g1 g2 y' hy' => ?_, fun i hi => ?_⟩
  · rw [e_Bridges_lastBySquares_0, g_B_number hq, n0, if_neg (nI_nle (by omega) (by omega)), g_B_lasts hq, g_B_number hq, n0, g_B_number hq, n0, ck_B hq, pk_sub (by omega), show D.1.1 4 + 1 - 1 = D.1.1 4 by omega, hsq, r1_s, pk_mul, w_B_lasts hq h12, hu]
  · have e0 : u.1 q = s.1 q := uc q (by omega)
    show isC u q (fA (brF D.1 E kn hi (60 * fb_ct E 400)))
    unfold isC
    rw [e0, uc (q + 1) (by omega), uc (q + 2) (by omega), uc (q + 3) (by omega), uc (q + 4) (by omega), uc (q + 6) (by omega), uc (q + 7) (by omega), uc (q + 8) (by omega), uc (q + 9) (by omega)]
    have eo : ∀ i j, i ≠ 2 → (fA (brF D.1 E kn hi (60 * fb_ct E 400))).2.2.2.2 i j = (fA (brF D.1 E kn hi la)).2.2.2.2 i j := fun i j hi' => by
      show (if j = D.1.1 4 ∧ i = 0 then kn else if j = D.1.1 4 ∧ i = 1 then hi else if j = D.1.1 4 ∧ i = 2 then _ else D.1.2.2.2.2 i j) = (if j = D.1.1 4 ∧ i = 0 then kn else if j = D.1.1 4 ∧ i = 1 then hi else if j = D.1.1 4 ∧ i = 2 then la else D.1.2.2.2.2 i j)
      rw [if_neg (show ¬ (j = D.1.1 4 ∧ i = 2) from fun z => hi' z.2), if_neg (show ¬ (j = D.1.1 4 ∧ i = 2) from fun z => hi' z.2)]
    refine ⟨a0, c2, c3, c4, fun x hx => ?_, fun b hb => ?_, fun k hk' => ?_⟩
    · rw [eo 1 x (by decide)]; exact c5 x hx
    · rw [eo 0 b (by decide)]
      refine ⟨(c6 b hb).1, ?_⟩
      have hold := (c6 b hb).2
      have hold : s.1 (q + 5) b = nI (if b = D.1.1 4 ∧ (2 : Nat) = 0 then kn else if b = D.1.1 4 ∧ (2 : Nat) = 1 then hi else if b = D.1.1 4 ∧ (2 : Nat) = 2 then la else D.1.2.2.2.2 2 b) := hold
      show u.1 (q + 5) b = nI (if b = D.1.1 4 ∧ (2 : Nat) = 0 then kn else if b = D.1.1 4 ∧ (2 : Nat) = 1 then hi else if b = D.1.1 4 ∧ (2 : Nat) = 2 then 60 * fb_ct E 400 else D.1.2.2.2.2 2 b)
      rw [if_neg (show ¬ (b = D.1.1 4 ∧ (2 : Nat) = 0) by omega), if_neg (show ¬ (b = D.1.1 4 ∧ (2 : Nat) = 1) by omega)] at hold ⊢
      rw [hu, su_1]
      by_cases eb : b = D.1.1 4
      · rw [if_pos ⟨rfl, eb⟩, if_pos (show b = D.1.1 4 ∧ (2 : Nat) = 2 from ⟨eb, rfl⟩)]
      · rw [if_neg (fun z => eb z.2), hold, if_neg (show ¬ (b = D.1.1 4 ∧ (2 : Nat) = 2) by omega), if_neg (show ¬ (b = D.1.1 4 ∧ (2 : Nat) = 2) by omega)]
    · rw [eo 3 k (by decide), eo 4 k (by decide)]
      have := c7 k hk'
      refine ⟨this.1, this.2.1, fun y hy => ?_⟩
      rw [eo 5 _ (by decide)]
      exact this.2.2 y hy
  · rw [uc q (by omega)]; exact e2
  · rw [uc (q + 6) (by omega)]; exact e3 b g1 g2 y' hy'
  · rw [show u.2.1 = s.2.1 by rw [hu]; rfl]
    exact e4 i hi
theorem hide_C (X : qz_X) (hq : isS q) (hq2 : q < 69) (h12 : D.1.1 4 < 12) {kn la : Nat} (hd : dCd T q (brF D.1 E kn 0 la, D.2) s) : ∃ u : sT, rn 66 0 [some (.ref (q + 3))] [] (mk X s) = some (none, mk X u) ∧ u.2 = s.2 ∧ (∀ c, c ≠ q + 3 → u.1 c = s.1 c) ∧ dCd T q (brF D.1 E kn 1 la, D.2) u := by
  obtain ⟨⟨⟨a1, a2, a3, a4, a5, a6, a7, a8, a9⟩, c2, c3, c4, c5, c6, c7⟩, e2, e3, e4⟩ := hd
  have n0 : s.1 (q + 3) 0 = nI (D.1.1 4 + 1) := a5
  have hu : ∃ u : sT, u = su s (q + 3) 2 (s.1 (q + 3) 2 ||| (nI 1 <<< (nI (D.1.1 4) &&& 31))) := ⟨_, rfl⟩
  obtain ⟨u, hu⟩ := hu
  have uc : ∀ c, c ≠ q + 3 → u.1 c = s.1 c := fun c hc => funext fun j => by rw [hu, su_1, if_neg (fun z => hc z.1)]
  have u3 : ∀ j, j ≠ 2 → u.1 (q + 3) j = s.1 (q + 3) j := fun j hj => by rw [hu, su_1, if_neg (fun z => hj z.2)]
  refine ⟨u, ?_, by rw [hu]; rfl, uc, ?_, ?_, fun b g1 g2 y' hy' => ?_, fun i hi => ?_⟩
  · rw [e_Bridges_hideNewest_0, g_B_number hq, n0, if_neg (nI_nle (by omega) (by omega)), g_B_hidden hq, g_B_number hq, n0, pk_sub (by omega), show D.1.1 4 + 1 - 1 = D.1.1 4 by omega, p_B_hidden hq, hu]
  · have e0 : u.1 q = s.1 q := uc q (by omega)
    show isC u q (fA (brF D.1 E kn 1 la))
    unfold isC
    rw [e0, uc (q + 1) (by omega), uc (q + 2) (by omega), uc (q + 4) (by omega), uc (q + 5) (by omega), uc (q + 6) (by omega), uc (q + 7) (by omega), uc (q + 8) (by omega), uc (q + 9) (by omega), u3 0 (by decide), u3 1 (by decide)]
    have eo : ∀ i j, i ≠ 1 → (fA (brF D.1 E kn 1 la)).2.2.2.2 i j = (fA (brF D.1 E kn 0 la)).2.2.2.2 i j := fun i j hi' => by
      show (if j = D.1.1 4 ∧ i = 0 then kn else if j = D.1.1 4 ∧ i = 1 then 1 else if j = D.1.1 4 ∧ i = 2 then la else D.1.2.2.2.2 i j) = (if j = D.1.1 4 ∧ i = 0 then kn else if j = D.1.1 4 ∧ i = 1 then 0 else if j = D.1.1 4 ∧ i = 2 then la else D.1.2.2.2.2 i j)
      rw [if_neg (show ¬ (j = D.1.1 4 ∧ i = 1) from fun z => hi' z.2), if_neg (show ¬ (j = D.1.1 4 ∧ i = 1) from fun z => hi' z.2)]
    refine ⟨⟨a1, a2, a3, a4, a5, a6, a7, a8, a9⟩, c2, c3, c4, fun x hx => ?_, fun b hb => ?_, fun k hk' => ?_⟩
    · have hold : bt (s.1 (q + 3) 2) x = decide (x < D.1.1 4 + 1 ∧ (if x = D.1.1 4 ∧ (1 : Nat) = 0 then kn else if x = D.1.1 4 ∧ (1 : Nat) = 1 then 0 else if x = D.1.1 4 ∧ (1 : Nat) = 2 then la else D.1.2.2.2.2 1 x) = 1) := c5 x hx
      show _ = decide (x < D.1.1 4 + 1 ∧ (if x = D.1.1 4 ∧ (1 : Nat) = 0 then kn else if x = D.1.1 4 ∧ (1 : Nat) = 1 then 1 else if x = D.1.1 4 ∧ (1 : Nat) = 2 then la else D.1.2.2.2.2 1 x) = 1)
      rw [hu, su_1, if_pos ⟨rfl, rfl⟩, b_or, b_one _ (by omega) x hx, hold]
      by_cases ex : x = D.1.1 4
      · rw [decide_eq_true ex, Bool.or_true]
        symm
        rw [decide_eq_true_iff, if_neg (show ¬ (x = D.1.1 4 ∧ (1 : Nat) = 0) by omega), if_pos (show x = D.1.1 4 ∧ (1 : Nat) = 1 from ⟨ex, rfl⟩)]
        exact ⟨by omega, rfl⟩
      · simp only [ex, false_and, if_false, decide_false, Bool.or_false]
    · rw [eo 0 b (by decide), eo 2 b (by decide)]; exact c6 b hb
    · rw [eo 3 k (by decide), eo 4 k (by decide)]
      have := c7 k hk'
      refine ⟨this.1, this.2.1, fun y hy => ?_⟩
      rw [eo 5 _ (by decide)]
      exact this.2.2 y hy
  · rw [uc q (by omega)]; exact e2
  · rw [uc (q + 6) (by omega)]; exact e3 b g1 g2 y' hy'
  · rw [show u.2.1 = s.2.1 by rw [hu]; rfl]
    exact e4 i hi
theorem tS_lt {c : Nat} (h : tS T c P = true) : P < T.1 := kd_lt.mp (by have := (of_decide_eq_true h).1; omega)
theorem C_told (X : qz_X) (hT : okT T) (hq : isS q) (hq2 : q < 69) (ok : okDr T D) (h12 : D.1.1 4 < 12) (h : cPo T P s) (hd : dCd T q D s) : CBn X T q s D 65 [some (.ref 78), some (.ref q), none] 3 (tdB T D.1 P) := by
  have h1 := ok.1.1
  have h2 := ok.1.2.1
  obtain ⟨u1, e1, o1, c1, k1⟩ := preC X hT hq ok h hd
  unfold CBn tdB
  rw [e_Teller_tellTold_0, ck_L, e1, r1_s]
  cases hp : tP T 0 0 (D.1.1 0) (D.1.1 1) P
  · exact ⟨u1, by rw [if_pos (by decide)]; rfl, o1.fr, c1, fun z => by cases z⟩
  · obtain ⟨p1, p2, p3, p4, p5⟩ := plP_y hp
    obtain ⟨u1', e1', o1', c1', v1'⟩ : ∃ u : sT, rn 43 0 [some (.ref 78), some (.ref q)] [] (mk X s) = some (some (.int (bI (tP T 0 0 (D.1.1 0) (D.1.1 1) P))), mk X u) ∧ o78 s u ∧ cPo T (plP T 0 0 (D.1.1 0) (D.1.1 1) P) u ∧ (tP T 0 0 (D.1.1 0) (D.1.1 1) P = true → u.1 78 4 = nI (nv T P) ∧ u.1 78 5 = nI (nv T (nx T P))) := C_place X hT h (fA_ok ok.1) hq hd.1
    have em : mk X u1 = mk X u1' := by
      have := e1.symm.trans e1'
      exact (Prod.mk.inj (Option.some.inj this)).2
    rw [em]
    obtain ⟨x1, x2⟩ := v1' hp
    rw [p1] at c1'
    obtain ⟨y, ey, y2, yc, yd⟩ := open_C X hq hq2 h12 (dCd_78 hq hd o1') (kn := 3) (la := 0)
    have y78 : ∀ j, y.1 78 j = u1'.1 78 j := fun j => by rw [yc 78 (by omega)]
    obtain ⟨z, ez, z2, zc, zd⟩ := addSq_C X hq hq2 h12 yd (x := nv T P) (y := nv T (nx T P)) (by omega) (by omega)
    have fz : frC q s z := (o1'.fr.tr (frC_q y2 (fun c hc => yc c (by omega)))).tr (frC_q z2 (fun c hc => zc c (by omega)))
    have cz : cPo T (nx2 T P) z := cPo_cong c1' (fun c p r => by rw [zc c (by omega), yc c (by omega)]) (by rw [zc 78 (by omega)]; exact y78 2)
    rw [if_neg (by decide), g_S_bridges hq, ck_B hq, ey, r0_s, g_S_bridges hq, g_L_x, y78, x1, g_L_y, y78, x2, ck_B hq, ez, r0_s, if_pos rfl]
    have key : ∀ f E P (z : sT) (v : Nat), v + f = 8 → frC q s z → cPo T P z → (∀ j, j < 400 → E j = true → ins D.1 j = true) → dCd T q (brF D.1 E 3 0 0, D.2) z → ∃ u : sT, rn 65 36 [some (.ref 78), some (.ref q), some (.int (nI v))] [] (mk X z) = some (some (.int (bI (tdL T D.1 f E P).1)), mk X u) ∧ frC q s u ∧ cPo T (tdL T D.1 f E P).2.1 u ∧ ((tdL T D.1 f E P).1 = true → dCd T q (brF D.1 (tdL T D.1 f E P).2.2.1 3 0 (tdL T D.1 f E P).2.2.2, D.2) u) := by
      intro f
      induction f with
      | zero =>
        intro E P z v hv fz cz hE zd
        obtain ⟨w, ew, w2, wc, wd⟩ := last_C X hq hq2 ok.1 h12 (by decide) (by decide) (by decide) hE zd
        exact ⟨w, by rw [e_Teller_tellTold_36, if_pos (nI_le (by omega) (by omega)), g_S_bridges hq, ck_B hq, ew, r0_s]; rfl, fz.tr (frC_q w2 (fun c hc => wc c (by omega))), cPo_cong cz (fun c p r => wc c (by omega)) (by rw [wc 78 (by omega)]), fun _ => wd⟩
      | succ f ih =>
        intro E P z v hv fz cz hE zd
        rw [e_Teller_tellTold_36, if_neg (nI_ge (by omega) (by decide)), ck_L, C_sign X hT cz (by decide), r1_s]
        unfold tdL
        cases c : tS T 44 P
        · obtain ⟨w, ew, w2, wc, wd⟩ := last_C X hq hq2 ok.1 h12 (by decide) (by decide) (by decide) hE zd
          refine ⟨w, ?_, fz.tr (frC_q w2 (fun c hc => wc c (by omega))), cPo_cong cz (fun c p r => wc c (by omega)) (by rw [wc 78 (by omega)]), fun _ => wd⟩
          rw [if_pos (by decide), if_neg (by decide), g_S_bridges hq, ck_B hq, ew, r0_s]
          rfl
        · have cu : cPo T (nx T P) (up2 z) := cPo_up cz (tS_lt c)
          have du := dCd_78 hq zd (o78_up z)
          obtain ⟨y, ey, oy, cy, vy⟩ : ∃ u : sT, rn 43 0 [some (.ref 78), some (.ref q)] [] (mk X (up2 z)) = some (some (.int (bI (tP T 0 0 (D.1.1 0) (D.1.1 1) (nx T P)))), mk X u) ∧ o78 (up2 z) u ∧ cPo T (plP T 0 0 (D.1.1 0) (D.1.1 1) (nx T P)) u ∧ (tP T 0 0 (D.1.1 0) (D.1.1 1) (nx T P) = true → u.1 78 4 = nI (nv T (nx T P)) ∧ u.1 78 5 = nI (nv T (nx T (nx T P)))) := C_place X hT cu (fA_ok (brF_ok ok.1 h12 hE (by decide) (by decide) (by decide))) hq du.1
          have fy : frC q s y := (fz.tr (o78_up z).fr).tr oy.fr
          rw [if_neg (by decide), if_pos rfl, if_pos rfl, ck_L, ey, r1_s]
          cases c2 : tP T 0 0 (D.1.1 0) (D.1.1 1) (nx T P)
          · exact ⟨y, by rw [if_pos (by decide)]; rfl, fy, cy, fun z => by cases z⟩
          · obtain ⟨p1, p2, p3, p4, p5⟩ := plP_y c2
            obtain ⟨x1, x2⟩ := vy c2
            rw [p1] at cy
            have p3' : nv T (nx2 T P) ≤ D.1.1 1 - 1 := p3.2
            obtain ⟨w, ew, w2, wc, wd⟩ := addSq_C X hq hq2 h12 (dCd_78 hq zd ((o78_up z).tr oy)) (x := nv T (nx T P)) (y := nv T (nx2 T P)) (by omega) (by omega)
            rw [if_neg (by decide), g_S_bridges hq, g_L_x, x1, g_L_y, x2, ck_B hq, ew, r0_s, nI_add, if_pos rfl]
            exact ih _ _ w (v + 1) (by omega) (fy.tr (frC_q w2 (fun c hc => wc c (by omega)))) (cPo_cong cy (fun c p r => wc c (by omega)) (by rw [wc 78 (by omega)])) (sq_ins ok.1 (by omega) (by omega) hE) wd
    exact key 7 _ (nx2 T P) z 1 (by decide) fz cz (sq_ins (E := nE) ok.1 (by omega) (by omega) (fun j _ h => by cases h)) zd
end BR

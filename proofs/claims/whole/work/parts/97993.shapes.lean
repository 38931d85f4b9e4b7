/-! shape, told -/
section ST
variable {T : txT} {P q : Nat} {s t u : sT} {D : drT}
/-- the class's sheet with a shape of h rows -/
def shC (q m l h : Nat) (R : Nat → Nat) (s u : sT) : Prop := u.2 = s.2 ∧ (∀ c, c ≠ 78 → c ≠ q → c ≠ q + 7 → c ≠ q + 8 → c ≠ q + 9 → u.1 c = s.1 c) ∧ (∀ j, j ≠ 10 → u.1 q j = s.1 q j) ∧ u.1 q 10 = nI (m + 1) ∧ (∀ k, u.1 (q + 7) k = if k = m then nI l else s.1 (q + 7) k) ∧ (∀ k, u.1 (q + 8) k = if k = m then nI h else s.1 (q + 8) k) ∧ (∀ y, y < h → u.1 (q + 9) (8 * m + y) = nI (R y)) ∧ ∀ k, k < 8 * m → u.1 (q + 9) k = s.1 (q + 9) k
theorem shC_78 {m l h : Nat} {R : Nat → Nat} {v : sT} (hq2 : q < 69) (hs : shC q m l h R s u) (o : o78 u v) : shC q m l h R s v := by
  obtain ⟨h1, h2, h3, h4, h5, h6, h7, h8⟩ := hs
  exact ⟨o.1.trans h1, fun c a1 a2 a3 a4 a5 => by rw [o.2 c a1]; exact h2 c a1 a2 a3 a4 a5, fun j hj => by rw [o.2 q (by omega)]; exact h3 j hj, by rw [o.2 q (by omega)]; exact h4, fun k => by rw [o.2 (q + 7) (by omega)]; exact h5 k, fun k => by rw [o.2 (q + 8) (by omega)]; exact h6 k, fun y hy => by rw [o.2 (q + 9) (by omega)]; exact h7 y hy, fun k hk => by rw [o.2 (q + 9) (by omega)]; exact h8 k hk⟩
theorem addRow_run (X : qz_X) (hq : isS q) (hq2 : q < 69) {m l h v : Nat} {R : Nat → Nat} (hm : m < 8) (hh : h < 8) (hs : shC q m l h R s u) : ∃ z : sT, rn 41 0 [some (.ref q), some (.int (nI v)), none] [] (mk X u) = some (none, mk X z) ∧ shC q m l (h + 1) (fun i => if i = h then v else R i) s z ∧ (∀ c, c < q ∨ q + 10 ≤ c → z.1 c = u.1 c) := by
  obtain ⟨h1, h2, h3, h4, h5, h6, h7, h8⟩ := hs
  have e8 : u.1 (q + 8) m = nI h := by rw [h6, if_pos rfl]
  have e8' : ∀ x, (su u (q + 9) (m * 8 + h) x).1 (q + 8) m = nI h := fun x => by rw [su_1, if_neg (by omega)]; exact e8
  refine ⟨su (su u (q + 9) (m * 8 + h) (nI v)) (q + 8) m (nI (h + 1)), ?_, ⟨h1, fun c a1 a2 a3 a4 a5 => ?_, fun j hj => ?_, ?_, fun k => ?_, fun k => ?_, fun y hy => ?_, fun k hk => ?_⟩, fun c hc => ?_⟩
  · rw [e_Sheet_addShapeRow_0, g_S_shapeNumber hq, h4, pk_sub (by omega), show m + 1 - 1 = m by omega, if_neg (nI_pos (by omega)), g_S_shapeHigh hq, i_S_shapeHigh hq (by omega), e8, if_neg (nI_ge hh (by decide)), g_S_shapeRows hq, g_S_shapeHigh hq, i_S_shapeHigh hq (by omega), e8, pk_mul, nI_add, w_S_shapeRows hq (by omega), g_S_shapeHigh hq, i_S_shapeHigh hq (by omega), e8', nI_add, w_S_shapeHigh hq (by omega)]
  · funext k
    rw [su_1, if_neg (by omega), su_1, if_neg (by omega), h2 c a1 a2 a3 a4 a5]
  · rw [su_1, if_neg (by omega), su_1, if_neg (by omega), h3 j hj]
  · rw [su_1, if_neg (by omega), su_1, if_neg (by omega), h4]
  · rw [su_1, if_neg (by omega), su_1, if_neg (by omega), h5]
  · rw [su_1]
    by_cases e : k = m
    · rw [if_pos ⟨rfl, e⟩, if_pos e]
    · rw [if_neg (fun z => e z.2), su_1, if_neg (by omega), h6 k, if_neg e, if_neg e]
  · rw [su_1, if_neg (by omega), su_1]
    show _ = nI (if y = h then v else R y)
    by_cases e : y = h
    · rw [if_pos ⟨rfl, by omega⟩, if_pos e]
    · rw [if_neg (by omega), if_neg e, h7 y (by omega)]
  · rw [su_1, if_neg (by omega), su_1, if_neg (by omega), h8 k hk]
  · funext k
    rw [su_1, if_neg (by omega), su_1, if_neg (by omega)]
theorem lpC (X : qz_X) (hT : okT T) (hq : isS q) (hq2 : q < 69) {m l : Nat} (hm : m < 8) (hl : 1 ≤ l) (hl8 : l ≤ 8) : ∀ (f h : Nat) (R : Nat → Nat) (P : Nat) (u : sT), h + f = 8 → 1 ≤ h → shC q m l h R s u → cPo T P u → ∃ z : sT, rn 42 87 [some (.ref 78), some (.ref q), none, none, some (.int (nI l)), some (.int (nI h))] [] (mk X u) = some (some (.int (bI (shL T l f h R P).1)), mk X z) ∧ shC q m l (shL T l f h R P).2.2.1 (shL T l f h R P).2.2.2 s z ∧ cPo T (shL T l f h R P).2.1 z
  | 0, h, R, P, u, hf, h1, hs, hc => ⟨u, by rw [e_Teller_tellShape_87, if_pos (nI_le (by omega) (by omega))]; rfl, hs, hc⟩
  | f + 1, h, R, P, u, hf, h1, hs, hc => by
    obtain ⟨hP, a, ha, r1, r2, r3, r4, r5⟩ := cPo_rd hT hc
    have k4 := kd4 T P
    rw [e_Teller_tellShape_87, if_neg (nI_ge (by omega) (by decide)), g_L_tokens, g_K_kind, g_L_at, r1, i_K_kind ha, r2]
    unfold shL
    by_cases c : kd T P = 1
    · rw [if_pos (by rw [c]), if_pos c, ck_L, C_squares X hT hc (by omega) (by omega), r1_s]
      cases c2 : tQ T l l P
      · exact ⟨u, by rw [if_pos (by decide)]; rfl, hs, hc⟩
      · have hl2 := tQ_lt c2
        have hz : ∃ z : sT, z = up2 (su (su u 78 6 (nI (qv T P (ln T P)))) 78 7 (nI (ln T P))) := ⟨_, rfl⟩
        obtain ⟨z, hz⟩ := hz
        have oz : o78 u z := by rw [hz]; exact (o78_su.tr o78_su).tr (o78_up _)
        have cz : cPo T (nx T P) z := by rw [hz]; exact cPo_up (cPo_78 (cPo_78 hc (by decide)) (by decide)) hl2.1
        have z6 : z.1 78 6 = nI (qv T P (ln T P)) := by rw [hz, up2_o (by decide), su_1, if_neg (by omega), su_1, if_pos ⟨rfl, rfl⟩]
        obtain ⟨w, ew, sw, cw⟩ := addRow_run X hq hq2 (v := qv T P (ln T P)) hm (show h < 8 by omega) (shC_78 hq2 hs oz)
        have cw2 : cPo T (nx T P) w := cPo_cong cz (fun c p r => cw c (by omega)) (by rw [cw 78 (by omega)])
        rw [if_neg (by decide), if_pos rfl, if_pos rfl, ← hz, g_L_squares, z6, ck_S hq, ew, r0_s, nI_add]
        have : ln T P = l := by omega
        rw [this] at sw
        exact lpC X hT hq hq2 hm hl hl8 f (h + 1) _ (nx T P) w (by omega) (by omega) sw cw2
    · rw [if_neg (fun z => c ((nI_eq (by omega) (by decide)).mp z)), if_neg c]
      exact ⟨u, rfl, hs, hc⟩
theorem C_shape (X : qz_X) (hT : okT T) (hq : isS q) (hq2 : q < 69) (ok : okDr T D) (h : cPo T P s) (hd : dCd T q D s) : CRn X T q s 42 [some (.ref 78), some (.ref q), none, none, none, none] (shS T D P) := by
  have h3 := ok.1.2.2.2.1
  have h10 : s.1 q 10 = nI (D.1.1 3) := hd.1.1.2.2.2.1
  unfold CRn shS
  rw [e_Teller_tellShape_0, ck_L, C_name X hT h, r2_s]
  by_cases hn : okn T P
  · have hb := p27_bd hn
    rw [if_pos hn, if_neg (fun z => by have := (pk_lEQ hb.2 (by decide)).mp ((lg_cmp_eq _ _).mp z); omega), g_S_shapeNumber hq, h10]
    by_cases h8 : D.1.1 3 < 8
    · have hfd := C_find (P := P) X hq ok hd
      rw [if_pos hn] at hfd
      rw [if_neg (nI_ge h8 (by decide)), ck_L, hfd, r1_s]
      have hle : shf T D P ≤ D.1.1 3 := by
        unfold shf
        rw [if_pos hn]
        exact fa_first_le _ _
      by_cases hf : shf T D P = D.1.1 3
      · have hP := okn_lt hn
        rw [if_neg (show ¬ shf T D P < D.1.1 3 by omega), if_pos rfl, if_pos (show okn T P ∧ D.1.1 3 < 8 ∧ shf T D P = D.1.1 3 from ⟨hn, h8, hf⟩), g_L_names, g_S_shapeNumber hq, h10, w_L_names h8, g_L_at, p_L_at]
        have hz : ∃ z : sT, z = up2 (sl s 85 (D.1.1 3) (lN (p27 T P))) := ⟨_, rfl⟩
        obtain ⟨z, hz⟩ := hz
        rw [show su (sl s 85 (D.1.1 3) (lN (p27 T P))) 78 2 ((sl s 85 (D.1.1 3) (lN (p27 T P))).1 78 2 + nI 1) = z from hz.symm]
        have zc : ∀ c, c ≠ 78 → z.1 c = s.1 c := fun c hc => by rw [hz, (o78_up _).2 c hc]; rfl
        have z2 : z.2 = (sl s 85 (D.1.1 3) (lN (p27 T P))).2 := by rw [hz]; rfl
        have zf : frC q s z := ⟨by rw [z2]; rfl, fun c hc => zc c (by omega)⟩
        have cz : cPo T (nx T P) z := by
          rw [hz]
          exact cPo_up (cPo_cong h (fun _ _ _ => rfl) rfl) hP
        rw [ck_L, C_squares X hT cz (by decide) (by decide), r1_s]
        unfold shS1
        cases c2 : tQ T 1 8 (nx T P)
        · exact ⟨z, by rw [if_pos (by decide)]; rfl, zf, cz, fun z => by cases z⟩
        · have hl := tQ_lt c2
          have hy : ∃ y : sT, y = up2 (su (su z 78 6 (nI (qv T (nx T P) (ln T (nx T P))))) 78 7 (nI (ln T (nx T P)))) := ⟨_, rfl⟩
          obtain ⟨y, hy⟩ := hy
          have oy : o78 z y := by rw [hy]; exact (o78_su.tr o78_su).tr (o78_up _)
          have cy : cPo T (nx T (nx T P)) y := by rw [hy]; exact cPo_up (cPo_78 (cPo_78 cz (by decide)) (by decide)) hl.1
          have y7 : y.1 78 7 = nI (ln T (nx T P)) := by rw [hy, up2_o (by decide), su_1, if_pos ⟨rfl, rfl⟩]
          have y6 : y.1 78 6 = nI (qv T (nx T P) (ln T (nx T P))) := by rw [hy, up2_o (by decide), su_1, if_neg (by omega), su_1, if_pos ⟨rfl, rfl⟩]
          have yc : ∀ c, c ≠ 78 → y.1 c = s.1 c := fun c hc => by rw [oy.2 c hc, zc c hc]
          have yq : y.1 q 10 = nI (D.1.1 3) := by rw [yc q (by omega)]; exact h10
          have hx : ∃ x : sT, x = su (su (su y (q + 7) (D.1.1 3) (nI (ln T (nx T P)))) (q + 8) (D.1.1 3) (nI 0)) q 10 (nI (D.1.1 3 + 1)) := ⟨_, rfl⟩
          obtain ⟨x, hx⟩ := hx
          have ex : rn 40 0 [some (.ref q), some (.int (nI (ln T (nx T P))))] [] (mk X y) = some (none, mk X x) := by
            rw [e_Sheet_openShape_0, g_S_shapeNumber hq, yq, if_neg (nI_ge h8 (by decide)), g_S_shapeWide hq, g_S_shapeNumber hq, yq, w_S_shapeWide hq h8, g_S_shapeHigh hq, g_S_shapeNumber hq, su_1, if_neg (by omega), yq, w_S_shapeHigh hq h8, g_S_shapeNumber hq, su_1, if_neg (by omega), su_1, if_neg (by omega), yq, p_S_shapeNumber hq, nI_add, hx]
          have sx : shC q (D.1.1 3) (ln T (nx T P)) 0 (fun _ => qv T (nx T P) (ln T (nx T P))) z x := by
            refine ⟨by rw [hx, ← oy.1]; rfl, fun c a1 a2 a3 a4 a5 => ?_, fun j hj => ?_, ?_, fun k => ?_, fun k => ?_, fun y hy => absurd hy (Nat.not_lt_zero y), fun k hk => ?_⟩
            · funext k
              rw [hx, su_1, if_neg (by omega), su_1, if_neg (by omega), su_1, if_neg (by omega), oy.2 c a1]
            · rw [hx, su_1, if_neg (by omega), su_1, if_neg (by omega), su_1, if_neg (by omega), oy.2 q (by omega)]
            · rw [hx, su_1, if_pos ⟨rfl, rfl⟩]
            · rw [hx, su_1, if_neg (by omega), su_1, if_neg (by omega), su_1]
              by_cases e : k = D.1.1 3
              · rw [if_pos ⟨rfl, e⟩, if_pos e]
              · rw [if_neg (fun z => e z.2), if_neg e, oy.2 _ (by omega)]
            · rw [hx, su_1, if_neg (by omega), su_1]
              by_cases e : k = D.1.1 3
              · rw [if_pos ⟨rfl, e⟩, if_pos e]
              · rw [if_neg (fun z => e z.2), if_neg e, su_1, if_neg (by omega), oy.2 _ (by omega)]
            · rw [hx, su_1, if_neg (by omega), su_1, if_neg (by omega), su_1, if_neg (by omega), oy.2 _ (by omega)]
          obtain ⟨w, ew, sw, cw⟩ := addRow_run X hq hq2 (v := qv T (nx T P) (ln T (nx T P))) h8 (show 0 < 8 by decide) sx
          have xc : ∀ c, 78 ≤ c → x.1 c = y.1 c := fun c hc => by
            funext k
            rw [hx, su_1, if_neg (by omega), su_1, if_neg (by omega), su_1, if_neg (by omega)]
          have cw2 : cPo T (nx T (nx T P)) w := cPo_cong cy (fun c p r => by rw [cw c (by omega), xc c (by omega)]) (by rw [cw 78 (by omega), xc 78 (by omega)])
          have sw : shC q (D.1.1 3) (ln T (nx T P)) 1 (fun _ => qv T (nx T P) (ln T (nx T P))) z w := by
            have e : (fun i => if i = 0 then qv T (nx T P) (ln T (nx T P)) else qv T (nx T P) (ln T (nx T P))) = (fun _ : Nat => qv T (nx T P) (ln T (nx T P))) := funext fun i => by
              by_cases e : i = 0
              · rw [if_pos e]
              · rw [if_neg e]
            rw [e] at sw
            exact sw
          have x6 : x.1 78 6 = nI (qv T (nx T P) (ln T (nx T P))) := by rw [xc 78 (by omega)]; exact y6
          obtain ⟨v, ev, sv, cv⟩ := lpC X hT hq hq2 h8 hl.2.1 hl.2.2 7 1 (fun _ => qv T (nx T P) (ln T (nx T P))) (nx T (nx T P)) w (by decide) (by decide) sw cw2
          obtain ⟨q1, q2, q3, q4, q5, q6, q7, q8⟩ := sv
          have hlb := shL_ok (T := T) (l := ln T (nx T P)) 7 1 (fun _ => qv T (nx T P) (ln T (nx T P))) (nx T (nx T P)) (by decide) (by decide) (fun y _ => qv_lt T _ _)
          refine ⟨v, ?_, zf.tr ⟨by rw [q1], fun c hc => q2 c (by omega) (by omega) (by omega) (by omega) (by omega)⟩, cv, fun _ => ⟨?_, ?_, fun b g1 g2 y' hy' => ?_, fun i hi => ?_⟩⟩
          · rw [if_neg (by decide), if_pos rfl, if_pos rfl, ← hy, g_L_squaresLong, y7, ck_S hq, ex, r0_s, g_L_squares, x6, ck_S hq, ew, r0_s, ev]
          · rw [if_pos rfl]
            show isC v q (fA (shAdd D.1 _ _ _))
            rw [fA_shAdd]
            have zi : isC z q (fA D.1) := isC_cong (fun i hi => zc _ (by omega)) hd.1
            exact isC_sh hlb.1.2 rfl zi (fun i a1 a2 => q2 _ (by omega) (by omega) (by omega) (by omega) (by omega)) q3 q4 q5 q6 q7 q8 (fun k hk => (ok.1.2.2.2.2.2.2.2.2.2.2.2.2.2 k hk).2.1.2)
          · rw [q3 0 (by decide), zc q (by omega)]; exact hd.2.1
          · rw [if_pos rfl] at g1
            rw [q2 (q + 6) (by omega) (by omega) (by omega) (by omega) (by omega), zc _ (by omega)]
            exact hd.2.2.1 b g1 g2 y' hy'
          · rw [if_pos rfl] at hi ⊢
            have hi : i < D.1.1 3 + 1 := hi
            show v.2.1 85 i = lN (p27 T (if i = D.1.1 3 then P else D.2 i))
            rw [q1, z2, sl_2]
            by_cases e : i = D.1.1 3
            · rw [if_pos ⟨rfl, e⟩, if_pos e]
            · rw [if_neg (fun z => e z.2), if_neg e]
              exact hd.2.2.2 i (by omega)
      · rw [if_pos (show shf T D P < D.1.1 3 by omega), if_neg (nI_m1 (show shf T D P < 2 ^ 31 by omega)), if_neg (show ¬ (okn T P ∧ D.1.1 3 < 8 ∧ shf T D P = D.1.1 3) from fun z => hf z.2.2)]
        exact ⟨s, rfl, frC.rf s, h, fun z => by cases z⟩
    · rw [if_pos (nI_le (by omega) (by omega)), if_neg (fun z => h8 z.2.1)]
      exact ⟨s, rfl, frC.rf s, h, fun z => by cases z⟩
  · rw [if_neg hn, if_pos ((lg_cmp_eq _ _).mpr rfl), if_neg (fun z => hn z.1)]
    exact ⟨s, rfl, frC.rf s, h, fun z => by cases z⟩
end ST

/-! the kinds of bridges, told -/
abbrev bsT : Type := Bool × Nat × (Nat → Bool) × Nat
abbrev nx2 (T : txT) (P : Nat) : Nat := nx T (nx T P)
abbrev nx3 (T : txT) (P : Nat) : Nat := nx T (nx T (nx T P))
abbrev nx4 (T : txT) (P : Nat) : Nat := nx T (nx T (nx T (nx T P)))
abbrev nE : Nat → Bool := fun _ => false
def sd3 (T : txT) (A : shT) (P : Nat) (k : bsT) : bsT := if tP T 0 0 (A.1 0) (A.1 1) P then (if tD T (nx2 T P) then (if tN T 1 20 (nx3 T P) then k else (false, nx3 T P, nE, 0)) else (false, nx2 T P, nE, 0)) else (false, plP T 0 0 (A.1 0) (A.1 1) P, nE, 0)
def stB (T : txT) (A : shT) (P : Nat) : bsT := sd3 T A P (true, nx4 T P, brdE A (nI (nv T P)) (nI (nv T (nx T P))) (dv T (nx2 T P)) (nv T (nx3 T P)) ((dv T (nx2 T P) + 1) % 4) 1, 100)
def bdB (T : txT) (A : shT) (P : Nat) : bsT := sd3 T A P (if tN T 2 4 (nx4 T P) then (true, nx T (nx4 T P), brdE A (nI (nv T P)) (nI (nv T (nx T P))) (dv T (nx2 T P)) (nv T (nx3 T P)) ((dv T (nx2 T P) + 1) % 4) (nv T (nx4 T P)), 100 * nv T (nx4 T P)) else (false, nx4 T P, nE, 0))
def coB (T : txT) (A : shT) (P : Nat) : bsT := sd3 T A P (if tD T (nx4 T P) then (if tN T 1 20 (nx T (nx4 T P)) then (true, nx T (nx T (nx4 T P)), lnO A (nI (nv T P) + nI (nv T (nx3 T P) - 1) * qz_sx (dv T (nx2 T P)) + qz_sx (dv T (nx4 T P))) (nI (nv T (nx T P)) + nI (nv T (nx3 T P) - 1) * qz_sy (dv T (nx2 T P)) + qz_sy (dv T (nx4 T P))) (dv T (nx4 T P)) 0 (lnO A (nI (nv T P)) (nI (nv T (nx T P))) (dv T (nx2 T P)) 0 nE (nv T (nx3 T P))) (nv T (nx T (nx4 T P))), 80) else (false, nx T (nx4 T P), nE, 0)) else (false, nx4 T P, nE, 0))
def CBn (X : qz_X) (T : txT) (q : Nat) (s : sT) (D : drT) (m : Nat) (a : qz_L) (kn : Nat) (r : bsT) : Prop := ∃ u : sT, rn m 0 a [] (mk X s) = some (some (.int (bI r.1)), mk X u) ∧ frC q s u ∧ cPo T r.2.1 u ∧ (r.1 = true → dCd T q (brF D.1 r.2.2.1 kn 0 r.2.2.2, D.2) u)
def MBn (X : qz_X) (T : txT) (t : sT) (D : drT) (m : Nat) (a : qz_L) (r : bsT) : Prop := ∃ u : sT, rn m 0 a [] (mk X t) = some (some (.int (bI r.1)), mk X u) ∧ frM t u ∧ mPo T r.2.1 u ∧ (r.1 = true → isM (gN u) 6 (brE D.1 r.2.2.1) ∧ u.1 330 (72 + D.1.1 4) = nI r.2.2.2 ∧ u.2 = t.2)
def okB (A : shT) (r : bsT) : Prop := r.1 = true → (∀ j, j < 400 → r.2.2.1 j = true → ins A j = true) ∧ r.2.2.2 ≤ 24000
section BR
variable {T : txT} {P q : Nat} {s t u : sT} {D : drT} {A : shT} {E : Nat → Bool}
theorem sd3_ok {k : bsT} (h : tN T 1 20 (nx3 T P) = true → okB A k) : okB A (sd3 T A P k) := by
  unfold sd3
  cases c1 : tP T 0 0 (A.1 0) (A.1 1) P
  · exact fun z => by cases z
  · rw [if_pos rfl]
    cases c2 : tD T (nx2 T P)
    · exact fun z => by cases z
    · rw [if_pos rfl]
      cases c3 : tN T 1 20 (nx3 T P)
      · exact fun z => by cases z
      · exact h c3
theorem stB_ok (ok : okA A) : okB A (stB T A P) := sd3_ok fun _ _ => ⟨brdE_ins ok _, (by decide : 100 ≤ 24000)⟩
theorem bdB_ok (ok : okA A) : okB A (bdB T A P) := sd3_ok fun _ => by
  cases c : tN T 2 4 (nx4 T P)
  · exact fun z => by cases z
  · exact fun _ => ⟨brdE_ins ok _, by have := (tN_lt c).2.2; show 100 * nv T (nx4 T P) ≤ 24000; omega⟩
theorem coB_ok (ok : okA A) : okB A (coB T A P) := sd3_ok fun _ => by
  cases c : tD T (nx4 T P)
  · exact fun z => by cases z
  · rw [if_pos rfl]
    cases c2 : tN T 1 20 (nx T (nx4 T P))
    · exact fun z => by cases z
    · exact fun _ => ⟨lnO_ins ok (lnO_ins ok (fun j _ h => by cases h) _) _, (by decide : 80 ≤ 24000)⟩
theorem preC (X : qz_X) (hT : okT T) (hq : isS q) (ok : okDr T D) (h : cPo T P s) (hd : dCd T q D s) : ∃ u1 : sT, rn 43 0 [some (.ref 78), some (.ref q)] [] (mk X s) = some (some (.int (bI (tP T 0 0 (D.1.1 0) (D.1.1 1) P))), mk X u1) ∧ o78 s u1 ∧ cPo T (plP T 0 0 (D.1.1 0) (D.1.1 1) P) u1 ∧ (tP T 0 0 (D.1.1 0) (D.1.1 1) P = true → ∃ u2 : sT, rn 50 0 [some (.ref 78)] [] (mk X u1) = some (some (.int (bI (tD T (nx2 T P)))), mk X u2) ∧ o78 s u2 ∧ cPo T (if tD T (nx2 T P) then nx3 T P else nx2 T P) u2 ∧ (tD T (nx2 T P) = true → u2.1 78 3 = nI (dv T (nx2 T P)) ∧ ∃ u3 : sT, rn 30 0 [some (.ref 78), some (.int (nI 1)), some (.int (nI 20)), none] [] (mk X u2) = some (some (.int (bI (tN T 1 20 (nx3 T P)))), mk X u3) ∧ o78 s u3 ∧ cPo T (if tN T 1 20 (nx3 T P) then nx4 T P else nx3 T P) u3 ∧ (tN T 1 20 (nx3 T P) = true → u3.1 78 3 = nI (nv T (nx3 T P)) ∧ u3.1 78 4 = nI (nv T P) ∧ u3.1 78 5 = nI (nv T (nx T P))))) := by
  obtain ⟨u1, e1, o1, c1, v1⟩ : ∃ u : sT, rn 43 0 [some (.ref 78), some (.ref q)] [] (mk X s) = some (some (.int (bI (tP T 0 0 (D.1.1 0) (D.1.1 1) P))), mk X u) ∧ o78 s u ∧ cPo T (plP T 0 0 (D.1.1 0) (D.1.1 1) P) u ∧ (tP T 0 0 (D.1.1 0) (D.1.1 1) P = true → u.1 78 4 = nI (nv T P) ∧ u.1 78 5 = nI (nv T (nx T P))) := C_place X hT h (fA_ok ok.1) hq hd.1
  refine ⟨u1, e1, o1, c1, fun hp => ?_⟩
  obtain ⟨p1, p2, p3, p4, p5⟩ := plP_y hp
  obtain ⟨x1, x2⟩ := v1 hp
  rw [p1] at c1
  refine ⟨_, C_side X hT c1, ?_, ?_, fun hD => ?_⟩
  · cases hc : tD T (nx2 T P)
    · exact o1
    · exact (o1.tr o78_su).tr (o78_up _)
  · cases hc : tD T (nx2 T P)
    · exact c1
    · exact cPo_up (cPo_78 c1 (by decide)) (tD_lt hc).1
  · have hz : ∃ z : sT, z = up2 (su u1 78 3 (nI (dv T (nx2 T P)))) := ⟨_, rfl⟩
    obtain ⟨z, hz⟩ := hz
    rw [hD, if_pos rfl, ← hz]
    have oz : o78 s z := by rw [hz]; exact (o1.tr o78_su).tr (o78_up _)
    have cz : cPo T (nx3 T P) z := by rw [hz]; exact cPo_up (cPo_78 c1 (by decide)) (tD_lt hD).1
    have z3 : z.1 78 3 = nI (dv T (nx2 T P)) := by rw [hz, up2_o (by decide), su_1, if_pos ⟨rfl, rfl⟩]
    have z4 : z.1 78 4 = nI (nv T P) := by rw [hz, up2_o (by decide), su_1, if_neg (by omega)]; exact x1
    have z5 : z.1 78 5 = nI (nv T (nx T P)) := by rw [hz, up2_o (by decide), su_1, if_neg (by omega)]; exact x2
    refine ⟨z3, _, C_num X hT cz (by decide) (by decide), ?_, ?_, fun hN => ?_⟩
    · cases hc : tN T 1 20 (nx3 T P)
      · exact oz
      · exact (oz.tr o78_su).tr (o78_up _)
    · cases hc : tN T 1 20 (nx3 T P)
      · exact cz
      · exact cPo_up (cPo_78 cz (by decide)) (tN_lt hc).1
    · rw [hN, if_pos rfl]
      exact ⟨by rw [up2_o (by decide), su_1, if_pos ⟨rfl, rfl⟩], by rw [up2_o (by decide), su_1, if_neg (by omega)]; exact z4, by rw [up2_o (by decide), su_1, if_neg (by omega)]; exact z5⟩
theorem preM (X : qz_X) (hT : okT T) (ok : okDr T D) (h : mPo T P t) (hd : dMd T D t) : ∃ u1 : sT, rn 91 0 [some (.ref 318), some (.int (nI 0)), some (.int (nI 0))] [] (mk X t) = some (some (.int (bI (tP T 0 0 (D.1.1 0) (D.1.1 1) P))), mk X u1) ∧ oM [16, 20, 21, 24, 25, 26] t u1 ∧ mPo T (plP T 0 0 (D.1.1 0) (D.1.1 1) P) u1 ∧ (tP T 0 0 (D.1.1 0) (D.1.1 1) P = true → ∃ u2 : sT, rn 96 0 [some (.ref 318)] [] (mk X u1) = some (some (.int (bI (tD T (nx2 T P)))), mk X u2) ∧ oM [16, 20, 21, 24, 25, 26] t u2 ∧ mPo T (if tD T (nx2 T P) then nx3 T P else nx2 T P) u2 ∧ (tD T (nx2 T P) = true → ∃ u3 : sT, rn 78 0 [some (.ref 318), some (.int (nI 1)), some (.int (nI 20)), none] [] (mk X u2) = some (some (.int (bI (tN T 1 20 (nx3 T P)))), mk X u3) ∧ oM [16, 20, 21, 24, 25, 26] t u3 ∧ mPo T (if tN T 1 20 (nx3 T P) then nx4 T P else nx3 T P) u3 ∧ (tN T 1 20 (nx3 T P) = true → u3.1 318 21 = nI (nv T (nx3 T P)) ∧ u3.1 318 25 = nI (nv T P) ∧ u3.1 318 26 = nI (nv T (nx T P)) ∧ u3.1 318 24 = nI (dv T (nx2 T P))))) := by
  obtain ⟨u1, e1, o1, c1, v1⟩ := M_place X hT h ok.1 hd.1 (a := 0) (b := 0) (by decide) (by decide)
  have o1' : oM [16, 20, 21, 24, 25, 26] t u1 := o1.mo (by decide)
  refine ⟨u1, e1, o1', c1, fun hp => ?_⟩
  obtain ⟨p1, p2, p3, p4, p5⟩ := plP_y hp
  obtain ⟨x1, x2⟩ := v1 hp
  rw [p1] at c1
  obtain ⟨u2, e2, o2, c2, v2⟩ := M_side X hT c1
  have o2' : oM [16, 20, 21, 24, 25, 26] t u2 := o1'.tr (o2.mo (by decide))
  refine ⟨u2, e2, o2', c2, fun hD => ?_⟩
  rw [hD, if_pos rfl] at c2
  obtain ⟨u3, e3, o3, c3, v3⟩ := M_num X hT c2 (lo := 1) (hi := 20) (by decide) (by decide)
  refine ⟨u3, e3, o2'.tr (o3.mo (by decide)), c3, fun hN => ⟨v3 hN, ?_, ?_, ?_⟩⟩
  · rw [o3.2 318 25 (by decide), o2.2 318 25 (by decide)]; exact x1
  · rw [o3.2 318 26 (by decide), o2.2 318 26 (by decide)]; exact x2
  · rw [o3.2 318 24 (by decide)]; exact v2 hD
theorem frC_q {u v : sT} (h2 : v.2 = u.2) (hc : ∀ c, ¬ (q ≤ c ∧ c < q + 10) → v.1 c = u.1 c) : frC q u v := ⟨by rw [h2], fun c e => hc c (by omega)⟩
theorem C_straight (X : qz_X) (hT : okT T) (hq : isS q) (hq2 : q < 69) (ok : okDr T D) (h12 : D.1.1 4 < 12) (h : cPo T P s) (hd : dCd T q D s) : CBn X T q s D 59 [some (.ref 78), some (.ref q), none] 0 (stB T D.1 P) := by
  obtain ⟨u1, e1, o1, c1, k1⟩ := preC X hT hq ok h hd
  unfold CBn stB sd3
  rw [e_Teller_tellStraight_0, ck_L, e1, r1_s]
  cases hp : tP T 0 0 (D.1.1 0) (D.1.1 1) P
  · exact ⟨u1, by rw [if_pos (by decide)]; rfl, o1.fr, c1, fun z => by cases z⟩
  · obtain ⟨u2, e2, o2, c2, k2⟩ := k1 hp
    rw [if_neg (by decide), ck_L, e2, r1_s, if_pos rfl]
    cases hD : tD T (nx2 T P)
    · rw [hD] at c2
      exact ⟨u2, by rw [if_pos (by decide)]; rfl, o2.fr, c2, fun z => by cases z⟩
    · obtain ⟨v2, u3, e3, o3, c3, k3⟩ := k2 hD
      rw [if_neg (by decide), g_L_number, v2, ck_L, e3, r1_s, if_pos rfl]
      cases hN : tN T 1 20 (nx3 T P)
      · rw [hN] at c3
        exact ⟨u3, by rw [if_pos (by decide)]; rfl, o3.fr, c3, fun z => by cases z⟩
      · rw [hN, if_pos rfl] at c3
        obtain ⟨w3, w4, w5⟩ := k3 hN
        have hv := tN_lt hN
        obtain ⟨y, ey, y2, yc, yd⟩ := open_C X hq hq2 h12 (dCd_78 hq hd o3) (kn := 0) (la := 100)
        obtain ⟨z, ez, z2, zc, zd⟩ := line_C X hq hq2 ok.1 h12 yd (nI (nv T P)) (nI (nv T (nx T P))) (d := dv T (nx2 T P)) (l := nv T (nx3 T P)) (tD_lt hD).2 hv.2.2
        have y78 : ∀ j, y.1 78 j = u3.1 78 j := fun j => by rw [yc 78 (by omega)]
        refine ⟨z, ?_, (o3.fr.tr (frC_q y2 (fun c hc => yc c (by omega)))).tr (frC_q z2 (fun c hc => zc c (by omega))), cPo_cong (cPo_cong c3 (fun c p r => yc c (by omega)) (y78 2)) (fun c p r => zc c (by omega)) (by rw [zc 78 (by omega)]), fun _ => ?_⟩
        · rw [if_neg (by decide), g_S_bridges hq, ck_B hq, ey, r0_s, g_L_x, y78, w4, g_L_y, y78, w5, g_L_number, y78, w3, ck_S hq, ez, r0_s]
          rfl
        · have eb : brdE D.1 (nI (nv T P)) (nI (nv T (nx T P))) (dv T (nx2 T P)) (nv T (nx3 T P)) ((dv T (nx2 T P) + 1) % 4) 1 = lnO D.1 (nI (nv T P)) (nI (nv T (nx T P))) (dv T (nx2 T P)) 0 nE (nv T (nx3 T P)) := by
            show lnO D.1 (nI (nv T P) + nI 0 * _) (nI (nv T (nx T P)) + nI 0 * _) _ 0 _ _ = _
            rw [nI_0, Int32.zero_mul, Int32.zero_mul, Int32.add_zero, Int32.add_zero]
            rfl
          show dCd T q (brF D.1 (brdE D.1 _ _ _ _ _ 1) 0 0 100, D.2) z
          rw [eb]
          exact zd
theorem rt4 : ∀ d, d < 4 → (nI d + nI 1) - (nI d + nI 1) / nI 4 * nI 4 = nI ((d + 1) % 4) := by decide
theorem C_broad (X : qz_X) (hT : okT T) (hq : isS q) (hq2 : q < 69) (ok : okDr T D) (h12 : D.1.1 4 < 12) (h : cPo T P s) (hd : dCd T q D s) : CBn X T q s D 60 [some (.ref 78), some (.ref q), none, none, none, none] 1 (bdB T D.1 P) := by
  obtain ⟨u1, e1, o1, c1, k1⟩ := preC X hT hq ok h hd
  unfold CBn bdB sd3
  rw [e_Teller_tellBroad_0, ck_L, e1, r1_s]
  cases hp : tP T 0 0 (D.1.1 0) (D.1.1 1) P
  · exact ⟨u1, by rw [if_pos (by decide)]; rfl, o1.fr, c1, fun z => by cases z⟩
  · obtain ⟨u2, e2, o2, c2, k2⟩ := k1 hp
    rw [if_neg (by decide), ck_L, e2, r1_s, if_pos rfl]
    cases hD : tD T (nx2 T P)
    · rw [hD] at c2
      exact ⟨u2, by rw [if_pos (by decide)]; rfl, o2.fr, c2, fun z => by cases z⟩
    · obtain ⟨v2, u3, e3, o3, c3, k3⟩ := k2 hD
      have hd4 := (tD_lt hD).2
      rw [if_neg (by decide), g_L_number, v2, ck_L, e3, r1_s, if_pos rfl]
      cases hN : tN T 1 20 (nx3 T P)
      · rw [hN] at c3
        exact ⟨u3, by rw [if_pos (by decide)]; rfl, o3.fr, c3, fun z => by cases z⟩
      · rw [hN, if_pos rfl] at c3
        obtain ⟨w3, w4, w5⟩ := k3 hN
        have hv := tN_lt hN
        rw [if_neg (by decide), g_L_number, w3, ck_L, C_num X hT c3 (by decide) (by decide), r1_s, if_pos rfl]
        cases hB : tN T 2 4 (nx4 T P)
        · exact ⟨u3, by rw [if_pos (by decide)]; rfl, o3.fr, c3, fun z => by cases z⟩
        · have hb := tN_lt hB
          have hx : ∃ x : sT, x = up2 (su u3 78 3 (nI (nv T (nx4 T P)))) := ⟨_, rfl⟩
          obtain ⟨x, hx⟩ := hx
          have ox : o78 s x := by rw [hx]; exact (o3.tr o78_su).tr (o78_up _)
          have cx : cPo T (nx T (nx4 T P)) x := by rw [hx]; exact cPo_up (cPo_78 c3 (by decide)) hb.1
          have x3 : x.1 78 3 = nI (nv T (nx4 T P)) := by rw [hx, up2_o (by decide), su_1, if_pos ⟨rfl, rfl⟩]
          have x4 : x.1 78 4 = nI (nv T P) := by rw [hx, up2_o (by decide), su_1, if_neg (by omega)]; exact w4
          have x5 : x.1 78 5 = nI (nv T (nx T P)) := by rw [hx, up2_o (by decide), su_1, if_neg (by omega)]; exact w5
          obtain ⟨y, ey, y2, yc, yd⟩ := open_C X hq hq2 h12 (dCd_78 hq hd ox) (kn := 1) (la := 100 * nv T (nx4 T P))
          obtain ⟨z, ⟨z2, zc, zd⟩, ez⟩ := it_up (fun k (z : sT) => rn 60 75 [some (.ref 78), some (.ref q), some (.int (nI (dv T (nx2 T P)))), some (.int (nI (nv T (nx3 T P)))), some (.int (nI ((dv T (nx2 T P) + 1) % 4))), some (.int (nI k))] [] (mk X z)) (fun k z => z.2 = y.2 ∧ (∀ c, c ≠ q + 6 → z.1 c = y.1 c) ∧ dCd T q (brF D.1 (brdE D.1 (nI (nv T P)) (nI (nv T (nx T P))) (dv T (nx2 T P)) (nv T (nx3 T P)) ((dv T (nx2 T P) + 1) % 4) k) 1 0 (100 * nv T (nx4 T P)), D.2) z) (Nat.zero_le (nv T (nx4 T P))) (by
            rintro k z _ hk ⟨z2, zc, zd⟩
            try dsimp only
            have z78 : ∀ j, z.1 78 j = x.1 78 j := fun j => by rw [zc 78 (by omega), yc 78 (by omega)]
            obtain ⟨w, ew, w2, wc, wd⟩ := line_C X hq hq2 ok.1 h12 zd (nI (nv T P) + nI k * qz_sx ((dv T (nx2 T P) + 1) % 4)) (nI (nv T (nx T P)) + nI k * qz_sy ((dv T (nx2 T P) + 1) % 4)) (d := dv T (nx2 T P)) (l := nv T (nx3 T P)) hd4 hv.2.2
            refine ⟨w, ⟨w2.trans z2, fun c hc => (wc c hc).trans (zc c hc), wd⟩, ?_⟩
            rw [e_Teller_tellBroad_75, g_L_number, z78, x3, if_neg (nI_ge hk (by omega)), g_L_x, z78, x4, old_x X z (by omega), g_L_y, z78, x5, old_y X z (by omega), ck_S hq, ew, r0_s, nI_add]) (x := y) ⟨rfl, fun _ _ => rfl, yd⟩
          try dsimp only at ez
          have z78 : ∀ j, z.1 78 j = x.1 78 j := fun j => by rw [zc 78 (by omega), yc 78 (by omega)]
          refine ⟨z, ?_, (ox.fr.tr (frC_q y2 (fun c hc => yc c (by omega)))).tr (frC_q z2 (fun c hc => zc c (by omega))), cPo_cong cx (fun c p r => by rw [zc c (by omega), yc c (by omega)]) (z78 2), fun _ => zd⟩
          rw [if_neg (by decide), if_pos rfl, ← hx, g_S_bridges hq, g_L_number, x3, ck_B hq, pk_mul, ey, r0_s, if_neg (by decide), rt4 _ hd4, ez, e_Teller_tellBroad_75, g_L_number, z78, x3, if_pos (nI_le (Nat.le_refl _) (by omega))]
          rfl
theorem C_corner (X : qz_X) (hT : okT T) (hq : isS q) (hq2 : q < 69) (ok : okDr T D) (h12 : D.1.1 4 < 12) (h : cPo T P s) (hd : dCd T q D s) : CBn X T q s D 61 [some (.ref 78), some (.ref q), none, none, none, none, none] 2 (coB T D.1 P) := by
  obtain ⟨u1, e1, o1, c1, k1⟩ := preC X hT hq ok h hd
  unfold CBn coB sd3
  rw [e_Teller_tellCorner_0, ck_L, e1, r1_s]
  cases hp : tP T 0 0 (D.1.1 0) (D.1.1 1) P
  · exact ⟨u1, by rw [if_pos (by decide)]; rfl, o1.fr, c1, fun z => by cases z⟩
  · obtain ⟨u2, e2, o2, c2, k2⟩ := k1 hp
    rw [if_neg (by decide), ck_L, e2, r1_s, if_pos rfl]
    cases hD : tD T (nx2 T P)
    · rw [hD] at c2
      exact ⟨u2, by rw [if_pos (by decide)]; rfl, o2.fr, c2, fun z => by cases z⟩
    · obtain ⟨v2, u3, e3, o3, c3, k3⟩ := k2 hD
      have hd4 := (tD_lt hD).2
      rw [if_neg (by decide), g_L_number, v2, ck_L, e3, r1_s, if_pos rfl]
      cases hN : tN T 1 20 (nx3 T P)
      · rw [hN] at c3
        exact ⟨u3, by rw [if_pos (by decide)]; rfl, o3.fr, c3, fun z => by cases z⟩
      · rw [hN, if_pos rfl] at c3
        obtain ⟨w3, w4, w5⟩ := k3 hN
        have hv := tN_lt hN
        rw [if_neg (by decide), g_L_number, w3, ck_L, C_side X hT c3, r1_s, if_pos rfl]
        cases hB : tD T (nx4 T P)
        · exact ⟨u3, by rw [if_pos (by decide)]; rfl, o3.fr, c3, fun z => by cases z⟩
        · have hb := tD_lt hB
          have hx : ∃ x : sT, x = up2 (su u3 78 3 (nI (dv T (nx4 T P)))) := ⟨_, rfl⟩
          obtain ⟨x, hx⟩ := hx
          have ox : o78 s x := by rw [hx]; exact (o3.tr o78_su).tr (o78_up _)
          have cx : cPo T (nx T (nx4 T P)) x := by rw [hx]; exact cPo_up (cPo_78 c3 (by decide)) hb.1
          have x3 : x.1 78 3 = nI (dv T (nx4 T P)) := by rw [hx, up2_o (by decide), su_1, if_pos ⟨rfl, rfl⟩]
          have x4 : x.1 78 4 = nI (nv T P) := by rw [hx, up2_o (by decide), su_1, if_neg (by omega)]; exact w4
          have x5 : x.1 78 5 = nI (nv T (nx T P)) := by rw [hx, up2_o (by decide), su_1, if_neg (by omega)]; exact w5
          rw [if_neg (by decide), if_pos rfl, ← hx, g_L_number, x3, ck_L, C_num X hT cx (by decide) (by decide), r1_s, if_pos rfl]
          cases hF : tN T 1 20 (nx T (nx4 T P))
          · exact ⟨x, by rw [if_pos (by decide)]; rfl, ox.fr, cx, fun z => by cases z⟩
          · have hf := tN_lt hF
            have hg : ∃ g : sT, g = up2 (su x 78 3 (nI (nv T (nx T (nx4 T P))))) := ⟨_, rfl⟩
            obtain ⟨g, hg⟩ := hg
            have og : o78 s g := by rw [hg]; exact (ox.tr o78_su).tr (o78_up _)
            have cg : cPo T (nx T (nx T (nx4 T P))) g := by rw [hg]; exact cPo_up (cPo_78 cx (by decide)) hf.1
            have g3 : g.1 78 3 = nI (nv T (nx T (nx4 T P))) := by rw [hg, up2_o (by decide), su_1, if_pos ⟨rfl, rfl⟩]
            have g4 : g.1 78 4 = nI (nv T P) := by rw [hg, up2_o (by decide), su_1, if_neg (by omega)]; exact x4
            have g5 : g.1 78 5 = nI (nv T (nx T P)) := by rw [hg, up2_o (by decide), su_1, if_neg (by omega)]; exact x5
            obtain ⟨y, ey, y2, yc, yd⟩ := open_C X hq hq2 h12 (dCd_78 hq hd og) (kn := 2) (la := 80)
            obtain ⟨z, ez, z2, zc, zd⟩ := line_C X hq hq2 ok.1 h12 yd (nI (nv T P)) (nI (nv T (nx T P))) (d := dv T (nx2 T P)) (l := nv T (nx3 T P)) hd4 hv.2.2
            obtain ⟨w, ew, w2, wc, wd⟩ := line_C X hq hq2 ok.1 h12 zd (nI (nv T P) + nI (nv T (nx3 T P) - 1) * qz_sx (dv T (nx2 T P)) + qz_sx (dv T (nx4 T P))) (nI (nv T (nx T P)) + nI (nv T (nx3 T P) - 1) * qz_sy (dv T (nx2 T P)) + qz_sy (dv T (nx4 T P))) (d := dv T (nx4 T P)) (l := nv T (nx T (nx4 T P))) hb.2 hf.2.2
            have y78 : ∀ j, y.1 78 j = g.1 78 j := fun j => by rw [yc 78 (by omega)]
            have z78 : ∀ j, z.1 78 j = g.1 78 j := fun j => by rw [zc 78 (by omega), yc 78 (by omega)]
            refine ⟨w, ?_, ((og.fr.tr (frC_q y2 (fun c hc => yc c (by omega)))).tr (frC_q z2 (fun c hc => zc c (by omega)))).tr (frC_q w2 (fun c hc => wc c (by omega))), cPo_cong cg (fun c p r => by rw [wc c (by omega), zc c (by omega), yc c (by omega)]) (by rw [wc 78 (by omega)]; exact z78 2), fun _ => wd⟩
            rw [if_neg (by decide), if_pos rfl, ← hg, g_S_bridges hq, ck_B hq, ey, r0_s, g_L_x, y78, g4, g_L_y, y78, g5, ck_S hq, ez, r0_s, g_L_x, z78, g4, old_x X z hd4, g_L_y, z78, g5, old_y X z hd4, old_x X z hb.2, old_y X z hb.2, g_L_number, z78, g3, ck_S hq, pk_sub (by omega), ew, r0_s]
            rfl
end BR

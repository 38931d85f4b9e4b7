/-! bridge and statement, told -/
def hdn (T : txT) (D : drT) (kn : Nat) (r : bsT) : rsT := if r.1 then (if tK T 15 r.2.1 then (true, nx T r.2.1, (brF D.1 r.2.2.1 kn 1 r.2.2.2, D.2)) else (true, r.2.1, (brF D.1 r.2.2.1 kn 0 r.2.2.2, D.2))) else (false, r.2.1, D)
def bg1 (T : txT) (D : drT) (P : Nat) : rsT := if tK T 11 P then hdn T D 0 (stB T D.1 (nx T P)) else if tK T 12 P then hdn T D 1 (bdB T D.1 (nx T P)) else if tK T 13 P then hdn T D 2 (coB T D.1 (nx T P)) else if tK T 14 P then hdn T D 3 (tdB T D.1 (nx T P)) else (false, P, D)
def smS (T : txT) (D : drT) (P : Nat) : rsT := if tK T 1 P then rwS T D (nx T P) else if tK T 2 P then shS T D (nx T P) else if tK T 3 P then ptS T D (nx T P) else if tK T 5 P then hdS T D (nx T P) else if tK T 6 P then wtS T D (nx T P) else if tK T 8 P then nbS T 7 400 D (nx T P) else if tK T 9 P then nbS T 8 999 D (nx T P) else if D.1.1 4 < 12 then (if tK T 10 P then bg1 T D (nx T P) else (false, P, D)) else (false, P, D)
section ST
variable {T : txT} {P q : Nat} {s t u : sT} {D : drT}
theorem hdn_ok (h : okDr T D) (h12 : D.1.1 4 < 12) {kn : Nat} (hk : kn ≤ 3) {r : bsT} (hr : okB D.1 r) : (hdn T D kn r).1 = true → okDr T (hdn T D kn r).2.2 ∧ (hdn T D kn r).2.2.1.1 2 = D.1.1 2 := by
  unfold hdn
  cases c : r.1
  · exact fun z => by cases z
  · obtain ⟨r1, r2⟩ := hr c
    rw [if_pos rfl]
    cases c2 : tK T 15 r.2.1
    · exact fun _ => ⟨⟨brF_ok h.1 h12 r1 hk (by decide) r2, h.2.1, h.2.2⟩, rfl⟩
    · exact fun _ => ⟨⟨brF_ok h.1 h12 r1 hk (by decide) r2, h.2.1, h.2.2⟩, rfl⟩
theorem bg1_ok (h : okDr T D) (h12 : D.1.1 4 < 12) : (bg1 T D P).1 = true → okDr T (bg1 T D P).2.2 ∧ (bg1 T D P).2.2.1.1 2 = D.1.1 2 := by
  unfold bg1
  cases c1 : tK T 11 P
  · cases c2 : tK T 12 P
    · cases c3 : tK T 13 P
      · cases c4 : tK T 14 P
        · exact fun z => by cases z
        · exact hdn_ok h h12 (by decide) (tdB_ok h.1)
      · exact hdn_ok h h12 (by decide) (coB_ok h.1)
    · exact hdn_ok h h12 (by decide) (bdB_ok h.1)
  · exact hdn_ok h h12 (by decide) (stB_ok h.1)
theorem rwS_2 : (rwS T D P).2.2.1.1 2 = D.1.1 2 := by
  unfold rwS
  cases tN T 0 (D.1.1 1 - 1) P
  · rfl
  · cases tQ T 1 (D.1.1 0) (nx T P) <;> rfl
theorem shS_2 : (shS T D P).2.2.1.1 2 = D.1.1 2 := by
  unfold shS
  by_cases c : okn T P ∧ D.1.1 3 < 8 ∧ shf T D P = D.1.1 3
  · rw [if_pos c]
    unfold shS1
    cases tQ T 1 8 (nx T P) <;> rfl
  · rw [if_neg c]
theorem ptS_2 : (ptS T D P).2.2.1.1 2 = D.1.1 2 := by
  unfold ptS
  by_cases c : shf T D P < D.1.1 3
  · rw [if_pos c]
    unfold ptS1
    cases tP T 0 0 (D.1.1 0) (D.1.1 1) (nx T P)
    · rfl
    · rw [if_pos rfl]
      unfold ptS2
      cases tK T 4 (nx T (nx T (nx T P)))
      · rfl
      · cases tN T 0 3 (nx T (nx T (nx T (nx T P)))) <;> rfl
  · rw [if_neg c]
theorem hdS_2 : (hdS T D P).2.2.1.1 2 = D.1.1 2 := by
  unfold hdS
  cases tD T P <;> rfl
theorem wtS_2 : (wtS T D P).2.2.1.1 2 = D.1.1 2 := by
  unfold wtS
  cases tP T 0 0 (D.1.1 0) (D.1.1 1) P
  · rfl
  · rw [if_pos rfl]
    unfold wtS1
    cases tK T 7 (nx T (nx T P))
    · rfl
    · rw [if_pos rfl]
      unfold wtS2
      cases tP T (nv T P) (nv T (nx T P)) (D.1.1 0) (D.1.1 1) (nx T (nx T (nx T P)))
      · rfl
      · cases tN T 0 99 (nx T (nx T (nx T (nx T (nx T P))))) <;> rfl
theorem nbS_2 {j hi : Nat} (hj : j = 7 ∨ j = 8) : (nbS T j hi D P).2.2.1.1 2 = D.1.1 2 := by
  unfold nbS
  rcases hj with rfl | rfl <;> cases tN T 0 hi P <;> rfl
theorem smS_ok (h : okDr T D) : (smS T D P).1 = true → okDr T (smS T D P).2.2 ∧ (smS T D P).2.2.1.1 2 = D.1.1 2 := by
  unfold smS
  cases c1 : tK T 1 P
  · cases c2 : tK T 2 P
    · cases c3 : tK T 3 P
      · cases c5 : tK T 5 P
        · cases c6 : tK T 6 P
          · cases c8 : tK T 8 P
            · cases c9 : tK T 9 P
              · show (if D.1.1 4 < 12 then (if tK T 10 P then bg1 T D (nx T P) else (false, P, D)) else (false, P, D)).1 = true → okDr T (if D.1.1 4 < 12 then (if tK T 10 P then bg1 T D (nx T P) else (false, P, D)) else (false, P, D)).2.2 ∧ (if D.1.1 4 < 12 then (if tK T 10 P then bg1 T D (nx T P) else (false, P, D)) else (false, P, D)).2.2.1.1 2 = D.1.1 2
                by_cases h12 : D.1.1 4 < 12
                · rw [if_pos h12]
                  cases c10 : tK T 10 P
                  · exact fun z => by cases z
                  · exact bg1_ok h h12
                · rw [if_neg h12]
                  exact fun z => by cases z
              · exact fun z => ⟨nbS_ok (Or.inr ⟨rfl, rfl⟩) h z, nbS_2 (Or.inr rfl)⟩
            · exact fun z => ⟨nbS_ok (Or.inl ⟨rfl, rfl⟩) h z, nbS_2 (Or.inl rfl)⟩
          · exact fun z => ⟨wtS_ok h z, wtS_2⟩
        · exact fun z => ⟨hdS_ok h z, hdS_2⟩
      · exact fun z => ⟨ptS_ok h z, ptS_2⟩
    · exact fun z => ⟨shS_ok h z, shS_2⟩
  · exact fun z => ⟨rwS_ok h z, rwS_2⟩
theorem qz_zb (b : Bool) : qz_z (bI b) = true := by cases b <;> decide
theorem tK_lt {k : Nat} (h : tK T k P = true) : P < T.1 := kd_lt.mp (by have := (of_decide_eq_true h).1; omega)
theorem tailC (X : qz_X) (hT : okT T) (hq : isS q) (hq2 : q < 69) (h12 : D.1.1 4 < 12) {m kn : Nat} {a : qz_L} {r : bsT} (hr : CBn X T q s D m a kn r) : ∃ u : sT, qz_r1 (rn m 0 a [] (mk X s)) (fun x14 w13 => (if x14 = 0 then cond (qz_z x14) (some (some (.int x14), w13)) none else qz_ck w13.1 78 9 (qz_r1 (rn 29 0 [some (.ref 78), some (.int (nI 15))] [] w13) (fun x16 w15 => (if x16 = 0 then cond (qz_z x14) (some (some (.int x14), w15)) none else qz_ga w15.1 q 8 9 (fun q17 => qz_ck w15.1 q17 0 (qz_r0 (rn 66 0 [some (.ref q17)] [] w15) (fun w18 => cond (qz_z x14) (some (some (.int x14), w18)) none)))))))) = some (some (.int (bI (hdn T D kn r).1)), mk X u) ∧ frC q s u ∧ cPo T (hdn T D kn r).2.1 u ∧ ((hdn T D kn r).1 = true → dCd T q (hdn T D kn r).2.2 u) := by
  obtain ⟨z, ez, fz, cz, dz⟩ := hr
  rw [ez, r1_s, qz_zb]
  unfold hdn
  cases c : r.1
  · exact ⟨z, by rw [if_pos (by decide)]; rfl, fz, cz, fun z => by cases z⟩
  · have dz := dz c
    rw [if_neg (by decide), ck_L, C_key X hT cz (by decide), r1_s, if_pos rfl]
    cases c2 : tK T 15 r.2.1
    · exact ⟨z, by rw [if_pos (by decide)]; rfl, fz, cz, fun _ => dz⟩
    · obtain ⟨w, ew, w2, wc, wd⟩ := hide_C X hq hq2 h12 (dCd_78 hq dz (o78_up z))
      refine ⟨w, ?_, (fz.tr (o78_up z).fr).tr (frC_q w2 (fun c hc => wc c (by omega))), cPo_cong (cPo_up cz (tK_lt c2)) (fun c p r => wc c (by omega)) (by rw [wc 78 (by omega)]), fun _ => wd⟩
      rw [if_neg (by decide), if_pos rfl, g_S_bridges hq, ck_B hq, ew, r0_s]
      rfl
theorem C_bridge (X : qz_X) (hT : okT T) (hq : isS q) (hq2 : q < 69) (ok : okDr T D) (h12 : D.1.1 4 < 12) (h : cPo T P s) (hd : dCd T q D s) : CRn X T q s 67 [some (.ref 78), some (.ref q), none] (bg1 T D P) := by
  have du := dCd_78 hq hd (o78_up s)
  have lift : ∀ {r : rsT}, (∃ u : sT, True ∧ frC q (up2 s) u ∧ cPo T r.2.1 u ∧ (r.1 = true → dCd T q r.2.2 u)) → True := fun _ => trivial
  unfold CRn bg1
  rw [e_Teller_tellBridge_0, ck_L, C_key X hT h (by decide), r1_s]
  cases c1 : tK T 11 P
  · rw [if_pos (by decide), if_neg (by decide), if_neg (by decide), ck_L, C_key X hT h (by decide), r1_s]
    cases c2 : tK T 12 P
    · rw [if_pos (by decide), if_neg (by decide), if_neg (by decide), ck_L, C_key X hT h (by decide), r1_s]
      cases c3 : tK T 13 P
      · rw [if_pos (by decide), if_neg (by decide), if_neg (by decide), ck_L, C_key X hT h (by decide), r1_s]
        cases c4 : tK T 14 P
        · rw [if_pos (show bI false = 0 by decide), if_pos (show (nI 0 : Int32) = 0 by decide)]
          exact ⟨s, rfl, frC.rf s, h, fun z => by cases z⟩
        · rw [if_neg (by decide), if_pos rfl, if_pos rfl, ck_L]
          obtain ⟨u, q1, q2, q3, q4⟩ := tailC X hT hq hq2 h12 (C_told X hT hq hq2 ok h12 (cPo_up h (tK_lt c4)) du)
          exact ⟨u, q1, (o78_up s).fr.tr q2, q3, q4⟩
      · rw [if_neg (by decide), if_pos rfl, if_pos rfl, ck_L]
        obtain ⟨u, q1, q2, q3, q4⟩ := tailC X hT hq hq2 h12 (C_corner X hT hq hq2 ok h12 (cPo_up h (tK_lt c3)) du)
        exact ⟨u, q1, (o78_up s).fr.tr q2, q3, q4⟩
    · rw [if_neg (by decide), if_pos rfl, if_pos rfl, ck_L]
      obtain ⟨u, q1, q2, q3, q4⟩ := tailC X hT hq hq2 h12 (C_broad X hT hq hq2 ok h12 (cPo_up h (tK_lt c2)) du)
      exact ⟨u, q1, (o78_up s).fr.tr q2, q3, q4⟩
  · rw [if_neg (by decide), if_pos rfl, if_pos rfl, ck_L]
    obtain ⟨u, q1, q2, q3, q4⟩ := tailC X hT hq hq2 h12 (C_straight X hT hq hq2 ok h12 (cPo_up h (tK_lt c1)) du)
    exact ⟨u, q1, (o78_up s).fr.tr q2, q3, q4⟩
theorem tailM (X : qz_X) (hT : okT T) (h12 : D.1.1 4 < 12) (hd : dMd T D t) {v : sT} (fv : frM v t) {m kn : Nat} (hkn : kn ≤ 3) {a : qz_L} {r : bsT} (hr : MBn X T t D m a r) : ∃ u : sT, qz_r1 (rn m 0 a [] (mk X t)) (fun x45 w44 => (if x45 = 0 then some (some (.int (nI 0)), w44) else qz_ga w44.1 318 12 10 (fun q46 => qz_is w44 q46 (nI 72 + nI (D.1.1 4)) (nI kn) (fun w47 => qz_ga w47.1 318 12 11 (fun q48 => qz_ck w47.1 318 12 (qz_r1 (rn 77 0 [some (.ref 318), some (.long (lN 114801865155950)), none] [] w47) (fun x50 w49 => qz_r1 (rn 104 0 [some (.int x50)] [] w49) (fun x52 w51 => qz_is w51 q48 (nI 72 + nI (D.1.1 4)) x52 (fun w53 => qz_ck w53.1 318 12 (qz_r0 (rn 74 0 [some (.ref 318), some (.int (nI 4)), some (.int (nI (D.1.1 4) + nI 1))] [] w53) (fun w54 => some (some (.int (nI 1)), w54))))))))))) ) = some (some (.int (bI (hdn T D kn r).1)), mk X u) ∧ frM v u ∧ mPo T (hdn T D kn r).2.1 u ∧ ((hdn T D kn r).1 = true → dMd T (hdn T D kn r).2.2 u) := by
  obtain ⟨z, ez, fz, cz, dz⟩ := hr
  rw [ez, r1_s]
  unfold hdn
  cases c : r.1
  · exact ⟨z, by rw [if_pos (by decide)]; rfl, fv.tr fz, cz, fun z => by cases z⟩
  · obtain ⟨zi, zl, z2⟩ := dz c
    have hy : ∃ y : sT, y = su z 328 (72 + D.1.1 4) (nI kn) := ⟨_, rfl⟩
    obtain ⟨y, hy⟩ := hy
    have fy : frM v y := by rw [hy]; exact (fv.tr fz).tr (frM_su (by unfold inM; omega))
    have cy : mPo T r.2.1 y := by rw [hy]; exact mPo_su cz (by decide) (by decide)
    have yi : isM (gN y) 6 (brE D.1 r.2.2.1) := by rw [hy]; exact isM_br (by decide) rfl zi
    obtain ⟨x, ex, ox, cx⟩ := M_key X hT cy (k := 15) (by decide) (v := lN 114801865155950)
    have xi : isM (gN x) 6 (brE D.1 r.2.2.1) := isM_all (fun c p q => funext fun j => by rw [ox.2 c j (by omega)]) yi
    have fin : ∀ hi : Nat, ∃ w : sT, w = su (su x 329 (72 + D.1.1 4) (nI hi)) 320 (96 + 4) (nI (D.1.1 4 + 1)) ∧ frM v w ∧ (∀ Q, mPo T Q x → mPo T Q w) ∧ dMd T (brF D.1 r.2.2.1 kn hi r.2.2.2, D.2) w := fun hi => by
      refine ⟨_, rfl, ((fy.tr (ox.fr (by decide))).tr (frM_su (by unfold inM; omega))).tr (frM_su (by unfold inM; omega)), fun Q hQ => mPo_su (mPo_su hQ (by decide) (by decide)) (by decide) (by decide), ?_, fun i hi => ?_⟩
      · refine isM_fin rfl (isM_br (by decide) rfl xi) ?_ ?_ ?_
        · rw [su_1, if_neg (by omega), ox.2 328 _ (by omega), hy, su_1, if_pos ⟨rfl, rfl⟩]
        · rw [su_1, if_pos ⟨rfl, rfl⟩]
        · rw [su_1, if_neg (by omega), ox.2 330 _ (by omega), hy, su_1, if_neg (by omega)]; exact zl
      · show x.2.1 331 (48 + i) = _
        rw [ox.1, hy]
        show z.2.1 331 (48 + i) = _
        rw [z2]
        exact hd.2 i hi
    rw [if_neg (by decide), g_M_bridgeKind, nI_add, w_M_bridgeKind (by omega), ← hy, g_M_bridgeHidden, ck_M, ex, r1_s, bI_unit, r1_s, w_M_bridgeHidden (by omega), ck_M, nI_add, says_run X _ (by decide), r0_s, if_pos rfl]
    cases c2 : tK T 15 r.2.1
    · rw [c2] at cx
      obtain ⟨w, ew, fw, mw, dw⟩ := fin 0
      exact ⟨w, by rw [ew]; rfl, fw, mw _ cx, fun _ => dw⟩
    · rw [c2] at cx
      obtain ⟨w, ew, fw, mw, dw⟩ := fin 1
      exact ⟨w, by rw [ew]; rfl, fw, mw _ cx, fun _ => dw⟩
theorem M_bridge (X : qz_X) (hT : okT T) (ok : okDr T D) (h12 : D.1.1 4 < 12) (h : mPo T P t) (hd : dMd T D t) : MRn X T t 108 [some (.ref 318), none, none, none] (bg1 T D P) := by
  unfold MRn bg1
  obtain ⟨u1, e1, o1, m1⟩ := M_key X hT h (k := 11) (by decide) (v := lN 8319400174365927540)
  rw [e_M_bridgeTold_0, ck_M, M_draft_run X hd.1 (by decide), r1_s, ck_M, e1, r1_s]
  cases c1 : tK T 11 P
  · rw [c1] at m1
    have m1 : mPo T P u1 := m1
    obtain ⟨u2, e2, o2, m2⟩ := M_key X hT m1 (k := 12) (by decide) (v := lN 422826697060)
    have o2' := o1.tr o2
    rw [if_neg (show ¬ (false = true) by decide), if_pos (show bI false = 0 by decide), ck_M, e2, r1_s]
    cases c2 : tK T 12 P
    · rw [c2] at m2
      have m2 : mPo T P u2 := m2
      obtain ⟨u3, e3, o3, m3⟩ := M_key X hT m2 (k := 13) (by decide) (v := lN 109330312357234)
      have o3' := o2'.tr o3
      rw [if_neg (show ¬ (false = true) by decide), if_pos (show bI false = 0 by decide), ck_M, e3, r1_s]
      cases c3 : tK T 13 P
      · rw [c3] at m3
        have m3 : mPo T P u3 := m3
        obtain ⟨u4, e4, o4, m4⟩ := M_key X hT m3 (k := 14) (by decide) (v := lN 1953459300)
        have o4' := o3'.tr o4
        rw [if_neg (show ¬ (false = true) by decide), if_pos (show bI false = 0 by decide), ck_M, e4, r1_s]
        cases c4 : tK T 14 P
        · rw [c4] at m4
          rw [if_pos (show bI false = 0 by decide), if_neg (show ¬ (false = true) by decide), if_pos rfl]
          exact ⟨u4, rfl, o4'.fr (by decide), m4, fun z => by cases z⟩
        · rw [c4, if_pos rfl] at m4
          have d4 := dMd_o hd o4'
          rw [if_neg (show ¬ bI true = 0 by decide), if_neg (show ¬ (nI 3 : Int32) = -1 by decide), if_neg (show ¬ (nI 3 : Int32) = nI 2 by decide), if_pos (show (nI 3 : Int32) = nI 3 from rfl), ck_M, if_pos rfl]
          exact tailM X hT h12 d4 (o4'.fr (by decide)) (by decide) (M_told X hT ok h12 m4 d4)
      · rw [c3, if_pos rfl] at m3
        have d3 := dMd_o hd o3'
        rw [if_neg (show ¬ bI true = 0 by decide), if_neg (show ¬ (nI 2 : Int32) = -1 by decide), if_pos (show (nI 2 : Int32) = nI 2 from rfl), ck_M, if_pos rfl]
        exact tailM X hT h12 d3 (o3'.fr (by decide)) (by decide) (M_corner X hT ok h12 m3 d3)
    · rw [c2, if_pos rfl] at m2
      have d2 := dMd_o hd o2'
      rw [if_neg (show ¬ bI true = 0 by decide), if_neg (show ¬ (nI 1 : Int32) = -1 by decide), if_neg (show ¬ (nI 1 : Int32) = nI 2 by decide), if_neg (show ¬ (nI 1 : Int32) = nI 3 by decide), if_pos (show (nI 1 : Int32) = nI 1 from rfl), ck_M, if_pos rfl]
      exact tailM X hT h12 d2 (o2'.fr (by decide)) (by decide) (M_straight X hT ok h12 true m2 d2)
  · rw [c1, if_pos rfl] at m1
    have d1 := dMd_o hd o1
    rw [if_neg (show ¬ bI true = 0 by decide), if_neg (show ¬ (nI 0 : Int32) = -1 by decide), if_neg (show ¬ (nI 0 : Int32) = nI 2 by decide), if_neg (show ¬ (nI 0 : Int32) = nI 3 by decide), if_neg (show ¬ (nI 0 : Int32) = nI 1 by decide), ck_M, if_pos rfl]
    exact tailM X hT h12 d1 (o1.fr (by decide)) (by decide) (M_straight X hT ok h12 false m1 d1)
theorem C_statement (X : qz_X) (hT : okT T) (hq : isS q) (hq2 : q < 69) (ok : okDr T D) (h : cPo T P s) (hd : dCd T q D s) : CRn X T q s 68 [some (.ref 78), some (.ref q)] (smS T D P) := by
  have o5 := ok.1.2.2.2.2.1
  have du := dCd_78 hq hd (o78_up s)
  have b4 : s.1 (q + 3) 0 = nI (D.1.1 4) := hd.1.1.2.2.2.2.1
  unfold CRn smS
  rw [e_Teller_tellStatement_0, ck_L, C_key X hT h (by decide), r1_s]
  cases c1 : tK T 1 P
  rotate_left
  · rw [if_neg (by decide), if_pos rfl, if_pos rfl, ck_L]
    obtain ⟨u, q1, q2, q3, q4⟩ := C_row X hT hq (by omega) ok (cPo_up h (tK_lt c1)) du
    refine ⟨u, ?_, (o78_up s).fr.tr q2, q3, q4⟩
    rw [q1, r1_s, qz_zb]
    rfl
  rw [if_pos (by decide), if_neg (by decide), if_neg (by decide), ck_L, C_key X hT h (by decide), r1_s]
  cases c2 : tK T 2 P
  rotate_left
  · rw [if_neg (by decide), if_pos rfl, if_pos rfl, ck_L]
    obtain ⟨u, q1, q2, q3, q4⟩ := C_shape X hT hq hq2 ok (cPo_up h (tK_lt c2)) du
    refine ⟨u, ?_, (o78_up s).fr.tr q2, q3, q4⟩
    rw [q1, r1_s, qz_zb]
    rfl
  rw [if_pos (by decide), if_neg (by decide), if_neg (by decide), ck_L, C_key X hT h (by decide), r1_s]
  cases c3 : tK T 3 P
  rotate_left
  · rw [if_neg (by decide), if_pos rfl, if_pos rfl, ck_L]
    obtain ⟨u, q1, q2, q3, q4⟩ := C_put X hT hq (by omega) ok (cPo_up h (tK_lt c3)) du
    refine ⟨u, ?_, (o78_up s).fr.tr q2, q3, q4⟩
    rw [q1, r1_s, qz_zb]
    rfl
  rw [if_pos (by decide), if_neg (by decide), if_neg (by decide), ck_L, C_key X hT h (by decide), r1_s]
  cases c5 : tK T 5 P
  rotate_left
  · rw [if_neg (by decide), if_pos rfl, if_pos rfl, ck_L]
    obtain ⟨u, q1, q2, q3, q4⟩ := C_hold X hT hq (by omega) (cPo_up h (tK_lt c5)) du
    refine ⟨u, ?_, (o78_up s).fr.tr q2, q3, q4⟩
    rw [q1, r1_s, qz_zb]
    rfl
  rw [if_pos (by decide), if_neg (by decide), if_neg (by decide), ck_L, C_key X hT h (by decide), r1_s]
  cases c6 : tK T 6 P
  rotate_left
  · rw [if_neg (by decide), if_pos rfl, if_pos rfl, ck_L]
    obtain ⟨u, q1, q2, q3, q4⟩ := C_worth X hT hq (by omega) ok (cPo_up h (tK_lt c6)) du
    refine ⟨u, ?_, (o78_up s).fr.tr q2, q3, q4⟩
    rw [q1, r1_s, qz_zb]
    rfl
  rw [if_pos (by decide), if_neg (by decide), if_neg (by decide), ck_L, C_key X hT h (by decide), r1_s]
  cases c8 : tK T 8 P
  rotate_left
  · rw [if_neg (by decide), if_pos rfl, if_pos rfl, ck_L]
    obtain ⟨u, q1, q2, q3, q4⟩ := C_brush X hT hq (by omega) (cPo_up h (tK_lt c8)) du
    refine ⟨u, ?_, (o78_up s).fr.tr q2, q3, q4⟩
    rw [q1, r1_s, qz_zb]
    rfl
  rw [if_pos (by decide), if_neg (by decide), if_neg (by decide), ck_L, C_key X hT h (by decide), r1_s]
  cases c9 : tK T 9 P
  rotate_left
  · rw [if_neg (by decide), if_pos rfl, if_pos rfl, ck_L]
    obtain ⟨u, q1, q2, q3, q4⟩ := C_wear X hT hq (by omega) (cPo_up h (tK_lt c9)) du
    refine ⟨u, ?_, (o78_up s).fr.tr q2, q3, q4⟩
    rw [q1, r1_s, qz_zb]
    rfl
  rw [if_pos (by decide), if_neg (by decide), if_neg (by decide), g_S_bridges hq, g_B_number hq, b4]
  by_cases h12 : D.1.1 4 < 12
  · rw [if_neg (nI_ge h12 (by decide)), if_pos h12, ck_L, C_key X hT h (by decide), r1_s]
    cases c10 : tK T 10 P
    · rw [if_pos (by decide), if_neg (by decide), if_neg (by decide)]
      exact ⟨s, rfl, frC.rf s, h, fun z => by cases z⟩
    · rw [if_neg (by decide), if_pos rfl, if_pos rfl, ck_L]
      obtain ⟨u, q1, q2, q3, q4⟩ := C_bridge X hT hq hq2 ok h12 (cPo_up h (tK_lt c10)) du
      refine ⟨u, ?_, (o78_up s).fr.tr q2, q3, q4⟩
      rw [q1, r1_s]
      cases (bg1 T D (nx T P)).1
      · rw [if_pos (by decide)]; rfl
      · rw [if_neg (by decide)]; rfl
  · rw [if_pos (nI_le (by omega) (by omega)), if_neg h12]
    exact ⟨s, rfl, frC.rf s, h, fun z => by cases z⟩
theorem M_statement (X : qz_X) (hT : okT T) (ok : okDr T D) (h : mPo T P t) (hd : dMd T D t) : MRx X T t 109 [some (.ref 318)] (smS T D P) := by
  have o5 := ok.1.2.2.2.2.1
  have liftn : ∀ {v : sT} {m : Nat} {a : qz_L} {r : rsT} {R : Option qz_R}, frM t v → MRn X T v m a r → R = qz_r1 (rn m 0 a [] (mk X v)) (fun x w => cond (qz_z x) (some (some (.int x), w)) none) → ∃ u : sT, R = some (some (.int (bI r.1)), mk X u) ∧ frM t u ∧ mPo T r.2.1 u ∧ (r.1 = true → dMd T r.2.2 u) := fun fv hr hR => by
    obtain ⟨u, q1, q2, q3, q4⟩ := hr
    exact ⟨u, by rw [hR, q1, r1_s, qz_zb]; rfl, fv.tr q2, q3, q4⟩
  have liftx : ∀ {v : sT} {m : Nat} {a : qz_L} {r : rsT} {R : Option qz_R}, frM t v → MRx X T v m a r → R = qz_r1 (rn m 0 a [] (mk X v)) (fun x w => cond (qz_z x) (some (some (.int x), w)) none) → (∃ u : sT, R = some (some (.int (bI r.1)), mk X u) ∧ frM t u ∧ mPo T r.2.1 u ∧ (r.1 = true → dMd T r.2.2 u)) ∨ (tS T 59 r.2.1 = false ∧ ∃ u : sT, R = some (some (.int (nI 0)), mk X u) ∧ frM t u ∧ mPo T r.2.1 u) := fun fv hr hR => by
    rcases hr with ⟨u, q1, q2, q3, q4⟩ | ⟨q0, u, q1, q2, q3⟩
    · exact Or.inl ⟨u, by rw [hR, q1, r1_s, qz_zb]; rfl, fv.tr q2, q3, q4⟩
    · exact Or.inr ⟨q0, u, by rw [hR, q1, r1_s]; rfl, fv.tr q2, q3⟩
  unfold MRx MRn smS
  obtain ⟨u1, e1, o1, m1⟩ := M_key X hT h (k := 1) (by decide) (v := lN 7499639)
  rw [e_M_statement_0, ck_M, e1, r1_s]
  cases c1 : tK T 1 P
  rotate_left
  · rw [c1, if_pos rfl] at m1
    have d1 := dMd_o hd o1
    rw [if_neg (show ¬ bI true = 0 by decide), ck_M, if_pos (show true = true from rfl)]
    exact Or.inl (liftn (o1.fr (by decide)) (M_row X hT ok m1 d1) rfl)
  rw [c1] at m1
  have m1 : mPo T P u1 := m1
  obtain ⟨u2, e2, p2, m2⟩ := M_key X hT m1 (k := 2) (by decide) (v := lN 495672455269)
  have o2 := o1.tr p2
  rw [if_neg (show ¬ (false = true) by decide), if_pos (show bI false = 0 by decide), ck_M, e2, r1_s]
  cases c2 : tK T 2 P
  rotate_left
  · rw [c2, if_pos rfl] at m2
    have d2 := dMd_o hd o2
    rw [if_neg (show ¬ bI true = 0 by decide), ck_M, if_pos (show true = true from rfl)]
    exact liftx (o2.fr (by decide)) (M_shape X hT ok m2 d2) rfl
  rw [c2] at m2
  have m2 : mPo T P u2 := m2
  obtain ⟨u3, e3, p3, m3⟩ := M_key X hT m2 (k := 3) (by decide) (v := lN 7370100)
  have o3 := o2.tr p3
  rw [if_neg (show ¬ (false = true) by decide), if_pos (show bI false = 0 by decide), ck_M, e3, r1_s]
  cases c3 : tK T 3 P
  rotate_left
  · rw [c3, if_pos rfl] at m3
    have d3 := dMd_o hd o3
    rw [if_neg (show ¬ bI true = 0 by decide), ck_M, if_pos (show true = true from rfl)]
    exact Or.inl (liftn (o3.fr (by decide)) (M_put X hT ok m3 d3) rfl)
  rw [c3] at m3
  have m3 : mPo T P u3 := m3
  obtain ⟨u5, e5, p5, m5⟩ := M_key X hT m3 (k := 5) (by decide) (v := lN 1752132708)
  have o5 := o3.tr p5
  rw [if_neg (show ¬ (false = true) by decide), if_pos (show bI false = 0 by decide), ck_M, e5, r1_s]
  cases c5 : tK T 5 P
  rotate_left
  · rw [c5, if_pos rfl] at m5
    have d5 := dMd_o hd o5
    rw [if_neg (show ¬ bI true = 0 by decide), ck_M, if_pos (show true = true from rfl)]
    exact liftx (o5.fr (by decide)) (M_hold X hT m5 d5) rfl
  rw [c5] at m5
  have m5 : mPo T P u5 := m5
  obtain ⟨u6, e6, p6, m6⟩ := M_key X hT m5 (k := 6) (by decide) (v := lN 512970880104)
  have o6 := o5.tr p6
  rw [if_neg (show ¬ (false = true) by decide), if_pos (show bI false = 0 by decide), ck_M, e6, r1_s]
  cases c6 : tK T 6 P
  rotate_left
  · rw [c6, if_pos rfl] at m6
    have d6 := dMd_o hd o6
    rw [if_neg (show ¬ bI true = 0 by decide), ck_M, if_pos (show true = true from rfl)]
    exact Or.inl (liftn (o6.fr (by decide)) (M_worth X hT ok m6 d6) rfl)
  rw [c6] at m6
  have m6 : mPo T P u6 := m6
  obtain ⟨u8, e8, p8, m8⟩ := M_key X hT m6 (k := 8) (by decide) (v := lN 422827094888)
  have o8 := o6.tr p8
  rw [if_neg (show ¬ (false = true) by decide), if_pos (show bI false = 0 by decide), ck_M, e8, r1_s]
  cases c8 : tK T 8 P
  rotate_left
  · rw [c8, if_pos rfl] at m8
    have d8 := dMd_o hd o8
    rw [if_neg (show ¬ bI true = 0 by decide), ck_M, if_pos (show true = true from rfl)]
    exact Or.inl (liftn (o8.fr (by decide)) (M_numb X hT (j := 7) (hi := 400) (Or.inl ⟨rfl, rfl⟩) m8 d8) rfl)
  rw [c8] at m8
  have m8 : mPo T P u8 := m8
  obtain ⟨u9, e9, p9, m9⟩ := M_key X hT m8 (k := 9) (by decide) (v := lN 2003132786)
  have o9 := o8.tr p9
  rw [if_neg (show ¬ (false = true) by decide), if_pos (show bI false = 0 by decide), ck_M, e9, r1_s]
  cases c9 : tK T 9 P
  rotate_left
  · rw [c9, if_pos rfl] at m9
    have d9 := dMd_o hd o9
    rw [if_neg (show ¬ bI true = 0 by decide), ck_M, if_pos (show true = true from rfl)]
    exact Or.inl (liftn (o9.fr (by decide)) (M_numb X hT (j := 8) (hi := 999) (Or.inr ⟨rfl, rfl⟩) m9 d9) rfl)
  rw [c9] at m9
  have m9 : mPo T P u9 := m9
  have d9 := dMd_o hd o9
  rw [if_pos (show bI false = 0 by decide), ck_M, M_draft_run X d9.1 (by decide), r1_s, if_neg (show ¬ (false = true) by decide)]
  by_cases h12 : D.1.1 4 < 12
  · obtain ⟨u10, e10, p10, m10⟩ := M_key X hT m9 (k := 10) (by decide) (v := lN 108243533981541)
    have o10 := o9.tr p10
    rw [if_neg (nI_ge h12 (by decide)), if_pos h12, ck_M, e10, r1_s]
    cases c10 : tK T 10 P
    · rw [c10] at m10
      rw [if_pos (by decide), if_neg (by decide)]
      exact Or.inl ⟨u10, rfl, o10.fr (by decide), m10, fun z => by cases z⟩
    · rw [c10, if_pos rfl] at m10
      have d10 := dMd_o hd o10
      rw [if_neg (by decide), ck_M, if_pos rfl]
      obtain ⟨u, q1, q2, q3, q4⟩ := M_bridge X hT ok h12 m10 d10
      refine Or.inl ⟨u, ?_, (o10.fr (by decide)).tr q2, q3, q4⟩
      rw [q1, r1_s]
      cases (bg1 T D (nx T P)).1
      · rw [if_pos (by decide)]; rfl
      · rw [if_neg (by decide)]; rfl
  · rw [if_pos (nI_le (by omega) (by omega)), if_neg h12]
    exact Or.inl ⟨u9, rfl, o9.fr (by decide), m9, fun z => by cases z⟩
end ST

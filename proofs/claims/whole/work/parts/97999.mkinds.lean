/-! the reference's kinds of bridges -/
def tdR (T : txT) (A : shT) (f : Nat) (E : Nat → Bool) (Q : Nat) : bsT := if tP T 0 0 (A.1 0) (A.1 1) Q then tdL T A f (fun j => if j = 20 * nv T (nx T Q) + nv T Q then true else E j) (nx2 T Q) else (false, plP T 0 0 (A.1 0) (A.1 1) Q, nE, 0)
section BR
variable {T : txT} {P q : Nat} {s t u : sT} {D : drT} {A : shT} {E : Nat → Bool}
theorem isM_br {B : shT} {c n : Nat} {x : Int32} (hc : 328 ≤ c ∧ c ≤ 330) (hn : n = B.1 4) (hM : isM (gN u) 6 B) : isM (gN (su u c (72 + n) x)) 6 B := by
  obtain ⟨m1, m2, m3, m4, m5, m6⟩ := hM
  have e : ∀ i, i < 7 → gN (su u c (72 + n) x) i = gN u i := fun i hi => funext fun j => by
    show (su u c (72 + n) x).1 _ j = _
    rw [su_1, if_neg]
    · rfl
    · rintro ⟨z, _⟩
      rcases (show i = 0 ∨ i = 1 ∨ i = 2 ∨ i = 3 ∨ i = 4 ∨ i = 5 ∨ i = 6 by omega) with rfl | rfl | rfl | rfl | rfl | rfl | rfl
      · have z : 320 = c := z; omega
      · have z : 322 = c := z; omega
      · have z : 323 = c := z; omega
      · have z : 324 = c := z; omega
      · have z : 325 = c := z; omega
      · have z : 326 = c := z; omega
      · have z : 327 = c := z; omega
  unfold isM
  rw [e 0 (by decide), e 1 (by decide), e 2 (by decide), e 3 (by decide), e 4 (by decide), e 5 (by decide), e 6 (by decide)]
  refine ⟨m1, m2, m3, m4, m5, fun b hb => ?_⟩
  obtain ⟨q1, q2, q3⟩ := m6 b hb
  refine ⟨?_, ?_, ?_⟩
  · show (su u c (72 + n) x).1 328 (72 + b) = _
    rw [su_1, if_neg (by omega)]; exact q1
  · show (su u c (72 + n) x).1 329 (72 + b) = _
    rw [su_1, if_neg (by omega)]; exact q2
  · show (su u c (72 + n) x).1 330 (72 + b) = _
    rw [su_1, if_neg (by omega)]; exact q3
theorem isM_fin {n kn hi la : Nat} (hn : A.1 4 = n) (hM : isM (gN u) 6 (brE A E)) (h0 : u.1 328 (72 + n) = nI kn) (h1 : u.1 329 (72 + n) = nI hi) (h2 : u.1 330 (72 + n) = nI la) : isM (gN (su u 320 (96 + 4) (nI (n + 1)))) 6 (brF A E kn hi la) := by
  obtain ⟨m1, m2, m3, m4, m5, m6⟩ := hM
  have e : ∀ i, i < 10 → i ≠ 0 → gN (su u 320 (96 + 4) (nI (n + 1))) i = gN u i := fun i hi h3 => funext fun j => by
    show (su u 320 _ _).1 _ j = _
    rw [su_1, if_neg]
    · rfl
    · rintro ⟨z, _⟩
      revert z
      rcases (show i = 1 ∨ i = 2 ∨ i = 3 ∨ i = 4 ∨ i = 5 ∨ i = 6 ∨ i = 7 ∨ i = 8 ∨ i = 9 by omega) with rfl | rfl | rfl | rfl | rfl | rfl | rfl | rfl | rfl <;> decide
  have eo : ∀ i j, 3 ≤ i → (brF A E kn hi la).2.2.2.2 i j = A.2.2.2.2 i j := fun i j hi' => by
    show (if j = A.1 4 ∧ i = 0 then kn else if j = A.1 4 ∧ i = 1 then hi else if j = A.1 4 ∧ i = 2 then la else A.2.2.2.2 i j) = _
    rw [if_neg (by omega), if_neg (by omega), if_neg (by omega)]
  unfold isM
  rw [e 1 (by decide) (by decide), e 2 (by decide) (by decide), e 3 (by decide) (by decide), e 4 (by decide) (by decide), e 5 (by decide) (by decide), e 6 (by decide) (by decide), e 7 (by decide) (by decide), e 8 (by decide) (by decide), e 9 (by decide) (by decide)]
  refine ⟨fun j hj => ?_, m2, m3, m4, fun k hk => ?_, fun b hb => ?_⟩
  · have hold : u.1 320 (96 + j) = nI (A.1 j) := m1 j hj
    show (su u 320 (96 + 4) (nI (n + 1))).1 320 (96 + j) = nI (if j = 4 then A.1 4 + 1 else A.1 j)
    rw [su_1]
    by_cases ej : j = 4
    · rw [if_pos ⟨rfl, by omega⟩, if_pos ej, hn]
    · rw [if_neg (by omega), if_neg ej]; exact hold
  · rw [eo 3 k (by decide), eo 4 k (by decide)]
    have := m5 k hk
    refine ⟨this.1, this.2.1, fun y hy => ?_⟩
    rw [eo 5 _ (by decide)]
    exact this.2.2 y hy
  · have hb : b < A.1 4 + 1 := hb
    show u.1 328 (72 + b) = nI (if b = A.1 4 ∧ (0 : Nat) = 0 then kn else if b = A.1 4 ∧ (0 : Nat) = 1 then hi else if b = A.1 4 ∧ (0 : Nat) = 2 then la else A.2.2.2.2 0 b) ∧ u.1 329 (72 + b) = nI (if b = A.1 4 ∧ (1 : Nat) = 0 then kn else if b = A.1 4 ∧ (1 : Nat) = 1 then hi else if b = A.1 4 ∧ (1 : Nat) = 2 then la else A.2.2.2.2 1 b) ∧ u.1 330 (72 + b) = nI (if b = A.1 4 ∧ (2 : Nat) = 0 then kn else if b = A.1 4 ∧ (2 : Nat) = 1 then hi else if b = A.1 4 ∧ (2 : Nat) = 2 then la else A.2.2.2.2 2 b)
    by_cases eb : b = A.1 4
    · rw [if_pos ⟨eb, rfl⟩, if_neg (show ¬ (b = A.1 4 ∧ (1 : Nat) = 0) by omega), if_pos (show b = A.1 4 ∧ (1 : Nat) = 1 from ⟨eb, rfl⟩), if_neg (show ¬ (b = A.1 4 ∧ (2 : Nat) = 0) by omega), if_neg (show ¬ (b = A.1 4 ∧ (2 : Nat) = 1) by omega), if_pos (show b = A.1 4 ∧ (2 : Nat) = 2 from ⟨eb, rfl⟩), eb, hn]
      exact ⟨h0, h1, h2⟩
    · simp only [eb, false_and, if_false]
      exact m6 b (show b < A.1 4 by omega)
theorem oM_oLay {L : List Nat} {v : sT} (h : frM t u) (o : oLay u v) : frM t v := h.tr o.fr
theorem M_straight (X : qz_X) (hT : okT T) (ok : okDr T D) (h12 : D.1.1 4 < 12) (bd : Bool) (h : mPo T P t) (hd : dMd T D t) : MBn X T t D 107 [some (.ref 318), some (.int (nI (D.1.1 4))), some (.int (bI bd)), none, none, none, none, none] (if bd then bdB T D.1 P else stB T D.1 P) := by
  obtain ⟨u1, e1, o1, c1, k1⟩ := preM X hT ok h hd
  have lp : ∀ (x : sT) (m : Nat), 1 ≤ m → m ≤ 4 → tD T (nx2 T P) = true → tN T 1 20 (nx3 T P) = true → oM [16, 20, 21, 24, 25, 26] t x → x.1 318 25 = nI (nv T P) → x.1 318 26 = nI (nv T (nx T P)) → ∃ w : sT, rn 107 73 [some (.ref 318), some (.int (nI (D.1.1 4))), none, some (.int (nI (dv T (nx2 T P)))), some (.int (nI (nv T (nx3 T P)))), some (.int (nI m)), some (.int (nI ((dv T (nx2 T P) + 1) % 4))), some (.int (nI 0))] [] (mk X x) = some (some (.int (nI 1)), mk X w) ∧ frM t w ∧ (∀ Q, mPo T Q x → mPo T Q w) ∧ isM (gN w) 6 (brE D.1 (brdE D.1 (nI (nv T P)) (nI (nv T (nx T P))) (dv T (nx2 T P)) (nv T (nx3 T P)) ((dv T (nx2 T P) + 1) % 4) m)) ∧ w.1 330 (72 + D.1.1 4) = nI (100 * m) ∧ w.2 = t.2 := fun x m hm hm4 hD hN ox x25 x26 => by
    have hd4 := (tD_lt hD).2
    have hv := tN_lt hN
    have dx := dMd_o hd ox
    obtain ⟨z, ⟨zo, zi⟩, ez⟩ := it_up (fun k (z : sT) => rn 107 73 [some (.ref 318), some (.int (nI (D.1.1 4))), none, some (.int (nI (dv T (nx2 T P)))), some (.int (nI (nv T (nx3 T P)))), some (.int (nI m)), some (.int (nI ((dv T (nx2 T P) + 1) % 4))), some (.int (nI k))] [] (mk X z)) (fun k z => oLay x z ∧ isM (gN z) 6 (brE D.1 (brdE D.1 (nI (nv T P)) (nI (nv T (nx T P))) (dv T (nx2 T P)) (nv T (nx3 T P)) ((dv T (nx2 T P) + 1) % 4) k))) (Nat.zero_le m) (by
      rintro k z _ hk ⟨zo, zi⟩
      try dsimp only
      obtain ⟨w, ew, wo, wi, _, _⟩ := lays_M X ok.1 h12 zi (nI (nv T P) + nI k * qz_sx ((dv T (nx2 T P) + 1) % 4)) (nI (nv T (nx T P)) + nI k * qz_sy ((dv T (nx2 T P) + 1) % 4)) (d := dv T (nx2 T P)) (f0 := 0) (l := nv T (nx3 T P)) hd4 hv.2.1 (by omega)
      rw [Nat.zero_add] at ew
      refine ⟨w, ⟨zo.tr wo, wi⟩, ?_⟩
      rw [e_M_straight_73, if_neg (nI_ge hk (by omega)), g_M_toldX, zo.2.2.1 25 (by decide) (by decide), x25, east_run _ (by omega), r1_s, g_M_toldY, zo.2.2.1 26 (by decide) (by decide), x26, south_run _ (by omega), r1_s, ck_M, pk_sub hv.2.1, ew, r0_s, nI_add]) (x := x) ⟨oLay.rf x, isM_brE0 ok.1 dx.1⟩
    try dsimp only at ez
    refine ⟨su z 330 (72 + D.1.1 4) (nI (100 * m)), ?_, ((ox.fr (by decide)).tr zo.fr).tr (frM_su (by unfold inM; omega)), fun Q hQ => mPo_su (zo.po hQ) (by decide) (by decide), isM_br (by decide) rfl zi, by rw [su_1, if_pos ⟨rfl, rfl⟩], ?_⟩
    · rw [ez, e_M_straight_73, if_pos (nI_le (Nat.le_refl _) (by omega)), g_M_bridgeLasts, nI_add, pk_mul, w_M_bridgeLasts (by omega)]
    · show z.2 = t.2
      rw [zo.1, ox.1]
  unfold MBn
  rw [e_M_straight_0, ck_M, e1, r1_s]
  cases hp : tP T 0 0 (D.1.1 0) (D.1.1 1) P
  · have er : (if bd = true then bdB T D.1 P else stB T D.1 P) = (false, plP T 0 0 (D.1.1 0) (D.1.1 1) P, nE, 0) := by
      cases bd
      · show stB T D.1 P = _
        unfold stB sd3; rw [hp]; rfl
      · show bdB T D.1 P = _
        unfold bdB sd3; rw [hp]; rfl
    rw [er]
    exact ⟨u1, by rw [if_pos (by decide)]; rfl, o1.fr (by decide), c1, fun z => by cases z⟩
  · obtain ⟨u2, e2, o2, c2, k2⟩ := k1 hp
    rw [if_neg (by decide), ck_M, e2, r1_s]
    cases hD : tD T (nx2 T P)
    · rw [hD] at c2
      have er : (if bd = true then bdB T D.1 P else stB T D.1 P) = (false, nx2 T P, nE, 0) := by
        cases bd
        · show stB T D.1 P = _
          unfold stB sd3; rw [hp, hD]; rfl
        · show bdB T D.1 P = _
          unfold bdB sd3; rw [hp, hD]; rfl
      rw [er]
      exact ⟨u2, by rw [if_pos (by decide)]; rfl, o2.fr (by decide), c2, fun z => by cases z⟩
    · obtain ⟨u3, e3, o3, c3, k3⟩ := k2 hD
      have hd4 := (tD_lt hD).2
      rw [if_neg (by decide), ck_M, e3, r1_s]
      cases hN : tN T 1 20 (nx3 T P)
      · rw [hN] at c3
        have er : (if bd = true then bdB T D.1 P else stB T D.1 P) = (false, nx3 T P, nE, 0) := by
          cases bd
          · show stB T D.1 P = _
            unfold stB sd3; rw [hp, hD, hN]; rfl
          · show bdB T D.1 P = _
            unfold bdB sd3; rw [hp, hD, hN]; rfl
        rw [er]
        exact ⟨u3, by rw [if_pos (by decide)]; rfl, o3.fr (by decide), c3, fun z => by cases z⟩
      · rw [hN, if_pos rfl] at c3
        obtain ⟨w1, w2, w3, w4⟩ := k3 hN
        rw [if_neg (by decide), g_M_side, w4, g_M_read, w1]
        cases bd
        · obtain ⟨w, q1, q2, q3, q4, q5, q6⟩ := lp u3 1 (by decide) (by decide) hD hN o3 w2 w3
          rw [show (if false = true then bdB T D.1 P else stB T D.1 P) = stB T D.1 P from rfl]
          unfold stB sd3
          rw [hp, hD, hN, if_pos rfl, if_pos rfl, if_pos rfl]
          exact ⟨w, by rw [if_pos (by decide), if_neg (by decide), rt4 _ hd4, q1]; rfl, q2, q3 _ c3, fun _ => ⟨q4, q5, q6⟩⟩
        · rw [show (if true = true then bdB T D.1 P else stB T D.1 P) = bdB T D.1 P from rfl]
          unfold bdB sd3
          rw [hp, hD, hN, if_pos rfl, if_pos rfl, if_pos rfl]
          obtain ⟨x, ex, ox, cx, vx⟩ := M_num X hT c3 (lo := 2) (hi := 4) (by decide) (by decide)
          have ox' : oM [16, 20, 21, 24, 25, 26] t x := o3.tr (ox.mo (by decide))
          rw [if_neg (by decide), ck_M, ex, r1_s]
          cases hB : tN T 2 4 (nx4 T P)
          · rw [hB] at cx
            exact ⟨x, by rw [if_pos (by decide)]; rfl, ox'.fr (by decide), cx, fun z => by cases z⟩
          · rw [hB, if_pos rfl] at cx
            have hb := tN_lt hB
            obtain ⟨w, q1, q2, q3, q4, q5, q6⟩ := lp x (nv T (nx4 T P)) (by omega) hb.2.2 hD hN ox' (by rw [ox.2 318 25 (by decide)]; exact w2) (by rw [ox.2 318 26 (by decide)]; exact w3)
            rw [if_pos rfl]
            exact ⟨w, by rw [if_neg (by decide), g_M_read, vx hB, if_neg (by decide), rt4 _ hd4, q1]; rfl, q2, q3 _ cx, fun _ => ⟨q4, q5, q6⟩⟩
theorem nI_up (k : Nat) (c : Int32) : nI (1 + k) * c = c + nI k * c := by
  rw [← nI_add, Int32.add_mul, show nI 1 = 1 from rfl, Int32.one_mul]
theorem lnO_1 (x y : Int32) (d : Nat) : ∀ k, lnO A x y d 1 E k = lnO A (x + qz_sx d) (y + qz_sy d) d 0 E k
  | 0 => rfl
  | k + 1 => by
    show adE A (x + nI (1 + k) * _) (y + nI (1 + k) * _) _ = adE A (x + _ + nI (0 + k) * _) (y + _ + nI (0 + k) * _) _
    rw [lnO_1 x y d k, nI_up, nI_up, Nat.zero_add, Int32.add_assoc, Int32.add_assoc]
theorem M_corner (X : qz_X) (hT : okT T) (ok : okDr T D) (h12 : D.1.1 4 < 12) (h : mPo T P t) (hd : dMd T D t) : MBn X T t D 103 [some (.ref 318), some (.int (nI (D.1.1 4))), none, none] (coB T D.1 P) := by
  obtain ⟨u1, e1, o1, c1, k1⟩ := preM X hT ok h hd
  unfold MBn coB sd3
  rw [e_M_cornerTold_0, ck_M, e1, r1_s]
  cases hp : tP T 0 0 (D.1.1 0) (D.1.1 1) P
  · exact ⟨u1, by rw [if_pos (by decide)]; rfl, o1.fr (by decide), c1, fun z => by cases z⟩
  · obtain ⟨u2, e2, o2, c2, k2⟩ := k1 hp
    rw [if_neg (by decide), ck_M, e2, r1_s, if_pos rfl]
    cases hD : tD T (nx2 T P)
    · rw [hD] at c2
      exact ⟨u2, by rw [if_pos (by decide)]; rfl, o2.fr (by decide), c2, fun z => by cases z⟩
    · obtain ⟨u3, e3, o3, c3, k3⟩ := k2 hD
      have hd4 := (tD_lt hD).2
      rw [if_neg (by decide), ck_M, e3, r1_s, if_pos rfl]
      cases hN : tN T 1 20 (nx3 T P)
      · rw [hN] at c3
        exact ⟨u3, by rw [if_pos (by decide)]; rfl, o3.fr (by decide), c3, fun z => by cases z⟩
      · rw [hN, if_pos rfl] at c3
        obtain ⟨w1, w2, w3, w4⟩ := k3 hN
        have hv := tN_lt hN
        have d3 := dMd_o hd o3
        obtain ⟨y, ey, yo, yi, y27, y28⟩ := lays_M X ok.1 h12 (isM_brE0 ok.1 d3.1) (nI (nv T P)) (nI (nv T (nx T P))) (d := dv T (nx2 T P)) (f0 := 0) (l := nv T (nx3 T P)) hd4 hv.2.1 (by omega)
        rw [Nat.zero_add] at ey y27 y28
        have cy := yo.po c3
        obtain ⟨x, ex, ox, cx, vx⟩ := M_side X hT cy
        have fx : frM t x := ((o3.fr (by decide)).tr yo.fr).tr (ox.fr (by decide))
        rw [if_neg (by decide), g_M_toldX, w2, g_M_toldY, w3, g_M_side, w4, g_M_read, w1, ck_M, pk_sub hv.2.1, ey, r0_s, g_M_endX, y27, g_M_endY, y28, ck_M, ex, r1_s, if_pos rfl]
        cases hB : tD T (nx4 T P)
        · rw [hB] at cx
          exact ⟨x, by rw [if_pos (by decide)]; rfl, fx, cx, fun z => by cases z⟩
        · rw [hB, if_pos rfl] at cx
          have hb := tD_lt hB
          obtain ⟨g, eg, og, cg, vg⟩ := M_num X hT cx (lo := 1) (hi := 20) (by decide) (by decide)
          have fg : frM t g := fx.tr (og.fr (by decide))
          rw [if_neg (by decide), ck_M, eg, r1_s, if_pos rfl]
          cases hF : tN T 1 20 (nx T (nx4 T P))
          · rw [hF] at cg
            exact ⟨g, by rw [if_pos (by decide)]; rfl, fg, cg, fun z => by cases z⟩
          · rw [hF, if_pos rfl] at cg
            have hf := tN_lt hF
            have gi : isM (gN g) 6 (brE D.1 (lnO D.1 (nI (nv T P)) (nI (nv T (nx T P))) (dv T (nx2 T P)) 0 nE (nv T (nx3 T P)))) := isM_all (fun c p r => funext fun j => by rw [og.2 c j (by omega), ox.2 c j (by omega)]) yi
            have g24 : g.1 318 24 = nI (dv T (nx4 T P)) := by rw [og.2 318 24 (by decide)]; exact vx hB
            obtain ⟨w, ew, wo, wi, _, _⟩ := lays_M X ok.1 h12 gi (nI (nv T P) + nI (nv T (nx3 T P) - 1) * qz_sx (dv T (nx2 T P))) (nI (nv T (nx T P)) + nI (nv T (nx3 T P) - 1) * qz_sy (dv T (nx2 T P))) (d := dv T (nx4 T P)) (f0 := 1) (l := nv T (nx T (nx4 T P))) hb.2 hf.2.1 (by omega)
            rw [show 1 + nv T (nx T (nx4 T P)) - 1 = nv T (nx T (nx4 T P)) by omega] at ew
            rw [lnO_1] at wi
            refine ⟨su w 330 (72 + D.1.1 4) (nI 80), ?_, (fg.tr wo.fr).tr (frM_su (by unfold inM; omega)), mPo_su (wo.po cg) (by decide) (by decide), fun _ => ⟨isM_br (by decide) rfl wi, (by rw [su_1, if_pos ⟨rfl, rfl⟩]; rfl), ?_⟩⟩
            · rw [if_neg (by decide), g_M_side, g24, g_M_read, vg hF, ck_M, ew, r0_s, g_M_bridgeLasts, nI_add, w_M_bridgeLasts (by omega)]
              rfl
            · show w.2 = t.2
              rw [wo.1, og.1, ox.1, yo.1, o3.1]
theorem M_told (X : qz_X) (hT : okT T) (ok : okDr T D) (h12 : D.1.1 4 < 12) (h : mPo T P t) (hd : dMd T D t) : MBn X T t D 106 [some (.ref 318), some (.int (nI (D.1.1 4))), none] (tdB T D.1 P) := by
  have h1 := ok.1.1
  have h2 := ok.1.2.1
  have fin : ∀ (E : Nat → Bool) (z : sT), frM t z → z.2 = t.2 → isM (gN z) 6 (brE D.1 E) → ∃ w : sT, rn 106 55 [some (.ref 318), some (.int (nI (D.1.1 4))), none] [] (mk X z) = some (some (.int (nI 1)), mk X w) ∧ frM t w ∧ (∀ Q, mPo T Q z → mPo T Q w) ∧ isM (gN w) 6 (brE D.1 E) ∧ w.1 330 (72 + D.1.1 4) = nI (60 * fb_ct E 400) ∧ w.2 = t.2 := fun E z fz z2 zi => by
    have hc := countBridge_run X (by decide) zi (b := D.1.1 4) h12 false
    have ef : (fun j => (brE D.1 E).2.2.2.1 (D.1.1 4) j && (!false || (brE D.1 E).2.1 j)) = E := funext fun j => by
      show ((if D.1.1 4 = D.1.1 4 then E j else _) && true) = _
      rw [if_pos rfl, Bool.and_true]
    rw [ef] at hc
    refine ⟨su z 330 (72 + D.1.1 4) (nI (60 * fb_ct E 400)), ?_, fz.tr (frM_su (by unfold inM; omega)), fun Q hQ => mPo_su hQ (by decide) (by decide), isM_br (by decide) rfl zi, by rw [su_1, if_pos ⟨rfl, rfl⟩], z2⟩
    have hc : rn 105 0 [some (.ref 318), some (.int (nI 6)), some (.int (nI (D.1.1 4))), some (.int (nI 0)), none, none] [] (mk X z) = _ := hc
    rw [e_M_squaresTold_55, g_M_bridgeLasts, ck_M, hc, r1_s, nI_add, pk_mul, w_M_bridgeLasts (by omega)]
  have add : ∀ (E : Nat → Bool) (Q : Nat) (z : sT) (v : Nat), v ≤ 7 → frM t z → z.2 = t.2 → mPo T Q z → isM (gN z) 6 (brE D.1 E) → (tP T 0 0 (D.1.1 0) (D.1.1 1) Q = false ∧ ∃ w : sT, rn 106 2 [some (.ref 318), some (.int (nI (D.1.1 4))), some (.int (nI v))] [] (mk X z) = some (some (.int (nI 0)), mk X w) ∧ frM t w ∧ mPo T (plP T 0 0 (D.1.1 0) (D.1.1 1) Q) w) ∨ (tP T 0 0 (D.1.1 0) (D.1.1 1) Q = true ∧ ∃ w : sT, frM t w ∧ w.2 = t.2 ∧ mPo T (nx2 T Q) w ∧ isM (gN w) 6 (brE D.1 (fun j => if j = 20 * nv T (nx T Q) + nv T Q then true else E j)) ∧ rn 106 2 [some (.ref 318), some (.int (nI (D.1.1 4))), some (.int (nI v))] [] (mk X z) = (if nI 8 ≤ nI (v + 1) then rn 106 55 [some (.ref 318), some (.int (nI (D.1.1 4))), none] [] (mk X w) else qz_r1 (rn 79 0 [some (.ref 318), some (.int (nI 44))] [] (mk X w)) (fun x11 w10 => (if x11 = 0 then rn 106 55 [some (.ref 318), some (.int (nI (D.1.1 4))), none] [] w10 else rn 106 2 [some (.ref 318), some (.int (nI (D.1.1 4))), some (.int (nI (v + 1)))] [] w10)))) := fun E Q z v hv fz z2 mz zi => by
    obtain ⟨u, eu, ou, mu, vu⟩ := M_place2 X hT mz (A := brE D.1 E) h1 h2 zi (a := 0) (b := 0) (by decide) (by decide)
    have eu : rn 91 0 [some (.ref 318), some (.int (nI 0)), some (.int (nI 0))] [] (mk X z) = some (some (.int (bI (tP T 0 0 (D.1.1 0) (D.1.1 1) Q))), mk X u) := eu
    have mu : mPo T (plP T 0 0 (D.1.1 0) (D.1.1 1) Q) u := mu
    have vu : tP T 0 0 (D.1.1 0) (D.1.1 1) Q = true → u.1 318 25 = nI (nv T Q) ∧ u.1 318 26 = nI (nv T (nx T Q)) := vu
    have fu := fz.tr (ou.fr (by decide))
    rw [e_M_squaresTold_2, ck_M, eu, r1_s]
    cases hp : tP T 0 0 (D.1.1 0) (D.1.1 1) Q
    · exact Or.inl ⟨rfl, u, by rw [if_pos (by decide)], fu, mu⟩
    · obtain ⟨p1, p2, p3, p4, p5⟩ := plP_y hp
      obtain ⟨x1, x2⟩ := vu hp
      rw [p1] at mu
      have ui : isM (gN u) 6 (brE D.1 E) := isM_all (fun c p r => funext fun j => by rw [ou.2 c j (by omega)]) zi
      refine Or.inr ⟨rfl, su u 324 (2400 + (20 * nv T (nx T Q) + nv T Q)) (u.1 324 (2400 + (20 * nv T (nx T Q) + nv T Q)) ||| (nI 1 <<< (nI (D.1.1 4) &&& 31))), fu.tr (frM_su (by unfold inM; omega)), by show u.2 = t.2; rw [ou.1, z2], mPo_su mu (by decide) (by decide), isM_sq h12 ui (by omega), ?_⟩
      rw [if_neg (by decide), g_M_bridgeAt, g_M_toldX, x1, g_M_toldY, x2, M_at_run, r1_s, i_M_bridgeAt (by omega), w_M_bridgeAt (by omega), ck_M, nI_add]
  have key : ∀ f (E : Nat → Bool) (Q : Nat) (z : sT) (v : Nat), v + f = 7 → frM t z → z.2 = t.2 → mPo T Q z → isM (gN z) 6 (brE D.1 E) → ∃ w : sT, rn 106 2 [some (.ref 318), some (.int (nI (D.1.1 4))), some (.int (nI v))] [] (mk X z) = some (some (.int (bI (tdR T D.1 f E Q).1)), mk X w) ∧ frM t w ∧ mPo T (tdR T D.1 f E Q).2.1 w ∧ ((tdR T D.1 f E Q).1 = true → isM (gN w) 6 (brE D.1 (tdR T D.1 f E Q).2.2.1) ∧ w.1 330 (72 + D.1.1 4) = nI (tdR T D.1 f E Q).2.2.2 ∧ w.2 = t.2) := by
    intro f
    induction f with
    | zero =>
      intro E Q z v hv fz z2 mz zi
      rcases add E Q z v (by omega) fz z2 mz zi with ⟨hp, w, ew, fw, mw⟩ | ⟨hp, w, fw, w2, mw, wi, ew⟩
      · unfold tdR
        rw [hp]
        exact ⟨w, ew, fw, mw, fun z => by cases z⟩
      · unfold tdR
        rw [hp, ew, if_pos (nI_le (by omega) (by omega)), if_pos rfl]
        obtain ⟨y, q1, q2, q3, q4, q5, q6⟩ := fin _ w fw w2 wi
        exact ⟨y, q1, q2, q3 _ mw, fun _ => ⟨q4, q5, q6⟩⟩
    | succ f ih =>
      intro E Q z v hv fz z2 mz zi
      rcases add E Q z v (by omega) fz z2 mz zi with ⟨hp, w, ew, fw, mw⟩ | ⟨hp, w, fw, w2, mw, wi, ew⟩
      · unfold tdR
        rw [hp]
        exact ⟨w, ew, fw, mw, fun z => by cases z⟩
      · obtain ⟨y, ey, oy, my⟩ := M_sign X hT mw (Or.inl rfl : (44 = 44 ∨ 44 = 59))
        have fy := fw.tr (oy.fr (by decide))
        have yi := isM_all (s' := y) (fun c p r => funext fun j => by rw [oy.2 c j (by omega)]) wi
        unfold tdR
        rw [hp, ew, if_neg (nI_ge (by omega) (by decide)), ey, r1_s, if_pos rfl]
        unfold tdL
        cases hc : tS T 44 (nx2 T Q)
        · rw [hc] at my
          rw [if_pos (by decide), if_neg (by decide)]
          obtain ⟨x, q1, q2, q3, q4, q5, q6⟩ := fin _ y fy (by rw [oy.1, w2]) yi
          exact ⟨x, q1, q2, q3 _ my, fun _ => ⟨q4, q5, q6⟩⟩
        · rw [hc, if_pos rfl] at my
          rw [if_neg (by decide), if_pos rfl]
          exact ih _ _ y (v + 1) (by omega) fy (by rw [oy.1, w2]) my yi
  unfold MBn tdB
  rw [e_M_squaresTold_0]
  exact key 7 nE P t 0 (by decide) (frM.rf t) rfl h (isM_brE0 ok.1 hd.1)
end BR

/-! a text told, the reference -/
section TL
variable {T : txT} {P q : Nat} {s t u : sT} {D : drT}
theorem saysz (X : qz_X) (t : sT) : ∃ u : sT, rn 110 0 [some (.ref 318), none] [] (mk X t) = rn 110 2 [some (.ref 318), some (.int (nI 16))] [] (mk X u) ∧ u.2 = t.2 ∧ (∀ c, c ≠ 320 → u.1 c = t.1 c) ∧ (∀ j, j < 96 → u.1 320 j = t.1 320 j) ∧ ∀ j, j < 16 → u.1 320 (96 + j) = nI 0 := by
  obtain ⟨u, ⟨u2, uc, ul, uz⟩, e⟩ := it_up (fun k (u : sT) => rn 110 2 [some (.ref 318), some (.int (nI k))] [] (mk X u)) (fun k u => u.2 = t.2 ∧ (∀ c, c ≠ 320 → u.1 c = t.1 c) ∧ (∀ j, j < 96 → u.1 320 j = t.1 320 j) ∧ ∀ j, j < k → u.1 320 (96 + j) = nI 0) (Nat.zero_le 16) (by
    rintro k u _ hk ⟨u2, uc, ul, uz⟩
    try dsimp only
    refine ⟨su u 320 (96 + k) (nI 0), ⟨u2, fun c hc => funext fun j => by rw [su_1, if_neg (fun z => hc z.1), uc c hc], fun j hj => by rw [su_1, if_neg (by omega), ul j hj], fun j hj => ?_⟩, ?_⟩
    · rw [su_1]
      by_cases ej : j = k
      · rw [if_pos ⟨rfl, by omega⟩]
      · rw [if_neg (by omega), uz j (by omega)]
    · rw [e_M_plateTold_2, if_neg (nI_ge hk (by decide)), ck_M, says_run X u (by omega), r0_s, nI_add]) (x := t) ⟨rfl, fun _ _ => rfl, fun _ _ => rfl, fun j hj => absurd hj (Nat.not_lt_zero j)⟩
  try dsimp only at e
  exact ⟨u, by rw [e_M_plateTold_0, e], u2, uc, ul, uz⟩
theorem clear_M (X : qz_X) (t : sT) : ∃ u : sT, rn 110 84 [some (.ref 318), some (.int (nI 2400))] [] (mk X t) = rn 110 84 [some (.ref 318), some (.int (nI 2800))] [] (mk X u) ∧ u.2 = t.2 ∧ (∀ c, c ≠ 322 → c ≠ 323 → c ≠ 324 → u.1 c = t.1 c) ∧ (∀ j, j < 2400 → u.1 322 j = t.1 322 j ∧ u.1 323 j = t.1 323 j ∧ u.1 324 j = t.1 324 j) ∧ ∀ j, j < 400 → u.1 322 (2400 + j) = nI 0 ∧ u.1 323 (2400 + j) = nI 1 ∧ u.1 324 (2400 + j) = nI 0 := by
  obtain ⟨u, ⟨u2, uc, ul, uz⟩, e⟩ := it_up (fun k (u : sT) => rn 110 84 [some (.ref 318), some (.int (nI (2400 + k)))] [] (mk X u)) (fun k u => u.2 = t.2 ∧ (∀ c, c ≠ 322 → c ≠ 323 → c ≠ 324 → u.1 c = t.1 c) ∧ (∀ j, j < 2400 → u.1 322 j = t.1 322 j ∧ u.1 323 j = t.1 323 j ∧ u.1 324 j = t.1 324 j) ∧ ∀ j, j < k → u.1 322 (2400 + j) = nI 0 ∧ u.1 323 (2400 + j) = nI 1 ∧ u.1 324 (2400 + j) = nI 0) (Nat.zero_le 400) (by
    rintro k u _ hk ⟨u2, uc, ul, uz⟩
    try dsimp only
    refine ⟨su (su (su u 322 (2400 + k) (nI 0)) 323 (2400 + k) (nI 1)) 324 (2400 + k) (nI 0), ⟨u2, fun c h1 h2 h3 => funext fun j => by rw [su_1, if_neg (fun z => h3 z.1), su_1, if_neg (fun z => h2 z.1), su_1, if_neg (fun z => h1 z.1), uc c h1 h2 h3], fun j hj => ?_, fun j hj => ?_⟩, ?_⟩
    · obtain ⟨a1, a2, a3⟩ := ul j hj
      refine ⟨?_, ?_, ?_⟩
      · rw [su_1, if_neg (by omega), su_1, if_neg (by omega), su_1, if_neg (by omega), a1]
      · rw [su_1, if_neg (by omega), su_1, if_neg (by omega), su_1, if_neg (by omega), a2]
      · rw [su_1, if_neg (by omega), su_1, if_neg (by omega), su_1, if_neg (by omega), a3]
    · by_cases ej : j = k
      · subst ej
        refine ⟨?_, ?_, ?_⟩
        · rw [su_1, if_neg (by omega), su_1, if_neg (by omega), su_1, if_pos ⟨rfl, rfl⟩]
        · rw [su_1, if_neg (by omega), su_1, if_pos ⟨rfl, rfl⟩]
        · rw [su_1, if_pos ⟨rfl, rfl⟩]
      · obtain ⟨a1, a2, a3⟩ := uz j (by omega)
        refine ⟨?_, ?_, ?_⟩
        · rw [su_1, if_neg (by omega), su_1, if_neg (by omega), su_1, if_neg (by omega), a1]
        · rw [su_1, if_neg (by omega), su_1, if_neg (by omega), su_1, if_neg (by omega), a2]
        · rw [su_1, if_neg (by omega), su_1, if_neg (by omega), su_1, if_neg (by omega), a3]
    · rw [e_M_plateTold_84, if_neg (nI_ge (by omega) (by decide)), g_M_through, w_M_through (by omega), g_M_worth, w_M_worth (by omega), g_M_bridgeAt, w_M_bridgeAt (by omega), nI_add]
      rfl) (x := t) ⟨rfl, fun _ _ _ _ => rfl, fun _ _ => ⟨rfl, rfl, rfl⟩, fun j hj => absurd hj (Nat.not_lt_zero j)⟩
  try dsimp only at e
  exact ⟨u, e, u2, uc, ul, uz⟩
/-- the loop over statements -/
theorem lpM_tell (X : qz_X) (hT : okT T) : ∀ (f : Nat) (D : drT) (P : Nat) (u : sT) (v : Nat), v + f = 60 → D.1.1 2 = v → okDr T D → frM t u → mPo T P u → u.1 318 16 = nI P → dMd T D u → ∃ z : sT, rn 110 133 [some (.ref 318), none] [] (mk X u) = some (some (.int (bI (tlS T f D P).1)), mk X z) ∧ frM t z ∧ mPo T (tlS T f D P).2.1 z ∧ ((tlS T f D P).1 = true → isM (gN z) 6 (fA (tlS T f D P).2.2.1)) := by
  intro f
  have fin : ∀ (D : drT) (P : Nat) (u : sT), okDr T D → frM t u → mPo T P u → dMd T D u → ∃ z : sT, qz_ck (mk X u).1 318 12 (qz_r1 (rn 80 0 [some (.ref 318), some (.int (nI 4))] [] (mk X u)) (fun x4 w3 => qz_ck w3.1 318 12 (qz_r0 (rn 74 0 [some (.ref 318), some (.int (nI 5)), some (.int ((nI 1 <<< (x4 &&& 31)) - nI 1))] [] w3) (fun w5 => some (some (.int (nI 1)), w5))))) = some (some (.int (nI 1)), mk X z) ∧ frM t z ∧ mPo T P z ∧ isM (gN z) 6 (fA D.1) := fun D P u ok fu mu du => by
    have o5 := ok.1.2.2.2.2.1
    refine ⟨su u 320 (96 + 5) (nI (2 ^ D.1.1 4 - 1)), ?_, fu.tr (frM_su (by unfold inM; omega)), mPo_su mu (by decide) (by decide), ?_⟩
    · rw [ck_M, M_draft_run X du.1 (by decide), r1_s, ck_M, one_n _ (by omega), says_run X u (by decide), r0_s]
    · exact isM_num (j := 5) (by decide) (by decide) (by decide) du.1
  induction f with
  | zero =>
    intro D P u v hv hD ok fu mu h16 du
    have hPn := (mPo_le mu).1
    have hn := hT.1
    obtain ⟨z, q1, q2, q3, q4⟩ := fin D P u ok fu mu du
    rw [e_M_plateTold_133, g_M_at, g_M_size, h16, mu.2.1]
    rw [show tlS T 0 D P = (decide (kd T P = 0), P, D) from rfl]
    by_cases k : kd T P = 0
    · rw [decide_eq_true k]
      have hE : T.1 ≤ P := by
        rcases Nat.lt_or_ge P T.1 with g | g
        · exact absurd k (kd_lt.mpr g)
        · exact g
      exact ⟨z, by rw [if_pos (nI_le hE (by omega)), q1]; rfl, q2, q3, fun _ => q4⟩
    · rw [decide_eq_false k]
      have hP := kd_lt.mp k
      refine ⟨u, ?_, fu, mu, fun z => by cases z⟩
      rw [if_neg (nI_ge hP (by omega)), ck_M, M_draft_run X du.1 (by decide), r1_s, if_pos (by rw [show D.1.1 2 = 60 by omega])]
      rfl
  | succ f ih =>
    intro D P u v hv hD ok fu mu h16 du
    have hPn := (mPo_le mu).1
    have hn := hT.1
    obtain ⟨z, q1, q2, q3, q4⟩ := fin D P u ok fu mu du
    rw [e_M_plateTold_133, g_M_at, g_M_size, h16, mu.2.1]
    unfold tlS
    by_cases k : kd T P = 0
    · have hE : T.1 ≤ P := by
        rcases Nat.lt_or_ge P T.1 with g | g
        · exact absurd k (kd_lt.mpr g)
        · exact g
      rw [if_pos k]
      exact ⟨z, by rw [if_pos (nI_le hE (by omega)), q1]; rfl, q2, q3, fun _ => q4⟩
    · have hP := kd_lt.mp k
      have hs := smS_ok (T := T) (P := P) ok
      rw [if_neg k, if_neg (nI_ge hP (by omega)), ck_M, M_draft_run X du.1 (by decide), r1_s, if_neg (fun z => by have := (nI_eq (by omega) (by decide)).mp z; omega), ck_M]
      rcases M_statement X hT ok mu du with ⟨y, ey, fy, my, dy⟩ | ⟨ts, y, ey, fy, my⟩
      · rw [ey, r1_s]
        cases c1 : (smS T D P).1
        · exact ⟨y, by rw [if_pos (by decide)]; rfl, fu.tr fy, my, fun z => by cases z⟩
        · obtain ⟨s1, s2⟩ := hs c1
          have dy := dy c1
          obtain ⟨x, ex, ox, mx⟩ := M_sign X hT my (Or.inr rfl : (59 = 44 ∨ 59 = 59))
          have fx := (fu.tr fy).tr (ox.fr (by decide))
          rw [if_neg (by decide), ck_M, ex, r1_s, if_pos rfl]
          cases c2 : tS T 59 (smS T D P).2.1
          · rw [c2] at mx
            exact ⟨x, by rw [if_pos (by decide)]; rfl, fx, mx, fun z => by cases z⟩
          · rw [c2, if_pos rfl] at mx
            have dx := dMd_o dy ox
            have hw : ∃ w : sT, w = su x 320 (96 + 2) (nI ((smS T D P).2.2.1.1 2 + 1)) := ⟨_, rfl⟩
            obtain ⟨w, hw⟩ := hw
            have fw : frM t w := by rw [hw]; exact fx.tr (frM_su (by unfold inM; omega))
            have mw : mPo T (nx T (smS T D P).2.1) w := by rw [hw]; exact mPo_su mx (by decide) (by decide)
            have dw : dMd T (setN (smS T D P).2.2.1 2 ((smS T D P).2.2.1.1 2 + 1), (smS T D P).2.2.2) w := by rw [hw]; exact dMd_num (by decide) (by decide) (by decide) dx
            have og : oM [16] w (su w 318 16 (nI (nx T (smS T D P).2.1))) := oM_su (by decide)
            have mg : mPo T (nx T (smS T D P).2.1) (su w 318 16 (nI (nx T (smS T D P).2.1))) := by
              have := mPo_at mw og (by decide) (mPo_le mw).1 (by rw [su_1, if_pos ⟨rfl, rfl⟩])
              rwa [(mPo_le mw).2] at this
            rw [if_neg (by decide), ck_M, M_draft_run X dx.1 (by decide), r1_s, ck_M, nI_add, says_run X x (by decide), r0_s, ← hw, ck_M, M_blank X hT mw, r0_s, if_pos rfl]
            refine ih _ _ _ (v + 1) (by omega) ?_ (setN2_ok s1 (by omega)) (fw.tr (og.fr (by decide))) mg (by rw [su_1, if_pos ⟨rfl, rfl⟩]) (dMd_o dw og)
            show (smS T D P).2.2.1.1 2 + 1 = v + 1
            omega
      · rw [ey, r1_s, if_pos (by decide), ts]
        cases c1 : (smS T D P).1
        · exact ⟨y, rfl, fu.tr fy, my, fun z => by cases z⟩
        · exact ⟨y, rfl, fu.tr fy, my, fun z => by cases z⟩
theorem M_tell (X : qz_X) (hT : okT T) (h : mPo T (sk T 0) t) : ∃ u : sT, rn 110 0 [some (.ref 318), none] [] (mk X t) = some (some (.int (bI (ttS T).1)), mk X u) ∧ frM t u ∧ mPo T (ttS T).2.1 u ∧ ((ttS T).1 = true → isM (gN u) 6 (fA (ttS T).2.2.1)) := by
  obtain ⟨a, ea, a2, ac, al, az⟩ := saysz X t
  have fa : frM t a := ⟨by rw [a2], fun c j e => by
    by_cases e1 : c = 320
    · subst e1
      exact al j (by
        rcases Nat.lt_or_ge j 96 with g | g
        · exact g
        · exact absurd (by unfold inM; omega) e)
    · rw [ac c e1]⟩
  have ma : mPo T (sk T 0) a := mPo_c h (ac 318 (by decide)) (ac 333 (by decide))
  have hz := szS_ok (T := T) (P := sk T 0)
  rw [ea, e_M_plateTold_2, if_pos (nI_le (by decide) (by decide)), ck_M]
  revert hz ma
  unfold ttS
  generalize sk T 0 = P
  intro ma hz
  obtain ⟨b, eb, ob, mb⟩ := M_key X hT ma (k := 0) (by decide) (v := lN 482854663269)
  have fb := fa.tr (ob.fr (by decide))
  rw [eb, r1_s]
  unfold szS
  cases c1 : tK T 0 P
  · rw [c1] at mb
    exact ⟨b, by rw [if_pos (by decide)]; rfl, fb, mb, fun z => by cases z⟩
  · rw [c1, if_pos rfl] at mb
    obtain ⟨c, ec, oc, mc, vc⟩ := M_num X hT mb (lo := 1) (hi := 20) (by decide) (by decide)
    have fc := fb.tr (oc.fr (by decide))
    rw [if_neg (by decide), ck_M, ec, r1_s, if_pos rfl]
    cases c2 : tN T 1 20 (nx T P)
    · rw [c2] at mc
      exact ⟨c, by rw [if_pos (by decide)]; rfl, fc, mc, fun z => by cases z⟩
    · rw [c2, if_pos rfl] at mc
      have hd : ∃ d : sT, d = su c 320 (96 + 0) (nI (nv T (nx T P))) := ⟨_, rfl⟩
      obtain ⟨d, hd⟩ := hd
      have fd : frM t d := by rw [hd]; exact fc.tr (frM_su (by unfold inM; omega))
      have md : mPo T (nx2 T P) d := by rw [hd]; exact mPo_su mc (by decide) (by decide)
      obtain ⟨e, ee, oe, me, ve⟩ := M_num X hT md (lo := 1) (hi := 20) (by decide) (by decide)
      have fe := fd.tr (oe.fr (by decide))
      rw [if_neg (by decide), g_M_read, vc c2, ck_M, says_run X c (by decide), r0_s, ← hd, ck_M, ee, r1_s, if_pos rfl]
      cases c3 : tN T 1 20 (nx2 T P)
      · rw [c3] at me
        exact ⟨e, by rw [if_pos (by decide)]; rfl, fe, me, fun z => by cases z⟩
      · rw [c3, if_pos rfl] at me
        have hg : ∃ g : sT, g = su (su e 320 (96 + 1) (nI (nv T (nx2 T P)))) 320 (96 + 6) (nI 15) := ⟨_, rfl⟩
        obtain ⟨g, hg⟩ := hg
        have fg : frM t g := by rw [hg]; exact (fe.tr (frM_su (by unfold inM; omega))).tr (frM_su (by unfold inM; omega))
        have mg : mPo T (nx3 T P) g := by rw [hg]; exact mPo_su (mPo_su me (by decide) (by decide)) (by decide) (by decide)
        obtain ⟨i, ei, i2, ic, il, iz⟩ := clear_M X g
        have fi : frM t i := fg.tr ⟨by rw [i2], fun c j e => by
          by_cases e1 : c = 322 ∨ c = 323 ∨ c = 324
          · have hj : j < 2400 := by
              rcases Nat.lt_or_ge j 2400 with g | g
              · exact g
              · exact absurd (by unfold inM; omega) e
            obtain ⟨x1, x2, x3⟩ := il j hj
            rcases e1 with rfl | rfl | rfl
            · exact x1
            · exact x2
            · exact x3
          · rw [ic c (by omega) (by omega) (by omega)]⟩
        have mi : mPo T (nx3 T P) i := mPo_c mg (ic 318 (by decide) (by decide) (by decide)) (ic 333 (by decide) (by decide) (by decide))
        have di : isM (gN i) 6 (A00 (nv T (nx T P)) (nv T (nx2 T P))) := by
          refine ⟨fun j hj => ?_, fun q hq => (iz q hq).1, fun q hq => (iz q hq).2.1, fun q hq b hb => ?_, fun k hk => absurd hk (Nat.not_lt_zero k), fun b hb => absurd hb (Nat.not_lt_zero b)⟩
          · show i.1 320 (96 + j) = nI (if j = 0 then _ else if j = 1 then _ else if j = 6 then 15 else 0)
            rw [ic 320 (by decide) (by decide) (by decide), hg, su_1]
            by_cases j6 : j = 6
            · rw [if_pos ⟨rfl, by omega⟩, if_neg (by omega), if_neg (by omega), if_pos j6]
            · rw [if_neg (by omega), su_1]
              by_cases j1 : j = 1
              · rw [if_pos ⟨rfl, by omega⟩, if_neg (by omega), if_pos j1]
              · rw [if_neg (by omega), oe.2 320 _ (by omega), hd, su_1]
                by_cases j0 : j = 0
                · rw [if_pos ⟨rfl, by omega⟩, if_pos j0]
                · rw [if_neg (by omega), if_neg j0, if_neg j1, if_neg j6, oc.2 320 _ (by omega), ob.2 320 _ (by omega), az j (by omega)]
          · show bt (i.1 324 (2400 + q)) b = (decide (b < 12) && false)
            rw [(iz q hq).2.2, b_n0, Bool.and_false]
        obtain ⟨k, ek, ok', mk'⟩ := M_sign X hT mi (Or.inr rfl : (59 = 44 ∨ 59 = 59))
        have fk := fi.tr (ok'.fr (by decide))
        rw [if_neg (by decide), g_M_read, ve c3, ck_M, says_run X e (by decide), r0_s, ck_M, says_run X _ (by decide), r0_s, ← hg, ei, e_M_plateTold_84, if_pos (nI_le (by decide) (by decide)), ck_M, ek, r1_s, if_pos rfl]
        cases c4 : tS T 59 (nx3 T P)
        · rw [c4] at mk'
          exact ⟨k, by rw [if_pos (by decide)]; rfl, fk, mk', fun z => by cases z⟩
        · rw [c4, if_pos rfl] at mk'
          have dk : dMd T (A00 (nv T (nx T P)) (nv T (nx2 T P)), fun _ => 0) k := ⟨isM_all (fun c p q => funext fun j => by rw [ok'.2 c j (by omega)]) di, fun i hi => absurd hi (Nat.not_lt_zero i)⟩
          have og : oM [16] k (su k 318 16 (nI (nx4 T P))) := oM_su (by decide)
          have mg2 : mPo T (nx4 T P) (su k 318 16 (nI (nx4 T P))) := by
            have := mPo_at mk' og (by decide) (mPo_le mk').1 (by rw [su_1, if_pos ⟨rfl, rfl⟩])
            rwa [(mPo_le mk').2] at this
          have okz : okDr T (A00 (nv T (nx T P)) (nv T (nx2 T P)), fun _ => 0) := ⟨A00_ok (tN_lt c2).2 (tN_lt c3).2, rfl, fun i hi => absurd hi (Nat.not_lt_zero i)⟩
          rw [if_neg (by decide), ck_M, M_blank X hT mk', r0_s, if_pos rfl, if_pos rfl]
          exact lpM_tell X hT 60 _ _ _ 0 (by decide) rfl okz (fk.tr (og.fr (by decide))) mg2 (by rw [su_1, if_pos ⟨rfl, rfl⟩]) (dMd_o dk og)
end TL

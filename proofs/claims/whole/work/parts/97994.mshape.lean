/-! shape, the reference -/
section ST
variable {T : txT} {P q : Nat} {s t u : sT} {D : drT}
def shM (m l h : Nat) (R : Nat → Nat) (N : Nat → Nat → Int64) (t u : sT) : Prop := u.2 = (N, t.2.2) ∧ (∀ c, c ≠ 318 → c ≠ 325 → c ≠ 326 → c ≠ 327 → u.1 c = t.1 c) ∧ (∀ j, j ∉ [16, 20, 22, 23] → u.1 318 j = t.1 318 j) ∧ (∀ k, u.1 325 k = if k = 48 + m then nI l else t.1 325 k) ∧ (∀ k, u.1 326 k = if k = 48 + m then nI h else t.1 326 k) ∧ (∀ y, y < h → u.1 327 (8 * (48 + m) + y) = nI (R y)) ∧ ∀ k, k < 8 * (48 + m) → u.1 327 k = t.1 327 k
theorem shM_o {m l h : Nat} {R : Nat → Nat} {N : Nat → Nat → Int64} {v : sT} (hs : shM m l h R N t u) {L : List Nat} (o : oM L u v) (hL : ∀ j, j ∈ L → j ∈ [16, 20, 22, 23]) : shM m l h R N t v := by
  obtain ⟨h1, h2, h3, h4, h5, h6, h7⟩ := hs
  exact ⟨o.1.trans h1, fun c a1 a2 a3 a4 => funext fun j => by rw [o.2 c j (fun z => a1 z.1), h2 c a1 a2 a3 a4], fun j hj => by rw [o.2 318 j (fun z => hj (hL j z.2))]; exact h3 j hj, fun k => by rw [o.2 325 k (by omega)]; exact h4 k, fun k => by rw [o.2 326 k (by omega)]; exact h5 k, fun y hy => by rw [o.2 327 _ (by omega)]; exact h6 y hy, fun k hk => by rw [o.2 327 k (by omega)]; exact h7 k hk⟩
theorem shM_fr {m l h : Nat} {R : Nat → Nat} {N : Nat → Nat → Int64} (hm : m < 8) (hs : shM m l h R N t u) : frM t u := by
  obtain ⟨h1, h2, h3, h4, h5, h6, h7⟩ := hs
  refine ⟨by rw [h1], fun c j e => ?_⟩
  by_cases e1 : c = 318
  · subst e1
    refine h3 j (fun z => e (Or.inl ⟨rfl, ?_⟩))
    revert z
    simp only [List.mem_cons, List.not_mem_nil, or_false]
    omega
  · by_cases e2 : c = 325
    · subst e2
      rw [h4, if_neg (fun z => e (by unfold inM; omega))]
    · by_cases e3 : c = 326
      · subst e3
        rw [h5, if_neg (fun z => e (by unfold inM; omega))]
      · by_cases e4 : c = 327
        · subst e4
          exact h7 j (by
            rcases Nat.lt_or_ge j (8 * (48 + m)) with g | g
            · exact g
            · exact absurd (by unfold inM; omega) e)
        · rw [h2 c e1 e2 e3 e4]
theorem shM_isM {A : shT} {m l h : Nat} {R : Nat → Nat} {N : Nat → Nat → Int64} (hm8 : m < 8) (h8 : h ≤ 8) (hm : A.1 3 = m) (hM : isM (gN t) 6 A) (hs : shM m l h R N t u) (ok : ∀ k, k < m → A.2.2.2.2 4 k ≤ 8) : isM (gN (su u 320 99 (nI (m + 1)))) 6 (shAdd A l h R) := by
  obtain ⟨h1, h2, h3, h4, h5, h6, h7⟩ := hs
  have e : ∀ c, c ≠ 320 → (su u 320 99 (nI (m + 1))).1 c = u.1 c := fun c hc => funext fun j => by rw [su_1, if_neg (fun z => hc z.1)]
  refine isM_sh hm8 h8 hm hM (fun c hc => ?_) (fun j hj => ?_) ?_ (fun k => ?_) (fun k => ?_) (fun y hy => ?_) (fun k hk => ?_) ok
  · simp only [List.mem_cons, List.not_mem_nil, or_false] at hc
    rw [e c (by omega), h2 c (by omega) (by omega) (by omega) (by omega)]
  · rw [su_1, if_neg (fun z => hj z.2), h2 320 (by decide) (by decide) (by decide) (by decide)]
  · rw [su_1, if_pos ⟨rfl, rfl⟩]
  · rw [e 325 (by decide)]; exact h4 k
  · rw [e 326 (by decide)]; exact h5 k
  · rw [e 327 (by decide)]; exact h6 y hy
  · rw [e 327 (by decide)]; exact h7 k hk
theorem lpM (X : qz_X) (hT : okT T) {A : shT} {m l : Nat} {N : Nat → Nat → Int64} (hM : isM (gN t) 6 A) (hA : A.1 3 = m) (hm : m < 8) (hl : 1 ≤ l) (hl8 : l ≤ 8) : ∀ (f h : Nat) (R : Nat → Nat) (P : Nat) (u : sT), h + f = 8 → 1 ≤ h → shM m l h R N t u → mPo T P u → u.1 318 16 = nI P → (∃ z : sT, rn 90 109 [some (.ref 318), some (.int (nI (48 + m))), none, none] [] (mk X u) = some (some (.int (bI (shL T l f h R P).1)), mk X z) ∧ frM t z ∧ mPo T (shL T l f h R P).2.1 z ∧ ((shL T l f h R P).1 = true → ∃ v : sT, shM m l (shL T l f h R P).2.2.1 (shL T l f h R P).2.2.2 N t v ∧ z = su v 320 99 (nI (m + 1)))) ∨ (tS T 59 (shL T l f h R P).2.1 = false ∧ ∃ z : sT, rn 90 109 [some (.ref 318), some (.int (nI (48 + m))), none, none] [] (mk X u) = some (some (.int (nI 0)), mk X z) ∧ frM t z ∧ mPo T (shL T l f h R P).2.1 z) := by
  intro f
  have hn := hT.1
  have fin : ∀ (h : Nat) (R : Nat → Nat) (P : Nat) (u : sT), shM m l h R N t u → mPo T P u → qz_ck (mk X u).1 318 12 (qz_r1 (rn 80 0 [some (.ref 318), some (.int (nI 3))] [] (mk X u)) (fun x4 w3 => qz_ck w3.1 318 12 (qz_r0 (rn 74 0 [some (.ref 318), some (.int (nI 3)), some (.int (x4 + nI 1))] [] w3) (fun w5 => some (some (.int (nI 1)), w5))))) = some (some (.int (nI 1)), mk X (su u 320 99 (nI (m + 1)))) ∧ frM t (su u 320 99 (nI (m + 1))) ∧ mPo T P (su u 320 99 (nI (m + 1))) := fun h R P u hs hp => by
    have h320 : u.1 320 99 = nI m := by
      rw [hs.2.1 320 (by decide) (by decide) (by decide) (by decide)]
      have := ab_at hM (j := 3) (by decide)
      rw [hA] at this
      exact this
    refine ⟨?_, (shM_fr hm hs).tr (frM_su (by unfold inM; omega)), mPo_su hp (by decide) (by decide)⟩
    rw [ck_M, e_M_draft_0, g_M_about, nI_add, i_M_about (by decide), h320, r1_s, ck_M, says_run X u (by decide), r0_s, nI_add]
  induction f with
  | zero =>
    intro h R P u hf h1 hs hp h16
    have hPn := (mPo_le hp).1
    obtain ⟨g1, g2, g3⟩ := fin h R P u hs hp
    rw [e_M_shape_109, g_M_at, g_M_size, h16, hp.2.1]
    rw [show shL T l 0 h R P = (true, P, h, R) from rfl]
    by_cases hE : T.1 ≤ P
    · exact Or.inl ⟨_, by rw [if_pos (nI_le hE (by omega)), g1]; rfl, g2, g3, fun _ => ⟨u, hs, rfl⟩⟩
    · have hb := hT.2 P (by omega)
      rw [if_neg (nI_ge (by omega) (by omega)), g_M_text, g_M_at, h16, i_M_text (by omega), hp.1 P (by omega)]
      by_cases h59 : T.2 P = 59
      · exact Or.inl ⟨_, by rw [if_pos ((sb_eq (Or.inr rfl) _ hb).mpr h59), g1]; rfl, g2, g3, fun _ => ⟨u, hs, rfl⟩⟩
      · refine Or.inr ⟨?_, u, ?_, shM_fr hm hs, hp⟩
        · cases c4 : tS T 59 P
          · rfl
          · exact absurd ((tS_59 hT hPn).mp c4).2 h59
        · rw [if_neg (fun z => h59 ((sb_eq (Or.inr rfl) _ hb).mp z)), g_M_shapeHigh, i_M_shapeHigh (by omega), hs.2.2.2.2.1, if_pos rfl, if_pos (by rw [show h = 8 by omega])]
  | succ f ih =>
    intro h R P u hf h1 hs hp h16
    have hPn := (mPo_le hp).1
    have k4 := kd4 T P
    obtain ⟨g1, g2, g3⟩ := fin h R P u hs hp
    rw [e_M_shape_109, g_M_at, g_M_size, h16, hp.2.1]
    unfold shL
    by_cases hE : T.1 ≤ P
    · have hk : ¬ kd T P = 1 := fun z => by have := kd_lt.mp (show kd T P ≠ 0 by omega); omega
      rw [if_neg hk]
      exact Or.inl ⟨_, by rw [if_pos (nI_le hE (by omega)), g1]; rfl, g2, g3, fun _ => ⟨u, hs, rfl⟩⟩
    · have hb := hT.2 P (by omega)
      rw [if_neg (nI_ge (by omega) (by omega)), g_M_text, g_M_at, h16, i_M_text (by omega), hp.1 P (by omega)]
      by_cases h59 : T.2 P = 59
      · have hk : ¬ kd T P = 1 := fun z => by rw [kd_y (by omega), h59] at z; cases z
        rw [if_neg hk]
        exact Or.inl ⟨_, by rw [if_pos ((sb_eq (Or.inr rfl) _ hb).mpr h59), g1]; rfl, g2, g3, fun _ => ⟨u, hs, rfl⟩⟩
      · have w7 : u.1 325 (48 + m) = nI l := by rw [hs.2.2.2.1, if_pos rfl]
        have w8 : u.1 326 (48 + m) = nI h := by rw [hs.2.2.2.2.1, if_pos rfl]
        obtain ⟨z, ez, oz, mz, vz⟩ := M_squares X hT hp (lo := l) (hi := l) hl (by omega) (by omega)
        have sz := shM_o hs oz (by decide)
        rw [if_neg (fun z => h59 ((sb_eq (Or.inr rfl) _ hb).mp z)), g_M_shapeHigh, i_M_shapeHigh (by omega), w8, if_neg (fun z => by have := (nI_eq (by omega) (by decide)).mp z; omega), g_M_shapeWide, i_M_shapeWide (by omega), w7, g_M_shapeWide, i_M_shapeWide (by omega), w7, ck_M, ez, r1_s]
        by_cases hk : kd T P = 1
        · rw [if_pos hk]
          cases c2 : tQ T l l P
          · rw [c2] at mz
            exact Or.inl ⟨z, by rw [if_pos (by decide)]; rfl, shM_fr hm sz, mz, fun z => by cases z⟩
          · rw [c2, if_pos rfl] at mz
            have hl2 := tQ_lt c2
            have hll : ln T P = l := by omega
            obtain ⟨v1, v2⟩ := vz c2
            rw [hll] at v2
            have z8 : z.1 326 (48 + m) = nI h := by rw [sz.2.2.2.2.1, if_pos rfl]
            have hy : ∃ y : sT, y = su (su z 327 (8 * (48 + m) + h) (nI (qv T P l))) 326 (48 + m) (nI (h + 1)) := ⟨_, rfl⟩
            obtain ⟨y, hy⟩ := hy
            obtain ⟨q1, q2, q3, q4, q5, q6, q7⟩ := sz
            have sy : shM m l (h + 1) (fun i => if i = h then qv T P l else R i) N t y := by
              refine ⟨by rw [hy]; exact q1, fun c a1 a2 a3 a4 => funext fun j => ?_, fun j hj => ?_, fun k => ?_, fun k => ?_, fun y' hy' => ?_, fun k hk => ?_⟩
              · rw [hy, su_1, if_neg (fun z => a3 z.1), su_1, if_neg (fun z => a4 z.1), q2 c a1 a2 a3 a4]
              · rw [hy, su_1, if_neg (by omega), su_1, if_neg (by omega), q3 j hj]
              · rw [hy, su_1, if_neg (by omega), su_1, if_neg (by omega), q4 k]
              · rw [hy, su_1]
                by_cases e : k = 48 + m
                · rw [if_pos ⟨rfl, e⟩, if_pos e]
                · rw [if_neg (fun z => e z.2), su_1, if_neg (by omega), q5 k, if_neg e, if_neg e]
              · rw [hy, su_1, if_neg (by omega), su_1]
                show _ = nI (if y' = h then qv T P l else R y')
                by_cases e : y' = h
                · rw [if_pos ⟨rfl, by omega⟩, if_pos e]
                · rw [if_neg (by omega), if_neg e, q6 y' (by omega)]
              · rw [hy, su_1, if_neg (by omega), su_1, if_neg (by omega), q7 k hk]
            have my : mPo T (nx T P) y := by rw [hy]; exact mPo_su (mPo_su mz (by decide) (by decide)) (by decide) (by decide)
            have ow : oM [16] y (su y 318 16 (nI (nx T P))) := oM_su (by decide)
            have mw : mPo T (nx T P) (su y 318 16 (nI (nx T P))) := by
              have := mPo_at my ow (by decide) (mPo_le my).1 (by rw [su_1, if_pos ⟨rfl, rfl⟩])
              rwa [(mPo_le my).2] at this
            have z8' : ∀ x, (su z 327 (8 * (48 + m) + h) x).1 326 (48 + m) = nI h := fun x => by rw [su_1, if_neg (by omega)]; exact z8
            rw [if_neg (by decide), if_pos rfl, g_M_shapeRow, g_M_shapeHigh, i_M_shapeHigh (by omega), z8, g_M_squaresBits, v2, pk_mul, nI_add, w_M_shapeRow (by omega), g_M_shapeHigh, i_M_shapeHigh (by omega), z8', nI_add, w_M_shapeHigh (by omega), ← hy, ck_M, M_blank X hT my, r0_s]
            exact ih (h + 1) _ (nx T P) _ (by omega) (by omega) (shM_o sy ow (by decide)) mw (by rw [su_1, if_pos ⟨rfl, rfl⟩])
        · have c2 : tQ T l l P = false := decide_eq_false (fun z => hk z.1)
          rw [c2] at mz ⊢
          rw [if_neg hk]
          refine Or.inr ⟨?_, z, by rw [if_pos (by decide)], shM_fr hm sz, mz⟩
          show tS T 59 P = false
          cases c4 : tS T 59 P
          · rfl
          · exact absurd ((tS_59 hT hPn).mp c4).2 h59
theorem M_shape (X : qz_X) (hT : okT T) (ok : okDr T D) (h : mPo T P t) (hd : dMd T D t) : MRx X T t 90 [some (.ref 318), none, none, none] (shS T D P) := by
  have h3 := ok.1.2.2.2.1
  have hP := (mPo_le h).1
  have k20 := kw20 T P
  have dW := dMd_o hd (W20_o T P t)
  have fW := (W20_o T P t).fr (by decide)
  have mW := W20_p h
  unfold MRx MRn shS
  rw [e_M_shape_0, ck_M, M_draft_run X hd.1 (by decide), r1_s, ck_M, word_run X hT h, r2_s]
  by_cases hw : kd T P = 1 ∧ ln T P ≤ 8
  · have hw0 := wdv_n0 hw.1 hw.2
    have hwl := wdv_lt hP
    rw [if_neg (fun z => by have := (pk_lEQ hwl (by decide)).mp ((lg_cmp_eq _ _).mp z); omega), kept_run _ hP, r1_s]
    by_cases hk : kw T P < 20
    · rw [decide_eq_true ⟨hw.1, hk⟩, if_neg (by decide), if_neg (fun z => by have := z.1.2.2; omega)]
      exact Or.inl ⟨_, rfl, fW, mW, fun z => by cases z⟩
    · have hn : okn T P := ⟨hw.1, hw.2, by omega⟩
      have hf : fa_first (fun k => decide (wdv T (D.2 k) = wdv T P)) (D.1.1 3) = shf T D P := by unfold shf; rw [if_pos hn]
      have hle : shf T D P ≤ D.1.1 3 := by rw [← hf]; exact fa_first_le _ _
      rw [decide_eq_false (fun z => hk z.2), if_pos (by decide), ck_M, M_find X hP ok dW, r1_s, hf]
      by_cases hfe : shf T D P = D.1.1 3
      · rw [if_neg (show ¬ shf T D P < D.1.1 3 by omega), if_pos rfl, ck_M, M_draft_run X dW.1 (by decide), r1_s]
        by_cases h8 : D.1.1 3 < 8
        · rw [if_neg (fun z => by have := (nI_eq (by omega) (by decide)).mp z; omega), if_pos (show okn T P ∧ D.1.1 3 < 8 ∧ shf T D P = D.1.1 3 from ⟨hn, h8, hfe⟩), g_M_wordEnd, W20_20, p_M_at]
          have hu : ∃ u : sT, u = su (W20 T P t) 318 16 (nI (P + wdl T P)) := ⟨_, rfl⟩
          obtain ⟨u, hu⟩ := hu
          have ou : oM [16, 20] t u := by rw [hu]; exact (W20_o T P t).tr (oM_su (by decide))
          have mu : mPo T (nx T P) u := by rw [hu]; exact W20_nx h hw.1
          rw [← hu]
          obtain ⟨z, ez, oz, mz, vz⟩ := M_squares X hT mu (lo := 1) (hi := 8) (by decide) (by decide) (by decide)
          have oz' : oM [16, 20, 22, 23] t z := (ou.mo (by decide)).tr (oz.mo (by decide))
          rw [ck_M, ez, r1_s]
          unfold shS1
          cases c2 : tQ T 1 8 (nx T P)
          · rw [c2] at mz
            exact Or.inl ⟨z, by rw [if_pos (by decide)]; rfl, oz'.fr (by decide), mz, fun z => by cases z⟩
          · rw [c2, if_pos rfl] at mz
            have hl := tQ_lt c2
            obtain ⟨v1, v2⟩ := vz c2
            have hy : ∃ y : sT, y = su (su (su (sl z 331 (48 + D.1.1 3) (lN (wdv T P))) 325 (48 + D.1.1 3) (nI (ln T (nx T P)))) 327 (8 * (48 + D.1.1 3)) (nI (qv T (nx T P) (ln T (nx T P))))) 326 (48 + D.1.1 3) (nI 1) := ⟨_, rfl⟩
            obtain ⟨y, hy⟩ := hy
            have z22 : ∀ x, (sl z 331 (48 + D.1.1 3) x).1 318 22 = nI (ln T (nx T P)) := fun x => v1
            have z23 : ∀ x a b, (su (sl z 331 (48 + D.1.1 3) x) 325 a b).1 318 23 = nI (qv T (nx T P) (ln T (nx T P))) := fun x a b => by rw [su_1, if_neg (by omega)]; exact v2
            have y2 : y.2 = ((sl z 331 (48 + D.1.1 3) (lN (wdv T P))).2.1, t.2.2) := by
              rw [hy]
              show (sl z 331 (48 + D.1.1 3) (lN (wdv T P))).2 = _
              refine Prod.ext rfl ?_
              show z.2.2 = t.2.2
              rw [oz'.1]
            have sy : shM (D.1.1 3) (ln T (nx T P)) 1 (fun _ => qv T (nx T P) (ln T (nx T P))) (sl z 331 (48 + D.1.1 3) (lN (wdv T P))).2.1 t y := by
              refine ⟨y2, fun c a1 a2 a3 a4 => funext fun j => ?_, fun j hj => ?_, fun k => ?_, fun k => ?_, fun y' hy' => ?_, fun k hk => ?_⟩
              · rw [hy, su_1, if_neg (fun z => a3 z.1), su_1, if_neg (fun z => a4 z.1), su_1, if_neg (fun z => a2 z.1), sl_1, oz'.2 c j (fun z => a1 z.1)]
              · rw [hy, su_1, if_neg (by omega), su_1, if_neg (by omega), su_1, if_neg (by omega), sl_1, oz'.2 318 j (fun z => hj z.2)]
              · rw [hy, su_1, if_neg (by omega), su_1, if_neg (by omega), su_1]
                by_cases e : k = 48 + D.1.1 3
                · rw [if_pos ⟨rfl, e⟩, if_pos e]
                · rw [if_neg (fun z => e z.2), if_neg e, sl_1, oz'.2 325 k (by omega)]
              · rw [hy, su_1]
                by_cases e : k = 48 + D.1.1 3
                · rw [if_pos ⟨rfl, e⟩, if_pos e]
                · rw [if_neg (fun z => e z.2), if_neg e, su_1, if_neg (by omega), su_1, if_neg (by omega), sl_1, oz'.2 326 k (by omega)]
              · rw [hy, su_1, if_neg (by omega), su_1, if_pos ⟨rfl, by omega⟩]
              · rw [hy, su_1, if_neg (by omega), su_1, if_neg (by omega), su_1, if_neg (by omega), sl_1, oz'.2 327 k (by omega)]
            have my : mPo T (nx T (nx T P)) y := by
              rw [hy]
              exact mPo_su (mPo_su (mPo_su (mPo_c mz rfl rfl) (by decide) (by decide)) (by decide) (by decide)) (by decide) (by decide)
            have ow : oM [16] y (su y 318 16 (nI (nx T (nx T P)))) := oM_su (by decide)
            have mw : mPo T (nx T (nx T P)) (su y 318 16 (nI (nx T (nx T P)))) := by
              have := mPo_at my ow (by decide) (mPo_le my).1 (by rw [su_1, if_pos ⟨rfl, rfl⟩])
              rwa [(mPo_le my).2] at this
            have e0 : (rn 90 109 [some (.ref 318), some (.int (nI (48 + D.1.1 3))), none, none] [] (mk X (su y 318 16 (nI (nx T (nx T P)))))) = (qz_ga (mk X z).1 318 12 13 (fun q15 => qz_js (mk X z) q15 (nI 48 + nI (D.1.1 3)) (lN (wdv T P)) (fun w16 => qz_ga w16.1 318 12 7 (fun q17 => qz_gi w16.1 318 12 22 (fun x18 => qz_is w16 q17 (nI 48 + nI (D.1.1 3)) x18 (fun w19 => qz_ga w19.1 318 12 9 (fun q20 => qz_gi w19.1 318 12 23 (fun x21 => qz_is w19 q20 (nI 8 * (nI 48 + nI (D.1.1 3))) x21 (fun w22 => qz_ga w22.1 318 12 8 (fun q23 => qz_is w22 q23 (nI 48 + nI (D.1.1 3)) (nI 1) (fun w24 => qz_ck w24.1 318 12 (qz_r0 (rn 75 0 [some (.ref 318)] [] w24) (fun w25 => rn 90 109 [some (.ref 318), some (.int (nI 48 + nI (D.1.1 3))), none, none] [] w25))))))))))))) := by
              rw [g_M_shapeName, nI_add, w_M_shapeName (by omega), g_M_shapeWide, g_M_squaresMany, z22, w_M_shapeWide (by omega), g_M_shapeRow, g_M_squaresBits, z23, pk_mul, w_M_shapeRow (by omega), g_M_shapeHigh, w_M_shapeHigh (by omega), ← hy, ck_M, M_blank X hT my, r0_s]
            rw [if_neg (by decide), if_pos rfl, ← e0]
            have hlb := shL_ok (T := T) (l := ln T (nx T P)) 7 1 (fun _ => qv T (nx T P) (ln T (nx T P))) (nx T (nx T P)) (by decide) (by decide) (fun y _ => qv_lt T _ _)
            rcases lpM X hT hd.1 rfl h8 hl.2.1 hl.2.2 7 1 _ (nx T (nx T P)) _ (by decide) (by decide) (shM_o sy ow (by decide)) mw (by rw [su_1, if_pos ⟨rfl, rfl⟩]) with ⟨x, x1, x2, x3, x4⟩ | ⟨x1, x, x2, x3, x4⟩
            · refine Or.inl ⟨x, x1, x2, x3, fun hz => ?_⟩
              obtain ⟨v, sv, rfl⟩ := x4 hz
              refine ⟨shM_isM h8 hlb.1.2 rfl hd.1 sv (fun k hk => (ok.1.2.2.2.2.2.2.2.2.2.2.2.2.2 k hk).2.1.2), fun i hi => ?_⟩
              have hi : i < D.1.1 3 + 1 := hi
              show v.2.1 331 (48 + i) = lN (wdv T (if i = D.1.1 3 then P else D.2 i))
              rw [sv.1]
              show (sl z 331 (48 + D.1.1 3) (lN (wdv T P))).2.1 331 (48 + i) = _
              rw [sl_2]
              by_cases e : i = D.1.1 3
              · rw [if_pos ⟨rfl, by omega⟩, if_pos e]
              · rw [if_neg (by omega), if_neg e, oz'.1]
                exact hd.2 i (by omega)
            · exact Or.inr ⟨x1, x, x2, x3, x4⟩
        · rw [if_pos (by rw [show D.1.1 3 = 8 by omega]), if_neg (show ¬ (okn T P ∧ D.1.1 3 < 8 ∧ shf T D P = D.1.1 3) from fun z => h8 z.2.1)]
          exact Or.inl ⟨_, rfl, fW, mW, fun z => by cases z⟩
      · rw [if_pos (show shf T D P < D.1.1 3 by omega), if_neg (nI_m1 (show 48 + shf T D P < 2 ^ 31 by omega)), if_neg (show ¬ (okn T P ∧ D.1.1 3 < 8 ∧ shf T D P = D.1.1 3) from fun z => hfe z.2.2)]
        exact Or.inl ⟨_, rfl, fW, mW, fun z => by cases z⟩
  · rw [wdv_0 (fun h1 => by
      rcases Nat.lt_or_ge 8 (ln T P) with g | g
      · exact g
      · exact absurd ⟨h1, g⟩ hw), if_pos ((lg_cmp_eq _ _).mpr rfl), if_neg (fun z => hw ⟨z.1.1, z.1.2.1⟩)]
    exact Or.inl ⟨_, rfl, fW, mW, fun z => by cases z⟩
end ST

/-! change, put: one sheet changed -/
theorem pl_apart : ∀ a ∈ pl0, ∀ b ∈ pl0, a ≠ b → b + 10 ≤ a ∨ a + 10 ≤ b := by decide
theorem Rel.sheet {s s' : sT} {G : gsT} {k : Nat} {A' : shT} (h : Rel s G) (hk : k < 6) (hT : G.2.1.1 k = true) (h2 : s'.2.2 = s.2.2) (hc : ∀ c, ¬ (s.2.2 k ≤ c ∧ c < s.2.2 k + 10) → ¬ (320 ≤ c ∧ c ≤ 330 ∧ c ≠ 321) → s'.1 c = s.1 c) (h0 : s'.1 (s.2.2 k) 0 = s.1 (s.2.2 k) 0) (ok : okA A') (hC : isC s' (s.2.2 k) A') (hM : isM (gN s') k A') (hO : ∀ j, j < 6 → j ≠ k → G.2.1.1 j = true → isM (gN s') j (G.2.1.2.1 j)) : Rel s' (G.1, (G.2.1.1, (fun j => if j = k then A' else G.2.1.2.1 j), G.2.1.2.2), G.2.2) := by
  obtain ⟨h1, ht, h3, h4, ⟨n1, n2, n3, n4⟩, h6⟩ := h
  have hp := isS_pl _ (h1.1 k (by omega))
  refine ⟨rPl_c h2 h1, rTp_c (by rw [hc 0 (by omega) (by omega)]) (by rw [hc 318 (by omega) (by omega)]) (hc 1 (by omega) (by omega)) (hc 332 (by omega) (by omega)) ht, ?_, ?_, ⟨⟨n1.1, fun j hj htj => ?_⟩, fun j hj => ?_, by rw [hc 5 (by omega) (by omega)]; exact n3, by rw [hc 318 (by omega) (by omega)]; exact n4⟩, rIm_c (by rw [hc 0 (by omega) (by omega)]) (by rw [hc 318 (by omega) (by omega)]) (fun i p q => hc i (by omega) (by omega)) (hc 360 (by omega) (by omega)) (hc 361 (by omega) (by omega)) h6⟩
  · unfold rFa
    rw [hc 0 (by omega) (by omega), hc 318 (by omega) (by omega)]
    exact h3
  · unfold rRe
    rw [hc 2 (by omega) (by omega), hc 319 (by omega) (by omega)]
    exact h4
  · show okA (if j = k then A' else G.2.1.2.1 j)
    by_cases e : j = k
    · rw [if_pos e]; exact ok
    · rw [if_neg e]; exact n1.2 j hj htj
  · obtain ⟨p1, p2, p3⟩ := n2 j hj
    show s'.1 (s'.2.2 j) 0 = _ ∧ _ ∧ (_ → isC s' (s'.2.2 j) (if j = k then A' else G.2.1.2.1 j) ∧ isM (gN s') j (if j = k then A' else G.2.1.2.1 j))
    rw [h2, hc 321 (by omega) (by omega)]
    by_cases e : j = k
    · subst e
      rw [h0, if_pos rfl]
      exact ⟨p1, p2, fun _ => ⟨hC, hM⟩⟩
    · rw [if_neg e]
      have hne : s.2.2 j ≠ s.2.2 k := fun z => e (h1.2 j k (by omega) (by omega) z)
      have hap := pl_apart _ (h1.1 j (by omega)) _ (h1.1 k (by omega)) hne
      have hpj := isS_pl _ (h1.1 j (by omega))
      rw [hc (s.2.2 j) (by omega) (by omega)]
      exact ⟨p1, p2, fun htj => ⟨isC_cong (q := s.2.2 j) (fun i hi => hc (s.2.2 j + i) (by omega) (by omega)) (p3 htj).1, hO j hj e htj⟩⟩
/-- isM with one row changed at one place that belongs to another sheet, or to this one -/
theorem gN_at (s : sT) : gN s 0 = s.1 320 ∧ gN s 1 = s.1 322 ∧ gN s 2 = s.1 323 ∧ gN s 3 = s.1 324 ∧ gN s 4 = s.1 325 ∧ gN s 5 = s.1 326 ∧ gN s 6 = s.1 327 ∧ gN s 7 = s.1 328 ∧ gN s 8 = s.1 329 ∧ gN s 9 = s.1 330 := ⟨rfl, rfl, rfl, rfl, rfl, rfl, rfl, rfl, rfl, rfl⟩
theorem isM_through {s s' : sT} {k : Nat} {A A' : shT} (h : ∀ c, 320 ≤ c → c ≤ 330 → c ≠ 322 → s'.1 c = s.1 c) (hA : A'.1 = A.1 ∧ A'.2.2 = A.2.2) (ht : ∀ q, q < 400 → s'.1 322 (400 * k + q) = if A'.2.1 q then nI 1 else nI 0) (hM : isM (gN s) k A) : isM (gN s') k A' := by
  obtain ⟨m1, m2, m3, m4, m5, m6⟩ := hM
  have e0 : gN s' 0 = gN s 0 := h 320 (by omega) (by omega) (by omega)
  have e2 : gN s' 2 = gN s 2 := h 323 (by omega) (by omega) (by omega)
  have e3 : gN s' 3 = gN s 3 := h 324 (by omega) (by omega) (by omega)
  have e4 : gN s' 4 = gN s 4 := h 325 (by omega) (by omega) (by omega)
  have e5 : gN s' 5 = gN s 5 := h 326 (by omega) (by omega) (by omega)
  have e6 : gN s' 6 = gN s 6 := h 327 (by omega) (by omega) (by omega)
  have e7 : gN s' 7 = gN s 7 := h 328 (by omega) (by omega) (by omega)
  have e8 : gN s' 8 = gN s 8 := h 329 (by omega) (by omega) (by omega)
  have e9 : gN s' 9 = gN s 9 := h 330 (by omega) (by omega) (by omega)
  unfold isM
  rw [e0, e2, e3, e4, e5, e6, e7, e8, e9, hA.1, hA.2]
  exact ⟨m1, ht, m3, m4, m5, m6⟩
theorem isM_about {s s' : sT} {k : Nat} {A A' : shT} (h : ∀ c, 320 ≤ c → c ≤ 330 → c ≠ 320 → s'.1 c = s.1 c) (hA : A'.2 = A.2 ∧ A'.1 3 = A.1 3 ∧ A'.1 4 = A.1 4) (ha : ∀ j, j < 9 → s'.1 320 (16 * k + j) = nI (A'.1 j)) (hM : isM (gN s) k A) : isM (gN s') k A' := by
  obtain ⟨m1, m2, m3, m4, m5, m6⟩ := hM
  have e1 : gN s' 1 = gN s 1 := h 322 (by omega) (by omega) (by omega)
  have e2 : gN s' 2 = gN s 2 := h 323 (by omega) (by omega) (by omega)
  have e3 : gN s' 3 = gN s 3 := h 324 (by omega) (by omega) (by omega)
  have e4 : gN s' 4 = gN s 4 := h 325 (by omega) (by omega) (by omega)
  have e5 : gN s' 5 = gN s 5 := h 326 (by omega) (by omega) (by omega)
  have e6 : gN s' 6 = gN s 6 := h 327 (by omega) (by omega) (by omega)
  have e7 : gN s' 7 = gN s 7 := h 328 (by omega) (by omega) (by omega)
  have e8 : gN s' 8 = gN s 8 := h 329 (by omega) (by omega) (by omega)
  have e9 : gN s' 9 = gN s 9 := h 330 (by omega) (by omega) (by omega)
  unfold isM
  rw [e1, e2, e3, e4, e5, e6, e7, e8, e9, hA.1, hA.2.1, hA.2.2]
  exact ⟨ha, m2, m3, m4, m5, m6⟩
theorem setThrough_run (X : qz_X) {s : sT} {q : Nat} {A : shT} (hq : isS q) (ok : okA A) (hC : isC s q A) {x y : Nat} (hx : x < A.1 0) (hy : y < A.1 1) (b : Bool) : ∃ v : Int32, rn 47 0 [some (.ref q), some (.int (nI x)), some (.int (nI y)), some (.int (bI b))] [] (mk X s) = some (none, mk X (su s (q + 1) y v)) ∧ ∀ z, z < 32 → bt v z = if z = x then b else bt (s.1 (q + 1) y) z := by
  have h1 := ok.1
  have h2 := ok.2.1
  rw [e_Sheet_setThrough_0, ck_S hq, C_has_yes X hq ok hC hx hy, r1_s, if_neg (by decide), g_S_through hq, bI_z]
  cases b
  · refine ⟨s.1 (q + 1) y &&& ((nI 1 <<< (nI x &&& 31)) ^^^ (-1)), ?_, fun z hz => ?_⟩
    · rw [if_neg (by decide), g_S_through hq, i_S_through hq (by omega), w_S_through hq (by omega)]
    · rw [b_and, b_not _ hz, b_one x (by omega) z hz]
      by_cases e : z = x
      · rw [if_pos e, decide_eq_true e]; simp
      · rw [if_neg e, decide_eq_false e]; simp
  · refine ⟨s.1 (q + 1) y ||| (nI 1 <<< (nI x &&& 31)), ?_, fun z hz => ?_⟩
    · rw [if_pos rfl, g_S_through hq, i_S_through hq (by omega), w_S_through hq (by omega)]
    · rw [b_or, b_one x (by omega) z hz]
      by_cases e : z = x
      · rw [if_pos e, decide_eq_true e]; simp
      · rw [if_neg e, decide_eq_false e]; simp
/-- a sheet with one square changed -/
def setA (A : shT) (q0 : Nat) (b : Bool) : shT := (A.1, (fun q => if q = q0 then b else A.2.1 q), A.2.2)
theorem setA_ok {A : shT} {q0 : Nat} {b : Bool} (ok : okA A) (h : ins A q0 = true) : okA (setA A q0 b) := by
  obtain ⟨o1, o2, o3, o4, o5, o6, o7, o8, o9, o10, o11⟩ := ok
  refine ⟨o1, o2, o3, o4, o5, o6, o7, o8, o9, fun q hq hb => ?_, o11⟩
  by_cases e : q = q0
  · subst e; exact h
  · have hb : (if q = q0 then b else A.2.1 q) = true := hb
    rw [if_neg e] at hb
    exact o10 q hq hb
theorem isC_set {s : sT} {q : Nat} {A : shT} (hC : isC s q A) {x y : Nat} (hx : x < 20) (hy : y < 20) {v : Int32} {b : Bool} (hv : ∀ z, z < 32 → bt v z = if z = x then b else bt (s.1 (q + 1) y) z) : isC (su s (q + 1) y v) q (setA A (20 * y + x) b) := by
  obtain ⟨c1, c2, c3, c4, c5, c6, c7⟩ := hC
  have e : ∀ i, i ≠ 1 → (su s (q + 1) y v).1 (q + i) = s.1 (q + i) := by
    intro i hi
    funext j
    rw [su_1, if_neg (by omega)]
  have e0 : (su s (q + 1) y v).1 q = s.1 q := e 0 (by decide)
  unfold isC
  rw [e0, e 2 (by decide), e 3 (by decide), e 4 (by decide), e 5 (by decide), e 6 (by decide), e 7 (by decide), e 8 (by decide), e 9 (by decide)]
  refine ⟨c1, fun y' hy' z hz => ?_, c3, c4, c5, c6, c7⟩
  rw [su_1]
  show _ = (decide (z < 20) && if 20 * y' + z = 20 * y + x then b else A.2.1 (20 * y' + z))
  by_cases h20 : z < 20
  · rw [decide_eq_true h20, Bool.true_and]
    by_cases ey : y' = y
    · subst ey
      rw [if_pos ⟨rfl, rfl⟩, hv z hz]
      by_cases ez : z = x
      · rw [if_pos ez, if_pos (by omega)]
      · rw [if_neg ez, if_neg (by omega), c2 y' hy' z hz, decide_eq_true h20, Bool.true_and]
    · rw [if_neg (fun h => ey h.2), if_neg (by omega), c2 y' hy' z hz, decide_eq_true h20, Bool.true_and]
  · rw [decide_eq_false h20, Bool.false_and]
    by_cases ey : y' = y
    · subst ey
      rw [if_pos ⟨rfl, rfl⟩, hv z hz, if_neg (by omega), c2 y' hy' z hz, decide_eq_false h20, Bool.false_and]
    · rw [if_neg (fun h => ey h.2), c2 y' hy' z hz, decide_eq_false h20, Bool.false_and]
theorem su_319 (s : sT) (x : Int32) : (su s 2 0 x).1 319 0 = s.1 319 0 := by simp [su_1]
theorem bI_unit (w : qz_W) (b : Bool) : rn 104 0 [some (.int (bI b))] [] w = some (some (.int (bI b)), w) := M_unit_run w b
theorem xy_or (A : shT) (vx vy : Int32) : (∃ a b, a < A.1 0 ∧ b < A.1 1 ∧ vx = nI a ∧ vy = nI b) ∨ ¬ inXY A vx vy := Classical.em _
/-- both refuse: class first, then reference -/
theorem sim_refuse {X : qz_X} {s : sT} {G : gsT} (h : Rel s G) {c m : Nat} {ac am : qz_L} (h1 : rn c 0 ac [] (mk X s) = some (some (.int (nI 0)), mk X (su s 2 0 (s.1 2 0 + nI 1)))) (h2 : rn m 0 am [] (mk X (su s 2 0 (s.1 2 0 + nI 1))) = some (some (.int (nI 0)), mk X (su (su s 2 0 (s.1 2 0 + nI 1)) 319 0 ((su s 2 0 (s.1 2 0 + nI 1)).1 319 0 + nI 1)))) : Sim X s c m ac am := by
  rw [su_319] at h2
  exact ⟨_, _, _, G, h1, h2, h.refuse (by decide)⟩
theorem Rel.ref1 {s : sT} {G : gsT} (h : Rel s G) (x : Int32) : isM (gN (su s 2 0 x)) = isM (gN s) ∧ (su s 2 0 x).1 321 = s.1 321 := by
  constructor
  · have : gN (su s 2 0 x) = gN s := by
      funext i j
      show (su s 2 0 x).1 _ j = _
      rw [su_1, if_neg]
      · rfl
      · rintro ⟨e, -⟩
        have : ∀ i, qz_gd 0 [320, 322, 323, 324, 325, 326, 327, 328, 329, 330] i ≠ 2 := by
          intro i
          rcases Nat.lt_or_ge i 10 with h | h
          · exact (by decide : ∀ i, i < 10 → qz_gd 0 [320, 322, 323, 324, 325, 326, 327, 328, 329, 330] i ≠ 2) i h
          · rw [qz_gd_ge _ _ (by exact h)]; decide
        exact this i e
    rw [this]
  · funext j
    rw [su_1, if_neg (by omega)]
/-- the reference looks alike behind the class's refusal -/
theorem M_sheet_no1 (X : qz_X) {s : sT} {G : gsT} {v x : Int32} (h : Rel s G) (hn : ∀ k, ¬ tk G v k) : rn 120 0 [some (.ref 318), some (.int v)] [] (mk X (su s 2 0 x)) = some (some (.int (nI 0)), mk X (su s 2 0 x)) := by
  rw [e_M_isSheet_0]
  rcases Classical.em (∃ j, j ≤ 5 ∧ v = nI j) with ⟨k, k6, rfl⟩ | hj
  · have ht : ¬ G.2.1.1 k = true := fun hb => hn k ⟨by omega, rfl, hb⟩
    rw [isIn_yes _ k6 (by decide), r1_s, if_neg (by decide), g_M_isTold, i_M_isTold (by omega), (h.ref1 x).2, (h.2.2.2.2.1.2.1 k (by omega)).2.1, told_one, if_neg ht]
  · rw [isIn_no _ (by decide) (fun j h e => hj ⟨j, h, e⟩), r1_s, if_pos (by decide)]
theorem M_sheet_yes1 (X : qz_X) {s : sT} {G : gsT} {v x : Int32} {k : Nat} (h : Rel s G) (hk : tk G v k) : rn 120 0 [some (.ref 318), some (.int v)] [] (mk X (su s 2 0 x)) = some (some (.int (nI 1)), mk X (su s 2 0 x)) := by
  obtain ⟨k6, rfl, ht⟩ := hk
  rw [e_M_isSheet_0, isIn_yes _ (by omega) (by decide), r1_s, if_neg (by decide), g_M_isTold, i_M_isTold k6, (h.ref1 x).2, (h.2.2.2.2.1.2.1 k k6).2.1, told_one, if_pos ht]
theorem sim_change (X : qz_X) (s : sT) (G : gsT) (h : Rel s G) (v vx vy : Int32) (b : Bool) : Sim X s 167 169 [some (.ref 0), some (.int v), some (.int vx), some (.int vy), some (.int (bI b)), none] [some (.ref 318), some (.int v), some (.int vx), some (.int vy), some (.int (bI b))] := by
  rcases tk_or G v with ⟨k, hk⟩ | hn
  · obtain ⟨hS, ok, hC, hM⟩ := tk_P h hk
    have hk6 := hk.1
    rcases xy_or (G.2.1.2.1 k) vx vy with ⟨x, y, hx, hy, rfl, rfl⟩ | hxy
    · have w1 := ok.1
      have w2 := ok.2.1
      obtain ⟨r, hr, br⟩ := setThrough_run X hS ok hC hx hy b
      have hlt := isS_lt _ hS
      have hpl := isS_pl _ (h.1.1 k (by omega))
      have hv : v = nI k := hk.2.1
      subst hv
      have e1 : rn 167 0 [some (.ref 0), some (.int (nI k)), some (.int (nI x)), some (.int (nI y)), some (.int (bI b)), none] [] (mk X s) = some (some (.int (nI 1)), mk X (su s (s.2.2 k + 1) y r)) := by
        rw [e_C_change_0, ck_C, C_told_yes X h hk, r3_r, ck_S hS, C_has_yes X hS ok hC hx hy, r1_s, if_neg (by decide), ck_S hS, hr, r0_s]
      have hM1 : isM (gN (su s (s.2.2 k + 1) y r)) k (G.2.1.2.1 k) := isM_su (by omega) hM
      have h321 : (su s (s.2.2 k + 1) y r).1 321 k = s.1 321 k := by rw [su_1, if_neg (by omega)]
      have e2 : rn 169 0 [some (.ref 318), some (.int (nI k)), some (.int (nI x)), some (.int (nI y)), some (.int (bI b))] [] (mk X (su s (s.2.2 k + 1) y r)) = some (some (.int (nI 1)), mk X (su (su s (s.2.2 k + 1) y r) 322 (400 * k + (20 * y + x)) (bI b))) := by
        rw [e_M_change_0, ck_M, e_M_isSheet_0, isIn_yes _ (by omega) (by decide), r1_s, if_neg (by decide), g_M_isTold, i_M_isTold hk6, h321, (h.2.2.2.2.1.2.1 k hk6).2.1, told_one, if_pos hk.2.2, r1_s, if_neg (by decide), ck_M, M_within_yes X (by omega) ok hM1 hx hy, r1_s, if_neg (by decide), g_M_through, M_at_run, r1_s, bI_unit, r1_s, w_M_through (by omega)]
      have hin : ins (G.2.1.2.1 k) (20 * y + x) = true := by rw [ins_xy _ (by omega), decide_eq_true hx, decide_eq_true hy]; rfl
      have hCs : isC (su s (s.2.2 k + 1) y r) (s.2.2 k) (setA (G.2.1.2.1 k) (20 * y + x) b) := isC_set hC (by omega) (by omega) br
      refine ⟨_, _, _, _, e1, e2, Rel.sheet (k := k) (A' := setA (G.2.1.2.1 k) (20 * y + x) b) h hk6 hk.2.2 rfl (fun c p q => ?_) ?_ (setA_ok ok hin) ?_ ?_ (fun j hj hjk htj => ?_)⟩
      · funext l
        rw [su_1, if_neg (by omega), su_1, if_neg (by omega)]
      · rw [su_1, if_neg (by omega), su_1, if_neg (by omega)]
      · exact isC_cong (fun i hi => funext fun l => by rw [su_1, if_neg (by omega)]) hCs
      · refine isM_through (s := su s (s.2.2 k + 1) y r) (A := G.2.1.2.1 k) (fun c p q hc => funext fun l => by rw [su_1, if_neg (by omega)]) ⟨rfl, rfl⟩ (fun q hq => ?_) hM1
        rw [su_1]
        show _ = if (if q = 20 * y + x then b else (G.2.1.2.1 k).2.1 q) = true then nI 1 else nI 0
        by_cases e : q = 20 * y + x
        · rw [if_pos ⟨rfl, by omega⟩]
          simp only [e, if_true]
          rfl
        · rw [if_neg (by omega)]
          simp only [e, if_false]
          exact hM1.2.1 q hq
      · have hMj : isM (gN (su s (s.2.2 k + 1) y r)) j (G.2.1.2.1 j) := isM_su (by omega) ((h.2.2.2.2.1.2.1 j hj).2.2 htj).2
        refine isM_through (s := su s (s.2.2 k + 1) y r) (A := G.2.1.2.1 j) (fun c p q hc => funext fun l => by rw [su_1, if_neg (by omega)]) ⟨rfl, rfl⟩ (fun q hq => ?_) hMj
        rw [su_1, if_neg (by omega)]
        exact hMj.2.1 q hq
    · have hv : v = nI k := hk.2.1
      refine sim_refuse h ?_ ?_
      · rw [e_C_change_0, ck_C, C_told_yes X h hk, r3_r, ck_S hS, C_has_no X hS ok hC hxy, r1_s, if_pos (by decide), C_refuse X s (j := 0) (by decide)]
      · rw [e_M_change_0, ck_M, M_sheet_yes1 X h hk, r1_s, if_neg (by decide), ck_M, hv, M_within_no X (by omega) ok (by rw [(h.ref1 _).1]; exact hM) hxy, r1_s, if_pos (by decide), ck_M, M_refuse2 X _ (j := 0) (by decide), r1_s, qz_z0, cond_t]
  · refine sim_refuse h ?_ ?_
    · rw [e_C_change_0, ck_C, C_told_no X h hn, r3_n, C_refuse X s (j := 0) (by decide)]
    · rw [e_M_change_0, ck_M, M_sheet_no1 X h hn, r1_s, if_pos (by decide), ck_M, M_refuse2 X _ (j := 0) (by decide), r1_s, qz_z0, cond_t]

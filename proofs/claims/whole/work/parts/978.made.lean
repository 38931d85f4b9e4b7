/-! cheapest, made -/
theorem shl_N {N : Nat} (h : N ≤ 12) : nI 1 <<< (nI N &&& 31) = nI (2 ^ N) := by
  rw [pk_shlN (n := 1) _ N (s_l N (by omega)) (by rw [Nat.one_mul]; exact Nat.pow_lt_pow_right (by decide) (by omega)), Nat.one_mul]
theorem M_joins_run (X : qz_X) {s : sT} {m : Nat} {A : shT} (hm : m < 7) (ok : okA A) (hM : isM (gN s) m A) (bw : Bool) {t : Nat → Bool} (ht : ∀ q, q < 400 → t q = true → ins A q = true ∧ A.2.1 q = false) (hP : PcsM s t) (h334 : ∀ j, j < 400 → s.1 334 j = if tin A (nI 0) j then nI 1 else nI 0) (hh : haR s A) {N : Nat} (hN : np t 400 = N) (h7 : N ≤ 7) : ∃ (z : sT) (J : Nat → Nat → Nat) (R : Nat → Nat), rn 201 0 [some (.ref 318), some (.int (nI m)), some (.int (bI bw)), none, none, none, none, none, none] [] (mk X s) = some (none, mk X z) ∧ z.2 = s.2 ∧ (∀ c, c ∉ [343, 344, 345, 346] → z.1 c = s.1 c) ∧ (∀ a, a < 2 ^ N → z.1 344 a = nI (R a)) ∧ JmS A bw t (2 ^ N) J R (2 ^ N) := by
  have hp7 := pow_7 h7
  have hpos := Nat.two_pow_pos N
  obtain ⟨u, eu, u2, uc, up⟩ := M_costs_run X hm ok hM h334 bw
  have c36 : s.1 318 36 = nI N := by rw [hP.1, hN]
  have keep : ∀ w : sT, (∀ c, c ∉ [343, 344, 345, 346] → w.1 c = s.1 c) → w.1 345 = u.1 345 → isM (gN w) m A ∧ PcsM w t ∧ coM w A bw ∧ haR w A ∧ w.1 318 36 = nI N := fun w hw h345 => by
    refine ⟨isM_of (fun c p q => hw c (by simp; omega)) hM, ⟨by rw [hw 318 (by decide)]; exact hP.1, ?_⟩, fun q hq => by rw [h345]; exact up q hq, fun q hq => by rw [hw 335 (by decide)]; exact hh q hq, by rw [hw 318 (by decide)]; exact c36⟩
    have h2 := hP.2
    unfold pcs at h2 ⊢
    rw [hw 337 (by decide), hw 338 (by decide), hw 339 (by decide)]
    exact h2
  obtain ⟨⟨z, J, R⟩, ⟨z2, zc, z5, zv, zr, zj⟩, e⟩ := it_up (fun S (x : sT × (Nat → Nat → Nat) × (Nat → Nat)) => rn 201 15 [some (.ref 318), some (.int (nI m)), none, some (.int (nI S)), none, none, none, none, none] [] (mk X x.1)) (fun S x => x.1.2 = s.2 ∧ (∀ c, c ∉ [343, 344, 345, 346] → x.1.1 c = s.1 c) ∧ x.1.1 345 = u.1 345 ∧ (∀ a, a ≠ 0 → a < S → mvS x.1 a (x.2.1 a)) ∧ (∀ a, a < S → x.1.1 344 a = nI (x.2.2 a)) ∧ JmS A bw t (2 ^ N) x.2.1 x.2.2 S) (show 1 ≤ 2 ^ N by omega) (by
    rintro S ⟨w, J, R⟩ hS1 hS ⟨w2, wc, w5, wv, wr, wj⟩
    dsimp only at w2 wc w5 wv wr wj ⊢
    obtain ⟨k1, k2, k3, k4, k5⟩ := keep w wc w5
    obtain ⟨z, g, r, ez, z2, zc, zv, zr, zj⟩ := oneM_run X hm ok k1 ht k2 hN h7 k3 k4 (show S ≠ 0 by omega) hS wj wv wr
    refine ⟨(z, fun a => if a = S then g else J a, fun a => if a = S then r else R a), ⟨by rw [z2, w2], fun c hc => ?_, by rw [zc 345 (by decide)]; exact w5, zv, zr, zj⟩, ?_⟩
    · rw [zc c (by simp only [List.mem_cons, List.not_mem_nil, or_false, not_or] at hc ⊢; omega), wc c hc]
    · rw [e_M_joins_15, g_M_pieces, k5, shl_N (by omega), if_neg (nI_ge hS (by omega)), ez]) (x := (su u 344 0 (nI 0), fun _ _ => 0, fun _ => 0)) ⟨by rw [su_2, u2], fun c hc => by
      simp only [List.mem_cons, List.not_mem_nil, or_false, not_or] at hc
      rw [← uc c hc.2.2.1]
      funext j
      rw [su_1, if_neg (by omega)], by funext j; rw [su_1, if_neg (by omega)], fun a h0 h1 => by omega, fun a h1 => by
      have : a = 0 := by omega
      subst this
      rw [su_1, if_pos ⟨rfl, rfl⟩], ⟨fun a b v ha _ _ hlt => by
      have : a ≤ a ||| b := Nat.left_le_or
      omega, fun a _ _ h0 h1 => by omega, fun a b ha _ _ hlt => by
      have : a ≤ a ||| b := Nat.left_le_or
      omega, fun a _ h0 h1 => by omega, rfl, fun a _ h0 h1 => by omega, fun a _ => Nat.zero_le _⟩, fun a _ h0 h1 => by omega, fun q _ _ hlt => by
      have := Nat.two_pow_pos (pnq t q)
      omega, fun _ _ a h0 h1 => by omega⟩
  dsimp only at z2 zc z5 zr zj e
  obtain ⟨k1, k2, k3, k4, k5⟩ := keep z zc z5
  refine ⟨z, J, R, ?_, z2, zc, zr, zj⟩
  rw [e_M_joins_0, ck_M, eu, r0_s, g_M_byRoot, w_M_byRoot (by decide), e, e_M_joins_15, g_M_pieces, k5, shl_N (by omega), if_pos (nI_le (Nat.le_refl _) (by omega))]
/-- class and reference find one number -/
theorem join_eq {A : shT} {bw : Bool} {t : Nat → Bool} {M : Nat} (hM : ∀ q, q < 400 → t q = true → 2 ^ pnq t q < M) {C J : Nat → Nat → Nat} {R : Nat → Nat} (hC : CpS A bw t M C M) (hJ : JmS A bw t M J R M) : ∀ S, S ≠ 0 → S < M → C S 400 = R S := fun S h0 hS => by
  have h1 := (hC.2.2.2.2 J R hJ.1 (fun q hq ht => hJ.2.2.1 q hq ht (hM q hq ht)) S h0 hS).2
  have h2 := (hJ.2.2.2 C hC S h0 hS).2
  omega
theorem joinable_run (X : qz_X) {s : sT} {q : Nat} {A : shT} (hq : isS q) (ok : okA A) (hC : isC s q A) : ∃ st : sT, rn 188 0 [some (.ref 0), some (.ref q)] [] (mk X s) = some (some (.int (bI (decide (np (fal A (nI 0)) 400 ≤ 7)))), mk X st) ∧ st.2 = s.2 ∧ (∀ c, c ∉ [87, 88, 89, 96, 97, 98, 99, 100] → st.1 c = s.1 c) ∧ Pcs st (fal A (nI 0)) := by
  obtain ⟨st, e, s2, sc, sp, -⟩ := findPieces_run X hq ok hC (nI 0)
  have hle := np_le (fal A (nI 0)) (i := 400) (by decide)
  refine ⟨st, ?_, s2, sc, sp⟩
  rw [e_C_joinable_0, ck_C, e, r0_s, g_C_parts, g_P_number, sp.1]
  by_cases h : np (fal A (nI 0)) 400 ≤ 7
  · rw [if_neg (nI_nlt h (by decide)), decide_eq_true h]; rfl
  · rw [if_pos (nI_lt (by omega) (by omega)), decide_eq_false h]; rfl
theorem jtf_run (X : qz_X) {s : sT} {N S : Nat} (h7 : N ≤ 7) (hS : S < 2 ^ N) {R : Nat → Nat} (h0 : R 0 = 0) (hv : ∀ S, S ≠ 0 → S < 2 ^ N → s.1 104 (S * 401 + 400) = nI (R S)) : rn 195 0 [some (.ref 103), some (.int (nI S))] [] (mk X s) = some (some (.int (nI (R S))), mk X s) := by
  have hp7 := pow_7 h7
  rw [e_Joining_joinedToFrame_0]
  by_cases e : S = 0
  · subst e
    rw [if_pos nI_0, h0]
  · rw [if_neg (nI_ne0 (by omega) (by omega)), g_J_cost, pk_mul, nI_add, i_J_cost (by omega), hv S e hS]
theorem pn_lt {t : Nat → Bool} {N : Nat} (hN : np t 400 = N) : ∀ q, q < 400 → t q = true → 2 ^ pnq t q < 2 ^ N := fun q hq ht => Nat.pow_lt_pow_right (by decide) (by rw [← hN]; exact pnq_lt hq ht)
theorem scr_3 {j : Nat} (h : scr 318 j = false) : j ≠ 36 := scr_36 h
theorem sim_cheapest (X : qz_X) (s : sT) (G : gsT) (h : Rel s G) (v : Int32) : Sim X s 197 202 [some (.ref 0), some (.int v), none] [some (.ref 318), some (.int v)] := by
  rcases tk_or G v with ⟨k, hk⟩ | hn
  · obtain ⟨hS, ok, hC, hM⟩ := tk_P h hk
    have hk6 := hk.1
    have hv : v = nI k := hk.2.1
    subst hv
    have hk7 : k < 7 := by omega
    obtain ⟨t1, a1, a2, a3, aP⟩ := joinable_run X hS ok hC
    have f1 : fr s t1 := fr_of [87, 88, 89, 96, 97, 98, 99, 100] (by rw [a2]) a3 (by decide)
    have h1 := h.fr f1
    obtain ⟨N, hN⟩ : ∃ N, np (fal (G.2.1.2.1 k) (nI 0)) 400 = N := ⟨_, rfl⟩
    have hnl := np_le (fal (G.2.1.2.1 k) (nI 0)) (i := 400) (by decide)
    rw [hN] at a1
    by_cases h7 : N ≤ 7
    · obtain ⟨hS1, -, hC1, -⟩ := tk_P h1 hk
      have hp0 : s.2.2 k = t1.2.2 k := by rw [a2]
      rw [← hp0] at hC1 hS1
      have htf : ∀ q, q < 400 → fal (G.2.1.2.1 k) (nI 0) q = true → ins (G.2.1.2.1 k) q = true ∧ (G.2.1.2.1 k).2.1 q = false := fun q hq => fal0 hq
      obtain ⟨z, C, ez, z2, zc, z3, zv, zp⟩ := join_run X hS1 ok hC1 true htf aP hN h7
      have f2 : fr t1 z := fr_of [103, 104, 105, 106] (by rw [z2]) zc (by decide)
      have h2 := h1.fr f2
      obtain ⟨-, -, -, hM2⟩ := tk_P h2 hk
      obtain ⟨u, b1, b2, b3, b4, bP, b5, b6⟩ := M_looks_run X hk7 ok hM2 (nI 0)
      have f3 : fr z u := fr_m [334, 335, 336, 337, 338, 339] (by rw [b2]) b3 (by decide) (fun j hj => b4 j (scr_36 hj))
      obtain ⟨-, -, -, hM3⟩ := tk_P (h2.fr f3) hk
      obtain ⟨w, J, R, ew, w2, wc, wr, wj⟩ := M_joins_run X hk7 ok hM3 true htf bP b5 b6 hN h7
      have f4 : fr u w := fr_of [343, 344, 345, 346] (by rw [w2]) wc (by decide)
      have heq := join_eq (pn_lt hN) zp wj
      have hpos := Nat.two_pow_pos N
      have hp7 := pow_7 h7
      have hR0 : R 0 = 0 := wj.1.2.2.2.2.1
      have hzv : ∀ S, S ≠ 0 → S < 2 ^ N → z.1 104 (S * 401 + 400) = nI (R S) := fun S hS0 hSN => by rw [zv S hS0 hSN, heq S hS0 hSN]
      have u36 : u.1 318 36 = nI N := by rw [bP.1, hN]
      have w36 : w.1 318 36 = nI N := by rw [wc 318 (by decide)]; exact u36
      refine sim_q (r := .int (nI (R (2 ^ N - 1)))) h (s1 := z) (s2 := w) ?_ (f1.tr f2) ?_ (f3.tr f4)
      · rw [e_C_cheapest_0, ck_C, C_told_yes X h hk, r3_r, ck_C, a1, r1_s, decide_eq_true h7, if_neg (by decide), g_C_joining, g_C_parts, ck_J]
        have ez : rn 194 0 [some (.ref 103), some (.ref (s.2.2 k)), some (.ref 96), some (.int (nI 1)), none, none] [] (mk X t1) = some (none, mk X z) := ez
        rw [ez, r0_s, g_C_joining, ck_J, e_Joining_cheapestJoin_0, g_J_all, z3, ck_J, jtf_run X h7 (by omega) hR0 hzv, r1_s, r1_s]
      · rw [e_M_cheapest_0, ck_M, M_sheet_yes X h2 hk, r1_s, if_neg (by decide), ck_M, b1, r0_s, g_M_pieces, u36, if_pos (nI_le h7 (by decide)), ck_M]
        have ew : rn 201 0 [some (.ref 318), some (.int (nI k)), some (.int (nI 1)), none, none, none, none, none, none] [] (mk X u) = some (none, mk X w) := ew
        rw [ew, r0_s, g_M_byRoot, g_M_pieces, w36, one_7 N (by omega), i_M_byRoot (by omega), wr _ (by omega)]
    · obtain ⟨-, -, -, hM1⟩ := tk_P h1 hk
      obtain ⟨u, b1, b2, b3, b4, bP, b5, b6⟩ := M_looks_run X hk7 ok hM1 (nI 0)
      have f3 : fr t1 u := fr_m [334, 335, 336, 337, 338, 339] (by rw [b2]) b3 (by decide) (fun j hj => b4 j (scr_36 hj))
      have u36 : u.1 318 36 = nI N := by rw [bP.1, hN]
      refine sim_q (r := .int (-1)) h (s1 := t1) (s2 := u) ?_ f1 ?_ f3
      · rw [e_C_cheapest_0, ck_C, C_told_yes X h hk, r3_r, ck_C, a1, r1_s, decide_eq_false h7, if_pos (by decide)]
      · rw [e_M_cheapest_0, ck_M, M_sheet_yes X h1 hk, r1_s, if_neg (by decide), ck_M, b1, r0_s, g_M_pieces, u36, if_neg (nI_ge (by omega) (by omega))]
  · refine sim_q (r := .int (-1)) h (s1 := s) (s2 := s) ?_ (fr.rf s) ?_ (fr.rf s)
    · rw [e_C_cheapest_0, ck_C, C_told_no X h hn, r3_n]
    · rw [e_M_cheapest_0, ck_M, M_sheet_no X h hn, r1_s, if_pos nI_0]
noncomputable def szq (t : Nat → Bool) (k : Nat) : Nat := fb_ct (cnB t (fa_first (fun f => isF t f && decide (np t f = k)) 400)) 400
theorem szq_ok {t : Nat → Bool} {k : Nat} (hk : k < np t 400) : ∃ f, f < 400 ∧ isF t f = true ∧ np t f = k ∧ szq t k = fb_ct (cnB t f) 400 := by
  obtain ⟨f, hf, hF, hc⟩ := fb_ct_kth (show k < fb_ct (isF t) 400 from hk)
  have hF : isF t f = true := hF
  have hc : np t f = k := hc
  have h1 : (isF t f && decide (np t f = k)) = true := by rw [hF, decide_eq_true hc]; rfl
  have hlt : fa_first (fun f => isF t f && decide (np t f = k)) 400 < 400 := by
    rcases Nat.lt_or_ge f (fa_first (fun f => isF t f && decide (np t f = k)) 400) with g | g
    · have := fa_first_no _ 400 f g
      exact absurd (h1.symm.trans this) (by decide)
    · omega
  have hy := fa_first_yes _ 400 hlt
  have hy : (isF t (fa_first (fun f => isF t f && decide (np t f = k)) 400) && decide (np t (fa_first (fun f => isF t f && decide (np t f = k)) 400) = k)) = true := hy
  rw [Bool.and_eq_true, decide_eq_true_eq] at hy
  exact ⟨_, hlt, hy.1, hy.2, rfl⟩
noncomputable def vlS (t : Nat → Bool) (N : Nat) (R : Nat → Nat) (S : Nat) : Nat := R S + fb_sm (fun k => if S.testBit k then 0 else szq t k) N
noncomputable def mnS (t : Nat → Bool) (N : Nat) (R : Nat → Nat) (F : Nat) : Nat → Nat
  | 0 => F
  | S + 1 => if vlS t N R S < mnS t N R F S then vlS t N R S else mnS t N R F S
theorem szq_le (t : Nat → Bool) (k : Nat) : szq t k ≤ 400 := fb_ct_le _ _
theorem smz_le (t : Nat → Bool) (S : Nat) (N : Nat) : fb_sm (fun k => if S.testBit k then 0 else szq t k) N ≤ N * 400 := fb_sm_bound (fun k _ => by
  have := szq_le t k
  show (if S.testBit k then 0 else szq t k) ≤ 400
  split <;> omega)
theorem mnS_le {t : Nat → Bool} {N : Nat} {R : Nat → Nat} {F : Nat} : ∀ n, mnS t N R F n ≤ F
  | 0 => Nat.le_refl _
  | n + 1 => by
    have := mnS_le (t := t) (N := N) (R := R) (F := F) n
    show (if vlS t N R n < mnS t N R F n then vlS t N R n else mnS t N R F n) ≤ F
    split <;> omega
theorem mnS_eq {t : Nat → Bool} {N : Nat} (h7 : N ≤ 7) {R : Nat → Nat} (h0 : R 0 = 0) : ∀ n, mnS t N R 1000000 (n + 1) = mnS t N R 1000000000 (n + 1)
  | 0 => by
    have := smz_le t 0 N
    show (if vlS t N R 0 < 1000000 then vlS t N R 0 else 1000000) = if vlS t N R 0 < 1000000000 then vlS t N R 0 else 1000000000
    have hv : vlS t N R 0 ≤ 2800 := by
      unfold vlS
      omega
    rw [if_pos (by omega), if_pos (by omega)]
  | n + 1 => by
    have ih := mnS_eq (t := t) h7 h0 n
    show (if vlS t N R (n + 1) < mnS t N R 1000000 (n + 1) then vlS t N R (n + 1) else mnS t N R 1000000 (n + 1)) = if vlS t N R (n + 1) < mnS t N R 1000000000 (n + 1) then vlS t N R (n + 1) else mnS t N R 1000000000 (n + 1)
    rw [ih]
theorem fewest_run (X : qz_X) {s : sT} {t : Nat → Bool} {N : Nat} (hN : np t 400 = N) (h7 : N ≤ 7) (hP : Pcs s t) {R : Nat → Nat} (h0 : R 0 = 0) (hRb : ∀ a, a < 2 ^ N → R a ≤ 1000000) (h3 : s.1 103 3 = nI (2 ^ N - 1)) (hv : ∀ S, S ≠ 0 → S < 2 ^ N → s.1 104 (S * 401 + 400) = nI (R S)) : rn 203 0 [some (.ref 103), some (.ref 96), none, none, none, none] [] (mk X s) = some (some (.int (nI (mnS t N R 1000000 (2 ^ N)))), mk X s) := by
  have hp7 := pow_7 h7
  have hpos := Nat.two_pow_pos N
  have h96 : s.1 96 0 = nI N := by rw [hP.1, hN]
  obtain ⟨v, rfl, e⟩ := it_up (fun S (v : Int32) => rn 203 5 [some (.ref 103), some (.ref 96), some (.int v), some (.int (nI S)), none, none] [] (mk X s)) (fun S v => v = nI (mnS t N R 1000000 S)) (Nat.zero_le (2 ^ N)) (by
    rintro S v _ hS rfl
    try dsimp only
    refine ⟨_, rfl, ?_⟩
    obtain ⟨v, rfl, e2⟩ := it_up (fun k (v : Int32) => rn 203 23 [some (.ref 103), some (.ref 96), some (.int (nI (mnS t N R 1000000 S))), some (.int (nI S)), some (.int v), some (.int (nI k))] [] (mk X s)) (fun k v => v = nI (R S + fb_sm (fun k => if S.testBit k then 0 else szq t k) k)) (Nat.zero_le N) (by
      rintro k v _ hk rfl
      try dsimp only
      refine ⟨_, rfl, ?_⟩
      obtain ⟨f, hf, hF, hc, hz⟩ := szq_ok (t := t) (k := k) (by omega)
      have hsz : s.1 98 k = nI (szq t k) := by rw [hz, ← hc]; exact (hP.2.2 f hf hF).2
      rw [e_Joining_fewestChanges_23, g_P_number, h96, if_neg (nI_ge hk (by omega)), fb_sm_succ, nI_add]
      cases hb : S.testBit k
      · rw [if_pos ((b_selz _ (by omega)).mpr (by rw [bt_nat (by omega), hb])), g_P_size, i_P_size (by omega), hsz, nI_add, if_neg (by decide), Nat.add_assoc]
      · rw [if_neg (fun z => by rw [b_selz _ (by omega), bt_nat (by omega), hb] at z; cases z), nI_add, if_pos rfl]
        rfl) (x := nI (R S)) rfl
    try dsimp only at e2
    have l1 := mnS_le (t := t) (N := N) (R := R) (F := 1000000) S
    have l2 := smz_le t S N
    have l3 := hRb S hS
    rw [e_Joining_fewestChanges_5, g_J_all, h3, if_neg (nI_nlt (by omega) (by omega)), ck_J, jtf_run X h7 hS h0 hv, r1_s]
    refine Eq.trans e2 ?_
    rw [e_Joining_fewestChanges_23, g_P_number, h96, if_pos (nI_le (Nat.le_refl _) (by omega)), min_run _ (by omega) (by omega), r1_s, nI_add]
    rfl) (x := nI 1000000) rfl
  try dsimp only at e
  rw [e_Joining_fewestChanges_0, e, e_Joining_fewestChanges_5, g_J_all, h3, if_pos (nI_lt (by omega) (by omega))]
theorem M_few_run (X : qz_X) {s : sT} {t : Nat → Bool} {N : Nat} (hN : np t 400 = N) (h7 : N ≤ 7) (h36 : s.1 318 36 = nI N) (hz9 : ∀ f, f < 400 → isF t f = true → s.1 339 (np t f) = nI (fb_ct (cnB t f) 400)) {R : Nat → Nat} (hRb : ∀ a, a < 2 ^ N → R a ≤ 1000000) (hv : ∀ S, S < 2 ^ N → s.1 344 S = nI (R S)) : rn 205 39 [some (.ref 318), none, some (.int (nI 1000000000)), some (.int (nI 0)), none, none] [] (mk X s) = some (some (.int (nI (mnS t N R 1000000000 (2 ^ N)))), mk X s) := by
  have hp7 := pow_7 h7
  have hpos := Nat.two_pow_pos N
  obtain ⟨v, rfl, e⟩ := it_up (fun S (v : Int32) => rn 205 39 [some (.ref 318), none, some (.int v), some (.int (nI S)), none, none] [] (mk X s)) (fun S v => v = nI (mnS t N R 1000000000 S)) (Nat.zero_le (2 ^ N)) (by
    rintro S v _ hS rfl
    try dsimp only
    refine ⟨_, rfl, ?_⟩
    obtain ⟨v, rfl, e2⟩ := it_up (fun k (v : Int32) => rn 205 60 [some (.ref 318), none, some (.int (nI (mnS t N R 1000000000 S))), some (.int (nI S)), some (.int v), some (.int (nI k))] [] (mk X s)) (fun k v => v = nI (R S + fb_sm (fun k => if S.testBit k then 0 else szq t k) k)) (Nat.zero_le N) (by
      rintro k v _ hk rfl
      try dsimp only
      refine ⟨_, rfl, ?_⟩
      obtain ⟨f, hf, hF, hc, hz⟩ := szq_ok (t := t) (k := k) (by omega)
      have hsz : s.1 339 k = nI (szq t k) := by rw [hz, ← hc]; exact hz9 f hf hF
      rw [e_M_made_60, g_M_pieces, h36, if_neg (nI_ge hk (by omega)), M_has_run _ _ (by omega), r1_s, told_int, bt_nat (by omega), fb_sm_succ, nI_add]
      cases hb : S.testBit k
      · rw [if_neg (show ¬ (false = true) by decide), g_M_pieceMany, i_M_pieceMany (by omega), hsz, nI_add, if_neg (show ¬ (false = true) by decide), Nat.add_assoc, nI_add]
      · rw [if_pos (show true = true from rfl), nI_add, if_pos (show true = true from rfl)]
        try rw [nI_add]
        rfl) (x := nI (R S)) rfl
    try dsimp only at e2
    have l1 := mnS_le (t := t) (N := N) (R := R) (F := 1000000000) S
    have l2 := smz_le t S N
    have l3 := hRb S hS
    rw [e_M_made_39, g_M_pieces, h36, shl_N (by omega), if_neg (nI_ge hS (by omega)), g_M_byRoot, i_M_byRoot (by omega), hv S hS]
    refine Eq.trans e2 ?_
    rw [e_M_made_60, g_M_pieces, h36, if_pos (nI_le (Nat.le_refl _) (by omega)), min_run _ (by omega) (by omega), r1_s, nI_add]
    rfl) (x := nI 1000000000) rfl
  try dsimp only at e
  refine Eq.trans e ?_
  rw [e_M_made_39, g_M_pieces, h36, shl_N (by omega), if_pos (nI_le (Nat.le_refl _) (by omega))]
theorem sim_made (X : qz_X) (s : sT) (G : gsT) (h : Rel s G) (v : Int32) : Sim X s 204 205 [some (.ref 0), some (.int v), none] [some (.ref 318), some (.int v), none, none, none, none] := by
  rcases tk_or G v with ⟨k, hk⟩ | hn
  · obtain ⟨hS, ok, hC, hM⟩ := tk_P h hk
    have hk6 := hk.1
    have hv : v = nI k := hk.2.1
    subst hv
    have hk7 : k < 7 := by omega
    obtain ⟨t1, a1, a2, a3, aP⟩ := joinable_run X hS ok hC
    have f1 : fr s t1 := fr_of [87, 88, 89, 96, 97, 98, 99, 100] (by rw [a2]) a3 (by decide)
    have h1 := h.fr f1
    obtain ⟨N, hN⟩ : ∃ N, np (fal (G.2.1.2.1 k) (nI 0)) 400 = N := ⟨_, rfl⟩
    have hnl := np_le (fal (G.2.1.2.1 k) (nI 0)) (i := 400) (by decide)
    rw [hN] at a1
    by_cases h7 : N ≤ 7
    · obtain ⟨hS1, -, hC1, -⟩ := tk_P h1 hk
      have hp0 : s.2.2 k = t1.2.2 k := by rw [a2]
      rw [← hp0] at hC1 hS1
      have htf : ∀ q, q < 400 → fal (G.2.1.2.1 k) (nI 0) q = true → ins (G.2.1.2.1 k) q = true ∧ (G.2.1.2.1 k).2.1 q = false := fun q hq => fal0 hq
      obtain ⟨z, C, ez, z2, zc, z3, zv, zp⟩ := join_run X hS1 ok hC1 false htf aP hN h7
      have f2 : fr t1 z := fr_of [103, 104, 105, 106] (by rw [z2]) zc (by decide)
      have h2 := h1.fr f2
      obtain ⟨-, -, -, hM2⟩ := tk_P h2 hk
      obtain ⟨u, b1, b2, b3, b4, bP, b5, b6⟩ := M_looks_run X hk7 ok hM2 (nI 0)
      have f3 : fr z u := fr_m [334, 335, 336, 337, 338, 339] (by rw [b2]) b3 (by decide) (fun j hj => b4 j (scr_36 hj))
      obtain ⟨-, -, -, hM3⟩ := tk_P (h2.fr f3) hk
      obtain ⟨w, J, R, ew, w2, wc, wr, wj⟩ := M_joins_run X hk7 ok hM3 false htf bP b5 b6 hN h7
      have f4 : fr u w := fr_of [343, 344, 345, 346] (by rw [w2]) wc (by decide)
      have heq := join_eq (pn_lt hN) zp wj
      have hpos := Nat.two_pow_pos N
      have hp7 := pow_7 h7
      have hR0 : R 0 = 0 := wj.1.2.2.2.2.1
      have hRb : ∀ a, a < 2 ^ N → R a ≤ 1000000 := fun a ha => by
        have := wj.1.2.2.2.2.2.2 a ha
        omega
      have hzv : ∀ S, S ≠ 0 → S < 2 ^ N → z.1 104 (S * 401 + 400) = nI (R S) := fun S hS0 hSN => by rw [zv S hS0 hSN, heq S hS0 hSN]
      have u36 : u.1 318 36 = nI N := by rw [bP.1, hN]
      have w36 : w.1 318 36 = nI N := by rw [wc 318 (by decide)]; exact u36
      have hPz : Pcs z (fal (G.2.1.2.1 k) (nI 0)) := by
        refine ⟨by rw [zc 96 (by decide)]; exact aP.1, ?_⟩
        have h2 := aP.2
        unfold pcs at h2 ⊢
        rw [zc 97 (by decide), zc 98 (by decide), zc 99 (by decide)]
        exact h2
      have hz9 : ∀ f, f < 400 → isF (fal (G.2.1.2.1 k) (nI 0)) f = true → w.1 339 (np (fal (G.2.1.2.1 k) (nI 0)) f) = nI (fb_ct (cnB (fal (G.2.1.2.1 k) (nI 0)) f) 400) := fun f hf hF => by rw [wc 339 (by decide)]; exact (bP.2.2 f hf hF).2
      have hfin : mnS (fal (G.2.1.2.1 k) (nI 0)) N R 1000000 (2 ^ N) = mnS (fal (G.2.1.2.1 k) (nI 0)) N R 1000000000 (2 ^ N) := by
        have := mnS_eq (t := fal (G.2.1.2.1 k) (nI 0)) h7 hR0 (2 ^ N - 1)
        rw [show 2 ^ N - 1 + 1 = 2 ^ N by omega] at this
        exact this
      refine sim_q (r := .int (nI (mnS (fal (G.2.1.2.1 k) (nI 0)) N R 1000000 (2 ^ N)))) h (s1 := z) (s2 := w) ?_ (f1.tr f2) ?_ (f3.tr f4)
      · rw [e_C_made_0, ck_C, C_told_yes X h hk, r3_r, ck_C, a1, r1_s, decide_eq_true h7, if_neg (by decide), g_C_joining, g_C_parts, ck_J]
        have ez : rn 194 0 [some (.ref 103), some (.ref (s.2.2 k)), some (.ref 96), some (.int (nI 0)), none, none] [] (mk X t1) = some (none, mk X z) := ez
        rw [ez, r0_s, g_C_joining, g_C_parts, ck_J, fewest_run X hN h7 hPz hR0 hRb z3 hzv, r1_s]
      · rw [e_M_made_0, ck_M, M_sheet_yes X h2 hk, r1_s, if_neg (by decide), ck_M, b1, r0_s, g_M_pieces, u36, if_pos (nI_le h7 (by decide)), ck_M]
        have ew : rn 201 0 [some (.ref 318), some (.int (nI k)), some (.int (nI 0)), none, none, none, none, none, none] [] (mk X u) = some (none, mk X w) := ew
        rw [ew, r0_s, M_few_run X hN h7 w36 hz9 hRb wr, hfin]
    · obtain ⟨-, -, -, hM1⟩ := tk_P h1 hk
      obtain ⟨u, b1, b2, b3, b4, bP, b5, b6⟩ := M_looks_run X hk7 ok hM1 (nI 0)
      have f3 : fr t1 u := fr_m [334, 335, 336, 337, 338, 339] (by rw [b2]) b3 (by decide) (fun j hj => b4 j (scr_36 hj))
      have u36 : u.1 318 36 = nI N := by rw [bP.1, hN]
      refine sim_q (r := .int (-1)) h (s1 := t1) (s2 := u) ?_ f1 ?_ f3
      · rw [e_C_made_0, ck_C, C_told_yes X h hk, r3_r, ck_C, a1, r1_s, decide_eq_false h7, if_pos (by decide)]
      · rw [e_M_made_0, ck_M, M_sheet_yes X h1 hk, r1_s, if_neg (by decide), ck_M, b1, r0_s, g_M_pieces, u36, if_neg (nI_ge (by omega) (by omega))]
  · refine sim_q (r := .int (-1)) h (s1 := s) (s2 := s) ?_ (fr.rf s) ?_ (fr.rf s)
    · rw [e_C_made_0, ck_C, C_told_no X h hn, r3_n]
    · rw [e_M_made_0, ck_M, M_sheet_no X h hn, r1_s, if_pos nI_0]

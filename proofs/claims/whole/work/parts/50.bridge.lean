/-! bridge -/
theorem squares_run (X : qz_X) {s : sT} {q : Nat} {A : shT} (hq : isS q) (ok : okA A) (hC : isC s q A) {b : Nat} (hb : b < A.1 4) : rn 63 0 [some (.ref (q + 3)), some (.int (nI b)), none, none] [] (mk X s) = some (some (.int (nI (fb_ct (A.2.2.2.1 b) 400))), mk X s) := by
  have o5 := ok.2.2.2.2.1
  have hs : ∀ (i : Nat) (v : Int32), 0 ≤ i → i < 20 → v = nI (fb_sm (fun y => fb_ct (fun x => A.2.2.2.1 b (20 * y + x)) 20) i) → ∃ y : Int32, y = nI (fb_sm (fun y => fb_ct (fun x => A.2.2.2.1 b (20 * y + x)) 20) (i + 1)) ∧ rn 63 4 [some (.ref (q + 3)), some (.int (nI b)), some (.int v), some (.int (nI i))] [] (mk X s) = rn 63 4 [some (.ref (q + 3)), some (.int (nI b)), some (.int y), some (.int (nI (i + 1)))] [] (mk X s) := by
    rintro i v _ hi rfl
    refine ⟨_, rfl, ?_⟩
    rw [e_Bridges_squares_4, if_neg (nI_ge hi (by decide)), g_B_rows hq, pk_mul, nI_add, i_B_rows hq (by omega), Nat.mul_comm b 20, pop_row _ (hC.2.2.2.1 b hb i hi), r1_s, nI_add, nI_add, fb_sm_succ]
  obtain ⟨y, hy, e⟩ := it_up (fun i (v : Int32) => rn 63 4 [some (.ref (q + 3)), some (.int (nI b)), some (.int v), some (.int (nI i))] [] (mk X s)) (fun i v => v = nI (fb_sm (fun y => fb_ct (fun x => A.2.2.2.1 b (20 * y + x)) 20) i)) (Nat.zero_le 20) hs (x := nI 0) rfl
  try dsimp only at e
  have e4 := ct_rows (A.2.2.2.1 b) 20
  rw [show 20 * 20 = 400 from rfl] at e4
  rw [e_Bridges_squares_0, e, e_Bridges_squares_4, if_pos (nI_le (by decide) (by decide)), hy, e4]
theorem bthrough_run (X : qz_X) {s : sT} {q : Nat} {A : shT} (hq : isS q) (ok : okA A) (hC : isC s q A) {b : Nat} (hb : b < A.1 4) : rn 171 0 [some (.ref q), some (.int (nI b)), none, none] [] (mk X s) = some (some (.int (nI (fb_ct (fun j => A.2.2.2.1 b j && A.2.1 j) 400))), mk X s) := by
  have o5 := ok.2.2.2.2.1
  have h1 := ok.1
  have h2 := ok.2.1
  have hs : ∀ (i : Nat) (v : Int32), 0 ≤ i → i < A.1 1 → v = nI (fb_sm (fun y => fb_ct (fun x => A.2.2.2.1 b (20 * y + x) && A.2.1 (20 * y + x)) 20) i) → ∃ y : Int32, y = nI (fb_sm (fun y => fb_ct (fun x => A.2.2.2.1 b (20 * y + x) && A.2.1 (20 * y + x)) 20) (i + 1)) ∧ rn 171 4 [some (.ref q), some (.int (nI b)), some (.int v), some (.int (nI i))] [] (mk X s) = rn 171 4 [some (.ref q), some (.int (nI b)), some (.int y), some (.int (nI (i + 1)))] [] (mk X s) := by
    rintro i v _ hi rfl
    refine ⟨_, rfl, ?_⟩
    have hr : ∀ x, x < 32 → bt (s.1 (q + 6) (20 * b + i) &&& s.1 (q + 1) i) x = (decide (x < 20) && (A.2.2.2.1 b (20 * i + x) && A.2.1 (20 * i + x))) := by
      intro x hx
      rw [b_and, hC.2.2.2.1 b hb i (by omega) x hx, hC.2.1 i (by omega) x hx]
      cases decide (x < 20) <;> cases A.2.2.2.1 b (20 * i + x) <;> cases A.2.1 (20 * i + x) <;> rfl
    rw [e_Sheet_bridgedThrough_4, g_S_high hq, hC.1.2.1, if_neg (nI_ge hi (by omega)), g_S_bridges hq, g_B_rows hq, pk_mul, nI_add, i_B_rows hq (by omega), Nat.mul_comm b 20, g_S_through hq, i_S_through hq (by omega), pop_row _ hr, r1_s, nI_add, nI_add, fb_sm_succ]
  obtain ⟨y, hy, e⟩ := it_up (fun i (v : Int32) => rn 171 4 [some (.ref q), some (.int (nI b)), some (.int v), some (.int (nI i))] [] (mk X s)) (fun i v => v = nI (fb_sm (fun y => fb_ct (fun x => A.2.2.2.1 b (20 * y + x) && A.2.1 (20 * y + x)) 20) i)) (Nat.zero_le (A.1 1)) hs (x := nI 0) rfl
  try dsimp only at e
  have e4 := ct_400 (t := fun j => A.2.2.2.1 b j && A.2.1 j) (h := A.1 1) (by omega) (fun j hj hh => by
    cases hc : A.2.1 j
    · simp
    · have := ins_iff.mp (ok.2.2.2.2.2.2.2.2.2.1 j hj hc)
      omega)
  rw [e_Sheet_bridgedThrough_0, e, e_Sheet_bridgedThrough_4, g_S_high hq, hC.1.2.1, if_pos (nI_le (Nat.le_refl _) (by omega)), hy, e4]
theorem countBridge_run (X : qz_X) {s : sT} {k : Nat} {A : shT} (hk : k < 7) (hM : isM (gN s) k A) {b : Nat} (hb : b < 12) (c : Bool) : rn 105 0 [some (.ref 318), some (.int (nI k)), some (.int (nI b)), some (.int (bI c)), none, none] [] (mk X s) = some (some (.int (nI (fb_ct (fun j => A.2.2.2.1 b j && (!c || A.2.1 j)) 400))), mk X s) := by
  have hs : ∀ (i : Nat) (v : Int32), 0 ≤ i → i < 400 → v = nI (fb_ct (fun j => A.2.2.2.1 b j && (!c || A.2.1 j)) i) → ∃ y : Int32, y = nI (fb_ct (fun j => A.2.2.2.1 b j && (!c || A.2.1 j)) (i + 1)) ∧ rn 105 10 [some (.ref 318), some (.int (nI k)), some (.int (nI b)), some (.int (bI c)), some (.int v), some (.int (nI (400 * k + i)))] [] (mk X s) = rn 105 10 [some (.ref 318), some (.int (nI k)), some (.int (nI b)), some (.int (bI c)), some (.int y), some (.int (nI (400 * k + (i + 1))))] [] (mk X s) := by
    rintro i v _ hi rfl
    refine ⟨_, rfl, ?_⟩
    have e1 : s.1 322 (400 * k + i) = if A.2.1 i then nI 1 else nI 0 := hM.2.1 _ hi
    have e3 : bt (s.1 324 (400 * k + i)) b = A.2.2.2.1 b i := by
      have : bt (s.1 324 (400 * k + i)) b = (decide (b < 12) && A.2.2.2.1 b i) := hM.2.2.2.1 _ hi b (by omega)
      rw [this, decide_eq_true hb, Bool.true_and]
    rw [e_M_countBridge_10, pk_mul, nI_add, if_neg (nI_ge (by omega) (by omega)), g_M_bridgeAt, i_M_bridgeAt (by omega), M_has_run _ _ (by omega), r1_s, told_int, e3, nI_add, fb_ct_succ, Nat.add_assoc]
    cases hbr : A.2.2.2.1 b i
    · rw [if_neg (by decide), M_unit_0, r1_s, nI_add]
      simp
    · rw [if_pos rfl, bI_z]
      cases c
      · rw [if_neg (by decide), M_unit_1, r1_s, nI_add]
        simp
      · rw [if_pos rfl, g_M_through, i_M_through (by omega), e1, told_one]
        cases A.2.1 i
        · rw [if_neg (by decide), M_unit_0, r1_s, nI_add]
          simp
        · rw [if_pos rfl, M_unit_1, r1_s, nI_add]
          simp
  obtain ⟨y, hy, e⟩ := it_up (fun i (v : Int32) => rn 105 10 [some (.ref 318), some (.int (nI k)), some (.int (nI b)), some (.int (bI c)), some (.int v), some (.int (nI (400 * k + i)))] [] (mk X s)) (fun i v => v = nI (fb_ct (fun j => A.2.2.2.1 b j && (!c || A.2.1 j)) i)) (Nat.zero_le 400) hs (x := nI 0) rfl
  try dsimp only at e
  rw [e_M_countBridge_0, pk_mul, show nI (400 * k) = nI (400 * k + 0) from rfl, e, e_M_countBridge_10, pk_mul, nI_add, if_pos (nI_le (Nat.le_refl _) (by omega)), hy]
theorem sim_bridge (X : qz_X) (s : sT) (G : gsT) (h : Rel s G) (v vb w : Int32) : Sim X s 172 174 [some (.ref 0), some (.int v), some (.int vb), some (.int w), none] [some (.ref 318), some (.int v), some (.int vb), some (.int w), none] := by
  rcases tk_or G v with ⟨k, hk⟩ | hn
  · obtain ⟨hS, ok, hC, hM⟩ := tk_P h hk
    have hk6 := hk.1
    have hk7 : k < 7 := by omega
    have ht1 := told_yes h hk
    have o5 := ok.2.2.2.2.1
    have hv : v = nI k := hk.2.1
    subst hv
    rcases br_or (G.2.1.2.1 k) vb with ⟨b, hb, rfl⟩ | hnb
    · have hmb := hM.2.2.2.2.2 b hb
      have hkd : s.1 328 (12 * k + b) = nI ((G.2.1.2.1 k).2.2.2.2 0 b) := hmb.1
      have hhd : s.1 329 (12 * k + b) = nI ((G.2.1.2.1 k).2.2.2.2 1 b) := hmb.2.1
      have hls : s.1 330 (12 * k + b) = nI ((G.2.1.2.1 k).2.2.2.2 2 b) := hmb.2.2
      rcases num_or w 5 with ⟨j, hj, rfl⟩ | hno
      · rcases (show j = 0 ∨ j = 1 ∨ j = 2 ∨ j = 3 ∨ j = 4 ∨ j = 5 by omega) with rfl | rfl | rfl | rfl | rfl | rfl
        · refine sim_q (r := .int (nI ((G.2.1.2.1 k).2.2.2.2 0 b))) h (s1 := s) (s2 := s) ?_ (fr.rf s) ?_ (fr.rf s)
          · rw [e_C_bridge_0, ck_C, C_told_yes X h hk, r3_r, g_S_bridges hS, ck_B hS, C_bhas_yes X hS ok hC hb, r1_s, if_neg (by decide), if_pos rfl, g_S_bridges hS, g_B_kind hS, i_B_kind hS (by omega), (hC.2.2.2.2.2.1 b hb).1]
          · rw [e_M_bridge_0, ck_M, M_isBridge_yes X hk6 ok hM ht1 hb, r1_s, if_neg (by decide), if_pos rfl, g_M_bridgeKind, pk_mul, nI_add, i_M_bridgeKind (by omega), hkd]
        · refine sim_q (r := .int (nI (fb_ct ((G.2.1.2.1 k).2.2.2.1 b) 400))) h (s1 := s) (s2 := s) ?_ (fr.rf s) ?_ (fr.rf s)
          · rw [e_C_bridge_0, ck_C, C_told_yes X h hk, r3_r, g_S_bridges hS, ck_B hS, C_bhas_yes X hS ok hC hb, r1_s, if_neg (by decide), if_neg (by decide), if_pos rfl, g_S_bridges hS, ck_B hS, squares_run X hS ok hC hb, r1_s]
          · rw [e_M_bridge_0, ck_M, M_isBridge_yes X hk6 ok hM ht1 hb, r1_s, if_neg (by decide), if_neg (by decide), if_pos rfl, ck_M, show (nI 0 : Int32) = bI false from rfl, countBridge_run X hk7 hM (by omega) false, r1_s, fb_ct_cong (q := (G.2.1.2.1 k).2.2.2.1 b) (fun j _ => by simp)]
        · refine sim_q (r := .int (nI (fb_ct (fun j => (G.2.1.2.1 k).2.2.2.1 b j && (G.2.1.2.1 k).2.1 j) 400))) h (s1 := s) (s2 := s) ?_ (fr.rf s) ?_ (fr.rf s)
          · rw [e_C_bridge_0, ck_C, C_told_yes X h hk, r3_r, g_S_bridges hS, ck_B hS, C_bhas_yes X hS ok hC hb, r1_s, if_neg (by decide), if_neg (by decide), if_neg (by decide), if_pos rfl, ck_S hS, bthrough_run X hS ok hC hb, r1_s]
          · rw [e_M_bridge_0, ck_M, M_isBridge_yes X hk6 ok hM ht1 hb, r1_s, if_neg (by decide), if_neg (by decide), if_neg (by decide), if_pos rfl, ck_M, show (nI 1 : Int32) = bI true from rfl, countBridge_run X hk7 hM (by omega) true, r1_s, fb_ct_cong (q := fun j => (G.2.1.2.1 k).2.2.2.1 b j && (G.2.1.2.1 k).2.1 j) (fun j _ => by simp)]
        · have h01 := (ok.2.2.2.2.2.2.2.2.2.2.2.2.1 b hb).2.1
          have hbh := hC.2.2.2.2.1 b (by omega)
          refine sim_q (r := .int (nI ((G.2.1.2.1 k).2.2.2.2 1 b))) h (s1 := s) (s2 := s) ?_ (fr.rf s) ?_ (fr.rf s)
          · rw [e_C_bridge_0, ck_C, C_told_yes X h hk, r3_r, g_S_bridges hS, ck_B hS, C_bhas_yes X hS ok hC hb, r1_s, if_neg (by decide), if_neg (by decide), if_neg (by decide), if_neg (by decide), if_pos rfl, g_S_bridges hS, g_B_hidden hS, b_sel _ (by omega), hbh]
            rcases (show (G.2.1.2.1 k).2.2.2.2 1 b = 0 ∨ (G.2.1.2.1 k).2.2.2.2 1 b = 1 by omega) with e | e
            · rw [e, decide_eq_false (by omega)]; rfl
            · rw [e, decide_eq_true ⟨hb, rfl⟩]; rfl
          · rw [e_M_bridge_0, ck_M, M_isBridge_yes X hk6 ok hM ht1 hb, r1_s, if_neg (by decide), if_neg (by decide), if_neg (by decide), if_neg (by decide), if_pos rfl, g_M_bridgeHidden, pk_mul, nI_add, i_M_bridgeHidden (by omega), hhd]
        · refine sim_q (r := .int (bI (bt (nI ((G.2.1.2.1 k).1 5)) b))) h (s1 := s) (s2 := s) ?_ (fr.rf s) ?_ (fr.rf s)
          · rw [e_C_bridge_0, ck_C, C_told_yes X h hk, r3_r, g_S_bridges hS, ck_B hS, C_bhas_yes X hS ok hC hb, r1_s, if_neg (by decide), if_neg (by decide), if_neg (by decide), if_neg (by decide), if_neg (by decide), if_pos rfl, g_S_bridges hS, g_B_in hS, hC.1.2.2.2.2.2.1, b_sel _ (by omega)]
            rfl
          · skip
            exact (by rw [e_M_bridge_0, ck_M, M_isBridge_yes X hk6 ok hM ht1 hb, r1_s, if_neg (by decide), if_neg (by decide), if_neg (by decide), if_neg (by decide), if_neg (by decide), if_pos rfl, ck_M, M_in_run X hk7 hM, r1_s, M_has_run _ _ (by omega), r1_s, show (if bt (nI ((G.2.1.2.1 k).1 5)) b then nI 1 else nI 0 : Int32) = bI (bt (nI ((G.2.1.2.1 k).1 5)) b) from rfl, bI_unit, r1_s])
        · refine sim_q (r := .int (nI ((G.2.1.2.1 k).2.2.2.2 2 b))) h (s1 := s) (s2 := s) ?_ (fr.rf s) ?_ (fr.rf s)
          · rw [e_C_bridge_0, ck_C, C_told_yes X h hk, r3_r, g_S_bridges hS, ck_B hS, C_bhas_yes X hS ok hC hb, r1_s, if_neg (by decide), if_neg (by decide), if_neg (by decide), if_neg (by decide), if_neg (by decide), if_neg (by decide), if_pos rfl, g_S_bridges hS, g_B_lasts hS, i_B_lasts hS (by omega), (hC.2.2.2.2.2.1 b hb).2]
          · rw [e_M_bridge_0, ck_M, M_isBridge_yes X hk6 ok hM ht1 hb, r1_s, if_neg (by decide), if_neg (by decide), if_neg (by decide), if_neg (by decide), if_neg (by decide), if_neg (by decide), if_pos rfl, g_M_bridgeLasts, pk_mul, nI_add, i_M_bridgeLasts (by omega), hls]
      · refine sim_q (r := .int (-1)) h (s1 := s) (s2 := s) ?_ (fr.rf s) ?_ (fr.rf s)
        · rw [e_C_bridge_0, ck_C, C_told_yes X h hk, r3_r, g_S_bridges hS, ck_B hS, C_bhas_yes X hS ok hC hb, r1_s, if_neg (by decide), if_neg (hno 0 (by decide)), if_neg (hno 1 (by decide)), if_neg (hno 2 (by decide)), if_neg (hno 3 (by decide)), if_neg (hno 4 (by decide)), if_neg (hno 5 (by decide))]
        · rw [e_M_bridge_0, ck_M, M_isBridge_yes X hk6 ok hM ht1 hb, r1_s, if_neg (by decide), if_neg (hno 0 (by decide)), if_neg (hno 1 (by decide)), if_neg (hno 2 (by decide)), if_neg (hno 3 (by decide)), if_neg (hno 4 (by decide)), if_neg (hno 5 (by decide))]
    · refine sim_q (r := .int (-1)) h (s1 := s) (s2 := s) ?_ (fr.rf s) ?_ (fr.rf s)
      · rw [e_C_bridge_0, ck_C, C_told_yes X h hk, r3_r, g_S_bridges hS, ck_B hS, C_bhas_no X hS ok hC hnb, r1_s, if_pos (by decide)]
      · rw [e_M_bridge_0, ck_M, M_isBridge_no X hk6 ok hM ht1 hnb, r1_s, if_pos (by decide)]
  · refine sim_q (r := .int (-1)) h (s1 := s) (s2 := s) ?_ (fr.rf s) ?_ (fr.rf s)
    · rw [e_C_bridge_0, ck_C, C_told_no X h hn, r3_n]
    · rw [e_M_bridge_0, ck_M, M_isBridge_no2 X (M_sheet_no X h hn), r1_s, if_pos (by decide)]

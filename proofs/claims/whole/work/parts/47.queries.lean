/-! queries of one sheet: first, judge (what hangs, wear), spoilt, sheet -/
theorem sim_q {X : qz_X} {s s1 s2 : sT} {G : gsT} (h : Rel s G) {c m : Nat} {ac am : qz_L} {r : Value} (h1 : rn c 0 ac [] (mk X s) = some (some r, mk X s1)) (f1 : fr s s1) (h2 : rn m 0 am [] (mk X s1) = some (some r, mk X s2)) (f2 : fr s1 s2) (hr : ∃ x : Int32, r = .int x := by exact ⟨_, rfl⟩) : Sim X s c m ac am := by
  obtain ⟨x, rfl⟩ := hr
  exact ⟨x, s1, s2, G, h1, h2, (h.fr f1).fr f2⟩
theorem scr_j {c j : Nat} (h : c ≠ 318) : scr c j = scr c 0 := by
  unfold scr
  have : (c == 318) = false := by simpa using h
  rw [this]
  rfl
theorem fr_of {s st : sT} (l : List Nat) (h2 : st.2.2 = s.2.2) (hc : ∀ c, c ∉ l → st.1 c = s.1 c) (hl : ∀ c, c ∈ l → c ≠ 318 ∧ scr c 0 = true) : fr s st := by
  refine ⟨h2, fun i j hs => ?_⟩
  by_cases hi : i ∈ l
  · obtain ⟨h3, h4⟩ := hl i hi
    rw [scr_j h3, h4] at hs
    cases hs
  · rw [hc i hi]
theorem loose_run (X : qz_X) {s : sT} {p : Nat → Bool} (hp : rows (s.1 89) p) : rn 177 0 [some (.ref 86), none, none] [] (mk X s) = some (some (.int (nI (fb_ct p 400))), mk X s) := by
  have hs : ∀ (i : Nat) (v : Int32), 0 ≤ i → i < 20 → v = nI (fb_sm (fun y => fb_ct (fun x => p (20 * y + x)) 20) i) → ∃ y : Int32, y = nI (fb_sm (fun y => fb_ct (fun x => p (20 * y + x)) 20) (i + 1)) ∧ rn 177 4 [some (.ref 86), some (.int v), some (.int (nI i))] [] (mk X s) = rn 177 4 [some (.ref 86), some (.int y), some (.int (nI (i + 1)))] [] (mk X s) := by
    rintro i v _ hi rfl
    refine ⟨_, rfl, ?_⟩
    rw [e_Hanging_loose_4, if_neg (nI_ge hi (by decide)), g_H_fallen, i_H_fallen hi, pop_row _ (hp i hi), r1_s, nI_add, nI_add, fb_sm_succ]
  obtain ⟨y, hy, e⟩ := it_up (fun i (v : Int32) => rn 177 4 [some (.ref 86), some (.int v), some (.int (nI i))] [] (mk X s)) (fun i v => v = nI (fb_sm (fun y => fb_ct (fun x => p (20 * y + x)) 20) i)) (Nat.zero_le 20) hs (x := nI 0) rfl
  try dsimp only at e
  have e4 := ct_rows p 20
  rw [show 20 * 20 = 400 from rfl] at e4
  rw [e_Hanging_loose_0, e, e_Hanging_loose_4, if_pos (nI_le (by decide) (by decide)), hy, e4]
noncomputable def fal (A : shT) (v : Int32) (j : Nat) : Bool := tin A v j && !hB (tin A v) (rim A) j
theorem ct_fall {t h : Nat → Bool} {n : Nat} (hs : ∀ q, q < n → h q = true → t q = true) : fb_ct (fun q => t q && !h q) n + fb_ct h n = fb_ct t n := by
  rw [← fb_ct_or (p := fun q => t q && !h q) (q := h) (n := n) (fun k _ hk => by
    obtain ⟨h1, h2⟩ := hk
    rw [h2] at h1
    simp at h1)]
  apply fb_ct_cong
  intro k hk
  cases h1 : h k
  · simp
  · simp [hs k hk h1]
theorem hB_tin {t a : Nat → Bool} {q : Nat} (h : hB t a q = true) : t q = true := (hng_t (hB_iff.mp h)).2
/-- the class: how many fall -/
theorem C_fall_run (X : qz_X) {s : sT} {q : Nat} {A : shT} (hq : isS q) (ok : okA A) (hC : isC s q A) (v : Int32) : ∃ st : sT, rn 129 0 [some (.ref 86), some (.ref q), some (.int v), none, none, none] [] (mk X s) = some (none, mk X st) ∧ rn 177 0 [some (.ref 86), none, none] [] (mk X st) = some (some (.int (nI (fb_ct (fal A v) 400))), mk X st) ∧ st.2 = s.2 ∧ (∀ c, c ∉ [87, 88, 89] → st.1 c = s.1 c) := by
  obtain ⟨st, e, h2, hc, -, -, h89⟩ := spread_run X hq ok hC v
  refine ⟨st, e, loose_run X h89, h2, fun c hc' => ?_⟩
  simp only [List.mem_cons, List.not_mem_nil, or_false, not_or] at hc'
  exact hc c hc'.1 hc'.2.1 hc'.2.2
theorem neg1_lt {q : Nat} (h : q < 400) : nI q = (-1 : Int32) ↔ (fun _ : Nat => false) q = true := by
  constructor
  · intro e
    exact absurd e (nI_m1 (by omega))
  · intro e; cases e
/-- the reference: tin and what hangs of it -/
theorem M_hang_run (X : qz_X) {s : sT} {k : Nat} {A : shT} (hk : k < 7) (ok : okA A) (hM : isM (gN s) k A) {t : Nat → Bool} (ht : ∀ j, j < 400 → s.1 334 j = if t j then nI 1 else nI 0) : ∃ st : sT, rn 146 0 [some (.ref 318), some (.int (nI k)), some (.int (-1)), some (.int (-1)), none, none] [] (mk X s) = some (some (.int (nI (fb_ct (hB t (rim A)) 400))), mk X st) ∧ st.2 = s.2 ∧ (∀ c, c ≠ 335 → c ≠ 336 → st.1 c = s.1 c) ∧ ∀ j, j < 400 → st.1 335 j = if hB t (rim A) j then nI 1 else nI 0 :=
  M_hanging_run X hk ok hM (d := fun _ => false) (t' := t) (a := rim A) ht (fun q hq => neg1_lt hq) (fun q _ => by simp) (Or.inl ⟨rfl, fun _ _ => rfl⟩)
theorem M_tins_row {s : sT} (t : Nat → Bool) : ∀ j, j < 400 → (sa s 334 (fun j => if j < 400 then (if t j then nI 1 else nI 0) else s.1 334 j)).1 334 j = if t j then nI 1 else nI 0 := by
  intro j hj
  rw [sa_1, if_pos rfl, if_pos hj]
theorem M_fall_run (X : qz_X) {s : sT} {k : Nat} {A : shT} (hk : k < 7) (ok : okA A) (hM : isM (gN s) k A) (v : Int32) : ∃ st : sT, rn 229 0 [some (.ref 318), some (.int (nI k)), some (.int v), none] [] (mk X s) = some (some (.int (nI (fb_ct (fal A v) 400))), mk X st) ∧ st.2 = s.2 ∧ (∀ c, c ∉ [334, 335, 336] → st.1 c = s.1 c) := by
  obtain ⟨st, e, h2, hc, -⟩ := M_hang_run X hk ok (isM_sa (o := 334) (by omega) hM) (M_tins_row (s := s) (tin A v))
  have hct := ct_fall (t := tin A v) (h := hB (tin A v) (rim A)) (n := 400) (fun q _ h => hB_tin h)
  refine ⟨st, ?_, h2, fun c hc' => ?_⟩
  · rw [e_M_falling_0, ck_M, tins_run X hk ok hM v, r0_s, ck_M, tinMany_run X (M_tins_row (tin A v)), r1_s, ck_M, e, r1_s, pk_sub (by omega), ← hct, Nat.add_sub_cancel]
    rfl
  · simp only [List.mem_cons, List.not_mem_nil, or_false, not_or] at hc'
    rw [hc c hc'.2.1 hc'.2.2, sa_1, if_neg hc'.1]
theorem M_allHang_run (X : qz_X) {s : sT} {k : Nat} {A : shT} (hk : k < 7) (ok : okA A) (hM : isM (gN s) k A) (v : Int32) : ∃ st : sT, rn 183 0 [some (.ref 318), some (.int (nI k)), some (.int v)] [] (mk X s) = some (some (.int (bI (decide (fb_ct (fal A v) 400 = 0)))), mk X st) ∧ st.2 = s.2 ∧ (∀ c, c ∉ [334, 335, 336] → st.1 c = s.1 c) := by
  obtain ⟨st, e, h2, hc, -⟩ := M_hang_run X hk ok (isM_sa (o := 334) (by omega) hM) (M_tins_row (s := s) (tin A v))
  have hct := ct_fall (t := tin A v) (h := hB (tin A v) (rim A)) (n := 400) (fun q _ h => hB_tin h)
  have hle := fb_ct_le (tin A v) 400
  have hct2 : fb_ct (fal A v) 400 + fb_ct (hB (tin A v) (rim A)) 400 = fb_ct (tin A v) 400 := hct
  have h334 : ∀ j, j < 400 → st.1 334 j = if tin A v j then nI 1 else nI 0 := fun j hj => by rw [hc 334 (by decide) (by decide)]; exact M_tins_row (tin A v) j hj
  refine ⟨st, ?_, h2, fun c hc' => ?_⟩
  · rw [e_M_allHang_0, ck_M, tins_run X hk ok hM v, r0_s, ck_M, e, r1_s, ck_M, tinMany_run X h334, r1_s]
    by_cases h0 : fb_ct (fal A v) 400 = 0
    · rw [if_pos (by rw [← hct2, h0, Nat.zero_add]), decide_eq_true h0]; rfl
    · rw [if_neg (fun z => h0 (by rw [nI_eq (by omega) (by omega)] at z; omega)), decide_eq_false h0]; rfl
  · simp only [List.mem_cons, List.not_mem_nil, or_false, not_or] at hc'
    rw [hc c hc'.2.1 hc'.2.2, sa_1, if_neg hc'.1]
theorem isC_of {s st : sT} {q : Nat} {A : shT} (hq : isS q) (hc : ∀ c, c ∉ [87, 88, 89] → st.1 c = s.1 c) (hC : isC s q A) : isC st q A := by
  have h1 := isS_gap q hq
  have h2 := isS_lt q hq
  refine isC_cong (fun i hi => hc _ ?_) hC
  simp only [List.mem_cons, List.not_mem_nil, or_false, not_or]
  omega
theorem isM_of {s st : sT} {k : Nat} {A : shT} (hc : ∀ c, 320 ≤ c → c ≤ 330 → st.1 c = s.1 c) (hM : isM (gN s) k A) : isM (gN st) k A := isM_cong (gN_c hc) hM
theorem in_out {A : shT} (ok : okA A) {b : Nat} (hb : A.1 4 ≤ b) (h : b < 32) : bt (nI (A.1 5)) b = false := bt_hi ok.2.2.2.2.2.1 (by have := ok.2.2.2.2.1; omega) hb
theorem sim_spoilt (X : qz_X) (s : sT) (G : gsT) (h : Rel s G) (v vb : Int32) : Sim X s 228 230 [some (.ref 0), some (.int v), some (.int vb), none, none] [some (.ref 318), some (.int v), some (.int vb)] := by
  rcases tk_or G v with ⟨k, hk⟩ | hn
  · obtain ⟨hS, ok, hC, hM⟩ := tk_P h hk
    have hk6 := hk.1
    have ht1 := told_yes h hk
    have hv : v = nI k := hk.2.1
    subst hv
    rcases br_or (G.2.1.2.1 k) vb with ⟨b, hb, rfl⟩ | hnb
    · have o5 := ok.2.2.2.2.1
      cases hin : bt (nI ((G.2.1.2.1 k).1 5)) b
      · refine sim_q (r := .int (-1)) h (s1 := s) (s2 := s) ?_ (fr.rf s) ?_ (fr.rf s)
        · rw [e_C_spoilt_0, ck_C, C_told_yes X h hk, r3_r, g_S_bridges hS, ck_B hS, C_bhas_yes X hS ok hC hb, r1_s, if_neg (by decide), g_S_bridges hS, g_B_in hS, hC.1.2.2.2.2.2.1, if_pos ((b_selz _ (by omega)).mpr hin)]
        · rw [e_M_spoilt_0, ck_M, M_isBridge_yes X hk6 ok hM ht1 hb, r1_s, if_neg (by decide), ck_M, M_in_run X (by omega) hM, r1_s, M_has_run _ _ (by omega), r1_s, told_int, hin, if_neg (by decide)]
      · obtain ⟨t1, a1, a2, a3, a4⟩ := C_fall_run X hS ok hC (nI ((G.2.1.2.1 k).1 5))
        have hC1 := isC_of hS a4 hC
        obtain ⟨t2, b1, b2, b3, b4⟩ := C_fall_run X hS ok hC1 (nI ((G.2.1.2.1 k).1 5) &&& ((nI 1 <<< (nI b &&& 31)) ^^^ (-1)))
        have hM2 : isM (gN t2) k (G.2.1.2.1 k) := isM_of (fun c p q => by rw [b4 c (by simp; omega), a4 c (by simp; omega)]) hM
        have ht2 : t2.1 321 k = nI 1 := by rw [b4 321 (by decide), a4 321 (by decide)]; exact ht1
        obtain ⟨t3, c1, c3, c4⟩ := M_fall_run X (show k < 7 by omega) ok hM2 (nI ((G.2.1.2.1 k).1 5) &&& ((nI 1 <<< (nI b &&& 31)) ^^^ (-1)))
        have hM3 : isM (gN t3) k (G.2.1.2.1 k) := isM_of (fun c p q => c4 c (by simp; omega)) hM2
        obtain ⟨t4, d1, d3, d4⟩ := M_fall_run X (show k < 7 by omega) ok hM3 (nI ((G.2.1.2.1 k).1 5))
        refine sim_q (r := .int (nI (fb_ct (fal (G.2.1.2.1 k) (nI ((G.2.1.2.1 k).1 5) &&& ((nI 1 <<< (nI b &&& 31)) ^^^ (-1)))) 400) - nI (fb_ct (fal (G.2.1.2.1 k) (nI ((G.2.1.2.1 k).1 5))) 400))) h (s1 := t2) (s2 := t4) ?_ ?_ ?_ ?_
        · rw [e_C_spoilt_0, ck_C, C_told_yes X h hk, r3_r, g_S_bridges hS, ck_B hS, C_bhas_yes X hS ok hC hb, r1_s, if_neg (by decide), g_S_bridges hS, g_B_in hS, hC.1.2.2.2.2.2.1, if_neg (fun z => by rw [b_selz _ (by omega), hin] at z; cases z), g_C_hanging, g_S_bridges hS, g_B_in hS, hC.1.2.2.2.2.2.1, ck_H, a1, r0_s, g_C_hanging, ck_H, a2, r1_s, g_C_hanging, g_S_bridges hS, g_B_in hS, hC1.1.2.2.2.2.2.1, ck_H, b1, r0_s, g_C_hanging, ck_H, b2, r1_s]
        · exact (fr_of [87, 88, 89] (by rw [a3]) a4 (by decide)).tr (fr_of [87, 88, 89] (by rw [b3]) b4 (by decide))
        · rw [e_M_spoilt_0, ck_M, M_isBridge_yes X hk6 ok hM2 ht2 hb, r1_s, if_neg (by decide), ck_M, M_in_run X (by omega) hM2, r1_s, M_has_run _ _ (by omega), r1_s, told_int, hin, if_pos rfl, ck_M, M_in_run X (by omega) hM2, r1_s, ck_M, c1, r1_s, ck_M, M_in_run X (by omega) hM3, r1_s, ck_M, d1, r1_s]
        · exact (fr_of [334, 335, 336] (by rw [c3]) c4 (by decide)).tr (fr_of [334, 335, 336] (by rw [d3]) d4 (by decide))
    · refine sim_q (r := .int (-1)) h (s1 := s) (s2 := s) ?_ (fr.rf s) ?_ (fr.rf s)
      · rw [e_C_spoilt_0, ck_C, C_told_yes X h hk, r3_r, g_S_bridges hS, ck_B hS, C_bhas_no X hS ok hC hnb, r1_s, if_pos (by decide)]
      · rw [e_M_spoilt_0, ck_M, M_isBridge_no X hk6 ok hM ht1 hnb, r1_s, if_pos (by decide)]
  · refine sim_q (r := .int (-1)) h (s1 := s) (s2 := s) ?_ (fr.rf s) ?_ (fr.rf s)
    · rw [e_C_spoilt_0, ck_C, C_told_no X h hn, r3_n]
    · rw [e_M_spoilt_0, ck_M, M_isBridge_no2 X (M_sheet_no X h hn), r1_s, if_pos (by decide)]

/-! the reference: pieces -/
def mfr (s u : sT) : Prop := u.2 = s.2 ∧ (∀ c, c ∉ [318, 336, 337, 338, 339] → u.1 c = s.1 c) ∧ ∀ j, j ≠ 36 → u.1 318 j = s.1 318 j
theorem mfr_rf (s : sT) : mfr s s := ⟨rfl, fun _ _ => rfl, fun _ _ => rfl⟩
theorem mfr_su {s u : sT} (h : mfr s u) {o k : Nat} {x : Int32} (ho : o ∈ [336, 337, 338, 339] ∨ (o = 318 ∧ k = 36)) : mfr s (su u o k x) := by
  simp only [List.mem_cons, List.not_mem_nil, or_false] at ho
  refine ⟨h.1, fun c hc => ?_, fun j hj => ?_⟩
  · have hc2 := hc
    simp only [List.mem_cons, List.not_mem_nil, or_false, not_or] at hc2
    funext j
    rw [su_1, if_neg (by omega), h.2.1 c hc]
  · rw [su_1, if_neg (by omega), h.2.2 j hj]
theorem mfr_of {s u v : sT} (h : mfr s u) (h2 : v.2 = u.2) (hc : ∀ c, c ≠ 337 → c ≠ 336 → v.1 c = u.1 c) : mfr s v := by
  refine ⟨by rw [h2, h.1], fun c hc' => ?_, fun j hj => ?_⟩
  · have hc2 := hc'
    simp only [List.mem_cons, List.not_mem_nil, or_false, not_or] at hc2
    rw [hc c (by omega) (by omega), h.2.1 c hc']
  · rw [hc 318 (by decide) (by decide), h.2.2 j hj]
def PcsM (s : sT) (t : Nat → Bool) : Prop := s.1 318 36 = nI (np t 400) ∧ pcs t 400 s.1 337 338 339
theorem M_parts_run (X : qz_X) {s : sT} {vk wh : Int32} {t : Nat → Bool} (hI : ∀ u : sT, mfr s u → ∀ q, q < 400 → rn 147 0 [some (.ref 318), some (.int vk), some (.int (nI q)), some (.int wh)] [] (mk X u) = some (some (.int (if t q then nI 1 else nI 0)), mk X u)) : ∃ st : sT, rn 148 0 [some (.ref 318), some (.int vk), some (.int wh), none, none, none, none, none] [] (mk X s) = some (none, mk X st) ∧ mfr s st ∧ PcsM st t := by
  have z : ∀ (i : Nat) (u : sT), 0 ≤ i → i < 400 → (mfr s u ∧ u.1 318 36 = nI 0 ∧ ∀ j, j < i → u.1 337 j = -1) → ∃ y : sT, (mfr s y ∧ y.1 318 36 = nI 0 ∧ ∀ j, j < i + 1 → y.1 337 j = -1) ∧ rn 148 7 [some (.ref 318), some (.int vk), some (.int wh), some (.int (nI i)), none, none, none, none] [] (mk X u) = rn 148 7 [some (.ref 318), some (.int vk), some (.int wh), some (.int (nI (i + 1))), none, none, none, none] [] (mk X y) := by
    rintro i u _ hi ⟨h1, h2, h3⟩
    refine ⟨su u 337 i (-1), ⟨mfr_su h1 (by simp), by rw [su_1, if_neg (by omega), h2], fun j hj => ?_⟩, ?_⟩
    · rw [su_1]
      by_cases e : j = i
      · rw [if_pos ⟨rfl, e⟩]
      · rw [if_neg (fun z => e z.2), h3 j (by omega)]
    · rw [e_M_parts_7, if_neg (nI_ge hi (by decide)), g_M_piece, w_M_piece hi, nI_add]
  obtain ⟨u0, ⟨m0, n0, p0⟩, eq0⟩ := it_up (fun i (u : sT) => rn 148 7 [some (.ref 318), some (.int vk), some (.int wh), some (.int (nI i)), none, none, none, none] [] (mk X u)) (fun i u => mfr s u ∧ u.1 318 36 = nI 0 ∧ ∀ j, j < i → u.1 337 j = -1) (Nat.zero_le 400) z (x := su s 318 36 (nI 0)) ⟨mfr_su (mfr_rf s) (by simp), by rw [su_1, if_pos ⟨rfl, rfl⟩], fun j hj => absurd hj (Nat.not_lt_zero j)⟩
  try dsimp only at eq0
  obtain ⟨st, ⟨hm, hn, hp⟩, eq⟩ := it_up (fun i (u : sT) => rn 148 29 [some (.ref 318), some (.int vk), some (.int wh), some (.int (nI i)), none, none, none, none] [] (mk X u)) (fun i u => mfr s u ∧ u.1 318 36 = nI (np t i) ∧ pcs t i u.1 337 338 339) (Nat.zero_le 400) (by
    rintro i u _ hi ⟨hm, hn, hp⟩
    try dsimp only
    have hpi := hp.1 i hi
    have hiff := pO_iff (t := t) (i := i) (q := i) (by omega) hi
    cases hF : isF t i
    · refine ⟨u, ⟨hm, ?_, pcs_next hi hF hp⟩, ?_⟩
      · rw [hn, np_succ, hF]; rfl
      · rw [e_M_parts_29, if_neg (nI_ge hi (by decide)), g_M_piece, i_M_piece hi, nI_add]
        by_cases h1 : u.1 337 i = -1
        · rw [hpi] at h1
          have hd := hiff.mp h1
          have ht : t i = false := by
            rw [isF_iff hi, hd] at hF
            cases htt : t i
            · rfl
            · rw [htt] at hF; cases hF
          rw [hpi, if_pos h1, ck_M, hI u hm i hi, r1_s, told_int, ht, if_neg (by decide)]
        · rw [if_neg h1]
    · obtain ⟨ht, hd⟩ := isF_dO hi hF
      have hnl := np_lt hi hF
      have h1 : u.1 337 i = -1 := by rw [hpi]; exact hiff.mpr hd
      have hn1 : (su u 337 i (nI (np t i))).1 318 36 = nI (np t i) := by rw [su_1, if_neg (by omega), hn]
      have e0 : rn 148 29 [some (.ref 318), some (.int vk), some (.int wh), some (.int (nI i)), none, none, none, none] [] (mk X u) = rn 148 92 [some (.ref 318), some (.int vk), some (.int wh), some (.int (nI i)), some (.int (nI 1)), some (.int (nI 0)), none, none] [] (mk X (su (su (su u 337 i (nI (np t i))) 338 (np t i) (nI i)) 336 0 (nI i))) := by
        rw [e_M_parts_29, if_neg (nI_ge hi (by decide)), g_M_piece, i_M_piece hi, if_pos h1, ck_M, hI u hm i hi, r1_s, told_int, ht, if_pos rfl, g_M_piece, g_M_pieces, hn, w_M_piece hi, g_M_pieceFirst, g_M_pieces, hn1, w_M_pieceFirst hnl, g_M_queue, w_M_queue (by decide)]
      obtain ⟨v, e, eq, he, h2, hc, hP⟩ := gat (s := su u 338 (np t i) (nI i)) (P := 337) (C := 336) (n := np t i) (f := i) (V := u.1 337) (t := t) (D := dO t i) (by decide) (by omega) (fun q => dO_t) (fun p q => dO_closed) (fun q hq => by rw [hp.1 q hq]; exact pO_iff (by omega) hq) hi ht hd (fun st e k => rn 148 92 [some (.ref 318), some (.int vk), some (.int wh), some (.int (nI i)), some (.int (nI e)), some (.int (nI k)), none, none] [] (mk X st)) (fun st e k d => rn 148 102 [some (.ref 318), some (.int vk), some (.int wh), some (.int (nI i)), some (.int (nI e)), some (.int (nI k)), some (.int (nI d)), none] [] (mk X st))
        (fun st e k hc h2 hk he => by
          try dsimp only
          rw [e_M_parts_92, if_neg (nI_ge hk (by omega))])
        (fun st e k => by
          try dsimp only
          rw [e_M_parts_102, if_pos (nI_le (by decide) (by decide)), nI_add])
        (fun st e k d p hc h2 hk hi2 hp2 hqk => by
          try dsimp only
          have hms : mfr s st := mfr_of (mfr_su hm (o := 338) (by simp)) h2 hc
          have h36 : st.1 318 36 = nI (np t i) := by rw [hc 318 (by decide) (by decide), su_1, if_neg (by omega), hn]
          refine ⟨fun hb => ?_, fun hb => ⟨fun h => ?_, fun h ht he => ?_⟩⟩
          · have hle := nbs_le (d := d) hp2
            rw [e_M_parts_102, if_neg (nI_ge hi2 (by decide)), g_M_queue, i_M_queue hk, hqk, M_beside_run _ hp2 hi2, r1_s, nI_add, bsN_no (by omega), if_pos rfl]
          · rw [e_M_parts_102, if_neg (nI_ge hi2 (by decide)), g_M_queue, i_M_queue hk, hqk, M_beside_run _ hp2 hi2, r1_s, nI_add, bsN_yes (by omega), if_neg (nI_m1 (by omega)), g_M_piece, i_M_piece hb]
            by_cases h1 : st.1 337 (nbs p d) = -1
            · rcases h with h | h
              · exact absurd h1 h
              · rw [if_pos h1, ck_M, hI st hms _ hb, r1_s, told_int, h, if_neg (by decide)]
            · rw [if_neg h1]
          · rw [e_M_parts_102, if_neg (nI_ge hi2 (by decide)), g_M_queue, i_M_queue hk, hqk, M_beside_run _ hp2 hi2, r1_s, nI_add, bsN_yes (by omega), if_neg (nI_m1 (by omega)), g_M_piece, i_M_piece hb, if_pos h, ck_M, hI st hms _ hb, r1_s, told_int, ht, if_pos rfl, g_M_piece, g_M_pieces, h36, w_M_piece hb, g_M_queue, w_M_queue he, nI_add])
        (st0 := su (su (su u 337 i (nI (np t i))) 338 (np t i) (nI i)) 336 0 (nI i)) (by
          refine ⟨rfl, fun c p q => ?_, fun j hj => ?_, fun j hj => ?_⟩
          · funext j
            rw [su_1, if_neg (by omega), su_1, su_1, su_1]
            by_cases hx : c = 338 ∧ j = np t i
            · rw [if_pos hx, if_pos hx]
            · rw [if_neg hx, if_neg hx, if_neg (by omega)]
          · rw [su_1, if_neg (by omega), su_1, if_neg (by omega), su_1]
            by_cases e : j = i
            · subst e; simp
            · simp only [e, and_false, if_false, decide_false, Bool.false_eq_true]
          · have : j = 0 := by omega
            subst this
            rw [su_1, if_pos ⟨rfl, rfl⟩])
      try dsimp only at eq
      have hmv : mfr s v := mfr_of (mfr_su hm (o := 338) (by simp)) h2 hc
      have h36 : v.1 318 36 = nI (np t i) := by rw [hc 318 (by decide) (by decide), su_1, if_neg (by omega), hn]
      have h36b : (su v 339 (np t i) (nI e)).1 318 36 = nI (np t i) := by rw [su_1, if_neg (by omega), h36]
      have he4 : e ≤ 400 := by rw [he]; exact fb_ct_le _ _
      refine ⟨su (su v 339 (np t i) (nI e)) 318 36 (nI (np t i + 1)), ⟨mfr_su (mfr_su hmv (by simp)) (by simp), ?_, ?_⟩, ?_⟩
      · rw [su_1, if_pos ⟨rfl, rfl⟩, np_succ, hF, if_pos rfl]
      · refine pcs_add hi hF hp (fun j hj => ?_) (fun j => ?_) (fun j => ?_)
        · rw [su_1, if_neg (by omega), su_1, if_neg (by omega), hP j hj]
        · rw [su_1, if_neg (by omega), su_1, if_neg (by omega), hc 338 (by decide) (by decide), su_1]
          by_cases e : j = np t i
          · rw [if_pos ⟨rfl, e⟩, if_pos e]
          · rw [if_neg (fun z => e z.2), if_neg e]
        · rw [su_1, if_neg (by omega), su_1, ← he]
          by_cases e : j = np t i
          · rw [if_pos ⟨rfl, e⟩, if_pos e]
          · rw [if_neg (fun z => e z.2), if_neg e, hc 339 (by decide) (by decide), su_1, if_neg (by omega)]
      · rw [e0, eq, e_M_parts_92, if_pos (nI_le (Nat.le_refl e) (by omega)), g_M_pieceMany, g_M_pieces, h36, w_M_pieceMany hnl, g_M_pieces, h36b, nI_add, p_M_pieces, nI_add]) (x := u0) (by
    refine ⟨m0, n0, fun j hj => ?_, fun f hf => absurd hf (Nat.not_lt_zero f)⟩
    have hd : dO t 0 j = false := by
      unfold dO
      rw [decide_eq_false (Nat.not_lt_zero _), Bool.and_false]
    rw [p0 j hj, hd, if_neg (by decide)])
  try dsimp only at eq
  refine ⟨st, ?_, hm, hn, hp⟩
  rw [e_M_parts_0, p_M_pieces, eq0, e_M_parts_7, if_pos (nI_le (by decide) (by decide)), eq, e_M_parts_29, if_pos (nI_le (by decide) (by decide))]
theorem isPart_fal (X : qz_X) {s : sT} {vk : Int32} {t h : Nat → Bool} (ht : ∀ j, j < 400 → s.1 334 j = if t j then nI 1 else nI 0) (hh : ∀ j, j < 400 → s.1 335 j = if h j then nI 1 else nI 0) : ∀ u : sT, mfr s u → ∀ q, q < 400 → rn 147 0 [some (.ref 318), some (.int vk), some (.int (nI q)), some (.int (nI 1))] [] (mk X u) = some (some (.int (if (t q && !h q) then nI 1 else nI 0)), mk X u) := by
  intro u hu q hq
  rw [e_M_isPart_0, if_pos rfl, g_M_tin, i_M_tin hq, hu.2.1 334 (by decide), ht q hq, told_one]
  cases t q
  · rfl
  · rw [if_pos rfl, g_M_hangs, i_M_hangs hq, hu.2.1 335 (by decide), hh q hq, told_int]
    cases h q
    · rfl
    · rfl
theorem isPart_hole (X : qz_X) {s : sT} {k : Nat} {A : shT} (hk : k < 7) (ok : okA A) (hM : isM (gN s) k A) {t : Nat → Bool} (ht : ∀ j, j < 400 → s.1 334 j = if t j then nI 1 else nI 0) : ∀ u : sT, mfr s u → ∀ q, q < 400 → rn 147 0 [some (.ref 318), some (.int (nI k)), some (.int (nI q)), some (.int (nI 0))] [] (mk X u) = some (some (.int (if (!t q && ins A q) then nI 1 else nI 0)), mk X u) := by
  intro u hu q hq
  have hMu : isM (gN u) k A := isM_of (fun c p q => hu.2.1 c (by simp; omega)) hM
  rw [e_M_isPart_0, if_neg (by decide), g_M_tin, i_M_tin hq, hu.2.1 334 (by decide), ht q hq, told_int]
  cases t q
  · rw [if_neg (by decide), if_neg (by decide), if_neg (by decide), ck_M, div20 (by omega), rem20 (by omega), M_within_q X hk ok hMu hq, r1_s, told_int]
    cases ins A q
    · rfl
    · rfl
  · rfl
theorem M_looks_run (X : qz_X) {s : sT} {k : Nat} {A : shT} (hk : k < 7) (ok : okA A) (hM : isM (gN s) k A) (v : Int32) : ∃ st : sT, rn 149 0 [some (.ref 318), some (.int (nI k)), some (.int v)] [] (mk X s) = some (none, mk X st) ∧ st.2 = s.2 ∧ (∀ c, c ∉ [318, 334, 335, 336, 337, 338, 339] → st.1 c = s.1 c) ∧ (∀ j, j ≠ 36 → st.1 318 j = s.1 318 j) ∧ PcsM st (fal A v) ∧ (∀ j, j < 400 → st.1 334 j = if tin A v j then nI 1 else nI 0) ∧ ∀ j, j < 400 → st.1 335 j = if hB (tin A v) (rim A) j then nI 1 else nI 0 := by
  obtain ⟨u, e, h2, hc, h335⟩ := M_hang_run X hk ok (isM_sa (o := 334) (by omega) hM) (M_tins_row (s := s) (tin A v))
  have h334 : ∀ j, j < 400 → u.1 334 j = if tin A v j then nI 1 else nI 0 := fun j hj => by rw [hc 334 (by decide) (by decide)]; exact M_tins_row (tin A v) j hj
  obtain ⟨st, e2, hm, hp⟩ := M_parts_run X (s := u) (vk := nI k) (wh := nI 1) (t := fal A v) (isPart_fal X h334 h335)
  refine ⟨st, ?_, by rw [hm.1, h2]; rfl, fun c hc' => ?_, fun j hj => ?_, hp, fun j hj => ?_, fun j hj => ?_⟩
  · rw [e_M_looks_0, ck_M, tins_run X hk ok hM v, r0_s, ck_M, e, r1_s, ck_M, e2, r0_s]
  · simp only [List.mem_cons, List.not_mem_nil, or_false, not_or] at hc'
    rw [hm.2.1 c (by simp; omega), hc c (by omega) (by omega), sa_1, if_neg (by omega)]
  · rw [hm.2.2 j hj, hc 318 (by decide) (by decide), sa_1, if_neg (by omega)]
  · rw [hm.2.1 334 (by decide), h334 j hj]
  · rw [hm.2.1 335 (by decide), h335 j hj]

/-! the class: pieces -/
def rd (X : qz_X) (R : Nat) : Prop := ∀ (u : sT) (y : Nat) (f : Int32 → Option qz_R), y < 20 → qz_ia (mk X u).1 R (nI y) f = f (u.1 R y)
theorem rd_89 (X : qz_X) : rd X 89 := fun _ _ _ h => i_H_fallen h
theorem isSet_run (X : qz_X) {s : sT} {R : Nat} {t : Nat → Bool} (hR : rd X R) (hr : rows (s.1 R) t) {q : Nat} (hq : q < 400) : rn 130 0 [some (.ref R), some (.int (nI q))] [] (mk X s) = some (some (.int (if t q then nI 1 else nI 0)), mk X s) := by
  have hb := hr (q / 20) (by omega) (q % 20) (by omega)
  rw [decide_eq_true (show q % 20 < 20 by omega), Bool.true_and, show 20 * (q / 20) + q % 20 = q by omega] at hb
  rw [e_C_isSet_0, if_neg (by decide), div20 (by omega), hR _ _ _ (show q / 20 < 20 by omega), if_neg (by decide), rem20 (by omega)]
  cases ht : t q
  · rw [ht] at hb
    rw [if_pos ((b_selz _ (by omega)).mpr hb)]
    rfl
  · rw [ht] at hb
    rw [if_neg (fun z => by rw [b_selz _ (by omega), hb] at z; cases z)]
    rfl
theorem gather_run (X : qz_X) {s : sT} {R n f : Nat} {t D : Nat → Bool} (hR : rd X R) (hR2 : R ∉ [96, 97, 98, 99, 100]) (hr : rows (s.1 R) t) (hn : n < 400) (hn0 : s.1 96 0 = nI n) (hDt : ∀ q, D q = true → t q = true) (hDc : ∀ p q, D p = true → adj p q → t q = true → D q = true) (hV : ∀ q, q < 400 → (s.1 97 q = -1 ↔ D q = false)) (hf : f < 400) (htf : t f = true) (hDf : D f = false) : ∃ st : sT, rn 132 0 [some (.ref 96), some (.int (nI f)), some (.ref R), none, none, none, none] [] (mk X s) = some (none, mk X st) ∧ st.2 = s.2 ∧ (∀ c, c ∉ [97, 98, 99, 100] → st.1 c = s.1 c) ∧ (∀ j, j < 400 → st.1 97 j = if cnB t f j then nI n else s.1 97 j) ∧ (∀ j, st.1 99 j = if j = n then nI f else s.1 99 j) ∧ (∀ j, st.1 98 j = if j = n then nI (fb_ct (cnB t f) 400) else s.1 98 j) := by
  simp only [List.mem_cons, List.not_mem_nil, or_false, not_or] at hR2
  have h96 : (su s 99 n (nI f)).1 96 0 = nI n := by rw [su_1, if_neg (by omega), hn0]
  have e0 : rn 132 0 [some (.ref 96), some (.int (nI f)), some (.ref R), none, none, none, none] [] (mk X s) = rn 132 32 [some (.ref 96), none, some (.ref R), some (.int (nI 1)), some (.int (nI 0)), none, none] [] (mk X (su (su (su s 99 n (nI f)) 97 f (nI n)) 100 0 (nI f))) := by
    rw [e_Parts_gather_0, g_P_start, g_P_number, hn0, w_P_start hn, g_P_partOf, g_P_number, h96, w_P_partOf hf, g_P_queue, w_P_queue (by decide)]
  obtain ⟨st, e, eq, he, h2, hc, hP⟩ := gat (s := su s 99 n (nI f)) (P := 97) (C := 100) (n := n) (f := f) (V := s.1 97) (t := t) (D := D) (by decide) (by omega) hDt hDc hV hf htf hDf (fun st e k => rn 132 32 [some (.ref 96), none, some (.ref R), some (.int (nI e)), some (.int (nI k)), none, none] [] (mk X st)) (fun st e k i => rn 132 49 [some (.ref 96), none, some (.ref R), some (.int (nI e)), some (.int (nI k)), some (.int (nI i)), none] [] (mk X st))
    (fun st e k hc h2 hk he => by
      try dsimp only
      rw [e_Parts_gather_32, if_neg (nI_ge hk (by omega)), if_neg (nI_ge (show k < 400 by omega) (by decide))])
    (fun st e k => by
      try dsimp only
      rw [e_Parts_gather_49, if_pos (nI_le (by decide) (by decide)), nI_add])
    (fun st e k i p hc h2 hk hi hp hqk => by
      try dsimp only
      have hrs : rows (st.1 R) t := by
        rw [hc R (by omega) (by omega)]
        have : (su s 99 n (nI f)).1 R = s.1 R := by funext j; rw [su_1, if_neg (by omega)]
        rw [this]; exact hr
      have h960 : st.1 96 0 = nI n := by rw [hc 96 (by decide) (by decide)]; exact h96
      refine ⟨fun hb => ?_, fun hb => ⟨fun h => ?_, fun h ht he => ?_⟩⟩
      · have hle := nbs_le (d := i) hp
        rw [e_Parts_gather_49, if_neg (nI_ge hi (by decide)), g_P_queue, i_P_queue hk, hqk, C_beside_run _ _ hp hi, r1_s, nI_add, bsN_no (by omega), if_pos rfl]
      · rw [e_Parts_gather_49, if_neg (nI_ge hi (by decide)), g_P_queue, i_P_queue hk, hqk, C_beside_run _ _ hp hi, r1_s, nI_add, bsN_yes (by omega), if_neg (nI_m1 (by omega)), g_P_partOf, i_P_partOf hb]
        by_cases h1 : st.1 97 (nbs p i) = -1
        · rcases h with h | h
          · exact absurd h1 h
          · rw [if_pos h1, isSet_run X hR hrs hb, r1_s, told_int, h, if_neg (by decide)]
        · rw [if_neg h1]
      · have h960b : (su st 97 (nbs p i) (nI n)).1 96 0 = nI n := by rw [su_1, if_neg (by omega), h960]
        rw [e_Parts_gather_49, if_neg (nI_ge hi (by decide)), g_P_queue, i_P_queue hk, hqk, C_beside_run _ _ hp hi, r1_s, nI_add, bsN_yes (by omega), if_neg (nI_m1 (by omega)), g_P_partOf, i_P_partOf hb, if_pos h, isSet_run X hR hrs hb, r1_s, told_int, ht, if_pos rfl, g_P_partOf, g_P_number, h960, w_P_partOf hb, g_P_queue, w_P_queue he, nI_add])
    (st0 := su (su (su s 99 n (nI f)) 97 f (nI n)) 100 0 (nI f)) (by
      refine ⟨rfl, fun c p q => ?_, fun j hj => ?_, fun j hj => ?_⟩
      · funext j
        rw [su_1, if_neg (by omega), su_1, if_neg (by omega)]
      · rw [su_1, if_neg (by omega), su_1]
        by_cases e : j = f
        · subst e; simp
        · simp only [e, and_false, if_false, decide_false, Bool.false_eq_true]
          rw [su_1, if_neg (by omega)]
      · have : j = 0 := by omega
        subst this
        rw [su_1, if_pos ⟨rfl, rfl⟩])
  try dsimp only at eq
  have h960 : st.1 96 0 = nI n := by rw [hc 96 (by decide) (by decide)]; exact h96
  have he4 : e ≤ 400 := by rw [he]; exact fb_ct_le _ _
  refine ⟨su st 98 n (nI e), ?_, ?_, fun c hc' => ?_, fun j hj => ?_, fun j => ?_, fun j => ?_⟩
  · rw [e0, eq, e_Parts_gather_32, if_pos (nI_le (Nat.le_refl e) (by omega)), g_P_size, g_P_number, h960, w_P_size hn]
  · exact h2
  · simp only [List.mem_cons, List.not_mem_nil, or_false, not_or] at hc'
    funext j
    rw [su_1, if_neg (by omega), hc c (by omega) (by omega), su_1, if_neg (by omega)]
  · rw [su_1, if_neg (by omega), hP j hj]
  · rw [su_1, if_neg (by omega), hc 99 (by decide) (by decide), su_1]
    by_cases e : j = n
    · rw [if_pos ⟨rfl, e⟩, if_pos e]
    · rw [if_neg (fun z => e z.2), if_neg e]
  · rw [su_1, ← he]
    by_cases e : j = n
    · rw [if_pos ⟨rfl, e⟩, if_pos e]
    · rw [if_neg (fun z => e z.2), if_neg e, hc 98 (by decide) (by decide), su_1, if_neg (by omega)]
/-- the pieces of a set of squares, as the class keeps them -/
def Pcs (s : sT) (t : Nat → Bool) : Prop := s.1 96 0 = nI (np t 400) ∧ pcs t 400 s.1 97 99 98
theorem split_run (X : qz_X) {s : sT} {R : Nat} {t : Nat → Bool} (hR : rd X R) (hR2 : R ∉ [96, 97, 98, 99, 100]) (hr : rows (s.1 R) t) : ∃ st : sT, rn 133 0 [some (.ref 96), some (.ref R), none] [] (mk X s) = some (none, mk X st) ∧ st.2 = s.2 ∧ (∀ c, c ∉ [96, 97, 98, 99, 100] → st.1 c = s.1 c) ∧ Pcs st t := by
  have hR3 := hR2
  simp only [List.mem_cons, List.not_mem_nil, or_false, not_or] at hR3
  obtain ⟨st, ⟨h2, hc, hn, hp⟩, eq⟩ := it_up (fun i (u : sT) => rn 133 15 [some (.ref 96), some (.ref R), some (.int (nI i))] [] (mk X u)) (fun i u => u.2 = s.2 ∧ (∀ c, c ∉ [96, 97, 98, 99, 100] → u.1 c = s.1 c) ∧ u.1 96 0 = nI (np t i) ∧ pcs t i u.1 97 99 98) (Nat.zero_le 400) (by
    rintro i u _ hi ⟨h2, hc, hn, hp⟩
    try dsimp only
    have hru : rows (u.1 R) t := by rw [hc R hR2]; exact hr
    have hpi := hp.1 i hi
    have hiff := pO_iff (t := t) (i := i) (q := i) (by omega) hi
    rw [e_Parts_split_15, if_neg (nI_ge hi (by decide)), g_P_partOf, i_P_partOf hi, nI_add]
    cases hF : isF t i
    · refine ⟨u, ⟨h2, hc, ?_, pcs_next hi hF hp⟩, ?_⟩
      · rw [hn, np_succ, hF]; rfl
      · by_cases h1 : u.1 97 i = -1
        · rw [hpi] at h1
          have hd := hiff.mp h1
          have ht : t i = false := by
            rw [isF_iff hi, hd] at hF
            cases htt : t i
            · rfl
            · rw [htt] at hF; cases hF
          rw [hpi, if_pos h1, isSet_run X hR hru hi, r1_s, told_int, ht, if_neg (by decide)]
        · rw [if_neg h1]
    · obtain ⟨ht, hd⟩ := isF_dO hi hF
      have h1 : u.1 97 i = -1 := by rw [hpi]; exact hiff.mpr hd
      obtain ⟨v, e, v2, vc, vP, vS, vZ⟩ := gather_run X (s := u) (n := np t i) (f := i) (D := dO t i) hR hR2 hru (np_lt hi hF) hn (fun q => dO_t) (fun p q => dO_closed) (fun q hq => by rw [hp.1 q hq]; exact pO_iff (by omega) hq) hi ht hd
      have hv96 : v.1 96 0 = nI (np t i) := by rw [vc 96 (by decide)]; exact hn
      refine ⟨su v 96 0 (nI (np t i + 1)), ⟨?_, fun c hc' => ?_, ?_, ?_⟩, ?_⟩
      · show v.2 = s.2
        rw [v2, h2]
      · have hc2 := hc'
        simp only [List.mem_cons, List.not_mem_nil, or_false, not_or] at hc2
        funext j
        rw [su_1, if_neg (by omega), vc c (by simp; omega), hc c hc']
      · rw [su_1, if_pos ⟨rfl, rfl⟩, np_succ, hF, if_pos rfl]
      · refine pcs_add hi hF hp (fun j hj => ?_) (fun j => ?_) (fun j => ?_)
        · rw [su_1, if_neg (by omega), vP j hj]
        · rw [su_1, if_neg (by omega), vS j]
        · rw [su_1, if_neg (by omega), vZ j]
      · rw [if_pos h1, isSet_run X hR hru hi, r1_s, told_int, ht, if_pos rfl, ck_P, e, r0_s, g_P_number, hv96, nI_add, p_P_number]) (x := su (sa s 97 (fun j => if j < 400 then -1 else s.1 97 j)) 96 0 (nI 0)) (by
    refine ⟨rfl, fun c hc' => ?_, ?_, fun j hj => ?_, fun f hf => absurd hf (Nat.not_lt_zero f)⟩
    · simp only [List.mem_cons, List.not_mem_nil, or_false, not_or] at hc'
      funext j
      rw [su_1, if_neg (by omega), sa_1, if_neg (by omega)]
    · rw [su_1, if_pos ⟨rfl, rfl⟩]; rfl
    · have hd : dO t 0 j = false := by
        unfold dO
        rw [decide_eq_false (Nat.not_lt_zero _), Bool.and_false]
      rw [su_1, if_neg (by omega), sa_1, if_pos rfl, if_pos hj, hd, if_neg (by decide)])
  try dsimp only at eq
  refine ⟨st, ?_, h2, hc, hn, hp⟩
  rw [e_Parts_split_0, g_P_partOf, fill_run X s 97 400 (-1) rfl (by decide) (by decide), r0_s, p_P_number, eq, e_Parts_split_15, if_pos (nI_le (by decide) (by decide))]
noncomputable def falb (A : shT) : Nat → Bool := fal A (nI (A.1 5))
theorem findPieces_run (X : qz_X) {s : sT} {q : Nat} {A : shT} (hq : isS q) (ok : okA A) (hC : isC s q A) (v : Int32) : ∃ st : sT, rn 134 0 [some (.ref 0), some (.ref q), some (.int v)] [] (mk X s) = some (none, mk X st) ∧ st.2 = s.2 ∧ (∀ c, c ∉ [87, 88, 89, 96, 97, 98, 99, 100] → st.1 c = s.1 c) ∧ Pcs st (fal A v) ∧ rows (st.1 87) (tin A v) := by
  obtain ⟨u, e, h2, hc, h87, -, h89⟩ := spread_run X hq ok hC v
  obtain ⟨st, e2, k2, kc, kp⟩ := split_run X (R := 89) (s := u) (t := fal A v) (rd_89 X) (by decide) h89
  refine ⟨st, ?_, by rw [k2, h2], fun c hc' => ?_, kp, by rw [kc 87 (by decide)]; exact h87⟩
  · rw [e_C_findPieces_0, g_C_hanging, ck_H, e, r0_s, g_C_parts, g_C_hanging, g_H_fallen, ck_P, e2, r0_s]
  · simp only [List.mem_cons, List.not_mem_nil, or_false, not_or] at hc'
    rw [kc c (by simp; omega), hc c (by omega) (by omega) (by omega)]

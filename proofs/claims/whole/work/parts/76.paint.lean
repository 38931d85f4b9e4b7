/-! laysOver, byOrder, paint -/
def lyT (u : sT) (T : Nat → Bool) (m : Nat) : Prop := ∀ j, j < m → T j = true → u.1 351 (fb_ct T j) = nI j
theorem lpb_k {T : Nat → Bool} {f : Nat → Nat → Bool} {k : Nat} {D : Nat → Bool} {q : Nat} (h : f k q = true → T k = true → D q = true) (D' : Nat → Bool) (hD : ∀ q, D' q = false) (b : Nat) : lpb T f (k + 1) D' q b = lpb T f k D q b := by
  unfold lpb
  rw [hD]
  by_cases e : b = k
  · subst e
    rw [decide_eq_true (show b < b + 1 by omega), decide_eq_false (Nat.lt_irrefl b), decide_eq_true (rfl : b = b), decide_eq_false (show ¬ b = b + 1 by omega)]
    cases hT : T b
    · rfl
    · cases hf : f b q
      · rfl
      · rw [h hf hT]; rfl
  · rw [decide_eq_false e]
    by_cases h2 : b < k
    · rw [decide_eq_true h2, decide_eq_true (show b < k + 1 by omega)]
      cases T b <;> cases f b q <;> simp
    · rw [decide_eq_false h2, decide_eq_false (show ¬ b < k + 1 by omega)]
      simp
theorem pnt_ins {P : Nat → shT} {b q : Nat} (h : pnt P b q = true) : ins (P b) q = true := by
  unfold pnt hol at h
  rw [Bool.and_eq_true] at h
  exact h.2
theorem lvs_ins {P : Nat → shT} {b q : Nat} (h : lvs P b q = true) : ins (P b) q = true := by
  unfold lvs tin at h
  rw [Bool.and_eq_true, Bool.and_eq_true] at h
  exact h.1.1
theorem lyS_D {s u : sT} {T : Nat → Bool} {P : Nat → shT} {k m : Nat} {D D' : Nat → Bool} (h : lyS s u T P k D m) (hD : ∀ q, q < 400 → ins (P k) q = true → D q = D' q) : lyS s u T P k D' m := by
  obtain ⟨h1, h2, h3, h4, h5, h6⟩ := h
  exact ⟨h1, h2, h3, h4, fun q hq b hb => by rw [h5 q hq b hb]; exact lpb_c (fun hf => hD q hq (pnt_ins hf)) b, fun q hq b hb => by rw [h6 q hq b hb]; exact lpb_c (fun hf => hD q hq (lvs_ins hf)) b⟩
theorem lays_run (X : qz_X) {s : sT} {G : gsT} (h : Rel s G) : ∃ u : sT, rn 237 0 [some (.ref 318), none, none, none, none] [] (mk X s) = some (none, mk X u) ∧ lyS s u G.2.1.1 G.2.1.2.1 6 (fun _ => false) 6 ∧ lyT u G.2.1.1 6 := by
  obtain ⟨u0, ⟨z1, z2, z3, z4, z5⟩, e0⟩ := it_up (fun i (u : sT) => rn 237 7 [some (.ref 318), some (.int (nI i)), none, none, none] [] (mk X u)) (fun i u => u.2 = s.2 ∧ (∀ c, c ∉ [318, 349, 350, 351] → u.1 c = s.1 c) ∧ (∀ j, j ≠ 52 → u.1 318 j = s.1 318 j) ∧ u.1 318 52 = nI 0 ∧ ∀ j, j < i → u.1 349 j = nI 0 ∧ u.1 350 j = nI 0) (Nat.zero_le 400) (by
    rintro i u _ hi ⟨a1, a2, a3, a4, a5⟩
    try dsimp only
    refine ⟨su (su u 349 i (nI 0)) 350 i (nI 0), ⟨a1, fun c hc => ?_, fun j hj => ?_, ?_, fun j hj => ⟨?_, ?_⟩⟩, ?_⟩
    · have hc2 := hc
      simp only [List.mem_cons, List.not_mem_nil, or_false, not_or] at hc2
      funext j
      rw [su_1, if_neg (by omega), su_1, if_neg (by omega), a2 c hc]
    · rw [su_1, if_neg (by omega), su_1, if_neg (by omega), a3 j hj]
    · rw [su_1, if_neg (by omega), su_1, if_neg (by omega), a4]
    · rw [su_1, if_neg (by omega), su_1]
      by_cases e : j = i
      · rw [if_pos ⟨rfl, e⟩]
      · rw [if_neg (fun z => e z.2), (a5 j (by omega)).1]
    · rw [su_1]
      by_cases e : j = i
      · rw [if_pos ⟨rfl, e⟩]
      · rw [if_neg (fun z => e z.2), su_1, if_neg (by omega), (a5 j (by omega)).2]
    · rw [e_M_laysOver_7, if_neg (nI_ge hi (by decide)), g_M_paints, w_M_paints hi, g_M_leaves, w_M_leaves hi, nI_add]) (x := su s 318 52 (nI 0)) ⟨rfl, fun c hc => by
      simp only [List.mem_cons, List.not_mem_nil, or_false, not_or] at hc
      funext j
      rw [su_1, if_neg (by omega)], fun j hj => by rw [su_1, if_neg (by omega)], by rw [su_1, if_pos ⟨rfl, rfl⟩], fun j hj => absurd hj (Nat.not_lt_zero j)⟩
  try dsimp only at e0
  obtain ⟨u, ⟨hu, ht⟩, e1⟩ := it_up (fun k (u : sT) => rn 237 36 [some (.ref 318), some (.int (nI k)), none, none, none] [] (mk X u)) (fun k u => lyS s u G.2.1.1 G.2.1.2.1 k (fun _ => false) k ∧ lyT u G.2.1.1 k) (Nat.zero_le 6) (by
    rintro k u _ hk ⟨hu, ht⟩
    try dsimp only
    have hu2 := hu
    obtain ⟨h1, h2, h3, h4, h5, h6⟩ := hu2
    have h321 := (h.2.2.2.2.1.2.1 k hk).2.1
    rw [e_M_laysOver_36, if_neg (nI_ge hk (by decide)), g_M_isTold, i_M_isTold hk, h2 321 (by decide), h321, told_int]
    cases hT : G.2.1.1 k
    · rw [if_neg (by decide), nI_add]
      refine ⟨u, ⟨⟨h1, h2, h3, by rw [h4, fb_ct_succ, hT]; rfl, fun q hq b hb => ?_, fun q hq b hb => ?_⟩, fun j hj hTj => ?_⟩, rfl⟩
      · rw [h5 q hq b hb]
        exact (lpb_k (fun _ z => by rw [hT] at z; cases z) (fun _ => false) (fun _ => rfl) b).symm
      · rw [h6 q hq b hb]
        exact (lpb_k (fun _ z => by rw [hT] at z; cases z) (fun _ => false) (fun _ => rfl) b).symm
      · have : j ≠ k := fun z => by rw [z, hT] at hTj; cases hTj
        exact ht j (by omega) hTj
    · obtain ⟨-, ok, -, hM⟩ := tk_P h (show tk G (nI k) k from ⟨hk, rfl, hT⟩)
      have o1 := ok.1
      have o2 := ok.2.1
      have hct : fb_ct G.2.1.1 k < 6 := by have := fb_ct_le G.2.1.1 k; omega
      have h52 : (su u 351 (fb_ct G.2.1.1 k) (nI k)).1 318 52 = nI (fb_ct G.2.1.1 k) := by rw [su_1, if_neg (by omega), h4]
      have hs0 : lyS s (su (su u 351 (fb_ct G.2.1.1 k) (nI k)) 318 52 (nI (fb_ct G.2.1.1 k + 1))) G.2.1.1 G.2.1.2.1 k (prg 0 0) (k + 1) := by
        refine ⟨h1, fun c hc => ?_, fun j hj => ?_, ?_, fun q hq b hb => ?_, fun q hq b hb => ?_⟩
        · have hc2 := hc
          simp only [List.mem_cons, List.not_mem_nil, or_false, not_or] at hc2
          funext j
          rw [su_1, if_neg (by omega), su_1, if_neg (by omega), h2 c hc]
        · rw [su_1, if_neg (by omega), su_1, if_neg (by omega), h3 j hj]
        · rw [su_1, if_pos ⟨rfl, rfl⟩, fb_ct_succ, hT, if_pos rfl]
        · rw [su_1, if_neg (by omega), su_1, if_neg (by omega), h5 q hq b hb]
          exact lpb_c (fun _ => by unfold prg; simp) b
        · rw [su_1, if_neg (by omega), su_1, if_neg (by omega), h6 q hq b hb]
          exact lpb_c (fun _ => by unfold prg; simp) b
      have ht0 : lyT (su (su u 351 (fb_ct G.2.1.1 k) (nI k)) 318 52 (nI (fb_ct G.2.1.1 k + 1))) G.2.1.1 (k + 1) := by
        intro j hj hTj
        rw [su_1, if_neg (by omega), su_1]
        by_cases e : j = k
        · rw [if_pos ⟨rfl, by rw [e]⟩, e]
        · have hne : fb_ct G.2.1.1 j ≠ fb_ct G.2.1.1 k := fun z => e (fb_ct_kth_one hTj hT z)
          rw [if_neg (fun z => hne z.2), ht j (by omega) hTj]
      obtain ⟨w, ⟨hw, hwt⟩, e2⟩ := it_up (fun y (u : sT) => rn 237 76 [some (.ref 318), some (.int (nI k)), some (.int (nI y)), none, none] [] (mk X u)) (fun y u => lyS s u G.2.1.1 G.2.1.2.1 k (prg y 0) (k + 1) ∧ lyT u G.2.1.1 (k + 1)) (Nat.zero_le ((G.2.1.2.1 k).1 1)) (by
        rintro y w _ hy ⟨hw, hwt⟩
        try dsimp only
        have hMw : isM (gN w) k (G.2.1.2.1 k) := isM_of (fun c p q => hw.2.1 c (by simp; omega)) hM
        obtain ⟨v, ⟨hv, hvt⟩, e3⟩ := it_up (fun x (u : sT) => rn 237 87 [some (.ref 318), some (.int (nI k)), some (.int (nI y)), some (.int (nI x)), none] [] (mk X u)) (fun x u => lyS s u G.2.1.1 G.2.1.2.1 k (prg y x) (k + 1) ∧ lyT u G.2.1.1 (k + 1)) (Nat.zero_le ((G.2.1.2.1 k).1 0)) (fun x a p q hh => by
          obtain ⟨z, g1, g2, g3⟩ := lays_x X hk hT ok hM hy x a p q hh.1
          exact ⟨z, ⟨g1, fun j hj hTj => by rw [g2]; exact hh.2 j hj hTj⟩, g3⟩) (x := w) ⟨hw, hwt⟩
        try dsimp only at e3
        have hMv : isM (gN v) k (G.2.1.2.1 k) := isM_of (fun c p q => hv.2.1 c (by simp; omega)) hM
        refine ⟨v, ⟨lyS_D hv (fun q hq hin => ?_), hvt⟩, ?_⟩
        · have hi := ins_iff.mp hin
          unfold prg
          by_cases a1 : q / 20 < y
          · rw [decide_eq_true a1, decide_eq_true (show q / 20 < y + 1 by omega)]; simp
          · by_cases a2 : q / 20 = y
            · rw [decide_eq_false a1, decide_eq_true a2, decide_eq_true hi.1, decide_eq_true (show q / 20 < y + 1 by omega)]; simp
            · rw [decide_eq_false a1, decide_eq_false a2, decide_eq_false (show ¬ q / 20 < y + 1 by omega)]; simp
        · rw [e_M_laysOver_76, ck_M, M_high_run X (by omega) hMw, r1_s, if_neg (nI_ge hy (by omega)), e3, e_M_laysOver_87, ck_M, M_wide_run X (by omega) hMv, r1_s, if_pos (nI_le (Nat.le_refl _) (by omega)), nI_add]) (x := su (su u 351 (fb_ct G.2.1.1 k) (nI k)) 318 52 (nI (fb_ct G.2.1.1 k + 1))) ⟨hs0, ht0⟩
      try dsimp only at e2
      have hMw : isM (gN w) k (G.2.1.2.1 k) := isM_of (fun c p q => hw.2.1 c (by simp; omega)) hM
      have fin : ∀ q, q < 400 → ins (G.2.1.2.1 k) q = true → prg ((G.2.1.2.1 k).1 1) 0 q = true := by
        intro q hq hin
        have hi := ins_iff.mp hin
        unfold prg
        rw [decide_eq_true hi.2]; simp
      refine ⟨w, ⟨⟨hw.1, hw.2.1, hw.2.2.1, hw.2.2.2.1, fun q hq b hb => ?_, fun q hq b hb => ?_⟩, hwt⟩, ?_⟩
      · rw [hw.2.2.2.2.1 q hq b hb]
        exact (lpb_k (fun z _ => fin q hq (pnt_ins z)) (fun _ => false) (fun _ => rfl) b).symm
      · rw [hw.2.2.2.2.2 q hq b hb]
        exact (lpb_k (fun z _ => fin q hq (lvs_ins z)) (fun _ => false) (fun _ => rfl) b).symm
      · rw [if_pos rfl, g_M_toldOnes, g_M_toldMany, h4, w_M_toldOnes hct, g_M_toldMany, h52, nI_add, p_M_toldMany, e2, e_M_laysOver_76, ck_M, M_high_run X (by omega) hMw, r1_s, if_pos (nI_le (Nat.le_refl _) (by omega)), nI_add]) (x := u0) ⟨⟨z1, z2, z3, z4, fun q hq b hb => by rw [(z5 q hq).1, b_n0]; unfold lpb; simp, fun q hq b hb => by rw [(z5 q hq).2, b_n0]; unfold lpb; simp⟩, fun j hj => absurd hj (Nat.not_lt_zero j)⟩
  try dsimp only at e1
  refine ⟨u, ?_, hu, ht⟩
  rw [e_M_laysOver_0, p_M_toldMany, e0, e_M_laysOver_7, if_pos (nI_le (by decide) (by decide)), e1, e_M_laysOver_36, if_pos (nI_le (by decide) (by decide))]

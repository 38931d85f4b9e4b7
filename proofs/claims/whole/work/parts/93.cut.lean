/-! cutting: the reference; cut -/
theorem looseBy_run (X : qz_X) {s : sT} {k : Nat} {A : shT} (hk : k < 7) (ok : okA A) (hM : isM (gN s) k A) {t : Nat → Bool} {N : Nat} (h8 : N ≤ 8) (hN : ∀ j, j < 400 → t j = true → pnq t j < N) (hh : ∀ j, j < 400 → s.1 358 j = if t j then nI (pnq t j) else -1) {T : Nat} (hT : T < 256) : ∃ z : sT, rn 282 0 [some (.ref 318), some (.int (nI k)), some (.int (nI T)), none] [] (mk X s) = some (some (.int (nI (lzB A t T))), mk X z) ∧ z.2 = s.2 ∧ (∀ c, c ∉ [318, 334, 335, 336, 340] → z.1 c = s.1 c) ∧ (∀ j, j ≠ 39 → j ≠ 40 → j ≠ 41 → z.1 318 j = s.1 318 j) := by
  obtain ⟨u, ⟨u2, uc, ut⟩, e⟩ := it_up (fun q (u : sT) => rn 282 2 [some (.ref 318), some (.int (nI k)), some (.int (nI T)), some (.int (nI q))] [] (mk X u)) (fun q u => u.2 = s.2 ∧ (∀ c, c ≠ 334 → u.1 c = s.1 c) ∧ ∀ j, j < q → u.1 334 j = if tcB A t T j then nI 1 else nI 0) (Nat.zero_le 400) (by
    rintro q u _ hq ⟨u2, uc, ut⟩
    try dsimp only
    have hMu : isM (gN u) k A := isM_of (fun c p q => uc c (by omega)) hM
    have nx : ∀ v : Int32, v = (if tcB A t T q then nI 1 else nI 0) → ∃ y : sT, (y.2 = s.2 ∧ (∀ c, c ≠ 334 → y.1 c = s.1 c) ∧ ∀ j, j < q + 1 → y.1 334 j = if tcB A t T j then nI 1 else nI 0) ∧ rn 282 2 [some (.ref 318), some (.int (nI k)), some (.int (nI T)), some (.int (nI q + nI 1))] [] (mk X (su u 334 q v)) = rn 282 2 [some (.ref 318), some (.int (nI k)), some (.int (nI T)), some (.int (nI (q + 1)))] [] (mk X y) := by
      rintro v rfl
      refine ⟨su u 334 q (if tcB A t T q then nI 1 else nI 0), ⟨u2, fun c hc => ?_, fun j hj => ?_⟩, by rw [nI_add]⟩
      · funext j
        rw [su_1, if_neg (fun e => hc e.1), uc c hc]
      · rw [su_1]
        by_cases e : j = q
        · rw [if_pos ⟨rfl, e⟩, e]
        · rw [if_neg (fun z => e z.2), ut j (by omega)]
    have hho : u.1 358 q = if t q then nI (pnq t q) else -1 := by rw [uc 358 (by decide)]; exact hh q hq
    rw [e_M_looseBy_2, if_neg (nI_ge hq (by decide)), g_M_tin, if_neg (by decide), if_neg (by decide), div20 (by omega), rem20 (by omega), ck_M, M_within_q X hk ok hMu hq, r1_s, told_int]
    cases hi : ins A q
    · rw [if_neg (by decide), M_unit_v, r1_s, if_pos (by decide), w_M_tin hq]
      exact nx _ (by unfold tcB; rw [hi]; rfl)
    · rw [if_pos rfl, g_M_holeOf, i_M_holeOf hq, hho]
      cases ht : t q
      · rw [if_neg (show ¬ (false = true) by decide), if_pos rfl, M_unit_v, r1_s, if_neg (by decide), w_M_tin hq]
        exact nx _ (by unfold tcB; rw [hi, ht]; rfl)
      · have hl := hN q hq ht
        rw [if_pos (show true = true from rfl), if_neg (nI_m1 (by omega)), g_M_holeOf, i_M_holeOf hq, hho, ht, if_pos (show true = true from rfl), M_has_run _ _ (by omega), r1_s, told_int, bt_nat (by omega)]
        cases hb : T.testBit (pnq t q)
        · rw [if_neg (show ¬ (false = true) by decide), M_unit_v, r1_s, if_neg (by decide), w_M_tin hq]
          exact nx _ (by unfold tcB; rw [hi, ht, hb]; rfl)
        · rw [if_pos (show true = true from rfl), M_unit_v, r1_s, if_pos (by decide), w_M_tin hq]
          exact nx _ (by unfold tcB; rw [hi, ht, hb]; rfl)) (x := s) ⟨rfl, fun _ _ => rfl, fun j hj => absurd hj (Nat.not_lt_zero j)⟩
  try dsimp only at e
  have hMu : isM (gN u) k A := isM_of (fun c p q => uc c (by omega)) hM
  obtain ⟨v, ev, v2, vc, -⟩ := M_hang_run X hk ok hMu (t := tcB A t T) ut
  have v334 : ∀ j, j < 400 → v.1 334 j = if tcB A t T j then nI 1 else nI 0 := fun j hj => by rw [vc 334 (by decide) (by decide)]; exact ut j hj
  have hMv : isM (gN v) k A := isM_of (fun c p q => vc c (by omega) (by omega)) hMu
  obtain ⟨z, ez, z2, zc, z3, -, z40, -⟩ := necks_run X hk ok hMv (t := tcB A t T) (a := rim A) (d := fun _ => false) (root := -1) (v := nI 0) v334 (Or.inl ⟨rfl, fun _ _ => rfl⟩) (fun q hq => neg1_lt hq)
  have hle : fb_ct (hB (tcB A t T) (rim A)) 400 ≤ fb_ct (tcB A t T) 400 := fb_ct_sub (fun j _ hj => hB_tin hj)
  refine ⟨z, ?_, by rw [z2, v2, u2], fun c hc => ?_, fun j h1 h2 h3 => ?_⟩
  · rw [e_M_looseBy_0, e, e_M_looseBy_2, if_pos (nI_le (by decide) (by decide)), ck_M, tinMany_run X ut, r1_s, ck_M, ev, r1_s, ck_M, ez, r0_s, g_M_greatest, z40, pk_sub hle, nI_add]
    rfl
  · simp only [List.mem_cons, List.not_mem_nil, or_false, not_or] at hc
    rw [zc c (by simp; omega), vc c (by omega) (by omega), uc c (by omega)]
  · rw [z3 j h1 h2 h3, vc 318 (by decide) (by decide), uc 318 (by decide)]
/-- the frame of the reference's cutting -/
def mcF (s u : sT) : Prop := u.2 = s.2 ∧ (∀ c, c ∉ [318, 334, 335, 336, 340, 356, 357, 358, 359] → u.1 c = s.1 c) ∧ (∀ j, j ≠ 39 → j ≠ 40 → j ≠ 41 → u.1 318 j = s.1 318 j)
theorem mcF.tr {s u v : sT} (h : mcF s u) (g : mcF u v) : mcF s v := ⟨by rw [g.1, h.1], fun c hc => by rw [g.2.1 c hc, h.2.1 c hc], fun j a b c => by rw [g.2.2 j a b c, h.2.2 j a b c]⟩
theorem mcF_su {s : sT} {c k : Nat} {x : Int32} (hc : c ∈ [356, 357, 358, 359]) : mcF s (su s c k x) := by
  simp only [List.mem_cons, List.not_mem_nil, or_false] at hc
  refine ⟨rfl, fun c' hc' => ?_, fun j _ _ _ => ?_⟩
  · simp only [List.mem_cons, List.not_mem_nil, or_false, not_or] at hc'
    funext j
    rw [su_1, if_neg (by omega)]
  · rw [su_1, if_neg (by omega)]
theorem M_cut_loop (X : qz_X) {s : sT} {k : Nat} {A : shT} (hk : k < 7) (ok : okA A) (hM : isM (gN s) k A) {t : Nat → Bool} (hP : PcsM s t) {N : Nat} (hN : np t 400 = N) (h8 : N ≤ 8) (v : Int32) : ∃ z : sT, rn 283 59 [some (.ref 318), some (.int (nI k)), some (.int v), some (.int (nI N)), some (.int (nI 0)), none, none, none] [] (mk X s) = (if v = 0 then some (some (.int (nI (ahB (lzB A t) N 0))), mk X z) else rn 283 243 [some (.ref 318), none, some (.int v), some (.int (nI N)), none, some (.int (nI 0)), some (.int (nI 0)), none] [] (mk X z)) ∧ mcF s z ∧ ∀ j, j < 2 ^ N → (j ≠ 0 → z.1 356 j = nI (lzB A t j)) ∧ z.1 357 j = nI (ahB (lzB A t) N j) := by
  have hp := pow_8 h8
  have hp0 := Nat.two_pow_pos N
  have hl := lzB_le A t
  have hpn : ∀ j, j < 400 → t j = true → pnq t j < N := fun j hj ht => by rw [← hN]; exact pnq_lt hj ht
  have h337 : ∀ j, j < 400 → s.1 337 j = if t j then nI (pnq t j) else -1 := fun j hj => by rw [hP.2.1 j hj, pO_at hj]
  obtain ⟨u, ⟨hu, uh⟩, e1⟩ := it_up (fun q (u : sT) => rn 283 59 [some (.ref 318), some (.int (nI k)), some (.int v), some (.int (nI N)), some (.int (nI q)), none, none, none] [] (mk X u)) (fun q u => mcF s u ∧ ∀ j, j < q → u.1 358 j = if t j then nI (pnq t j) else -1) (Nat.zero_le 400) (by
    rintro q u _ hq ⟨hu, uh⟩
    try dsimp only
    rw [e_M_cut_59, if_neg (nI_ge hq (by decide)), g_M_holeOf, g_M_piece, i_M_piece hq, hu.2.1 337 (by decide), h337 q hq, w_M_holeOf hq, nI_add]
    refine ⟨_, ⟨hu.tr (mcF_su (by decide)), fun j hj => ?_⟩, rfl⟩
    rw [su_1]
    by_cases e : j = q
    · rw [if_pos ⟨rfl, e⟩, e]
    · rw [if_neg (fun z => e z.2), uh j (by omega)]) (x := s) ⟨⟨rfl, fun _ _ => rfl, fun _ _ _ _ => rfl⟩, fun j hj => absurd hj (Nat.not_lt_zero j)⟩
  try dsimp only at e1
  have hMf : ∀ w : sT, mcF s w → isM (gN w) k A := fun w hw => isM_of (fun c p q => hw.2.1 c (by simp; omega)) hM
  obtain ⟨z, ⟨hz, zh, zt⟩, e2⟩ := it_dn (fun i (z : sT) => rn 283 106 [some (.ref 318), some (.int (nI k)), some (.int v), some (.int (nI N)), some (.int (nI (2 ^ N - 1))), some (.int (nI i + (-1))), none, none] [] (mk X z)) (fun i z => mcF s z ∧ (∀ j, j < 400 → z.1 358 j = if t j then nI (pnq t j) else -1) ∧ (i = 2 ^ N → z.1 357 (2 ^ N - 1) = nI 0) ∧ ∀ j, i ≤ j → j < 2 ^ N → (j ≠ 0 → z.1 356 j = nI (lzB A t j)) ∧ z.1 357 j = nI (ahB (lzB A t) N j)) (2 ^ N) (by
    rintro i w hi ⟨hw, wh, w0, wt⟩
    try dsimp only
    rw [pk_m1, e_M_cut_106, if_neg (nI_pos (by omega)), g_M_loose]
    -- what is loose
    have lo : ∃ a : sT, mcF s a ∧ (∀ j, j < 400 → a.1 358 j = if t j then nI (pnq t j) else -1) ∧ a.1 357 = w.1 357 ∧ (∀ j, j ≠ i → a.1 356 j = w.1 356 j) ∧ (i ≠ 0 → a.1 356 i = nI (lzB A t i)) ∧ (if nI i = 0 then qz_is (mk X w) 356 (nI i) (nI 0) (fun w9 => (if nI (2 ^ N - 1) ≤ nI i then rn 283 154 [some (.ref 318), some (.int (nI k)), some (.int v), some (.int (nI N)), some (.int (nI (2 ^ N - 1))), some (.int (nI i)), some (.int (nI 0)), none] [] w9 else qz_ga w9.1 318 12 58 (fun q10 => qz_is w9 q10 (nI i) (nI 1000000000) (fun w11 => rn 283 154 [some (.ref 318), some (.int (nI k)), some (.int v), some (.int (nI N)), some (.int (nI (2 ^ N - 1))), some (.int (nI i)), some (.int (nI 0)), none] [] w11)))) else qz_ck (mk X w).1 318 12 (qz_r1 (rn 282 0 [some (.ref 318), some (.int (nI k)), some (.int (nI i)), none] [] (mk X w)) (fun x5 w4 => qz_is w4 356 (nI i) x5 (fun w6 => (if nI (2 ^ N - 1) ≤ nI i then rn 283 154 [some (.ref 318), some (.int (nI k)), some (.int v), some (.int (nI N)), some (.int (nI (2 ^ N - 1))), some (.int (nI i)), some (.int (nI 0)), none] [] w6 else qz_ga w6.1 318 12 58 (fun q7 => qz_is w6 q7 (nI i) (nI 1000000000) (fun w8 => rn 283 154 [some (.ref 318), some (.int (nI k)), some (.int v), some (.int (nI N)), some (.int (nI (2 ^ N - 1))), some (.int (nI i)), some (.int (nI 0)), none] [] w8))))))) = (if nI (2 ^ N - 1) ≤ nI i then rn 283 154 [some (.ref 318), some (.int (nI k)), some (.int v), some (.int (nI N)), some (.int (nI (2 ^ N - 1))), some (.int (nI i)), some (.int (nI 0)), none] [] (mk X a) else rn 283 154 [some (.ref 318), some (.int (nI k)), some (.int v), some (.int (nI N)), some (.int (nI (2 ^ N - 1))), some (.int (nI i)), some (.int (nI 0)), none] [] (mk X (su a 357 i (nI 1000000000)))) := by
      by_cases h0 : i = 0
      · subst h0
        refine ⟨su w 356 0 (nI 0), hw.tr (mcF_su (by decide)), fun j hj => by rw [su_1, if_neg (by omega)]; exact wh j hj, by funext j; rw [su_1, if_neg (by omega)], fun j hj => by rw [su_1, if_neg (fun e => hj e.2)], fun h => absurd rfl h, ?_⟩
        rw [if_pos nI_0, w_M_loose (by omega), g_M_onward, w_M_onward (by omega)]
      · obtain ⟨b, eb, b2, bc, b3⟩ := looseBy_run X hk ok (hMf w hw) h8 hpn wh (T := i) (by omega)
        have hwb : mcF w b := ⟨b2, fun c hc => bc c (by simp only [List.mem_cons, List.not_mem_nil, or_false, not_or] at hc ⊢; omega), b3⟩
        refine ⟨su b 356 i (nI (lzB A t i)), (hw.tr hwb).tr (mcF_su (by decide)), fun j hj => by rw [su_1, if_neg (by omega), bc 358 (by decide)]; exact wh j hj, by funext j; rw [su_1, if_neg (by omega), bc 357 (by decide)], fun j hj => by rw [su_1, if_neg (fun e => hj e.2), bc 356 (by decide)], fun _ => by rw [su_1, if_pos ⟨rfl, rfl⟩], ?_⟩
        rw [if_neg (nI_ne0 (by omega) (by omega)), ck_M, eb, r1_s, w_M_loose (by omega), g_M_onward, w_M_onward (by omega)]
    obtain ⟨a, ha, ah, a357, ao, ai, ea⟩ := lo
    rw [ea]
    by_cases hall : i = 2 ^ N - 1
    · -- the full set: nothing more
      rw [if_pos (nI_le (by omega) (by omega))]
      have hb : ∀ j, j < N → i.testBit j = true := fun j hj => by rw [hall, Nat.testBit_two_pow_sub_one, decide_eq_true hj]
      obtain ⟨x, -, ex⟩ := it_up (fun m (_ : Unit) => rn 283 154 [some (.ref 318), some (.int (nI k)), some (.int v), some (.int (nI N)), some (.int (nI (2 ^ N - 1))), some (.int (nI i)), some (.int (nI m)), none] [] (mk X a)) (fun _ _ => True) (Nat.zero_le N) (by
        rintro m _ _ hm _
        try dsimp only
        refine ⟨(), trivial, ?_⟩
        rw [e_M_cut_154, if_neg (nI_ge hm (by omega)), M_has_run _ _ (by omega), r1_s, told_int, bt_nat (by omega), hb m hm, if_pos rfl, nI_add]) (x := ()) trivial
      try dsimp only at ex
      refine ⟨a, ⟨ha, ah, fun h => absurd h (by omega), fun j h1 h2 => ?_⟩, ?_⟩
      · have e : j = i := by omega
        subst e
        refine ⟨ai, ?_⟩
        rw [a357, hall, ahB_all]
        exact w0 (by omega)
      · rw [ex, e_M_cut_154, if_pos (nI_le (Nat.le_refl N) (by omega))]
    · rw [if_neg (nI_ge (by omega) (by omega))]
      obtain ⟨b, ⟨hb, bh, b356, bo, bi⟩, eb⟩ := it_up (fun m (z : sT) => rn 283 154 [some (.ref 318), some (.int (nI k)), some (.int v), some (.int (nI N)), some (.int (nI (2 ^ N - 1))), some (.int (nI i)), some (.int (nI m)), none] [] (mk X z)) (fun m z => mcF s z ∧ (∀ j, j < 400 → z.1 358 j = if t j then nI (pnq t j) else -1) ∧ z.1 356 = a.1 356 ∧ (∀ j, j ≠ i → z.1 357 j = a.1 357 j) ∧ z.1 357 i = nI (mnk (wsB (lzB A t) N) 1000000000 i m)) (Nat.zero_le N) (by
        rintro m z _ hm ⟨hz, zh, z356, zo, zi⟩
        try dsimp only
        have hs : mnk (wsB (lzB A t) N) 1000000000 i (m + 1) = if i.testBit m then mnk (wsB (lzB A t) N) 1000000000 i m else if wsB (lzB A t) N (i ||| 2 ^ m) < mnk (wsB (lzB A t) N) 1000000000 i m then wsB (lzB A t) N (i ||| 2 ^ m) else mnk (wsB (lzB A t) N) 1000000000 i m := rfl
        rw [e_M_cut_154, if_neg (nI_ge hm (by omega)), M_has_run _ _ (by omega), r1_s, told_int, bt_nat (by omega), nI_add]
        cases hb : i.testBit m
        · have ho := or_bit (show i < 2 ^ N by omega) hm hb
          have m1 := mnk_le (g := wsB (lzB A t) N) (F := 1000000000) (S := i) m
          have m2 := wsB_le hl N (i ||| 2 ^ m)
          have t1 : z.1 356 (i ||| 2 ^ m) = nI (lzB A t (i ||| 2 ^ m)) := by
            rw [z356, ao _ (by omega)]
            exact (wt _ (by omega) ho.2).1 (by omega)
          have t2 : z.1 357 (i ||| 2 ^ m) = nI (ahB (lzB A t) N (i ||| 2 ^ m)) := by
            rw [zo _ (by omega), a357]
            exact (wt _ (by omega) ho.2).2
          have l1 := hl (i ||| 2 ^ m)
          have l2 := ahB_le (lzB A t) N (i ||| 2 ^ m)
          rw [hb, if_neg (by decide)] at hs
          rw [if_neg (show ¬ (false = true) by decide), g_M_onward, g_M_onward, i_M_onward (by omega), zi, g_M_loose, or1 (by omega), i_M_loose (by omega), t1, g_M_onward, i_M_onward (by omega), t2, max_run _ (by omega) (by omega), r1_s, min_run _ (by omega) (by have := mxN_le l1 l2; omega), r1_s, w_M_onward (by omega)]
          refine ⟨_, ⟨hz.tr (mcF_su (by decide)), fun j hj => by rw [su_1, if_neg (by omega)]; exact zh j hj, ?_, fun j hj => ?_, ?_⟩, rfl⟩
          · funext j
            rw [su_1, if_neg (by omega), z356]
          · rw [su_1, if_neg (fun e => hj e.2), zo j hj]
          · rw [su_1, if_pos ⟨rfl, rfl⟩, hs]
            rfl
        · rw [hb, if_pos rfl] at hs
          rw [if_pos (show true = true from rfl)]
          exact ⟨z, ⟨hz, zh, z356, zo, by rw [hs]; exact zi⟩, rfl⟩) (x := su a 357 i (nI 1000000000)) ⟨ha.tr (mcF_su (by decide)), fun j hj => by rw [su_1, if_neg (by omega)]; exact ah j hj, by funext j; rw [su_1, if_neg (by omega)], fun j hj => by rw [su_1, if_neg (fun e => hj e.2)], by rw [su_1, if_pos ⟨rfl, rfl⟩]; rfl⟩
      try dsimp only at eb
      refine ⟨b, ⟨hb, bh, fun h => absurd h (by omega), fun j h1 h2 => ?_⟩, ?_⟩
      · by_cases e : j = i
        · subst e
          refine ⟨fun h => by rw [b356]; exact ai h, ?_⟩
          rw [bi, ahB_far hl (by decide) (by omega)]
        · rw [b356, bo j e, ao j e, a357]
          exact wt j (by omega) h2
      · rw [eb, e_M_cut_154, if_pos (nI_le (Nat.le_refl N) (by omega))]) (x := su u 357 (2 ^ N - 1) (nI 0)) ⟨hu.tr (mcF_su (by decide)), fun j hj => by rw [su_1, if_neg (by omega)]; exact uh j hj, fun _ => by rw [su_1, if_pos ⟨rfl, rfl⟩], fun j h1 h2 => absurd h1 (by omega)⟩
  try dsimp only at e2
  refine ⟨z, ?_, hz, fun j hj => zt.2 j (Nat.zero_le j) hj⟩
  rw [e1, e_M_cut_59, if_pos (nI_le (by decide) (by decide)), g_M_onward, one_8 N (by omega), w_M_onward (by omega)]
  rw [show (nI (2 ^ N - 1) : Int32) = nI (2 ^ N) + (-1) from by rw [← pk_m1 (2 ^ N - 1), show 2 ^ N - 1 + 1 = 2 ^ N by omega]] at e2 ⊢
  rw [e2, e_M_cut_106, if_pos (by decide), g_M_onward, i_M_onward (by decide), (zt.2 0 (Nat.le_refl 0) hp0).2]
theorem M_plan_run (X : qz_X) {s : sT} {l : Nat → Nat} (hl : ∀ T, l T ≤ 800) {N : Nat} (h8 : N ≤ 8) (h1 : ∀ j, j < 2 ^ N → (j ≠ 0 → s.1 356 j = nI (l j)) ∧ s.1 357 j = nI (ahB l N j)) {i : Nat} (hi : i < N) : ∃ z : sT, rn 283 243 [some (.ref 318), none, some (.int (nI (10 + i))), some (.int (nI N)), none, some (.int (nI 0)), some (.int (nI 0)), none] [] (mk X s) = some (some (.int (nI (chB l N (fsB l N i)))), mk X z) ∧ z.2 = s.2 ∧ (∀ c, c ≠ 359 → z.1 c = s.1 c) := by
  have hp := pow_8 h8
  have hp0 := Nat.two_pow_pos N
  obtain ⟨z, ⟨z2, zc, zt⟩, e⟩ := it_up (fun m (z : sT) => rn 283 243 [some (.ref 318), none, some (.int (nI (10 + i))), some (.int (nI N)), none, some (.int (nI (fsB l N m))), some (.int (nI m)), none] [] (mk X z)) (fun m z => z.2 = s.2 ∧ (∀ c, c ≠ 359 → z.1 c = s.1 c) ∧ ∀ j, j < m → z.1 359 j = nI (chB l N (fsB l N j))) (Nat.zero_le N) (by
    rintro m z _ hm ⟨z2, zc, zt⟩
    try dsimp only
    obtain ⟨a1, a2, a3⟩ := fsB_ok hl m (show m ≤ N by omega)
    obtain ⟨b1, b2, b3⟩ := fsB_ch hl hm
    have tb : ∀ T, T < 2 ^ N → (T ≠ 0 → z.1 356 T = nI (l T)) ∧ z.1 357 T = nI (ahB l N T) := fun T hT => by rw [zc 356 (by decide), zc 357 (by decide)]; exact h1 T hT
    have h0 := (tb 0 hp0).2
    have la := ahB_le l N 0
    have test : ∀ k, k < N → (fsB l N m).testBit k = false → z.1 356 (fsB l N m ||| 2 ^ k) = nI (l (fsB l N m ||| 2 ^ k)) ∧ z.1 357 (fsB l N m ||| 2 ^ k) = nI (ahB l N (fsB l N m ||| 2 ^ k)) ∧ fsB l N m ||| 2 ^ k < 256 := fun k hk hb => by
      have ho := or_bit a1 hk hb
      exact ⟨(tb _ ho.2).1 (by omega), (tb _ ho.2).2, by omega⟩
    have find : rn 283 252 [some (.ref 318), none, some (.int (nI (10 + i))), some (.int (nI N)), none, some (.int (nI (fsB l N m))), some (.int (nI m)), some (.int (nI 0))] [] (mk X z) = rn 283 252 [some (.ref 318), none, some (.int (nI (10 + i))), some (.int (nI N)), none, some (.int (nI (fsB l N m))), some (.int (nI m)), some (.int (nI (chB l N (fsB l N m))))] [] (mk X z) := by
      obtain ⟨x, -, e⟩ := it_up (fun k (_ : Unit) => rn 283 252 [some (.ref 318), none, some (.int (nI (10 + i))), some (.int (nI N)), none, some (.int (nI (fsB l N m))), some (.int (nI m)), some (.int (nI k))] [] (mk X z)) (fun _ _ => True) (Nat.zero_le (chB l N (fsB l N m))) (by
        rintro k _ _ hk _
        try dsimp only
        refine ⟨(), trivial, ?_⟩
        rw [e_M_cut_252, M_has_run _ _ (by omega), r1_s, told_int, bt_nat (by omega), nI_add]
        cases hb : (fsB l N m).testBit k
        · obtain ⟨t1, t2, t3⟩ := test k (by omega) hb
          have l1 := hl (fsB l N m ||| 2 ^ k)
          have l2 := ahB_le l N (fsB l N m ||| 2 ^ k)
          rw [if_neg (by decide), g_M_loose, or1 (by omega), i_M_loose t3, t1, g_M_onward, i_M_onward t3, t2, max_run _ (by omega) (by omega), r1_s, g_M_onward, i_M_onward (by decide), h0]
          rcases chB_no hk with g | g
          · rw [hb] at g; cases g
          · have g : ahB l N 0 < mxN (l (fsB l N m ||| 2 ^ k)) (ahB l N (fsB l N m ||| 2 ^ k)) := g
            rw [if_neg (nI_ge g (by have := mxN_le l1 l2; omega))]
        · rw [if_pos rfl]) (x := ()) trivial
      exact e
    obtain ⟨t1, t2, t3⟩ := test _ b1 b2
    have l1 := hl (fsB l N m ||| 2 ^ chB l N (fsB l N m))
    have l2 := ahB_le l N (fsB l N m ||| 2 ^ chB l N (fsB l N m))
    have b3 : mxN (l (fsB l N m ||| 2 ^ chB l N (fsB l N m))) (ahB l N (fsB l N m ||| 2 ^ chB l N (fsB l N m))) ≤ ahB l N 0 := b3
    refine ⟨su z 359 m (nI (chB l N (fsB l N m))), ⟨z2, fun c hc => ?_, fun j hj => ?_⟩, ?_⟩
    · funext j
      rw [su_1, if_neg (fun e => hc e.1), zc c hc]
    · rw [su_1]
      by_cases e : j = m
      · rw [if_pos ⟨rfl, e⟩, e]
      · rw [if_neg (fun z => e z.2), zt j (by omega)]
    · rw [e_M_cut_243, if_neg (nI_ge hm (by omega)), find, e_M_cut_252, M_has_run _ _ (by omega), r1_s, told_int, bt_nat (by omega), b2, if_neg (by decide), g_M_loose, or1 (by omega), i_M_loose t3, t1, g_M_onward, i_M_onward t3, t2, max_run _ (by omega) (by omega), r1_s, g_M_onward, i_M_onward (by decide), h0, if_pos (nI_le b3 (by omega)), g_M_plan, w_M_plan (by omega), nI_add]
      rfl) (x := s) ⟨rfl, fun _ _ => rfl, fun j hj => absurd hj (Nat.not_lt_zero j)⟩
  try dsimp only at e
  refine ⟨z, ?_, z2, zc⟩
  refine Eq.trans e ?_
  rw [e_M_cut_243, if_pos (nI_le (Nat.le_refl N) (by omega)), g_M_plan, pk_sub (by omega), Nat.add_sub_cancel_left, i_M_plan (by omega), zt i hi]
theorem scr_c39 {j : Nat} (h : scr 318 j = false) : j ≠ 39 ∧ j ≠ 40 ∧ j ≠ 41 ∧ j ≠ 36 := by
  refine ⟨?_, ?_, ?_, ?_⟩ <;> (intro e; subst e; revert h; decide)
theorem sim_cut (X : qz_X) (s : sT) (G : gsT) (h : Rel s G) (v vw : Int32) : Sim X s 281 283 [some (.ref 0), some (.int v), some (.int vw), none] [some (.ref 318), some (.int v), some (.int vw), none, none, none, none, none] := by
  rcases tk_or G v with ⟨k, hk⟩ | hn
  · obtain ⟨hS, ok, hC, hM⟩ := tk_P h hk
    have hk6 := hk.1
    have hv : v = nI k := hk.2.1
    subst hv
    obtain ⟨t1, a1, a2, a3, aP⟩ := findHoles_run X hS ok hC
    have f1 : fr s t1 := fr_of [125, 96, 97, 98, 99, 100] (by rw [a2]) a3 (by decide)
    have h1 := h.fr f1
    obtain ⟨N, hN⟩ : ∃ N, np (hol (G.2.1.2.1 k) (nI ((G.2.1.2.1 k).1 5))) 400 = N := ⟨_, rfl⟩
    have hnl := np_le (hol (G.2.1.2.1 k) (nI ((G.2.1.2.1 k).1 5))) (i := 400) (by decide)
    have c96 : t1.1 96 0 = nI N := by rw [aP.1, hN]
    have cls : rn 281 0 [some (.ref 0), some (.int (nI k)), some (.int vw), none] [] (mk X s) = (if nI N ≤ (nI 8) then (if vw = 0 then rn 281 57 [some (.ref 0), none, some (.int vw), some (.ref (s.2.2 k))] [] (mk X t1) else (if vw < (nI 10) then some (some (.int (-1)), mk X t1) else (if vw - (nI 10) < nI N then rn 281 57 [some (.ref 0), none, some (.int vw), some (.ref (s.2.2 k))] [] (mk X t1) else some (some (.int (-1)), mk X t1)))) else some (some (.int (-1)), mk X t1)) := by
      rw [e_C_cut_0, ck_C, C_told_yes X h hk, r3_r, ck_C, a1, r0_s, g_C_parts, g_P_number, c96, g_C_parts, g_P_number, c96]
    have ref : ∀ s1 : sT, Rel s1 G → ∃ t2 : sT, rn 283 0 [some (.ref 318), some (.int (nI k)), some (.int vw), none, none, none, none, none] [] (mk X s1) = (if (nI 8) < nI N then some (some (.int (-1)), mk X t2) else (if vw = 0 then rn 283 59 [some (.ref 318), some (.int (nI k)), some (.int vw), some (.int (nI N)), some (.int (nI 0)), none, none, none] [] (mk X t2) else (if (if vw < nI 10 then nI 0 else if nI (9 + N) < vw then nI 0 else nI 1 : Int32) = 0 then some (some (.int (-1)), mk X t2) else rn 283 59 [some (.ref 318), some (.int (nI k)), some (.int vw), some (.int (nI N)), some (.int (nI 0)), none, none, none] [] (mk X t2)))) ∧ fr s1 t2 ∧ PcsM t2 (hol (G.2.1.2.1 k) (nI ((G.2.1.2.1 k).1 5))) ∧ isM (gN t2) k (G.2.1.2.1 k) := by
      intro s1 hs1
      obtain ⟨-, -, -, hM1⟩ := tk_P hs1 hk
      obtain ⟨u, t2, b1, b2, b3, b4, b5, bP, -⟩ := M_holes_run X (show k < 7 by omega) ok hM1
      have f2 : fr s1 t2 := fr_m [334, 336, 337, 338, 339] (by rw [b3]) b4 (by decide) (fun j hj => b5 j (scr_36 hj))
      have c36 : t2.1 318 36 = nI N := by rw [bP.1, hN]
      refine ⟨t2, ?_, f2, bP, (tk_P (hs1.fr f2) hk).2.2.2⟩
      rw [e_M_cut_0, ck_M, M_sheet_yes X hs1 hk, r1_s, if_neg (by decide), ck_M, M_in_run X (by omega) hM1, r1_s, ck_M, b1, r0_s, ck_M, b2, r0_s, g_M_pieces, c36, isIn_run, r1_s, nI_add]
    have mcf : ∀ a b : sT, mcF a b → fr a b := fun a b hab => fr_m [334, 335, 336, 340, 356, 357, 358, 359] (by rw [hab.1]) hab.2.1 (by decide) (fun j hj => hab.2.2 j (scr_c39 hj).1 (scr_c39 hj).2.1 (scr_c39 hj).2.2.1)
    by_cases h8 : N ≤ 8
    · rw [if_pos (nI_le h8 (by decide))] at cls
      obtain ⟨hS1, ok1, hC1, -⟩ := tk_P h1 hk
      have hp0 : s.2.2 k = t1.2.2 k := by rw [a2]
      rw [← hp0] at hC1 hS1
      obtain ⟨z, ez, z2, zc, z121, z118⟩ := plan_run X hS1 ok hC1 aP hN h8
      have f3 : fr t1 z := fr_of [86, 90, 91, 92, 93, 94, 95, 118, 119, 120, 121, 122, 123] (by rw [z2]) zc (by decide)
      have f13 := f1.tr f3
      have c57 : rn 281 57 [some (.ref 0), none, some (.int vw), some (.ref (s.2.2 k))] [] (mk X t1) = (if vw = 0 then some (some (.int (nI (ahB (lzB (G.2.1.2.1 k) (hol (G.2.1.2.1 k) (nI ((G.2.1.2.1 k).1 5)))) N 0))), mk X z) else qz_ia (mk X z).1 118 (vw - (nI 10)) (fun x7 => some (some (.int x7), mk X z))) := by
        rw [e_C_cut_57, g_C_cutting, g_C_parts, g_C_hanging, ck_U, ez, r0_s, g_C_cutting, ck_U, e_Cutting_greatest_0, g_U_ahead, i_U_ahead (by decide), z121, r1_s, g_C_cutting, g_U_places]
      by_cases hv0 : vw = 0
      · rw [if_pos hv0, c57, if_pos hv0] at cls
        obtain ⟨t2, e2, f2, bP, hM2⟩ := ref z (h.fr f13)
        obtain ⟨y, ey, hy, -⟩ := M_cut_loop X (show k < 7 by omega) ok hM2 bP hN h8 vw
        rw [if_neg (nI_nlt h8 (by omega)), if_pos hv0, ey, if_pos hv0] at e2
        exact sim_q h cls f13 e2 (f2.tr (mcf _ _ hy))
      · rw [if_neg hv0] at cls
        rcases Classical.em (∃ i, i < N ∧ vw = nI (10 + i)) with ⟨i, hi, rfl⟩ | hno
        · have hsub : nI (10 + i) - nI 10 = nI i := by rw [pk_sub (by omega), Nat.add_sub_cancel_left]
          rw [if_neg (nI_nlt (by omega) (by omega)), hsub, if_pos (nI_lt hi (by omega)), c57, if_neg hv0, hsub, i_U_places (by omega), z118 i hi] at cls
          obtain ⟨t2, e2, f2, bP, hM2⟩ := ref z (h.fr f13)
          obtain ⟨y, ey, hy, yt⟩ := M_cut_loop X (show k < 7 by omega) ok hM2 bP hN h8 (nI (10 + i))
          obtain ⟨x, ex, x2, xc⟩ := M_plan_run X (lzB_le _ _) h8 yt hi
          have f4 : fr y x := fr_of [359] (by rw [x2]) (fun c hc => xc c (fun z => hc (by rw [z]; decide))) (by decide)
          rw [if_neg (nI_nlt h8 (by omega)), if_neg hv0, if_neg (show ¬ nI (10 + i) < nI 10 from nI_nlt (by omega) (by omega)), if_neg (show ¬ nI (9 + N) < nI (10 + i) from nI_nlt (by omega) (by omega)), if_neg (by decide), ey, if_neg hv0, ex] at e2
          exact sim_q h cls f13 e2 ((f2.tr (mcf _ _ hy)).tr f4)
        · obtain ⟨t2, e2, f2, -, -⟩ := ref t1 h1
          rw [if_neg (nI_nlt h8 (by omega)), if_neg hv0] at e2
          by_cases q1 : vw < nI 10
          · rw [if_pos q1] at cls
            rw [if_pos (by rw [if_pos q1, nI_0])] at e2
            exact sim_q h cls f1 e2 f2
          · have v0 : ¬ vw < 0 := fun z => q1 (by
              rw [fa_lt] at z ⊢
              have : (nI 10).toInt = 10 := by decide
              have : (0 : Int32).toInt = 0 := by decide
              omega)
            obtain ⟨j, hj, rfl⟩ := nI_of v0
            have q2 := q1
            rw [nI_ltI hj (by decide)] at q2
            have hge : ¬ j - 10 < N := fun g => hno ⟨j - 10, g, by rw [show 10 + (j - 10) = j by omega]⟩
            rw [if_neg q1, pk_sub (by omega), if_neg (nI_nlt (by omega) (by omega))] at cls
            rw [if_pos (by rw [if_neg q1, if_pos (nI_lt (by omega) hj), nI_0])] at e2
            exact sim_q h cls f1 e2 f2
    · obtain ⟨t2, e2, f2, -, -⟩ := ref t1 h1
      rw [if_neg (nI_ge (by omega) (by omega))] at cls
      rw [if_pos (nI_lt (by omega) (by omega))] at e2
      exact sim_q h cls f1 e2 f2
  · refine sim_q (r := .int (-1)) h (s1 := s) (s2 := s) ?_ (fr.rf s) ?_ (fr.rf s)
    · rw [e_C_cut_0, ck_C, C_told_no X h hn, r3_n]
    · rw [e_M_cut_0, ck_M, M_sheet_no X h hn, r1_s, if_pos nI_0]

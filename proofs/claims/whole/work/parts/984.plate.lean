/-! plate -/
theorem plate_no (X : qz_X) {s : sT} {G : gsT} (h : Rel s G) {v v2 : Int32} (hn : ¬ ((∃ k, k < 6 ∧ v = nI k) ∧ ∃ n, n ≤ G.1.1 ∧ v2 = nI n)) : rn 71 0 [some (.ref 0), some (.int v), some (.int v2), none, none] [] (mk X s) = some (some (.int (-2)), mk X (su s 2 0 (s.1 2 0 + nI 1))) := by
  obtain ⟨h1, ⟨t1, t2, t3, t4⟩, h3, h4, h5, h6⟩ := id h
  have hr : (qz_ga (mk X s).1 0 11 3 (fun q1 => qz_ia (mk X s).1 q1 (nI 0) (fun x2 => qz_is (mk X s) q1 (nI 0) (x2 + (nI 1)) (fun w3 => some (some (.int (-2)), w3)))) : Option qz_R) = some (some (.int (-2)), mk X (su s 2 0 (s.1 2 0 + nI 1))) := by
    rw [g_C_refused, i_C_refused (by decide), w_C_refused (by decide)]
  rw [e_C_plate_0]
  by_cases a : v2 < 0
  · rw [if_pos a, hr]
  · obtain ⟨n, hn1, rfl⟩ := nI_of a
    rw [if_neg a, g_C_tapeLength, t2]
    by_cases b : n ≤ G.1.1
    · rw [if_neg (nI_nlt b (by omega))]
      by_cases c : v < 0
      · rw [if_pos c, hr]
      · obtain ⟨k, hk1, rfl⟩ := nI_of c
        rw [if_neg c]
        by_cases d : k < 6
        · exact absurd ⟨⟨k, d, rfl⟩, n, b, rfl⟩ hn
        · rw [if_neg (nI_nlt (by omega) hk1), hr]
    · rw [if_pos (nI_lt (by omega) hn1), hr]
theorem plate_mno (X : qz_X) {s : sT} {n : Nat} (hn : n ≤ 1200) (h14 : s.1 318 14 = nI n) {v v2 : Int32} (hh : ¬ ((∃ k, k < 6 ∧ v = nI k) ∧ ∃ m, m ≤ n ∧ v2 = nI m)) : rn 112 0 [some (.ref 318), some (.int v), some (.int v2), none] [] (mk X s) = some (some (.int (-2)), mk X (su s 319 0 (s.1 319 0 + nI 1))) := by
  rw [e_M_plate_0]
  by_cases a : ∃ k, k < 6 ∧ v = nI k
  · obtain ⟨k, hk, rfl⟩ := a
    rw [isIn_yes _ (show k ≤ 5 by omega) (by decide), r1_s, if_neg (by decide), g_M_taped, h14]
    rw [isIn_no _ (show n < 2 ^ 31 - 1 by omega) (fun j hj e => hh ⟨⟨k, hk, rfl⟩, j, hj, e⟩), r1_s, if_pos (by decide), ck_M, M_refuse X s (by decide), r1_s]
  · rw [isIn_no _ (by decide) (fun j hj e => a ⟨j, by omega, e⟩), r1_s, if_pos (by decide), ck_M, M_refuse X s (by decide), r1_s]
theorem sb_nar : ∀ b, b < 256 → (sb b).toInt8.toInt32 = sb b := by decide +kernel
/-- the reference's text laid down -/
theorem copy_M (X : qz_X) {T : txT} (hT : okT T) {t : sT} {v : Int32} (h : ∀ j, j < T.1 → t.1 332 j = sb (T.2 j)) : ∃ z : sT, rn 112 31 [some (.ref 318), some (.int v), some (.int (nI T.1)), some (.int (nI 0))] [] (mk X t) = rn 112 31 [some (.ref 318), some (.int v), some (.int (nI T.1)), some (.int (nI T.1))] [] (mk X z) ∧ z.2 = t.2 ∧ (∀ c, c ≠ 333 → z.1 c = t.1 c) ∧ ∀ j, j < T.1 → z.1 333 j = sb (T.2 j) := by
  have hn := hT.1
  obtain ⟨z, ⟨z2, zc, zt⟩, e⟩ := it_up (fun i (z : sT) => rn 112 31 [some (.ref 318), some (.int v), some (.int (nI T.1)), some (.int (nI i))] [] (mk X z)) (fun i z => z.2 = t.2 ∧ (∀ c, c ≠ 333 → z.1 c = t.1 c) ∧ ∀ j, j < i → z.1 333 j = sb (T.2 j)) (Nat.zero_le T.1) (by
    rintro i z _ hi ⟨z2, zc, zt⟩
    try dsimp only
    refine ⟨su z 333 i (sb (T.2 i)), ⟨z2, fun c hc => funext fun j => by rw [su_1, if_neg (fun g => hc g.1), zc c hc], fun j hj => ?_⟩, ?_⟩
    · rw [su_1]
      by_cases ej : j = i
      · rw [if_pos ⟨rfl, ej⟩, ej]
      · rw [if_neg (fun g => ej g.2), zt j (by omega)]
    · rw [e_M_plate_31, if_neg (nI_ge hi (by omega)), g_M_text, g_M_tape, i_M_tape (by omega), zc 332 (by decide), h i hi, w_M_text (by omega), nar_b, sb_nar _ (hT.2 i hi), nI_add]) (x := t) ⟨rfl, fun _ _ => rfl, fun j hj => absurd hj (Nat.not_lt_zero j)⟩
  try dsimp only at e
  exact ⟨z, e, z2, zc, zt⟩
theorem isM_low {s w : sT} {j : Nat} {A : shT} (hj : j < 6) (ok : okA A) (hw : ∀ c i, 320 ≤ c → c ≤ 330 → ¬ inM c i → w.1 c i = s.1 c i) (hM : isM (gN s) j A) : isM (gN w) j A := by
  obtain ⟨m1, m2, m3, m4, m5, m6⟩ := hM
  have o4 := ok.2.2.2.1
  have o5 := ok.2.2.2.2.1
  refine ⟨fun i hi => ?_, fun q hq => ?_, fun q hq => ?_, fun q hq => ?_, fun i hi => ?_, fun b hb => ?_⟩
  · exact (hw 320 _ (by decide) (by decide) (by unfold inM; omega)).trans (m1 i hi)
  · exact (hw 322 _ (by decide) (by decide) (by unfold inM; omega)).trans (m2 q hq)
  · exact (hw 323 _ (by decide) (by decide) (by unfold inM; omega)).trans (m3 q hq)
  · have e : gN w 3 (400 * j + q) = gN s 3 (400 * j + q) := hw 324 _ (by decide) (by decide) (by unfold inM; omega)
    rw [e]
    exact m4 q hq
  · have s4 := (ok.2.2.2.2.2.2.2.2.2.2.2.2.2 i hi).2.1
    obtain ⟨q1, q2, q3⟩ := m5 i hi
    refine ⟨(hw 325 _ (by decide) (by decide) (by unfold inM; omega)).trans q1, (hw 326 _ (by decide) (by decide) (by unfold inM; omega)).trans q2, fun y hy => (hw 327 _ (by decide) (by decide) (by unfold inM; omega)).trans (q3 y hy)⟩
  · obtain ⟨q1, q2, q3⟩ := m6 b hb
    exact ⟨(hw 328 _ (by decide) (by decide) (by unfold inM; omega)).trans q1, (hw 329 _ (by decide) (by decide) (by unfold inM; omega)).trans q2, (hw 330 _ (by decide) (by decide) (by unfold inM; omega)).trans q3⟩
theorem over_M (X : qz_X) {k : Nat} (hk : k < 6) (t : sT) : ∃ z : sT, rn 111 0 [some (.ref 318), some (.int (nI k)), none, none] [] (mk X t) = some (none, mk X z) ∧ z.2 = t.2 ∧ (∀ c, ¬ (320 ≤ c ∧ c ≤ 330) → z.1 c = t.1 c) ∧ (∀ j, z.1 321 j = if j = k then nI 1 else t.1 321 j) ∧ (∀ A, okA A → isM (gN t) 6 A → isM (gN z) k A) ∧ ∀ j A, j < 6 → j ≠ k → okA A → isM (gN t) j A → isM (gN z) j A := by
  obtain ⟨a, ea, a2, ac, ab⟩ := over_1 X hk (su t 321 k (nI 1))
  obtain ⟨b, eb, b2, bc, b3, b4, b5⟩ := over_2 X hk a
  obtain ⟨c, ec, c2, cc, c3, c4, c5⟩ := over_3 X hk b
  obtain ⟨z, ez, z2, zc, z3, z4, z5⟩ := over_4 X hk c
  have tc : ∀ i, i ≠ 321 → (su t 321 k (nI 1)).1 i = t.1 i := fun i hi => funext fun j => by rw [su_1, if_neg (fun g => hi g.1)]
  -- every row, from t
  have r320 : cpB 320 16 k t z := by
    have e : z.1 320 = a.1 320 := by rw [zc 320 (by decide) (by decide) (by decide), cc 320 (by decide) (by decide) (by decide), bc 320 (by decide) (by decide) (by decide)]
    exact ⟨fun i hi => by rw [e, ab.1 i hi, tc 320 (by decide)], fun i hi => by rw [e, ab.2 i hi, tc 320 (by decide)]⟩
  have at2 : ∀ i, i ≠ 320 → i ≠ 321 → a.1 i = t.1 i := fun i h1 h2 => by rw [ac i h1, tc i h2]
  have r322 : ∀ i, i = 322 ∨ i = 323 ∨ i = 324 → cpB i 400 k t z := fun i hi => by
    have e : z.1 i = b.1 i := by rw [zc i (by omega) (by omega) (by omega), cc i (by omega) (by omega) (by omega)]
    have f : cpB i 400 k a b := by rcases hi with rfl | rfl | rfl <;> assumption
    exact ⟨fun j hj => by rw [e, f.1 j hj, at2 i (by omega) (by omega)], fun j hj => by rw [e, f.2 j hj, at2 i (by omega) (by omega)]⟩
  have bt2 : ∀ i, 325 ≤ i → b.1 i = t.1 i := fun i h1 => by rw [bc i (by omega) (by omega) (by omega), at2 i (by omega) (by omega)]
  have r325 : ∀ i, i = 325 ∨ i = 326 → cpB i 8 k t z := fun i hi => by
    have e : z.1 i = c.1 i := zc i (by omega) (by omega) (by omega)
    have f : cpB i 8 k b c := by rcases hi with rfl | rfl <;> assumption
    exact ⟨fun j hj => by rw [e, f.1 j hj, bt2 i (by omega)], fun j hj => by rw [e, f.2 j hj, bt2 i (by omega)]⟩
  have r327 : cpB 327 64 k t z := by
    have e : z.1 327 = c.1 327 := zc 327 (by decide) (by decide) (by decide)
    exact ⟨fun j hj => by rw [e, c5.1 j hj, bt2 327 (by decide)], fun j hj => by rw [e, c5.2 j hj, bt2 327 (by decide)]⟩
  have ct2 : ∀ i, 328 ≤ i → c.1 i = t.1 i := fun i h1 => by rw [cc i (by omega) (by omega) (by omega), bt2 i (by omega)]
  have r328 : ∀ i, i = 328 ∨ i = 329 ∨ i = 330 → cpB i 12 k t z := fun i hi => by
    have f : cpB i 12 k c z := by rcases hi with rfl | rfl | rfl <;> assumption
    exact ⟨fun j hj => by rw [f.1 j hj, ct2 i (by omega)], fun j hj => by rw [f.2 j hj, ct2 i (by omega)]⟩
  refine ⟨z, ?_, by rw [z2, c2, b2, a2]; rfl, fun i hi => ?_, fun j => ?_, fun A ok hM => ?_, fun j A hj hjk ok hM => ?_⟩
  · rw [e_M_takesOver_0, g_M_isTold, w_M_isTold hk, ea, eb, ec, ez]
  · rw [zc i (by omega) (by omega) (by omega), cc i (by omega) (by omega) (by omega), bc i (by omega) (by omega) (by omega), at2 i (by omega) (by omega)]
  · rw [zc 321 (by decide) (by decide) (by decide), cc 321 (by decide) (by decide) (by decide), bc 321 (by decide) (by decide) (by decide), ac 321 (by decide), su_1]
    by_cases e : j = k
    · rw [if_pos ⟨rfl, e⟩, if_pos e]
    · rw [if_neg (fun g => e g.2), if_neg e]
  · obtain ⟨m1, m2, m3, m4, m5, m6⟩ := hM
    have o4 := ok.2.2.2.1
    have o5 := ok.2.2.2.2.1
    refine ⟨fun i hi => (r320.1 i (by omega)).trans (m1 i hi), fun q hq => ((r322 322 (by decide)).1 q hq).trans (m2 q hq), fun q hq => ((r322 323 (by decide)).1 q hq).trans (m3 q hq), fun q hq => ?_, fun i hi => ?_, fun b hb => ?_⟩
    · have e : gN z 3 (400 * k + q) = gN t 3 (400 * 6 + q) := (r322 324 (by decide)).1 q hq
      rw [e]
      exact m4 q hq
    · have s4 := (ok.2.2.2.2.2.2.2.2.2.2.2.2.2 i hi).2.1
      obtain ⟨q1, q2, q3⟩ := m5 i hi
      refine ⟨((r325 325 (by decide)).1 i (by omega)).trans q1, ((r325 326 (by decide)).1 i (by omega)).trans q2, fun y hy => ?_⟩
      have e : z.1 327 (64 * k + (8 * i + y)) = t.1 327 (64 * 6 + (8 * i + y)) := r327.1 (8 * i + y) (by omega)
      rw [show 64 * k + (8 * i + y) = 8 * (8 * k + i) + y by omega, show 64 * 6 + (8 * i + y) = 8 * (8 * 6 + i) + y by omega] at e
      exact e.trans (q3 y hy)
    · obtain ⟨q1, q2, q3⟩ := m6 b hb
      exact ⟨((r328 328 (by decide)).1 b (by omega)).trans q1, ((r328 329 (by decide)).1 b (by omega)).trans q2, ((r328 330 (by decide)).1 b (by omega)).trans q3⟩
  · obtain ⟨m1, m2, m3, m4, m5, m6⟩ := hM
    have o4 := ok.2.2.2.1
    have o5 := ok.2.2.2.2.1
    refine ⟨fun i hi => (r320.2 _ (by omega)).trans (m1 i hi), fun q hq => ((r322 322 (by decide)).2 _ (by omega)).trans (m2 q hq), fun q hq => ((r322 323 (by decide)).2 _ (by omega)).trans (m3 q hq), fun q hq => ?_, fun i hi => ?_, fun b hb => ?_⟩
    · have e : gN z 3 (400 * j + q) = gN t 3 (400 * j + q) := (r322 324 (by decide)).2 _ (by omega)
      rw [e]
      exact m4 q hq
    · have s4 := (ok.2.2.2.2.2.2.2.2.2.2.2.2.2 i hi).2.1
      obtain ⟨q1, q2, q3⟩ := m5 i hi
      exact ⟨((r325 325 (by decide)).2 _ (by omega)).trans q1, ((r325 326 (by decide)).2 _ (by omega)).trans q2, fun y hy => (r327.2 _ (by omega)).trans (q3 y hy)⟩
    · obtain ⟨q1, q2, q3⟩ := m6 b hb
      exact ⟨((r328 328 (by decide)).2 _ (by omega)).trans q1, ((r328 329 (by decide)).2 _ (by omega)).trans q2, ((r328 330 (by decide)).2 _ (by omega)).trans q3⟩

/-! the reference: numbers, squares, sides, places; the class's places -/
section MT
variable {T : txT} {P : Nat} {t : sT}
def dgl (T : txT) (P : Nat) : Nat := if kd T P = 2 then ln T P else 0
theorem dgl_ok (hP : P ≤ T.1) : P + dgl T P ≤ T.1 ∧ (∀ i, i < dgl T P → kdb (T.2 (P + i)) = 2) ∧ (P + dgl T P < T.1 → ¬ kdb (T.2 (P + dgl T P)) = 2) := by
  unfold dgl
  by_cases h : kd T P = 2
  · rw [if_pos h]
    obtain ⟨h1, h2, h3⟩ := ln_en h (Or.inr rfl)
    refine ⟨ln_le hP, h3, fun hh => ?_⟩
    rw [h2] at hh ⊢
    exact en_out hP hh
  · rw [if_neg h]
    refine ⟨hP, fun i hi => absurd hi (Nat.not_lt_zero i), fun hh => ?_⟩
    rw [Nat.add_zero] at hh ⊢
    rwa [kd_y hh] at h
def N21 (T : txT) (P i : Nat) (t : sT) : sT := su (su t 318 16 (nI P)) 318 21 (nI (nm T P (min i 4)))
theorem N21_o (T : txT) (P i : Nat) (t : sT) : oM [16, 21] t (N21 T P i t) := (oM_su (by decide)).tr (oM_su (by decide))
theorem nm4_lt (hP : P ≤ T.1) {i : Nat} (hi : i ≤ dgl T P) : nm T P (min i 4) < 10000 := by
  have h1 := nm_lt (T := T) (P := P) (min i 4) (fun j hj => (dgl_ok hP).2.1 j (by omega))
  have h2 : 10 ^ min i 4 ≤ 10 ^ 4 := Nat.pow_le_pow_right (by decide) (by omega)
  omega
theorem M_num (X : qz_X) (hT : okT T) (h : mPo T P t) {lo hi : Nat} (hl : lo < 2 ^ 31) (hh : hi < 2 ^ 31) : ∃ u : sT, rn 78 0 [some (.ref 318), some (.int (nI lo)), some (.int (nI hi)), none] [] (mk X t) = some (some (.int (bI (tN T lo hi P))), mk X u) ∧ oM [16, 21] t u ∧ mPo T (if tN T lo hi P then nx T P else P) u ∧ (tN T lo hi P = true → u.1 318 21 = nI (nv T P)) := by
  have hn := hT.1
  obtain ⟨hP, hsk⟩ := mPo_le h
  obtain ⟨d1, d2, d3⟩ := dgl_ok hP
  obtain ⟨a1, a2, _, _, _, _⟩ := id h
  have key : ∀ d i, i + d = dgl T P → rn 78 14 [some (.ref 318), some (.int (nI lo)), some (.int (nI hi)), some (.int (nI (P + i)))] [] (mk X (N21 T P i t)) = rn 78 81 [some (.ref 318), some (.int (nI lo)), some (.int (nI hi)), some (.int (nI (P + dgl T P)))] [] (mk X (N21 T P (dgl T P) t)) := by
    intro d
    induction d with
    | zero =>
      intro i hi'
      have hi' : i = dgl T P := by omega
      subst hi'
      have u15 : (N21 T P (dgl T P) t).1 318 15 = nI T.1 := by rw [(N21_o T P _ t).2 318 15 (by decide)]; exact a2
      rw [e_M_takesNumber_14, g_M_size, u15]
      by_cases hE : T.1 ≤ P + dgl T P
      · rw [if_pos (nI_le hE (by omega))]
      · have hb := hT.2 (P + dgl T P) (by omega)
        have u333 : (N21 T P (dgl T P) t).1 333 (P + dgl T P) = sb (T.2 (P + dgl T P)) := by rw [(N21_o T P _ t).2 333 _ (by omega)]; exact a1 _ (by omega)
        rw [if_neg (nI_ge (by omega) (by omega)), g_M_text, i_M_text (by omega), u333]
        rcases (sb_2 _ hb).2 (d3 (by omega)) with z | ⟨z1, z2⟩
        · rw [if_pos z]
        · rw [if_neg z1, g_M_text, i_M_text (by omega), u333, if_pos z2]
    | succ d ih =>
      intro i hi'
      have u15 : (N21 T P i t).1 318 15 = nI T.1 := by rw [(N21_o T P _ t).2 318 15 (by decide)]; exact a2
      have hb := hT.2 (P + i) (by omega)
      have u333 : (N21 T P i t).1 333 (P + i) = sb (T.2 (P + i)) := by rw [(N21_o T P _ t).2 333 _ (by omega)]; exact a1 _ (by omega)
      have u16 : (N21 T P i t).1 318 16 = nI P := by unfold N21; rw [su_1, if_neg (by omega), su_1, if_pos ⟨rfl, rfl⟩]
      have u21 : (N21 T P i t).1 318 21 = nI (nm T P (min i 4)) := by unfold N21; rw [su_1, if_pos ⟨rfl, rfl⟩]
      obtain ⟨z1, z2, z3⟩ := (sb_2 _ hb).1 (d2 i (by omega))
      have zb := kdb_2.mp (d2 i (by omega))
      rw [e_M_takesNumber_14, g_M_size, u15, if_neg (nI_ge (by omega) (by omega)), g_M_text, i_M_text (by omega), u333, if_neg z1, g_M_text, i_M_text (by omega), u333, if_neg z2, g_M_at, u16, pk_sub (by omega), show P + i - P = i by omega]
      by_cases h4 : 4 ≤ i
      · rw [if_pos (nI_le h4 (by omega)), nI_add]
        have := ih (i + 1) (by omega)
        rw [show N21 T P (i + 1) t = N21 T P i t by unfold N21; rw [show min (i + 1) 4 = min i 4 by omega]] at this
        exact this
      · rw [if_neg (nI_ge (by omega) (by decide)), g_M_read, u21, g_M_text, i_M_text (by omega), u333, z3, p_M_read, nI_add, pk_mul, nI_add, pk_sub (by omega)]
        have := ih (i + 1) (by omega)
        rw [show N21 T P (i + 1) t = su (N21 T P i t) 318 21 (nI (10 * nm T P (min i 4) + T.2 (P + i) - 48)) by
          unfold N21
          rw [su_su, show min (i + 1) 4 = i + 1 by omega, show min i 4 = i by omega]
          congr 2
          show 10 * nm T P i + (T.2 (P + i) - 48) = _
          omega] at this
        exact this
  have e0 : rn 78 0 [some (.ref 318), some (.int (nI lo)), some (.int (nI hi)), none] [] (mk X t) = rn 78 81 [some (.ref 318), some (.int (nI lo)), some (.int (nI hi)), some (.int (nI (P + dgl T P)))] [] (mk X (N21 T P (dgl T P) t)) := by
    rw [e_M_takesNumber_0, ck_M, M_blank X hT h, r0_s, g_M_at, su_1, if_pos ⟨rfl, rfl⟩, p_M_read]
    exact key (dgl T P) 0 (by omega)
  have u16 : (N21 T P (dgl T P) t).1 318 16 = nI P := by unfold N21; rw [su_1, if_neg (by omega), su_1, if_pos ⟨rfl, rfl⟩]
  have u21 : (N21 T P (dgl T P) t).1 318 21 = nI (nm T P (min (dgl T P) 4)) := by unfold N21; rw [su_1, if_pos ⟨rfl, rfl⟩]
  have hN : mPo T P (N21 T P (dgl T P) t) := by
    have := mPo_at h (N21_o T P (dgl T P) t) (by decide) hP u16
    rwa [hsk] at this
  have hm := nm4_lt hP (Nat.le_refl (dgl T P))
  rw [e0, e_M_takesNumber_81, g_M_at, u16]
  by_cases h2 : kd T P = 2
  · have hdl : dgl T P = ln T P := if_pos h2
    have hl1 := ln_pos (ln_en h2 (Or.inr rfl)).1
    rw [hdl] at hm u16 u21 hN ⊢
    rw [if_neg (fun z => by have := (nI_eq (by omega) (by omega)).mp z; omega), g_M_at, u16, pk_sub (by omega), show P + ln T P - P = ln T P by omega]
    by_cases h4 : ln T P ≤ 4
    · have hnv : nm T P (min (ln T P) 4) = nv T P := by rw [show min (ln T P) 4 = ln T P by omega]; rfl
      rw [hnv] at hm u21
      rw [if_neg (nI_nlt h4 (by decide)), g_M_read, u21, isIn_run, r1_s]
      by_cases h5 : lo ≤ nv T P ∧ nv T P ≤ hi
      · have e : tN T lo hi P = true := decide_eq_true ⟨h2, h4, h5.1, h5.2⟩
        refine ⟨su (N21 T P (ln T P) t) 318 16 (nI (P + ln T P)), ?_, (N21_o T P _ t).tr (oM_su (by decide)), ?_, fun _ => ?_⟩
        · rw [if_neg (nI_nlt h5.1 (by omega)), if_neg (nI_nlt h5.2 hh), if_neg (by decide), p_M_at, e]
          rfl
        · rw [e]
          exact mPo_at hN (oM_su (L := [16]) (j := 16) (by decide)) (by decide) hl1.2 (by rw [su_1, if_pos ⟨rfl, rfl⟩])
        · rw [su_1, if_neg (by omega)]; exact u21
      · have e : tN T lo hi P = false := decide_eq_false (fun z => h5 z.2.2)
        refine ⟨_, ?_, N21_o T P _ t, by rw [e]; exact hN, fun z => by rw [e] at z; cases z⟩
        rw [e]
        have : (if nI (nv T P) < nI lo then nI 0 else if nI hi < nI (nv T P) then nI 0 else nI 1) = nI 0 := by
          by_cases g : nv T P < lo
          · rw [if_pos (nI_lt g hl)]
          · rw [if_neg (nI_nlt (by omega) (by omega)), if_pos (nI_lt (by omega) (by omega))]
        rw [this, if_pos (by decide)]
        rfl
    · have e : tN T lo hi P = false := decide_eq_false (fun z => h4 z.2.1)
      refine ⟨_, ?_, N21_o T P _ t, by rw [e]; exact hN, fun z => by rw [e] at z; cases z⟩
      rw [if_pos (nI_lt (by omega) (by omega)), e]
      rfl
  · have hdl : dgl T P = 0 := if_neg h2
    have e : tN T lo hi P = false := decide_eq_false (fun z => h2 z.1)
    refine ⟨_, ?_, N21_o T P _ t, by rw [e]; exact hN, fun z => by rw [e] at z; cases z⟩
    rw [if_pos (by rw [hdl, Nat.add_zero]), e]
    rfl
def Q23 (T : txT) (P i : Nat) (t : sT) : sT := su (su t 318 16 (nI P)) 318 23 (nI (qv T P (min i 20)))
theorem Q23_o (T : txT) (P i : Nat) (t : sT) : oM [16, 22, 23] t (Q23 T P i t) := (oM_su (by decide)).tr (oM_su (by decide))
theorem M_squares (X : qz_X) (hT : okT T) (h : mPo T P t) {lo hi : Nat} (hl : 1 ≤ lo) (hl2 : lo < 2 ^ 31) (hh : hi ≤ 20) : ∃ u : sT, rn 83 0 [some (.ref 318), some (.int (nI lo)), some (.int (nI hi)), none] [] (mk X t) = some (some (.int (bI (tQ T lo hi P))), mk X u) ∧ oM [16, 22, 23] t u ∧ mPo T (if tQ T lo hi P then nx T P else P) u ∧ (tQ T lo hi P = true → u.1 318 22 = nI (ln T P) ∧ u.1 318 23 = nI (qv T P (ln T P))) := by
  have hn := hT.1
  obtain ⟨hP, hsk⟩ := mPo_le h
  obtain ⟨d1, d2, d3⟩ := wdl_ok hP
  obtain ⟨a1, a2, _, _, _, _⟩ := id h
  have q15 : ∀ i, (Q23 T P i t).1 318 15 = nI T.1 := fun i => by rw [(Q23_o T P i t).2 318 15 (by decide)]; exact a2
  have q333 : ∀ i, ∀ j, j < T.1 → (Q23 T P i t).1 333 j = sb (T.2 j) := fun i j hj => by rw [(Q23_o T P i t).2 333 _ (by omega)]; exact a1 _ hj
  have q16 : ∀ i, (Q23 T P i t).1 318 16 = nI P := fun i => by unfold Q23; rw [su_1, if_neg (by omega), su_1, if_pos ⟨rfl, rfl⟩]
  have q23 : ∀ i, (Q23 T P i t).1 318 23 = nI (qv T P (min i 20)) := fun i => by unfold Q23; rw [su_1, if_pos ⟨rfl, rfl⟩]
  have qN : ∀ i, mPo T P (Q23 T P i t) := fun i => by
    have := mPo_at h (Q23_o T P i t) (by decide) hP (q16 i)
    rwa [hsk] at this
  have key : ∀ d i, i + d = wdl T P → (∀ j, j < i → T.2 (P + j) = 115 ∨ T.2 (P + j) = 116) → ((∀ j, j < wdl T P → T.2 (P + j) = 115 ∨ T.2 (P + j) = 116) ∧ rn 83 14 [some (.ref 318), some (.int (nI lo)), some (.int (nI hi)), some (.int (nI (P + i)))] [] (mk X (Q23 T P i t)) = rn 83 113 [some (.ref 318), some (.int (nI lo)), some (.int (nI hi)), some (.int (nI (P + wdl T P)))] [] (mk X (Q23 T P (wdl T P) t))) ∨ (tQ T lo hi P = false ∧ ∃ i', rn 83 14 [some (.ref 318), some (.int (nI lo)), some (.int (nI hi)), some (.int (nI (P + i)))] [] (mk X (Q23 T P i t)) = some (some (.int (nI 0)), mk X (Q23 T P i' t))) := by
    intro d
    induction d with
    | zero =>
      intro i hi' hj
      have hi' : i = wdl T P := by omega
      subst hi'
      refine Or.inl ⟨hj, ?_⟩
      rw [e_M_takesSquares_14, g_M_size, q15]
      by_cases hE : T.1 ≤ P + wdl T P
      · rw [if_pos (nI_le hE (by omega))]
      · have hb := hT.2 (P + wdl T P) (by omega)
        rw [if_neg (nI_ge (by omega) (by omega)), g_M_text, i_M_text (by omega), q333 _ _ (by omega)]
        rcases (sb_1 _ hb).2 (d3 (by omega)) with z | ⟨z1, z2⟩
        · rw [if_pos z]
        · rw [if_neg z1, g_M_text, i_M_text (by omega), q333 _ _ (by omega), if_pos z2]
    | succ d ih =>
      intro i hi' hj
      have hb := hT.2 (P + i) (by omega)
      obtain ⟨z1, z2, z3⟩ := (sb_1 _ hb).1 (d2 i (by omega))
      rw [e_M_takesSquares_14, g_M_size, q15, if_neg (nI_ge (by omega) (by omega)), g_M_text, i_M_text (by omega), q333 _ _ (by omega), if_neg z1, g_M_text, i_M_text (by omega), q333 _ _ (by omega), if_neg z2, g_M_text, i_M_text (by omega), q333 _ _ (by omega), z3]
      by_cases h5 : T.2 (P + i) = 115
      · rw [if_pos (by rw [h5]), e_M_takesSquares_68, g_M_text, i_M_text (by omega), q333 _ _ (by omega), z3, if_neg (by rw [h5]; decide), nI_add]
        have := ih (i + 1) (by omega) (fun j hj2 => by
          by_cases e : j = i
          · rw [e]; exact Or.inl h5
          · exact hj j (by omega))
        rw [show Q23 T P (i + 1) t = Q23 T P i t by
          unfold Q23
          by_cases h20 : i < 20
          · rw [show min (i + 1) 20 = i + 1 by omega, show min i 20 = i by omega, qv_n (by omega)]
          · rw [show min (i + 1) 20 = min i 20 by omega]] at this
        exact this
      · rw [if_neg (fun z => h5 ((nI_eq (by omega) (by decide)).mp z)), g_M_text, i_M_text (by omega), q333 _ _ (by omega), z3]
        by_cases h6 : T.2 (P + i) = 116
        · rw [if_pos (by rw [h6]), e_M_takesSquares_68, g_M_text, i_M_text (by omega), q333 _ _ (by omega), z3, if_pos (by rw [h6]), g_M_at, q16, pk_sub (by omega), show P + i - P = i by omega]
          have := ih (i + 1) (by omega) (fun j hj2 => by
            by_cases e : j = i
            · rw [e]; exact Or.inr h6
            · exact hj j (by omega))
          by_cases h20 : 20 ≤ i
          · rw [if_pos (nI_le h20 (by omega)), nI_add]
            rw [show Q23 T P (i + 1) t = Q23 T P i t by unfold Q23; rw [show min (i + 1) 20 = min i 20 by omega]] at this
            exact this
          · rw [if_neg (nI_ge (by omega) (by decide)), g_M_squaresBits, q23, g_M_at, q16, pk_sub (by omega), show P + i - P = i by omega, p_M_squaresBits, nI_add, show min i 20 = i by omega, qv_s (by omega) h6]
            rw [show Q23 T P (i + 1) t = su (Q23 T P i t) 318 23 (nI (qv T P (i + 1))) by unfold Q23; rw [su_su, show min (i + 1) 20 = i + 1 by omega]] at this
            exact this
        · refine Or.inr ⟨decide_eq_false (fun z => ?_), i, ?_⟩
          · have h1 : kd T P = 1 := z.1
            have := z.2.2.2 i (by
              have : wdl T P = ln T P := if_pos h1
              omega)
            omega
          · rw [if_neg (fun z => h6 ((nI_eq (by omega) (by decide)).mp z))]
  have e0 : rn 83 0 [some (.ref 318), some (.int (nI lo)), some (.int (nI hi)), none] [] (mk X t) = rn 83 14 [some (.ref 318), some (.int (nI lo)), some (.int (nI hi)), some (.int (nI (P + 0)))] [] (mk X (Q23 T P 0 t)) := by
    rw [e_M_takesSquares_0, ck_M, M_blank X hT h, r0_s, g_M_at, su_1, if_pos ⟨rfl, rfl⟩, p_M_squaresBits]
    rfl
  rw [e0]
  rcases key (wdl T P) 0 (by omega) (fun j hj => absurd hj (Nat.not_lt_zero j)) with ⟨ha, e⟩ | ⟨e1, i', e⟩
  · rw [e, e_M_takesSquares_113, g_M_at, q16, pk_sub (by omega), show P + wdl T P - P = wdl T P by omega, p_M_squaresMany, g_M_squaresMany, su_1, if_pos ⟨rfl, rfl⟩, isIn_run, r1_s]
    have oz : oM [16, 22, 23] t (su (Q23 T P (wdl T P) t) 318 22 (nI (wdl T P))) := (Q23_o T P _ t).tr (oM_su (by decide))
    have mz : mPo T P (su (Q23 T P (wdl T P) t) 318 22 (nI (wdl T P))) := mPo_o (qN _) (oM_su (L := [22]) (by decide)) (by decide) (by rw [su_1, if_neg (by omega)])
    by_cases h1 : kd T P = 1 ∧ lo ≤ ln T P ∧ ln T P ≤ hi
    · have hw : wdl T P = ln T P := if_pos h1.1
      rw [hw] at ha oz mz ⊢
      have et : tQ T lo hi P = true := decide_eq_true ⟨h1.1, h1.2.1, h1.2.2, ha⟩
      refine ⟨su (su (Q23 T P (ln T P) t) 318 22 (nI (ln T P))) 318 16 (nI (P + ln T P)), ?_, oz.tr (oM_su (by decide)), ?_, fun _ => ⟨?_, ?_⟩⟩
      · rw [if_neg (nI_nlt h1.2.1 (by omega)), if_neg (nI_nlt h1.2.2 (by omega)), if_neg (by decide), p_M_at, et]
        rfl
      · rw [et]
        exact mPo_at mz (oM_su (L := [16]) (j := 16) (by decide)) (by decide) (ln_le hP) (by rw [su_1, if_pos ⟨rfl, rfl⟩])
      · rw [su_1, if_neg (by omega), su_1, if_pos ⟨rfl, rfl⟩]
      · rw [su_1, if_neg (by omega), su_1, if_neg (by omega), q23, show min (ln T P) 20 = ln T P by omega]
    · have et : tQ T lo hi P = false := decide_eq_false (fun z => h1 ⟨z.1, z.2.1, z.2.2.1⟩)
      refine ⟨_, ?_, oz, by rw [et]; exact mz, fun z => by rw [et] at z; cases z⟩
      rw [et]
      have : (if nI (wdl T P) < nI lo then nI 0 else if nI hi < nI (wdl T P) then nI 0 else nI 1) = nI 0 := by
        by_cases g : wdl T P < lo
        · rw [if_pos (nI_lt g hl2)]
        · have hk : kd T P = 1 := by
            by_cases hk : kd T P = 1
            · exact hk
            · rw [show wdl T P = 0 from if_neg hk] at g; omega
          have hw : wdl T P = ln T P := if_pos hk
          rw [if_neg (nI_nlt (by omega) (by omega)), if_pos (nI_lt (by
            rcases Nat.lt_or_ge hi (wdl T P) with g2 | g2
            · exact g2
            · exact absurd ⟨hk, by omega, by omega⟩ h1) (by omega))]
      rw [this, if_pos (by decide)]
      rfl
  · exact ⟨_, by rw [e, e1]; rfl, Q23_o T P i' t, by rw [e1]; exact qN i', fun z => by rw [e1] at z; cases z⟩
theorem sideOf_run (w : qz_W) (hP : P ≤ T.1) : rn 87 0 [some (.long (lN (wdv T P))), none] [] w = some (some (.int (if tD T P then nI (dv T P) else -1)), w) := by
  have k20 := kw20 T P
  have hq : ∀ k, k < 20 → ∀ v : Int64, v = lN (qz_gd 0 KC k) → ((lg_cmp (lN (wdv T P)) v = 0) ↔ (kd T P = 1 ∧ kw T P = k)) := fun k hk v hv => by
    rw [hv, lg_cmp_eq, pk_lEQ (wdv_lt hP) (KC_bd k hk).2.2.2.2.1, kw_iff hP hk]
  have q16 := hq 16 (by decide) (lN 474316174440) rfl
  have q17 := hq 17 (by decide) (lN 1700885364) rfl
  have q18 := hq 18 (by decide) (lN 495791207528) rfl
  have q19 := hq 19 (by decide) (lN 2003137396) rfl
  rw [e_M_sideOf_0]
  unfold tD dv
  by_cases h : kd T P = 1 ∧ 16 ≤ kw T P ∧ kw T P < 20
  · rw [decide_eq_true h]
    rcases (show kw T P = 16 ∨ kw T P = 17 ∨ kw T P = 18 ∨ kw T P = 19 by omega) with e | e | e | e
    · rw [if_pos (q16.mpr ⟨h.1, e⟩), e]; rfl
    · rw [if_neg (fun z => by have := (q16.mp z).2; omega), if_pos (q17.mpr ⟨h.1, e⟩), e]; rfl
    · rw [if_neg (fun z => by have := (q16.mp z).2; omega), if_neg (fun z => by have := (q17.mp z).2; omega), if_pos (q18.mpr ⟨h.1, e⟩), e]; rfl
    · rw [if_neg (fun z => by have := (q16.mp z).2; omega), if_neg (fun z => by have := (q17.mp z).2; omega), if_neg (fun z => by have := (q18.mp z).2; omega), if_pos (q19.mpr ⟨h.1, e⟩), e]; rfl
  · rw [decide_eq_false h, if_neg (fun z => h ⟨(q16.mp z).1, by have := (q16.mp z).2; omega, by have := (q16.mp z).2; omega⟩), if_neg (fun z => h ⟨(q17.mp z).1, by have := (q17.mp z).2; omega, by have := (q17.mp z).2; omega⟩), if_neg (fun z => h ⟨(q18.mp z).1, by have := (q18.mp z).2; omega, by have := (q18.mp z).2; omega⟩), if_neg (fun z => h ⟨(q19.mp z).1, by have := (q19.mp z).2; omega, by have := (q19.mp z).2; omega⟩)]
    rfl
theorem M_side (X : qz_X) (hT : okT T) (h : mPo T P t) : ∃ u : sT, rn 96 0 [some (.ref 318)] [] (mk X t) = some (some (.int (bI (tD T P))), mk X u) ∧ oM [16, 20, 24] t u ∧ mPo T (if tD T P then nx T P else P) u ∧ (tD T P = true → u.1 318 24 = nI (dv T P)) := by
  have hP := (mPo_le h).1
  have k20 := kw20 T P
  rw [e_M_takesSide_0, ck_M, word_run X hT h, r2_s, sideOf_run _ hP, r1_s, p_M_side, g_M_side, su_1, if_pos (show (318 : Nat) = 318 ∧ (24 : Nat) = 24 from ⟨rfl, rfl⟩)]
  have o1 : oM [16, 20, 24] t (W20 T P t) := (W20_o T P t).mo (by decide)
  cases e : tD T P
  · rw [show (if false = true then nI (dv T P) else -1 : Int32) = -1 from rfl, if_pos rfl]
    refine ⟨_, rfl, o1.tr (oM_su (by decide)), ?_, fun z => by cases z⟩
    exact mPo_o (P := P) (W20_p h) (oM_su (L := [24]) (by decide)) (by decide) (by rw [su_1, if_neg (by omega)])
  · have e' := of_decide_eq_true e
    rw [show (if true = true then nI (dv T P) else -1 : Int32) = nI (dv T P) from rfl, if_neg (nI_m1 (show dv T P < 2 ^ 31 by unfold dv; omega)), g_M_wordEnd, su_1, if_neg (by omega), W20_20, p_M_at]
    refine ⟨_, rfl, (o1.tr (oM_su (by decide))).tr (oM_su (by decide)), ?_, fun _ => ?_⟩
    · have hw : wdl T P = ln T P := if_pos e'.1
      have h1 : mPo T P (su (W20 T P t) 318 24 (nI (dv T P))) := mPo_o (W20_p h) (oM_su (L := [24]) (by decide)) (by decide) (by rw [su_1, if_neg (by omega)])
      have := mPo_at h1 (oM_su (L := [16]) (j := 16) (x := nI (P + wdl T P)) (by decide)) (by decide) (wdl_ok hP).1 (by rw [su_1, if_pos ⟨rfl, rfl⟩])
      rw [hw] at this ⊢
      exact this
    · rw [su_1, if_neg (by omega), su_1, if_pos ⟨rfl, rfl⟩]
/-- where a place ends, or the fault -/
def plP (T : txT) (a b w h P : Nat) : Nat := if tN T a (w - 1) P then (if tN T b (h - 1) (nx T P) then nx T (nx T P) else nx T P) else P
def tP (T : txT) (a b w h P : Nat) : Bool := tN T a (w - 1) P && tN T b (h - 1) (nx T P)
theorem M_place2 (X : qz_X) (hT : okT T) (h : mPo T P t) {A : shT} (h1 : 1 ≤ A.1 0 ∧ A.1 0 ≤ 20) (h2 : 1 ≤ A.1 1 ∧ A.1 1 ≤ 20) (hM : isM (gN t) 6 A) {a b : Nat} (ha : a < 2 ^ 31) (hb : b < 2 ^ 31) : ∃ u : sT, rn 91 0 [some (.ref 318), some (.int (nI a)), some (.int (nI b))] [] (mk X t) = some (some (.int (bI (tP T a b (A.1 0) (A.1 1) P))), mk X u) ∧ oM [16, 21, 25, 26] t u ∧ mPo T (plP T a b (A.1 0) (A.1 1) P) u ∧ (tP T a b (A.1 0) (A.1 1) P = true → u.1 318 25 = nI (nv T P) ∧ u.1 318 26 = nI (nv T (nx T P))) := by
  obtain ⟨u, e1, o1, m1, v1⟩ := M_num X hT h (lo := a) (hi := A.1 0 - 1) ha (by omega)
  rw [e_M_takesPlace_0, ck_M, M_wide_run X (by decide) hM, r1_s, ck_M, pk_sub (by omega), e1, r1_s]
  unfold plP tP
  cases c1 : tN T a (A.1 0 - 1) P
  · rw [c1] at m1
    rw [if_pos (by decide)]
    exact ⟨u, rfl, o1.mo (by decide), m1, fun z => by cases z⟩
  · rw [c1] at m1
    have m1 : mPo T (nx T P) u := m1
    have v1 := v1 c1
    have o2 : oM [16, 21, 25, 26] t (su u 318 25 (nI (nv T P))) := (o1.mo (by decide)).tr (oM_su (by decide))
    have m2 : mPo T (nx T P) (su u 318 25 (nI (nv T P))) := mPo_o m1 (oM_su (L := [25]) (by decide)) (by decide) (by rw [su_1, if_neg (by omega)])
    have hM2 : isM (gN (su u 318 25 (nI (nv T P)))) 6 A := isM_about (fun c p q r => by funext j; rw [o2.2 c j (by omega)]) ⟨rfl, rfl, rfl⟩ (fun j hj => by rw [o2.2 320 _ (by omega)]; exact ab_at hM hj) hM
    obtain ⟨z, e2, o3, m3, v3⟩ := M_num X hT m2 (lo := b) (hi := A.1 1 - 1) hb (by omega)
    rw [if_neg (by decide), g_M_read, v1, p_M_toldX, ck_M, M_high_run X (by decide) hM2, r1_s, ck_M, pk_sub (by omega), e2, r1_s]
    have o3' : oM [16, 21, 25, 26] t z := o2.tr (o3.mo (by decide))
    cases c2 : tN T b (A.1 1 - 1) (nx T P)
    · rw [c2] at m3
      rw [if_pos (by decide)]
      exact ⟨z, rfl, o3', m3, fun z => by cases z⟩
    · rw [c2] at m3
      rw [if_neg (by decide), g_M_read, v3 c2, p_M_toldY]
      refine ⟨_, rfl, o3'.tr (oM_su (by decide)), ?_, fun _ => ⟨?_, ?_⟩⟩
      · exact mPo_o m3 (oM_su (L := [26]) (by decide)) (by decide) (by rw [su_1, if_neg (by omega)])
      · rw [su_1, if_neg (by omega), o3.2 318 25 (by decide), su_1, if_pos ⟨rfl, rfl⟩]
      · rw [su_1, if_pos ⟨rfl, rfl⟩]
theorem M_place (X : qz_X) (hT : okT T) (h : mPo T P t) {A : shT} (ok : okA A) (hM : isM (gN t) 6 A) {a b : Nat} (ha : a < 2 ^ 31) (hb : b < 2 ^ 31) : ∃ u : sT, rn 91 0 [some (.ref 318), some (.int (nI a)), some (.int (nI b))] [] (mk X t) = some (some (.int (bI (tP T a b (A.1 0) (A.1 1) P))), mk X u) ∧ oM [16, 21, 25, 26] t u ∧ mPo T (plP T a b (A.1 0) (A.1 1) P) u ∧ (tP T a b (A.1 0) (A.1 1) P = true → u.1 318 25 = nI (nv T P) ∧ u.1 318 26 = nI (nv T (nx T P))) := M_place2 X hT h ok.1 ok.2.1 hM ha hb
end MT
/-- only the teller changed -/
def o78 (s u : sT) : Prop := u.2 = s.2 ∧ ∀ c, c ≠ 78 → u.1 c = s.1 c
theorem o78.rf (s : sT) : o78 s s := ⟨rfl, fun _ _ => rfl⟩
theorem o78.tr {s u v : sT} (h : o78 s u) (g : o78 u v) : o78 s v := ⟨g.1.trans h.1, fun c e => (g.2 c e).trans (h.2 c e)⟩
theorem o78_su {s : sT} {j : Nat} {x : Int32} : o78 s (su s 78 j x) := ⟨rfl, fun c e => funext fun i => by rw [su_1, if_neg (fun z => e z.1)]⟩
theorem o78_up (s : sT) : o78 s (up2 s) := o78_su
theorem up2_o {s : sT} {j : Nat} (h : j ≠ 2) : (up2 s).1 78 j = s.1 78 j := by unfold up2; rw [su_1, if_neg (fun z => h z.2)]
theorem cPo_78 {T : txT} {P : Nat} {s : sT} (h : cPo T P s) {j : Nat} {x : Int32} (hj : j ≠ 2) : cPo T P (su s 78 j x) := cPo_cong h (fun c p q => funext fun i => by rw [su_1, if_neg (by omega)]) (by rw [su_1, if_neg (fun z => hj z.2.symm)])
section CT
variable {T : txT} {P : Nat} {s : sT}
theorem tN_lt {lo hi : Nat} (h : tN T lo hi P = true) : P < T.1 ∧ lo ≤ nv T P ∧ nv T P ≤ hi := by
  have := of_decide_eq_true h
  exact ⟨kd_lt.mp (by omega), this.2.2.1, this.2.2.2⟩
theorem C_place (X : qz_X) (hT : okT T) (h : cPo T P s) {A : shT} (ok : okA A) {q : Nat} (hq : isS q) (hC : isC s q A) : ∃ u : sT, rn 43 0 [some (.ref 78), some (.ref q)] [] (mk X s) = some (some (.int (bI (tP T 0 0 (A.1 0) (A.1 1) P))), mk X u) ∧ o78 s u ∧ cPo T (plP T 0 0 (A.1 0) (A.1 1) P) u ∧ (tP T 0 0 (A.1 0) (A.1 1) P = true → u.1 78 4 = nI (nv T P) ∧ u.1 78 5 = nI (nv T (nx T P))) := by
  have h1 := ok.1
  have h2 := ok.2.1
  have sg := isS_gap q hq
  rw [e_Teller_takePlace_0, g_S_wide hq, hC.1.1, pk_sub (by omega), ck_L, C_num X hT h (by decide) (by omega), r1_s]
  unfold plP tP
  cases c1 : tN T 0 (A.1 0 - 1) P
  · rw [if_pos (by decide)]
    exact ⟨s, rfl, o78.rf s, h, fun z => by cases z⟩
  · have hP := (tN_lt c1).1
    have ho : o78 s (up2 (su s 78 3 (nI (nv T P)))) := o78_su.tr (o78_up _)
    have hu : cPo T (nx T P) (up2 (su s 78 3 (nI (nv T P)))) := cPo_up (cPo_78 h (by decide)) hP
    have hn3 : (up2 (su s 78 3 (nI (nv T P)))).1 78 3 = nI (nv T P) := by rw [up2_o (by decide), su_1, if_pos ⟨rfl, rfl⟩]
    have hz : ∃ z : sT, z = su (up2 (su s 78 3 (nI (nv T P)))) 78 4 (nI (nv T P)) := ⟨_, rfl⟩
    obtain ⟨z, hz⟩ := hz
    have oz : o78 s z := by rw [hz]; exact ho.tr o78_su
    have cz : cPo T (nx T P) z := by rw [hz]; exact cPo_78 hu (by decide)
    have z4 : z.1 78 4 = nI (nv T P) := by rw [hz, su_1, if_pos ⟨rfl, rfl⟩]
    have zq : z.1 q 2 = nI (A.1 1) := by rw [oz.2 q (by omega)]; exact hC.1.2.1
    rw [if_neg (by decide), if_pos rfl, g_L_number, hn3, p_L_x, ← hz, g_S_high hq, zq, pk_sub (by omega), ck_L, C_num X hT cz (by decide) (by omega), r1_s]
    cases c2 : tN T 0 (A.1 1 - 1) (nx T P)
    · rw [if_pos (by decide)]
      exact ⟨z, rfl, oz, cz, fun z => by cases z⟩
    · have hP2 := (tN_lt c2).1
      rw [if_neg (by decide), if_pos rfl, g_L_number, up2_o (by decide), su_1, if_pos ⟨rfl, rfl⟩, p_L_y]
      refine ⟨_, rfl, ((oz.tr o78_su).tr (o78_up _)).tr o78_su, cPo_78 (cPo_up (cPo_78 cz (by decide)) hP2) (by decide), fun _ => ⟨?_, ?_⟩⟩
      · rw [su_1, if_neg (by omega), up2_o (by decide), su_1, if_neg (by omega)]; exact z4
      · rw [su_1, if_pos ⟨rfl, rfl⟩]
end CT

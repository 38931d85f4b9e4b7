/-! byOrder; paint -/
theorem ct_inj {p : Nat → Bool} {o : Nat → Nat} {m : Nat} : ∀ (n : Nat) (q : Nat → Bool), (∀ i, i < n → p i = true → o i < m ∧ q (o i) = true) → (∀ i j, i < n → j < n → o i = o j → i = j) → fb_ct p n ≤ fb_ct q m
  | 0, _, _, _ => Nat.zero_le _
  | n + 1, q, h, hi => by
    rw [fb_ct_succ]
    cases hp : p n
    · rw [if_neg (by decide), Nat.add_zero]
      exact ct_inj n q (fun i hin => h i (by omega)) (fun i j a b => hi i j (by omega) (by omega))
    · obtain ⟨h1, h2⟩ := h n (by omega) hp
      have ih := ct_inj n (fun k => if k = o n then false else q k) (fun i hin hpi => (by
        obtain ⟨g1, g2⟩ := h i (by omega) hpi
        have hne : o i ≠ o n := fun z => by
          have := hi i n (by omega) (by omega) z
          omega
        exact ⟨g1, by rw [if_neg hne]; exact g2⟩)) (fun i j a b => hi i j (by omega) (by omega))
      have u := fb_ct_upd q false h1
      rw [h2, if_pos rfl, if_neg (by decide)] at u
      rw [if_pos rfl]
      omega
theorem ct_perm {T : Nat → Bool} {o : Nat → Nat} {n : Nat} (h1 : ∀ k, k < n → o k < n) (h2 : ∀ i j, i < n → j < n → o i = o j → i = j) : fb_ct (fun k => T (o k)) n = fb_ct T n := by
  have a := ct_inj (p := fun k => T (o k)) (o := o) (m := n) n T (fun i hi hp => ⟨h1 i hi, hp⟩) h2
  have b := ct_inj (p := fun k => !T (o k)) (o := o) (m := n) n (fun k => !T k) (fun i hi hp => ⟨h1 i hi, hp⟩) h2
  have c := fb_ct_not (fun k => T (o k)) n
  have d := fb_ct_not T n
  omega
theorem dig_k {o : Nat → Nat} (ho : ∀ k, k < 6 → o k < 6) : ∀ k, k < 6 → dig o / (100000 / 10 ^ k) % 10 = o k := by
  intro k hk
  have a0 := ho 0 (by decide)
  have a1 := ho 1 (by decide)
  have a2 := ho 2 (by decide)
  have a3 := ho 3 (by decide)
  have a4 := ho 4 (by decide)
  have a5 := ho 5 (by decide)
  have hk6 : k = 0 ∨ k = 1 ∨ k = 2 ∨ k = 3 ∨ k = 4 ∨ k = 5 := by omega
  rcases hk6 with rfl | rfl | rfl | rfl | rfl | rfl
  · show dig o / 100000 % 10 = o 0
    unfold dig; omega
  · show dig o / 10000 % 10 = o 1
    unfold dig; omega
  · show dig o / 1000 % 10 = o 2
    unfold dig; omega
  · show dig o / 100 % 10 = o 3
    unfold dig; omega
  · show dig o / 10 % 10 = o 4
    unfold dig; omega
  · show dig o / 1 % 10 = o 5
    unfold dig; omega
theorem pw_k : ∀ k, k < 6 → 0 < 100000 / 10 ^ k ∧ 100000 / 10 ^ k < 2 ^ 31 ∧ 100000 / 10 ^ k / 10 = 100000 / 10 ^ (k + 1) := by decide
theorem rm10 {q : Nat} (h : q < 2 ^ 31) : nI q - nI q / nI 10 * nI 10 = nI (q % 10) := by
  rw [pk_div h (by decide) (by decide), pk_mul, pk_sub (by omega)]
  congr 1
  omega
theorem byOrder_run (X : qz_X) {s : sT} {T : Nat → Bool} {o : Nat → Nat} (ho : okO o) (hd : s.1 318 1 = nI (dig o)) (hT : ∀ k, k < 6 → s.1 321 k = if T k then nI 1 else nI 0) : ∃ u : sT, rn 238 0 [some (.ref 318), none, none, none, none] [] (mk X s) = some (none, mk X u) ∧ u.2 = s.2 ∧ (∀ c, c ∉ [347] → u.1 c = s.1 c) ∧ ∀ k, k < 6 → T (o k) = true → u.1 347 (fb_ct (fun k => T (o k)) k) = nI (o k) := by
  have hdl : dig o < 2 ^ 31 := by
    have a0 := ho.1 0 (by decide)
    have a1 := ho.1 1 (by decide)
    have a2 := ho.1 2 (by decide)
    have a3 := ho.1 3 (by decide)
    have a4 := ho.1 4 (by decide)
    have a5 := ho.1 5 (by decide)
    unfold dig; omega
  obtain ⟨u, ⟨u2, uc, ut⟩, e⟩ := it_up (fun k (u : sT) => rn 238 8 [some (.ref 318), some (.int (nI (fb_ct (fun k => T (o k)) k))), some (.int (nI (100000 / 10 ^ k))), some (.int (nI k)), none] [] (mk X u)) (fun k u => u.2 = s.2 ∧ (∀ c, c ∉ [347] → u.1 c = s.1 c) ∧ ∀ j, j < k → T (o j) = true → u.1 347 (fb_ct (fun k => T (o k)) j) = nI (o j)) (Nat.zero_le 6) (by
    rintro k u _ hk ⟨u2, uc, ut⟩
    try dsimp only
    obtain ⟨p1, p2, p3⟩ := pw_k k hk
    have hok := ho.1 k hk
    have hdv : dig o / (100000 / 10 ^ k) < 2 ^ 31 := Nat.lt_of_le_of_lt (Nat.div_le_self _ _) hdl
    have hcl : fb_ct (fun k => T (o k)) k < 6 := by have := fb_ct_le (fun k => T (o k)) k; omega
    rw [e_M_byOrder_8, if_neg (nI_ge hk (by decide)), g_M_orderDigits, uc 318 (by decide), hd, if_neg (fun z => by rw [← nI_0, nI_eq p2 (by decide)] at z; omega), if_neg (by decide), if_neg (by decide), pk_div hdl p1 p2, rm10 hdv, dig_k ho.1 k hk, g_M_isTold, i_M_isTold hok, uc 321 (by decide), hT _ hok, told_int, pk_div p2 (by decide) (by decide), p3, nI_add, nI_add, fb_ct_succ]
    cases hTo : T (o k)
    · rw [if_neg (by decide), if_neg (by decide)]
      refine ⟨u, ⟨u2, uc, fun j hj hTj => ?_⟩, rfl⟩
      have : j ≠ k := fun z => by rw [z, hTo] at hTj; cases hTj
      exact ut j (by omega) hTj
    · rw [if_pos rfl, if_pos rfl, g_M_turn, w_M_turn hcl]
      refine ⟨su u 347 (fb_ct (fun k => T (o k)) k) (nI (o k)), ⟨u2, fun c hc => ?_, fun j hj hTj => ?_⟩, rfl⟩
      · have hc2 := hc
        simp only [List.mem_cons, List.not_mem_nil, or_false] at hc2
        funext i
        rw [su_1, if_neg (fun z => hc2 z.1), uc c hc]
      · rw [su_1]
        by_cases e : j = k
        · rw [if_pos ⟨rfl, by rw [e]⟩, e]
        · have hne : fb_ct (fun k => T (o k)) j ≠ fb_ct (fun k => T (o k)) k := fun z => e (fb_ct_kth_one (p := fun k => T (o k)) hTj hTo z)
          rw [if_neg (fun z => hne z.2), ut j (by omega) hTj]) (x := s) ⟨rfl, fun _ _ => rfl, fun j hj => absurd hj (Nat.not_lt_zero j)⟩
  try dsimp only at e
  refine ⟨u, ?_, u2, uc, ut⟩
  rw [e_M_byOrder_0]
  refine Eq.trans e ?_
  rw [e_M_byOrder_8, if_pos (nI_le (by decide) (by decide))]
/-- the last sheet of the order that does it -/
def lst (T p : Nat → Bool) (o : Nat → Nat) : Nat → Int32
  | 0 => -1
  | k + 1 => if T (o k) && p (o k) then nI (o k) else lst T p o k
theorem lst_c {T p : Nat → Bool} {o : Nat → Nat} {k : Nat} : ∀ d, fb_ct (fun k => T (o k)) (k + d) = fb_ct (fun k => T (o k)) k → lst T p o (k + d) = lst T p o k
  | 0, _ => rfl
  | d + 1, h => by
    have h1 : fb_ct (fun k => T (o k)) (k + d) ≤ fb_ct (fun k => T (o k)) (k + d + 1) := fb_ct_mono _ (by omega)
    have h2 : fb_ct (fun k => T (o k)) k ≤ fb_ct (fun k => T (o k)) (k + d) := fb_ct_mono _ (by omega)
    have h0 : fb_ct (fun k => T (o k)) (k + d + 1) = fb_ct (fun k => T (o k)) k := h
    have h3 : T (o (k + d)) = false := by
      cases hT : T (o (k + d))
      · rfl
      · rw [fb_ct_succ, hT, if_pos rfl] at h0
        omega
    show (if T (o (k + d)) && p (o (k + d)) then nI (o (k + d)) else lst T p o (k + d)) = _
    rw [h3, Bool.false_and, if_neg (by decide)]
    exact lst_c d (by omega)
theorem painter_run (X : qz_X) {s : sT} {G : gsT} (h : Rel s G) {vx vy : Int32} {p : Nat → Bool} (hp : ∀ b, b < 6 → G.2.1.1 b = true → (inXY (G.2.1.2.1 b) vx vy → ∃ x y, x < (G.2.1.2.1 b).1 0 ∧ y < (G.2.1.2.1 b).1 1 ∧ vx = nI x ∧ vy = nI y ∧ p b = !tin (G.2.1.2.1 b) (nI ((G.2.1.2.1 b).1 5)) (20 * y + x)) ∧ (¬ inXY (G.2.1.2.1 b) vx vy → p b = false)) : ∀ k, k ≤ 6 → rn 235 2 [some (.ref 3), some (.int vx), some (.int vy), some (.int (nI k + (-1))), none] [] (mk X s) = some (some (.int (lst G.2.1.1 p G.2.1.2.2 k)), mk X s)
  | 0, _ => by
    rw [e_Pile_painter_2, if_pos (by decide)]
    rfl
  | k + 1, hk => by
    have ih := painter_run X h hp k (by omega)
    have ho := h.2.2.2.2.1.1.1
    have hok := ho.1 k (by omega)
    have h5 := h.2.2.2.2.1.2.2.1 k (by omega)
    have hS := (isS_pl _ (h.1.1 (G.2.1.2.2 k) (by omega))).1
    have h0 := (h.2.2.2.2.1.2.1 (G.2.1.2.2 k) hok).1
    rw [pk_m1, e_Pile_painter_2, if_neg (nI_pos (by omega)), g_N_sheets, g_N_places, i_N_places (by omega), h5, i_N_sheets hok, g_S_told hS, h0, told_int]
    show _ = some (some (Value.int (if G.2.1.1 (G.2.1.2.2 k) && p (G.2.1.2.2 k) then nI (G.2.1.2.2 k) else lst G.2.1.1 p G.2.1.2.2 k)), mk X s)
    cases hT : G.2.1.1 (G.2.1.2.2 k)
    · rw [if_neg (by decide), ih, Bool.false_and, if_neg (by decide)]
    · obtain ⟨-, ok, hC, -⟩ := tk_P h (show tk G (nI (G.2.1.2.2 k)) (G.2.1.2.2 k) from ⟨hok, rfl, hT⟩)
      obtain ⟨p1, p2⟩ := hp _ hok hT
      rw [if_pos rfl, Bool.true_and]
      rcases Classical.em (inXY (G.2.1.2.1 (G.2.1.2.2 k)) vx vy) with hi | hi
      · obtain ⟨x, y, hx, hy, rfl, rfl, hpb⟩ := p1 hi
        rw [ck_S hS, C_has_yes X hS ok hC hx hy, r1_s, if_neg (by decide), ck_S hS, C_isTin_run X hS ok hC hx hy, r1_s, told_int, hpb]
        cases tin (G.2.1.2.1 (G.2.1.2.2 k)) (nI ((G.2.1.2.1 (G.2.1.2.2 k)).1 5)) (20 * y + x)
        · rw [if_neg (by decide), g_N_places, i_N_places (by omega), h5]
          rfl
        · rw [if_pos rfl, ih]
          rfl
      · rw [ck_S hS, C_has_no X hS ok hC hi, r1_s, if_pos (by decide), ih, p2 hi, if_neg (by decide)]
theorem sim_paint (X : qz_X) (s : sT) (G : gsT) (h : Rel s G) (vx vy : Int32) : Sim X s 236 239 [some (.ref 0), some (.int vx), some (.int vy)] [some (.ref 318), some (.int vx), some (.int vy), none, none] := by
  have ho := h.2.2.2.2.1.1.1
  have hcl : ∀ {p : Nat → Bool}, (∀ b, b < 6 → G.2.1.1 b = true → (inXY (G.2.1.2.1 b) vx vy → ∃ x y, x < (G.2.1.2.1 b).1 0 ∧ y < (G.2.1.2.1 b).1 1 ∧ vx = nI x ∧ vy = nI y ∧ p b = !tin (G.2.1.2.1 b) (nI ((G.2.1.2.1 b).1 5)) (20 * y + x)) ∧ (¬ inXY (G.2.1.2.1 b) vx vy → p b = false)) → rn 236 0 [some (.ref 0), some (.int vx), some (.int vy)] [] (mk X s) = some (some (.int (lst G.2.1.1 p G.2.1.2.2 6)), mk X s) := by
    intro p hp
    rw [e_C_paint_0, g_C_now, ck_N, e_Pile_painter_0, show (nI 5 : Int32) = nI 6 + (-1) by decide, painter_run X h hp 6 (by decide), r1_s]
  rcases Classical.em (∃ x y, x < 20 ∧ y < 20 ∧ vx = nI x ∧ vy = nI y) with ⟨x, y, hx, hy, rfl, rfl⟩ | hno
  · have hq4 : 20 * y + x < 400 := by omega
    have hcp := hcl (p := fun b => pnt G.2.1.2.1 b (20 * y + x)) (fun b hb hT => by
      obtain ⟨-, ok, -, -⟩ := tk_P h (show tk G (nI b) b from ⟨hb, rfl, hT⟩)
      have o1 := ok.1
      have o2 := ok.2.1
      refine ⟨fun hi => ?_, fun hi => ?_⟩
      · obtain ⟨x', y', hx', hy', ex, ey⟩ := hi
        rw [nI_eq (by omega) (by omega)] at ex ey
        subst ex ey
        refine ⟨x, y, hx', hy', rfl, rfl, ?_⟩
        show pnt G.2.1.2.1 b (20 * y + x) = _
        unfold pnt hol
        rw [ins_iff.mpr ⟨by omega, by omega⟩, Bool.and_true]
      · cases hh : pnt G.2.1.2.1 b (20 * y + x)
        · rfl
        · have := ins_iff.mp (pnt_ins hh)
          exact absurd ⟨x, y, by omega, by omega, rfl, rfl⟩ hi)
    obtain ⟨u, e1, hu, -⟩ := lays_run X h
    have f1 : fr s u := fr_m [349, 350, 351] (by rw [hu.1]) hu.2.1 (by decide) (fun j hj => hu.2.2.1 j (fun e => by subst e; revert hj; decide))
    have h1 := h.fr f1
    obtain ⟨w, e2, w2, wc, wt⟩ := byOrder_run X (s := u) (T := G.2.1.1) (o := G.2.1.2.2) ho h1.2.2.2.2.1.2.2.2 (fun k hk => (h1.2.2.2.2.1.2.1 k hk).2.1)
    have f2 : fr u w := fr_of [347] (by rw [w2]) wc (by decide)
    have w52 : w.1 318 52 = nI (fb_ct (fun k => G.2.1.1 (G.2.1.2.2 k)) 6) := by rw [wc 318 (by decide), hu.2.2.2.1, ct_perm ho.1 ho.2]
    have hc6 : fb_ct (fun k => G.2.1.1 (G.2.1.2.2 k)) 6 ≤ 6 := fb_ct_le _ _
    obtain ⟨r, hr, e3⟩ := it_up (fun i (v : Int32) => rn 239 35 [some (.ref 318), some (.int (nI x)), some (.int (nI y)), some (.int v), some (.int (nI i))] [] (mk X w)) (fun i v => ∀ k, k ≤ 6 → fb_ct (fun k => G.2.1.1 (G.2.1.2.2 k)) k = i → v = lst G.2.1.1 (fun b => pnt G.2.1.2.1 b (20 * y + x)) G.2.1.2.2 k) (Nat.zero_le (fb_ct (fun k => G.2.1.1 (G.2.1.2.2 k)) 6)) (by
      rintro i v _ hi hv
      try dsimp only
      obtain ⟨k, hk, hTk, hck⟩ := fb_ct_kth hi
      have hTk : G.2.1.1 (G.2.1.2.2 k) = true := hTk
      have hok := ho.1 k hk
      have hvk := hv k (by omega) hck
      have htn : w.1 347 i = nI (G.2.1.2.2 k) := by rw [← hck]; exact wt k hk hTk
      have hbit : bt (w.1 349 (20 * y + x)) (G.2.1.2.2 k) = pnt G.2.1.2.1 (G.2.1.2.2 k) (20 * y + x) := by
        rw [wc 349 (by decide), hu.2.2.2.2.1 _ hq4 _ (by omega)]
        unfold lpb
        rw [decide_eq_true hok, hTk, decide_eq_false (show ¬ G.2.1.2.2 k = 6 by omega)]
        simp
      have nxt : ∀ k', k' ≤ 6 → fb_ct (fun k => G.2.1.1 (G.2.1.2.2 k)) k' = i + 1 → lst G.2.1.1 (fun b => pnt G.2.1.2.1 b (20 * y + x)) G.2.1.2.2 k' = (if pnt G.2.1.2.1 (G.2.1.2.2 k) (20 * y + x) then nI (G.2.1.2.2 k) else v) := by
        intro k' hk' hc'
        have hlt : k + 1 ≤ k' := by
          rcases Nat.lt_or_ge k k' with g | g
          · exact g
          · have := fb_ct_mono (fun k => G.2.1.1 (G.2.1.2.2 k)) g
            omega
        have hs : fb_ct (fun k => G.2.1.1 (G.2.1.2.2 k)) (k + 1) = i + 1 := by rw [fb_ct_succ, hTk, if_pos rfl, hck]
        have := lst_c (p := fun b => pnt G.2.1.2.1 b (20 * y + x)) (T := G.2.1.1) (o := G.2.1.2.2) (k := k + 1) (k' - (k + 1)) (by rw [show k + 1 + (k' - (k + 1)) = k' by omega, hc', hs])
        rw [show k + 1 + (k' - (k + 1)) = k' by omega] at this
        rw [this]
        show (if G.2.1.1 (G.2.1.2.2 k) && pnt G.2.1.2.1 (G.2.1.2.2 k) (20 * y + x) then nI (G.2.1.2.2 k) else lst G.2.1.1 (fun b => pnt G.2.1.2.1 b (20 * y + x)) G.2.1.2.2 k) = _
        rw [hTk, Bool.true_and, ← hvk]
      refine ⟨(if pnt G.2.1.2.1 (G.2.1.2.2 k) (20 * y + x) then nI (G.2.1.2.2 k) else v), fun k' a b => (nxt k' a b).symm, ?_⟩
      rw [e_M_paint_35, g_M_toldMany, w52, if_neg (nI_ge hi (by omega)), g_M_paints, ydm, i_M_paints hq4, g_M_turn, i_M_turn (by omega), htn, M_has_run _ _ (by omega), r1_s, told_int, hbit, nI_add]
      cases pnt G.2.1.2.1 (G.2.1.2.2 k) (20 * y + x)
      · rw [if_neg (by decide), if_neg (by decide)]
      · rw [if_pos rfl, if_pos rfl, g_M_turn, i_M_turn (by omega), htn]) (x := -1) (fun k hk hc => (by
      have := lst_c (p := fun b => pnt G.2.1.2.1 b (20 * y + x)) (T := G.2.1.1) (o := G.2.1.2.2) (k := 0) k (by rw [Nat.zero_add, hc]; rfl)
      rw [Nat.zero_add] at this
      exact this.symm))
    try dsimp only at e3
    have hr6 := hr 6 (Nat.le_refl _) rfl
    refine sim_q (r := .int (lst G.2.1.1 (fun b => pnt G.2.1.2.1 b (20 * y + x)) G.2.1.2.2 6)) h (s1 := s) (s2 := w) hcp (fr.rf s) ?_ (f1.tr f2)
    rw [e_M_paint_0, isIn_yes _ (by omega) (by decide), r1_s, if_neg (by decide), isIn_yes _ (by omega) (by decide), r1_s, if_neg (by decide), ck_M, e1, r0_s, ck_M, e2, r0_s, e3, e_M_paint_35, g_M_toldMany, w52, if_pos (nI_le (Nat.le_refl _) (by omega)), hr6]
  · have hcp := hcl (p := fun _ => false) (fun b hb hT => by
      obtain ⟨-, ok, -, -⟩ := tk_P h (show tk G (nI b) b from ⟨hb, rfl, hT⟩)
      have o1 := ok.1
      have o2 := ok.2.1
      refine ⟨fun hi => ?_, fun _ => rfl⟩
      obtain ⟨x', y', hx', hy', ex, ey⟩ := hi
      exact absurd ⟨x', y', by omega, by omega, ex, ey⟩ hno)
    have hl : ∀ k, lst G.2.1.1 (fun _ => false) G.2.1.2.2 k = -1 := by
      intro k
      induction k with
      | zero => rfl
      | succ k ih =>
        show (if G.2.1.1 (G.2.1.2.2 k) && false then nI (G.2.1.2.2 k) else lst G.2.1.1 (fun _ => false) G.2.1.2.2 k) = -1
        rw [Bool.and_false, if_neg (by decide), ih]
    rw [hl 6] at hcp
    refine sim_q (r := .int (-1)) h (s1 := s) (s2 := s) hcp (fr.rf s) ?_ (fr.rf s)
    rw [e_M_paint_0]
    rcases Classical.em (∃ x, x ≤ 19 ∧ vx = nI x) with ⟨x, hx, rfl⟩ | hx
    · rw [isIn_yes _ hx (by decide), r1_s, if_neg (by decide), isIn_no _ (by decide) (fun y hy e => hno ⟨x, y, by omega, by omega, rfl, e⟩), r1_s, if_pos (by decide)]
    · rw [isIn_no _ (by decide) (fun x hx' e => hx ⟨x, hx', e⟩), r1_s, if_pos (by decide)]

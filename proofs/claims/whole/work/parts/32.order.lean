/-! order, count, refusals -/
/-- both refuse -/
theorem Rel.refuse {s : sT} {G : gsT} (h : Rel s G) {j : Nat} (hj : j < 3) : Rel (su (su s 2 j (s.1 2 j + nI 1)) 319 j (s.1 319 j + nI 1)) G := by
  obtain ⟨h1, h2, h3, h4, h5, h6⟩ := h
  have hr : ∀ i, ¬ i = 2 → ¬ i = 319 → (su (su s 2 j (s.1 2 j + nI 1)) 319 j (s.1 319 j + nI 1)).1 i = s.1 i := by
    intro i p q
    funext k
    rw [su_1, if_neg (fun h => q h.1), su_1, if_neg (fun h => p h.1)]
  refine ⟨rPl_c rfl h1, rTp_c (by rw [hr 0 (by decide) (by decide)]) (by rw [hr 318 (by decide) (by decide)]) (hr 1 (by decide) (by decide)) (hr 332 (by decide) (by decide)) h2, ?_, ?_, rNo_c h1 rfl (fun i p q => hr i (by omega) (by omega)) (hr 5 (by decide) (by decide)) (fun i p q => hr i (by omega) (by omega)) (by rw [hr 318 (by decide) (by decide)]) h5, rIm_c (by rw [hr 0 (by decide) (by decide)]) (by rw [hr 318 (by decide) (by decide)]) (fun i p q => hr i (by omega) (by omega)) (hr 360 (by decide) (by decide)) (hr 361 (by decide) (by decide)) h6⟩
  · unfold rFa
    rw [hr 0 (by decide) (by decide), hr 318 (by decide) (by decide)]
    exact h3
  · intro k hk
    have := h4 k hk
    rw [su_1, su_1, su_1, su_1]
    by_cases hkj : k = j
    · subst hkj
      simp [this]
    · simp [hkj, this]
theorem C_refuse (X : qz_X) (s : sT) {j : Nat} (hj : j < 3) (f : qz_W → Option qz_R) : qz_ga (mk X s).1 0 11 3 (fun q4 => qz_ia (mk X s).1 q4 (nI j) (fun x5 => qz_is (mk X s) q4 (nI j) (x5 + (nI 1)) f)) = f (mk X (su s 2 j (s.1 2 j + nI 1))) := by
  rw [g_C_refused, i_C_refused hj, w_C_refused hj]
theorem M_refuse (X : qz_X) (s : sT) {j : Nat} (hj : j < 3) (v : Int32) : rn 73 0 [some (.ref 318), some (.int (nI j)), some (.int v)] [] (mk X s) = some (some (.int v), mk X (su s 319 j (s.1 319 j + nI 1))) := by
  rw [e_M_refuses_0, g_M_refused, i_M_refused hj, w_M_refused hj]
theorem M_refuse2 (X : qz_X) (s : sT) {j : Nat} (hj : j < 3) : rn 168 0 [some (.ref 318), some (.int (nI j))] [] (mk X s) = some (some (.int (nI 0)), mk X (su s 319 j (s.1 319 j + nI 1))) := by
  rw [e_M_refuses2_0, g_M_refused, i_M_refused hj, w_M_refused hj]
def dgt (d k : Nat) : Nat := d / 10 ^ k % 10
theorem dgt_next (d i : Nat) : d / 10 ^ i / 10 = d / 10 ^ (i + 1) := by rw [Nat.div_div_eq_div_mul, Nat.pow_succ]
/-- six digits, each of 0 to 5 once -/
def okD (d : Nat) : Prop := d ≤ 999999 ∧ ∀ i, i < 6 → ∃ k, k < 6 ∧ dgt d k = i
theorem okD_all {d : Nat} (h : okD d) : ∀ k, k < 6 → dgt d k < 6 := by
  obtain ⟨-, h⟩ := h
  have hc : ∀ i, ∃ k, i < 6 → k < 6 ∧ dgt d k = i := by
    intro i
    by_cases hi : i < 6
    · obtain ⟨k, hk⟩ := h i hi
      exact ⟨k, fun _ => hk⟩
    · exact ⟨0, fun g => absurd g hi⟩
  have hf : ∃ f : Nat → Nat, ∀ i, i < 6 → f i < 6 ∧ dgt d (f i) = i := ⟨fun i => (hc i).choose, fun i hi => (hc i).choose_spec hi⟩
  obtain ⟨f, hf⟩ := hf
  intro k hk
  obtain ⟨i, hi, e⟩ := fb_onto (n := 6) (f := f) (fun i hi => (hf i hi).1) (fun i j hij hj e => by
    have h1 := (hf i (by omega)).2
    have h2 := (hf j hj).2
    rw [e, h2] at h1
    omega) hk
  rw [← e, (hf i hi).2]
  exact hi
theorem names_run (X : qz_X) (s : sT) (v : Int32) : ∃ r : Int32, rn 231 0 [some (.int v), none, none, none] [] (mk X s) = some (some (.int r), mk X s) ∧ ((r = nI 1 ∧ ∃ d, v = nI d ∧ okD d) ∨ (r = nI 0 ∧ ¬ ∃ d, v = nI d ∧ d < 2 ^ 31 ∧ okD d)) := by
  rw [e_Pile_namesEachOnce_0]
  by_cases h0 : v < 0
  · refine ⟨nI 0, by rw [if_pos h0], Or.inr ⟨rfl, ?_⟩⟩
    rintro ⟨d, rfl, hd, -⟩
    exact nI_pos hd h0
  · obtain ⟨d, hd, rfl⟩ := nI_of h0
    rw [if_neg h0]
    by_cases h1 : d ≤ 999999
    · rw [if_pos (nI_le h1 (by decide))]
      have hs : ∀ (i : Nat) (t : Int32 × Int32), 0 ≤ i → i < 6 → (t.1 = nI (d / 10 ^ i) ∧ ∀ x, x < 32 → (bt t.2 x = true ↔ ∃ k, k < i ∧ dgt d k = x)) → ∃ y : Int32 × Int32, (y.1 = nI (d / 10 ^ (i + 1)) ∧ ∀ x, x < 32 → (bt y.2 x = true ↔ ∃ k, k < i + 1 ∧ dgt d k = x)) ∧ rn 231 18 [none, some (.int t.1), some (.int t.2), some (.int (nI i))] [] (mk X s) = rn 231 18 [none, some (.int y.1), some (.int y.2), some (.int (nI (i + 1)))] [] (mk X s) := by
        rintro i ⟨t1, t2⟩ _ hi ⟨e1, e2⟩
        try dsimp only at e1 e2
        subst e1
        have hdi : d / 10 ^ i < 2 ^ 31 := Nat.lt_of_le_of_lt (Nat.div_le_self _ _) hd
        refine ⟨(nI (d / 10 ^ (i + 1)), t2 ||| (nI 1 <<< (nI (dgt d i) &&& 31))), ⟨rfl, fun x hx => ?_⟩, ?_⟩
        · dsimp only
          have hm : dgt d i < 32 := Nat.lt_trans (Nat.mod_lt _ (by decide)) (by decide)
          rw [b_or, b_one _ hm x hx, Bool.or_eq_true, e2 x hx, decide_eq_true_eq]
          constructor
          · rintro (⟨k, hk, e⟩ | e)
            · exact ⟨k, by omega, e⟩
            · exact ⟨i, by omega, e.symm⟩
          · rintro ⟨k, hk, e⟩
            by_cases hki : k = i
            · subst hki; exact Or.inr e.symm
            · exact Or.inl ⟨k, by omega, e⟩
        · dsimp only
          rw [e_Pile_namesEachOnce_18, if_neg (nI_ge hi (by decide)), if_neg (by decide), if_neg (by decide), pk_div hdi (by decide) (by decide), dgt_next, nI_add]
          have hq : nI (d / 10 ^ i) - nI (d / 10 ^ (i + 1)) * nI 10 = nI (dgt d i) := by
            have := pk_rem (a := d / 10 ^ i) (d := 10) hdi (by decide) (by decide)
            rw [pk_div hdi (by decide) (by decide), dgt_next] at this
            exact this
          rw [hq]
      obtain ⟨⟨y1, y2⟩, ⟨hy1, hy2⟩, e⟩ := it_up (fun i (t : Int32 × Int32) => rn 231 18 [none, some (.int t.1), some (.int t.2), some (.int (nI i))] [] (mk X s)) (fun i t => t.1 = nI (d / 10 ^ i) ∧ ∀ x, x < 32 → (bt t.2 x = true ↔ ∃ k, k < i ∧ dgt d k = x)) (Nat.zero_le 6) hs (x := (nI d, nI 0)) ⟨by simp, fun x hx => by simp [b_n0]⟩
      try dsimp only at e hy1 hy2
      rw [e, e_Pile_namesEachOnce_18, if_pos (nI_le (by decide) (by decide))]
      by_cases hok : okD d
      · refine ⟨nI 1, ?_, Or.inl ⟨rfl, d, rfl, hok⟩⟩
        rw [if_pos]
        apply b_ext
        intro i hi
        rw [show bt (nI 63) i = decide (i < 6) from (by decide +kernel : ∀ i, i < 32 → bt (nI 63) i = decide (i < 6)) i hi]
        rw [Bool.eq_iff_iff, hy2 i hi, decide_eq_true_eq]
        constructor
        · rintro ⟨k, hk, rfl⟩
          exact okD_all hok k hk
        · exact hok.2 i
      · refine ⟨nI 0, ?_, Or.inr ⟨rfl, ?_⟩⟩
        · rw [if_neg]
          intro h
          apply hok
          refine ⟨h1, fun i hi => ?_⟩
          have := (hy2 i (by omega)).mp (by rw [h]; exact (by decide +kernel : ∀ i, i < 6 → bt (nI 63) i = true) i hi)
          exact this
        · rintro ⟨d', e', hd', h'⟩
          have : d = d' := (nI_eq hd hd').mp e'
          subst this
          exact hok h'
    · rw [if_neg (nI_ge (by omega) hd)]
      refine ⟨nI 0, rfl, Or.inr ⟨rfl, ?_⟩⟩
      rintro ⟨d', e', hd', h'⟩
      have : d = d' := (nI_eq hd hd').mp e'
      subst this
      exact h1 h'.1
theorem dgt_lt (d k : Nat) : dgt d k < 10 := Nat.mod_lt _ (by decide)
theorem rem10 {d i : Nat} (hd : d < 2 ^ 31) : nI (d / 10 ^ i) - nI (d / 10 ^ i) / nI 10 * nI 10 = nI (dgt d i) := pk_rem (Nat.lt_of_le_of_lt (Nat.div_le_self _ _) hd) (by decide) (by decide)
theorem div10 {d i : Nat} (hd : d < 2 ^ 31) : nI (d / 10 ^ i) / nI 10 = nI (d / 10 ^ (i + 1)) := by
  rw [pk_div (Nat.lt_of_le_of_lt (Nat.div_le_self _ _) hd) (by decide) (by decide), dgt_next]
theorem setOrder_run (X : qz_X) (s : sT) (d : Nat) (hd : d < 2 ^ 31) : rn 232 13 [some (.ref 3), none, some (.int (nI d)), some (.int (nI 5))] [] (mk X s) = some (some (.int (nI 1)), mk X (sa s 5 (fun k => if k < 6 then nI (dgt d (5 - k)) else s.1 5 k))) := by
  have hs : ∀ (i : Nat) (t : sT × Int32), i < 6 → (t.2 = nI (d / 10 ^ (6 - (i + 1))) ∧ t.1 = sa s 5 (fun k => if i + 1 ≤ k ∧ k < 6 then nI (dgt d (5 - k)) else s.1 5 k)) → ∃ y : sT × Int32, (y.2 = nI (d / 10 ^ (6 - i)) ∧ y.1 = sa s 5 (fun k => if i ≤ k ∧ k < 6 then nI (dgt d (5 - k)) else s.1 5 k)) ∧ rn 232 13 [some (.ref 3), none, some (.int t.2), some (.int (nI (i + 1) + (-1)))] [] (mk X t.1) = rn 232 13 [some (.ref 3), none, some (.int y.2), some (.int (nI i + (-1)))] [] (mk X y.1) := by
    rintro i ⟨t1, t2⟩ hi ⟨e1, e2⟩
    try dsimp only at e1 e2
    subst e1 e2
    refine ⟨(sa s 5 (fun k => if i ≤ k ∧ k < 6 then nI (dgt d (5 - k)) else s.1 5 k), nI (d / 10 ^ (6 - i))), ⟨rfl, rfl⟩, ?_⟩
    dsimp only
    rw [pk_m1, e_Pile_setOrder_13, if_neg (nI_pos (by omega)), g_N_places, if_neg (by decide), w_N_places hi, if_neg (by decide), rem10 hd, div10 hd, su_sa, show 6 - (i + 1) + 1 = 6 - i by omega, show 6 - (i + 1) = 5 - i by omega]
    have e : (fun j => if j = i then nI (dgt d (5 - i)) else if i + 1 ≤ j ∧ j < 6 then nI (dgt d (5 - j)) else s.1 5 j) = (fun k => if i ≤ k ∧ k < 6 then nI (dgt d (5 - k)) else s.1 5 k) := by
      funext j
      by_cases h1 : j = i
      · subst h1; rw [if_pos rfl, if_pos (by omega)]
      · rw [if_neg h1]
        by_cases h2 : i ≤ j ∧ j < 6
        · rw [if_pos h2, if_pos (by omega)]
        · rw [if_neg h2, if_neg (by omega)]
    rw [e]
  obtain ⟨⟨y1, y2⟩, ⟨hy1, hy2⟩, e⟩ := it_dn (fun i (t : sT × Int32) => rn 232 13 [some (.ref 3), none, some (.int t.2), some (.int (nI i + (-1)))] [] (mk X t.1)) (fun i t => t.2 = nI (d / 10 ^ (6 - i)) ∧ t.1 = sa s 5 (fun k => if i ≤ k ∧ k < 6 then nI (dgt d (5 - k)) else s.1 5 k)) 6 hs (x := (s, nI d)) ⟨by simp, by
    have e : (fun k => if 6 ≤ k ∧ k < 6 then nI (dgt d (5 - k)) else s.1 5 k) = s.1 5 := by
      funext k
      rw [if_neg (by omega)]
    show s = _
    rw [e, sa_id]⟩
  try dsimp only at e hy1 hy2
  rw [show nI 5 = nI 6 + (-1) from by decide, e, e_Pile_setOrder_13, if_pos (by decide), hy2]
  have e : (fun k => if 0 ≤ k ∧ k < 6 then nI (dgt d (5 - k)) else s.1 5 k) = (fun k => if k < 6 then nI (dgt d (5 - k)) else s.1 5 k) := by
    funext k
    by_cases h : k < 6
    · rw [if_pos h, if_pos ⟨Nat.zero_le _, h⟩]
    · rw [if_neg h, if_neg (fun q => h q.2)]
  rw [e]
theorem M_order_run (X : qz_X) (s : sT) (v : Int32) : ((∃ d, d < 2 ^ 31 ∧ v = nI d ∧ okD d) ∧ rn 234 0 [some (.ref 318), some (.int v), none, none, none] [] (mk X s) = some (some (.int (nI 1)), mk X (su s 318 1 v))) ∨ ((¬ ∃ d, d < 2 ^ 31 ∧ v = nI d ∧ okD d) ∧ rn 234 0 [some (.ref 318), some (.int v), none, none, none] [] (mk X s) = some (some (.int (nI 0)), mk X (su s 319 0 (s.1 319 0 + nI 1)))) := by
  rw [e_M_order_0]
  by_cases h0 : v < 0
  · refine Or.inr ⟨?_, ?_⟩
    · rintro ⟨d, hd, rfl, -⟩
      exact nI_pos hd h0
    · rw [e_M_order_7, if_neg (by decide), if_pos h0, e_M_order_47, if_pos h0, ck_M, show (nI 0 : Int32) = nI 0 from rfl, M_refuse2 X s (j := 0) (by decide), r1_s, qz_z0, cond_t]
  · obtain ⟨d, hd, rfl⟩ := nI_of h0
    have hs : ∀ (i : Nat) (t : Int32 × Int32), 0 ≤ i → i < 6 → (t.2 = nI (d / 10 ^ i) ∧ ∀ x, x < 32 → (bt t.1 x = true ↔ ∃ k, k < i ∧ dgt d k = x ∧ x < 6)) → ∃ y : Int32 × Int32, (y.2 = nI (d / 10 ^ (i + 1)) ∧ ∀ x, x < 32 → (bt y.1 x = true ↔ ∃ k, k < i + 1 ∧ dgt d k = x ∧ x < 6)) ∧ rn 234 7 [some (.ref 318), some (.int (nI d)), some (.int t.1), some (.int t.2), some (.int (nI i))] [] (mk X s) = rn 234 7 [some (.ref 318), some (.int (nI d)), some (.int y.1), some (.int y.2), some (.int (nI (i + 1)))] [] (mk X s) := by
      rintro i ⟨t1, t2⟩ _ hi ⟨e1, e2⟩
      try dsimp only at e1 e2
      subst e1
      have hm := dgt_lt d i
      by_cases h6 : 6 ≤ dgt d i
      · refine ⟨(t1, nI (d / 10 ^ (i + 1))), ⟨rfl, fun x hx => ?_⟩, ?_⟩
        · dsimp only
          rw [e2 x hx]
          constructor
          · rintro ⟨k, hk, e⟩
            exact ⟨k, by omega, e⟩
          · rintro ⟨k, hk, e, h⟩
            by_cases hki : k = i
            · subst hki; omega
            · exact ⟨k, by omega, e, h⟩
        · dsimp only
          rw [e_M_order_7, if_neg (nI_ge hi (by decide)), if_neg h0, if_neg (by decide), rem10 hd, if_pos (nI_le h6 (by omega)), if_neg (by decide), div10 hd, nI_add]
      · refine ⟨(t1 ||| (nI 1 <<< (nI (dgt d i) &&& 31)), nI (d / 10 ^ (i + 1))), ⟨rfl, fun x hx => ?_⟩, ?_⟩
        · dsimp only
          rw [b_or, b_one _ (by omega) x hx, Bool.or_eq_true, e2 x hx, decide_eq_true_eq]
          constructor
          · rintro (⟨k, hk, e⟩ | e)
            · exact ⟨k, by omega, e⟩
            · exact ⟨i, by omega, e.symm, by omega⟩
          · rintro ⟨k, hk, e, h⟩
            by_cases hki : k = i
            · subst hki; exact Or.inr e.symm
            · exact Or.inl ⟨k, by omega, e, h⟩
        · dsimp only
          rw [e_M_order_7, if_neg (nI_ge hi (by decide)), if_neg h0, if_neg (by decide), rem10 hd, if_neg (nI_ge (by omega) (by decide)), if_neg (by decide), if_neg (by decide), div10 hd, nI_add]
    obtain ⟨⟨y1, y2⟩, ⟨hy1, hy2⟩, e⟩ := it_up (fun i (t : Int32 × Int32) => rn 234 7 [some (.ref 318), some (.int (nI d)), some (.int t.1), some (.int t.2), some (.int (nI i))] [] (mk X s)) (fun i t => t.2 = nI (d / 10 ^ i) ∧ ∀ x, x < 32 → (bt t.1 x = true ↔ ∃ k, k < i ∧ dgt d k = x ∧ x < 6)) (Nat.zero_le 6) hs (x := (nI 0, nI d)) ⟨by simp, fun x hx => by simp [b_n0]⟩
    try dsimp only at e hy1 hy2
    rw [e, e_M_order_7, if_pos (nI_le (by decide) (by decide)), e_M_order_47, if_neg h0, hy1]
    by_cases h1 : d ≤ 999999
    · rw [show d / 10 ^ 6 = 0 from Nat.div_eq_of_lt (by omega), if_neg (by decide)]
      by_cases hok : okD d
      · refine Or.inl ⟨⟨d, hd, rfl, hok⟩, ?_⟩
        rw [if_pos, p_M_orderDigits]
        apply b_ext
        intro i hi
        rw [show bt (nI 63) i = decide (i < 6) from (by decide +kernel : ∀ i, i < 32 → bt (nI 63) i = decide (i < 6)) i hi]
        rw [Bool.eq_iff_iff, hy2 i hi, decide_eq_true_eq]
        constructor
        · rintro ⟨k, hk, -, h⟩
          exact h
        · intro h
          obtain ⟨k, hk, e⟩ := hok.2 i h
          exact ⟨k, hk, e, h⟩
      · refine Or.inr ⟨?_, ?_⟩
        · rintro ⟨d', hd', e', h'⟩
          have : d = d' := (nI_eq hd hd').mp e'
          subst this
          exact hok h'
        · rw [if_neg, ck_M, M_refuse2 X s (j := 0) (by decide), r1_s, qz_z0, cond_t]
          intro h
          apply hok
          refine ⟨h1, fun i hi => ?_⟩
          obtain ⟨k, hk, e, -⟩ := (hy2 i (by omega)).mp (by rw [h]; exact (by decide +kernel : ∀ i, i < 6 → bt (nI 63) i = true) i hi)
          exact ⟨k, hk, e⟩
    · refine Or.inr ⟨?_, ?_⟩
      · rintro ⟨d', hd', e', h'⟩
        have : d = d' := (nI_eq hd hd').mp e'
        subst this
        exact h1 h'.1
      · have hp : 0 < d / 10 ^ 6 := Nat.div_pos (by omega) (by decide)
        rw [if_pos (show (0 : Int32) < nI (d / 10 ^ 6) from nI_lt (a := 0) hp (Nat.lt_of_le_of_lt (Nat.div_le_self _ _) hd)), ck_M, M_refuse2 X s (j := 0) (by decide), r1_s, qz_z0, cond_t]
theorem okD_okO {d : Nat} (h : okD d) : okO (fun k => dgt d (5 - k)) := by
  refine ⟨fun k hk => okD_all h _ (by omega), fun i j hi hj e => ?_⟩
  try dsimp only at e
  have hc : ∀ i, ∃ k, i < 6 → k < 6 ∧ dgt d k = i := by
    intro i
    by_cases hi : i < 6
    · obtain ⟨k, hk⟩ := h.2 i hi
      exact ⟨k, fun _ => hk⟩
    · exact ⟨0, fun g => absurd g hi⟩
  have hf : ∃ f : Nat → Nat, ∀ i, i < 6 → f i < 6 ∧ dgt d (f i) = i := ⟨fun i => (hc i).choose, fun i hi => (hc i).choose_spec hi⟩
  obtain ⟨f, hf⟩ := hf
  have on : ∀ k, k < 6 → ∃ i, i < 6 ∧ f i = k := fun k hk => fb_onto (n := 6) (f := f) (fun i hi => (hf i hi).1) (fun i j hij hj e => by
    have h1 := (hf i (by omega)).2
    have h2 := (hf j hj).2
    rw [e, h2] at h1
    omega) hk
  obtain ⟨a, ha, ea⟩ := on (5 - i) (by omega)
  obtain ⟨b, hb, eb⟩ := on (5 - j) (by omega)
  rw [← ea, ← eb, (hf a ha).2, (hf b hb).2] at e
  subst e
  omega
theorem dig_dgt {d : Nat} (h : d ≤ 999999) : dig (fun k => dgt d (5 - k)) = d := by
  unfold dig dgt
  simp only [Nat.sub_zero, Nat.reduceSub, Nat.reducePow]
  omega
theorem sim_order (X : qz_X) (s : sT) (G : gsT) (h : Rel s G) (v : Int32) : Sim X s 233 234 [some (.ref 0), some (.int v)] [some (.ref 318), some (.int v), none, none, none] := by
  obtain ⟨r, hr, hcase⟩ := names_run X s v
  have hC : rn 233 0 [some (.ref 0), some (.int v)] [] (mk X s) = (if r = 0 then some (some (.int (nI 0)), mk X (su s 2 0 (s.1 2 0 + nI 1))) else qz_r1 (rn 232 13 [some (.ref 3), none, some (.int v), some (.int (nI 5))] [] (mk X s)) (fun x3 w2 => if x3 = 0 then qz_ga w2.1 0 11 3 (fun q4 => qz_ia w2.1 q4 (nI 0) (fun x5 => qz_is w2 q4 (nI 0) (x5 + (nI 1)) (fun w6 => some (some (.int (nI 0)), w6)))) else some (some (.int (nI 1)), w2))) := by
    rw [e_C_order_0, g_C_now, ck_N, e_Pile_setOrder_0, hr, r1_s]
    by_cases h0 : r = 0
    · rw [if_pos h0, if_pos h0, r1_s, if_pos (by decide), C_refuse X s (j := 0) (by decide)]
    · rw [if_neg h0, if_neg h0]
  rcases hcase with ⟨rfl, d, rfl, hok⟩ | ⟨rfl, hno⟩
  · have hd : d < 2 ^ 31 := Nat.lt_of_le_of_lt hok.1 (by decide)
    rw [if_neg (by decide), setOrder_run X s d hd, r1_s, if_neg (by decide)] at hC
    rcases M_order_run X (sa s 5 (fun k => if k < 6 then nI (dgt d (5 - k)) else s.1 5 k)) (nI d) with ⟨-, hM⟩ | ⟨hn, -⟩
    · refine ⟨_, _, _, (G.1, (G.2.1.1, G.2.1.2.1, fun k => dgt d (5 - k)), G.2.2), hC, hM, ?_⟩
      obtain ⟨h1, h2, h3, h4, ⟨n1, n2, n3, n4⟩, h6⟩ := h
      have hr : ∀ i, ¬ i = 318 → ¬ i = 5 → (su (sa s 5 (fun k => if k < 6 then nI (dgt d (5 - k)) else s.1 5 k)) 318 1 (nI d)).1 i = s.1 i := by
        intro i p q
        funext k
        rw [su_1, if_neg (fun h => p h.1), sa_1, if_neg q]
      have hx : ∀ j, ¬ j = 1 → (su (sa s 5 (fun k => if k < 6 then nI (dgt d (5 - k)) else s.1 5 k)) 318 1 (nI d)).1 318 j = s.1 318 j := by
        intro j p
        rw [su_1, if_neg (fun h => p h.2), sa_1, if_neg (by decide)]
      refine ⟨rPl_c rfl h1, rTp_c (by rw [hr 0 (by decide) (by decide)]) (hx 14 (by decide)) (hr 1 (by decide) (by decide)) (hr 332 (by decide) (by decide)) h2, ?_, ?_, ⟨⟨okD_okO hok, n1.2⟩, fun k hk => ?_, fun k hk => ?_, ?_⟩, rIm_c (by rw [hr 0 (by decide) (by decide)]) (hx 61 (by decide)) (fun i p q => hr i (by omega) (by omega)) (hr 360 (by decide) (by decide)) (hr 361 (by decide) (by decide)) h6⟩
      · unfold rFa
        rw [hr 0 (by decide) (by decide), hx 17 (by decide)]
        exact h3
      · unfold rRe
        rw [hr 2 (by decide) (by decide), hr 319 (by decide) (by decide)]
        exact h4
      · obtain ⟨p1, p2, p3⟩ := n2 k hk
        have hq := isS_pl _ (h1.1 k (by omega))
        show (su (sa s 5 _) 318 1 (nI d)).1 (s.2.2 k) 0 = _ ∧ _
        rw [hr 321 (by decide) (by decide), hr (s.2.2 k) (by omega) (by omega)]
        exact ⟨p1, p2, fun ht => ⟨isC_cong (q := s.2.2 k) (fun i hi => hr (s.2.2 k + i) (by omega) (by omega)) (p3 ht).1, isM_cong (gN_c (fun i p q => hr i (by omega) (by omega))) (p3 ht).2⟩⟩
      · rw [su_1, if_neg (by omega), sa_1, if_pos rfl, if_pos hk]
      · rw [su_1, if_pos ⟨rfl, rfl⟩]
        show nI d = nI (dig (fun k => dgt d (5 - k)))
        rw [dig_dgt hok.1]
    · exact absurd ⟨d, hd, rfl, hok⟩ hn
  · rw [if_pos (by decide)] at hC
    rcases M_order_run X (su s 2 0 (s.1 2 0 + nI 1)) v with ⟨⟨d, hd, e, hok⟩, -⟩ | ⟨-, hM⟩
    · exact absurd ⟨d, e, hd, hok⟩ hno
    · refine ⟨_, _, _, G, hC, hM, ?_⟩
      have e : (su s 2 0 (s.1 2 0 + nI 1)).1 319 0 = s.1 319 0 := by simp [su_1]
      rw [e]
      exact h.refuse (j := 0) (by decide)

/-! count -/
theorem told_int {α : Type} (b : Bool) (A B : α) : (if (if b then nI 1 else nI 0 : Int32) = 0 then A else B) = if b then B else A := by
  cases b
  · rw [if_pos (by decide)]; rfl
  · rw [if_neg (by decide)]; rfl
theorem told_one {α : Type} (b : Bool) (A B : α) : (if (if b then nI 1 else nI 0 : Int32) = nI 1 then A else B) = if b then A else B := by
  cases b
  · rw [if_neg (by decide)]; rfl
  · rw [if_pos (by decide)]; rfl
theorem toldSet_run (X : qz_X) (s : sT) (hp : rPl s) (T : Nat → Bool) (hT : ∀ k, k < 6 → s.1 (s.2.2 k) 0 = if T k then nI 1 else nI 0) : ∃ v : Int32, rn 240 0 [some (.ref 3), none, none] [] (mk X s) = some (some (.int v), mk X s) ∧ ∀ x, x < 32 → bt v x = (decide (x < 6) && T x) := by
  have hs : ∀ (i : Nat) (v : Int32), 0 ≤ i → i < 6 → (∀ x, x < 32 → bt v x = (decide (x < i) && T x)) → ∃ y : Int32, (∀ x, x < 32 → bt y x = (decide (x < i + 1) && T x)) ∧ rn 240 4 [some (.ref 3), some (.int v), some (.int (nI i))] [] (mk X s) = rn 240 4 [some (.ref 3), some (.int y), some (.int (nI (i + 1)))] [] (mk X s) := by
    intro i v _ hi hv
    have hq := (isS_pl _ (hp.1 i (by omega))).1
    rw [e_Pile_toldSet_4, if_neg (nI_ge hi (by decide)), g_N_sheets, i_N_sheets hi, g_S_told hq, hT i hi, told_int, nI_add]
    cases hb : T i
    · refine ⟨v ||| nI 0, fun x hx => ?_, by rw [if_neg (by decide)]⟩
      rw [b_or, b_n0, hv x hx]
      by_cases h1 : x = i
      · subst h1; simp [hb]
      · by_cases h2 : x < i
        · simp [h2, show x < i + 1 by omega]
        · simp [h2, show ¬ x < i + 1 by omega]
    · refine ⟨v ||| (nI 1 <<< (nI i &&& 31)), fun x hx => ?_, by rw [if_pos rfl]⟩
      rw [b_or, b_one i (by omega) x hx, hv x hx]
      by_cases h1 : x = i
      · subst h1; simp [hb]
      · by_cases h2 : x < i
        · simp [h1, h2, show x < i + 1 by omega]
        · simp [h1, h2, show ¬ x < i + 1 by omega]
  obtain ⟨y, hy, e⟩ := it_up (fun i (v : Int32) => rn 240 4 [some (.ref 3), some (.int v), some (.int (nI i))] [] (mk X s)) (fun i v => ∀ x, x < 32 → bt v x = (decide (x < i) && T x)) (Nat.zero_le 6) hs (x := nI 0) (fun x hx => by simp [b_n0])
  try dsimp only at e
  refine ⟨y, ?_, hy⟩
  rw [e_Pile_toldSet_0, e, e_Pile_toldSet_4, if_pos (nI_le (by decide) (by decide))]
theorem ct_cut {p q : Nat → Bool} {n m : Nat} (h : ∀ x, x < n + m → p x = (decide (x < n) && q x)) : fb_ct p (n + m) = fb_ct q n := by
  have e2 : fb_ct (fun k => p (n + k)) m = 0 := fb_ct_zero.mpr (fun k hk => by rw [h (n + k) (by omega), decide_eq_false (by omega)]; rfl)
  rw [fb_ct_split, fb_ct_cong (p := p) (q := q) (n := n) (fun k hk => by rw [h k (by omega)]; simp [hk]), e2]
  rfl
def hor (o : Nat → Nat) : Nat → Nat
  | 0 => 0
  | i + 1 => hor o i * 10 + o i
theorem hor_dig (o : Nat → Nat) : hor o 6 = dig o := by
  simp only [hor, dig]
  omega
theorem orderDigits_run (X : qz_X) (s : sT) (o : Nat → Nat) (ho : ∀ k, k < 6 → s.1 5 k = nI (o k)) : rn 293 0 [some (.ref 3), none, none] [] (mk X s) = some (some (.int (nI (dig o))), mk X s) := by
  have hs : ∀ (i : Nat) (v : Int32), 0 ≤ i → i < 6 → v = nI (hor o i) → ∃ y : Int32, y = nI (hor o (i + 1)) ∧ rn 293 4 [some (.ref 3), some (.int v), some (.int (nI i))] [] (mk X s) = rn 293 4 [some (.ref 3), some (.int y), some (.int (nI (i + 1)))] [] (mk X s) := by
    rintro i v _ hi rfl
    refine ⟨_, rfl, ?_⟩
    rw [e_Pile_orderDigits_4, if_neg (nI_ge hi (by decide)), g_N_places, i_N_places hi, ho i hi, pk_mul, nI_add, nI_add]
    rfl
  obtain ⟨y, hy, e⟩ := it_up (fun i (v : Int32) => rn 293 4 [some (.ref 3), some (.int v), some (.int (nI i))] [] (mk X s)) (fun i v => v = nI (hor o i)) (Nat.zero_le 6) hs (x := nI 0) rfl
  try dsimp only at e
  rw [e_Pile_orderDigits_0, e, e_Pile_orderDigits_4, if_pos (nI_le (by decide) (by decide)), hy, hor_dig]
theorem M_told_run (X : qz_X) (s : sT) (T : Nat → Bool) (hT : ∀ k, k < 6 → s.1 321 k = if T k then nI 1 else nI 0) : rn 295 70 [some (.ref 318), none, some (.int (nI 0)), some (.int (nI 0))] [] (mk X s) = some (some (.int (nI (fb_ct T 6))), mk X s) := by
  have hs : ∀ (i : Nat) (v : Int32), 0 ≤ i → i < 6 → v = nI (fb_ct T i) → ∃ y : Int32, y = nI (fb_ct T (i + 1)) ∧ rn 295 70 [some (.ref 318), none, some (.int v), some (.int (nI i))] [] (mk X s) = rn 295 70 [some (.ref 318), none, some (.int y), some (.int (nI (i + 1)))] [] (mk X s) := by
    rintro i v _ hi rfl
    refine ⟨_, rfl, ?_⟩
    rw [e_M_count_70, if_neg (nI_ge hi (by decide)), g_M_isTold, i_M_isTold hi, hT i hi, fb_ct_succ, nI_add]
    cases T i
    · simp only [Bool.false_eq_true, if_false, nI_add]
    · simp only [if_true, nI_add]
  obtain ⟨y, hy, e⟩ := it_up (fun i (v : Int32) => rn 295 70 [some (.ref 318), none, some (.int v), some (.int (nI i))] [] (mk X s)) (fun i v => v = nI (fb_ct T i)) (Nat.zero_le 6) hs (x := nI 0) rfl
  try dsimp only at e
  rw [e, e_M_count_70, if_pos (nI_le (by decide) (by decide)), hy]
theorem sim_count (X : qz_X) (s : sT) (G : gsT) (h : Rel s G) (v : Int32) : Sim X s 294 295 [some (.ref 0), some (.int v)] [some (.ref 318), some (.int v), none, none] := by
  obtain ⟨h1, h2, h3, h4, ⟨n1, n2, n3, n4⟩, h6⟩ := id h
  unfold Sim
  rw [e_C_count_0]
  by_cases q0 : v = nI 0
  · subst q0
    obtain ⟨y, hy, hb⟩ := toldSet_run X s h1 G.2.1.1 (fun k hk => (n2 k hk).1)
    refine ⟨(nI (fb_ct G.2.1.1 6)), s, s, G, ?_, ?_, h⟩
    · rw [if_pos rfl, g_C_now, ck_N, hy, r1_s, pop_run, r1_s, show 32 = 6 + 26 from rfl, ct_cut hb]
    · rw [e_M_count_0, if_pos rfl, M_told_run X s G.2.1.1 (fun k hk => (n2 k hk).2.1)]
  rw [if_neg q0]
  by_cases q1 : v = nI 1
  · subst q1
    refine ⟨(nI G.1.1), s, s, G, ?_, ?_, h⟩
    · rw [if_pos rfl, g_C_tapeLength, h2.2.1]
    · rw [e_M_count_0, if_neg (by decide), if_pos rfl, g_M_taped, h2.2.2.1]
  rw [if_neg q1]
  by_cases q2 : v = nI 2
  · subst q2
    refine ⟨(nI G.2.2.1), s, s, G, ?_, ?_, h⟩
    · rw [if_pos rfl, g_C_imageCount, h6.2.1]
    · rw [e_M_count_0, if_neg (by decide), if_neg (by decide), if_pos rfl, g_M_images, h6.2.2.1]
  rw [if_neg q2]
  by_cases q3 : v = nI 3
  · subst q3
    refine ⟨(nI (dig G.2.1.2.2)), s, s, G, ?_, ?_, h⟩
    · rw [if_pos rfl, g_C_now, ck_N, orderDigits_run X s _ n3, r1_s]
    · rw [e_M_count_0, if_neg (by decide), if_neg (by decide), if_neg (by decide), if_pos rfl, g_M_orderDigits, n4]
  rw [if_neg q3]
  by_cases q10 : v = nI 10
  · subst q10
    refine ⟨(s.1 2 0), s, s, G, ?_, ?_, h⟩
    · simp only [show ¬ nI 10 = nI 4 by decide, show ¬ nI 10 = nI 5 by decide, show ¬ nI 10 = nI 6 by decide, show ¬ nI 10 = nI 7 by decide, show ¬ nI 10 = nI 8 by decide, show ¬ nI 10 = nI 9 by decide, if_false, if_true]
      rw [g_C_refused, i_C_refused (by decide)]
    · rw [e_M_count_0]
      simp only [show ¬ nI 10 = nI 0 by decide, show ¬ nI 10 = nI 1 by decide, show ¬ nI 10 = nI 2 by decide, show ¬ nI 10 = nI 3 by decide, show ¬ nI 10 = nI 4 by decide, show ¬ nI 10 = nI 5 by decide, show ¬ nI 10 = nI 6 by decide, show ¬ nI 10 = nI 7 by decide, show ¬ nI 10 = nI 8 by decide, show ¬ nI 10 = nI 9 by decide, if_false, if_true]
      rw [g_M_refused, pk_sub (by decide), i_M_refused (by decide), h4 0 (by decide)]
  by_cases q11 : v = nI 11
  · subst q11
    refine ⟨(s.1 2 1), s, s, G, ?_, ?_, h⟩
    · simp only [show ¬ nI 11 = nI 4 by decide, show ¬ nI 11 = nI 5 by decide, show ¬ nI 11 = nI 6 by decide, show ¬ nI 11 = nI 7 by decide, show ¬ nI 11 = nI 8 by decide, show ¬ nI 11 = nI 9 by decide, show ¬ nI 11 = nI 10 by decide, if_false, if_true]
      rw [g_C_refused, i_C_refused (by decide)]
    · rw [e_M_count_0]
      simp only [show ¬ nI 11 = nI 0 by decide, show ¬ nI 11 = nI 1 by decide, show ¬ nI 11 = nI 2 by decide, show ¬ nI 11 = nI 3 by decide, show ¬ nI 11 = nI 4 by decide, show ¬ nI 11 = nI 5 by decide, show ¬ nI 11 = nI 6 by decide, show ¬ nI 11 = nI 7 by decide, show ¬ nI 11 = nI 8 by decide, show ¬ nI 11 = nI 9 by decide, show ¬ nI 11 = nI 10 by decide, if_false, if_true]
      rw [g_M_refused, pk_sub (by decide), i_M_refused (by decide), h4 1 (by decide)]
  by_cases q12 : v = nI 12
  · subst q12
    refine ⟨(s.1 2 2), s, s, G, ?_, ?_, h⟩
    · simp only [show ¬ nI 12 = nI 4 by decide, show ¬ nI 12 = nI 5 by decide, show ¬ nI 12 = nI 6 by decide, show ¬ nI 12 = nI 7 by decide, show ¬ nI 12 = nI 8 by decide, show ¬ nI 12 = nI 9 by decide, show ¬ nI 12 = nI 10 by decide, show ¬ nI 12 = nI 11 by decide, if_false, if_true]
      rw [g_C_refused, i_C_refused (by decide)]
    · rw [e_M_count_0]
      simp only [show ¬ nI 12 = nI 0 by decide, show ¬ nI 12 = nI 1 by decide, show ¬ nI 12 = nI 2 by decide, show ¬ nI 12 = nI 3 by decide, show ¬ nI 12 = nI 4 by decide, show ¬ nI 12 = nI 5 by decide, show ¬ nI 12 = nI 6 by decide, show ¬ nI 12 = nI 7 by decide, show ¬ nI 12 = nI 8 by decide, show ¬ nI 12 = nI 9 by decide, show ¬ nI 12 = nI 10 by decide, show ¬ nI 12 = nI 11 by decide, if_false, if_true]
      rw [g_M_refused, pk_sub (by decide), i_M_refused (by decide), h4 2 (by decide)]
  refine ⟨(-1), s, s, G, ?_, ?_, h⟩
  · simp only [q10, q11, q12, if_false, ite_self]
  · rw [e_M_count_0]
    simp only [q0, q1, q2, q3, q10, q11, q12, if_false, ite_self]

/-! what a sheet's bridges keep from paint: the class -/
def cov (P : Nat → shT) (L : Nat → Bool) (q : Nat) : Nat → Bool
  | 0 => false
  | b + 1 => cov P L q b || (L b && pnt P b q)
def wl (P : Nat → shT) (k : Nat) (L : Nat → Bool) (q : Nat) : Nat := if lvs P k q && !cov P L q 6 then (P k).2.2.1 q else 0
theorem cov_up {P : Nat → shT} {L : Nat → Bool} {q j : Nat} (h : cov P L q j = true) : ∀ d, cov P L q (j + d) = true
  | 0 => h
  | d + 1 => by
    show (cov P L q (j + d) || (L (j + d) && pnt P (j + d) q)) = true
    rw [cov_up h d, Bool.true_or]
theorem leftOf_rows (X : qz_X) {s : sT} {G : gsT} (h : Rel s G) {k : Nat} {v2 v4 : Int32} {L : Nat → Bool} (hL : ∀ b, b < 6 → bt v2 b = L b) (hLT : ∀ b, b < 6 → L b = true → G.2.1.1 b = true) {y : Nat} (hy : y < 20) : ∀ (d j : Nat) (r : Int32), j + d = 6 → (∀ x, x < 32 → bt r x = (decide (x < 20) && (lvs G.2.1.2.1 k (20 * y + x) && !cov G.2.1.2.1 L (20 * y + x) j))) → ∃ r' : Int32, (∀ x, x < 32 → bt r' x = (decide (x < 20) && (lvs G.2.1.2.1 k (20 * y + x) && !cov G.2.1.2.1 L (20 * y + x) 6))) ∧ rn 242 48 [some (.ref 3), none, some (.int v2), some (.ref (s.2.2 k)), some (.int v4), some (.int (nI y)), some (.int r), some (.int (nI j))] [] (mk X s) = rn 242 97 [some (.ref 3), none, some (.int v2), some (.ref (s.2.2 k)), some (.int v4), some (.int (nI y)), some (.int r'), some (.int (nI 0))] [] (mk X s)
  | 0, j, r, hj, hr => by
    have : j = 6 := by omega
    subst this
    exact ⟨r, hr, by rw [e_Pile_leftOf_48, if_pos (nI_le (by decide) (by decide))]⟩
  | d + 1, j, r, hj, hr => by
    rw [e_Pile_leftOf_48, if_neg (nI_ge (show j < 6 by omega) (by decide))]
    by_cases h0 : r = 0
    · refine ⟨r, fun x hx => ?_, by rw [if_pos h0]⟩
      have := hr x hx
      rw [h0, b_0] at this
      rw [h0, b_0]
      cases hd : decide (x < 20)
      · rfl
      · rw [hd, Bool.true_and] at this
        rw [Bool.true_and]
        cases hl : lvs G.2.1.2.1 k (20 * y + x)
        · rfl
        · rw [hl, Bool.true_and] at this
          have hc : cov G.2.1.2.1 L (20 * y + x) j = true := by
            cases hc : cov G.2.1.2.1 L (20 * y + x) j
            · rw [hc] at this; cases this
            · rfl
          have := cov_up hc (d + 1)
          rw [hj] at this
          rw [this]; rfl
    · rw [if_neg h0, nI_add]
      cases hLj : L j
      · rw [if_pos ((b_selz _ (by omega)).mpr (by rw [hL j (by omega), hLj]))]
        refine leftOf_rows X h hL hLT hy d (j + 1) r (by omega) (fun x hx => ?_)
        rw [hr x hx]
        show _ = (decide (x < 20) && (lvs G.2.1.2.1 k (20 * y + x) && !(cov G.2.1.2.1 L (20 * y + x) j || (L j && pnt G.2.1.2.1 j (20 * y + x)))))
        rw [hLj, Bool.false_and, Bool.or_false]
      · rw [if_neg (fun z => by rw [b_selz _ (by omega), hL j (by omega), hLj] at z; cases z)]
        obtain ⟨hS, ok, hC, -⟩ := tk_P h (show tk G (nI j) j from ⟨by omega, rfl, hLT j (by omega) hLj⟩)
        obtain ⟨ro, eo, bo⟩ := openRow_run X hS ok hC hy
        rw [g_N_sheets, i_N_sheets (by omega), ck_S hS, eo, r1_s]
        refine leftOf_rows X h hL hLT hy d (j + 1) (r &&& (ro ^^^ (-1))) (by omega) (fun x hx => ?_)
        rw [b_and, b_not _ hx, hr x hx, bo x hx]
        show _ = (decide (x < 20) && (lvs G.2.1.2.1 k (20 * y + x) && !(cov G.2.1.2.1 L (20 * y + x) j || (L j && pnt G.2.1.2.1 j (20 * y + x)))))
        rw [hLj, Bool.true_and]
        show _ = (decide (x < 20) && (lvs G.2.1.2.1 k (20 * y + x) && !(cov G.2.1.2.1 L (20 * y + x) j || hol (G.2.1.2.1 j) (nI ((G.2.1.2.1 j).1 5)) (20 * y + x))))
        cases decide (x < 20) <;> cases lvs G.2.1.2.1 k (20 * y + x) <;> cases cov G.2.1.2.1 L (20 * y + x) j <;> cases hol (G.2.1.2.1 j) (nI ((G.2.1.2.1 j).1 5)) (20 * y + x) <;> rfl
theorem leftOf_sum (X : qz_X) {s : sT} {G : gsT} (h : Rel s G) {k : Nat} (hk : tk G (nI k) k) {v2 r : Int32} {L : Nat → Bool} {y v : Nat} (hy : y < 20) (hr : ∀ x, x < 32 → bt r x = (decide (x < 20) && (lvs G.2.1.2.1 k (20 * y + x) && !cov G.2.1.2.1 L (20 * y + x) 6))) : rn 242 97 [some (.ref 3), none, some (.int v2), some (.ref (s.2.2 k)), some (.int (nI v)), some (.int (nI y)), some (.int r), some (.int (nI 0))] [] (mk X s) = rn 242 13 [some (.ref 3), none, some (.int v2), some (.ref (s.2.2 k)), some (.int (nI (v + fb_sm (fun x => wl G.2.1.2.1 k L (20 * y + x)) 20))), some (.int (nI (y + 1))), none, none] [] (mk X s) := by
  obtain ⟨hS, ok, hC, -⟩ := tk_P h hk
  have bx : ∀ x, x < 20 → bt r x = (lvs G.2.1.2.1 k (20 * y + x) && !cov G.2.1.2.1 L (20 * y + x) 6) := fun x hx => by rw [hr x (by omega), decide_eq_true hx, Bool.true_and]
  by_cases h0 : r = 0
  · have hz : ∀ n, n ≤ 20 → fb_sm (fun x => wl G.2.1.2.1 k L (20 * y + x)) n = 0 := by
      intro n
      induction n with
      | zero => intro _; rfl
      | succ n ih =>
        intro hn
        rw [fb_sm_succ, ih (by omega)]
        have := bx n (by omega)
        rw [h0, b_0] at this
        show 0 + wl G.2.1.2.1 k L (20 * y + n) = 0
        unfold wl
        rw [← this]; rfl
    rw [e_Pile_leftOf_97, if_neg (by decide), if_pos h0, hz 20 (Nat.le_refl _), nI_add]
    rfl
  · obtain ⟨w, hw, e⟩ := it_up (fun x (w : Int32) => rn 242 97 [some (.ref 3), none, some (.int v2), some (.ref (s.2.2 k)), some (.int w), some (.int (nI y)), some (.int r), some (.int (nI x))] [] (mk X s)) (fun x w => w = nI (v + fb_sm (fun x => wl G.2.1.2.1 k L (20 * y + x)) x)) (Nat.zero_le 20) (by
      rintro x w _ hx rfl
      try dsimp only
      refine ⟨_, rfl, ?_⟩
      rw [e_Pile_leftOf_97, if_neg (nI_ge hx (by decide)), if_neg h0, fb_sm_succ]
      show _ = rn 242 97 [some (.ref 3), none, some (.int v2), some (.ref (s.2.2 k)), some (.int (nI (v + (fb_sm (fun x => wl G.2.1.2.1 k L (20 * y + x)) x + wl G.2.1.2.1 k L (20 * y + x))))), some (.int (nI y)), some (.int r), some (.int (nI (x + 1)))] [] (mk X s)
      unfold wl
      have hb := bx x hx
      cases hbb : bt r x
      · rw [hbb] at hb
        rw [if_pos ((b_selz _ (by omega)).mpr hbb), ← hb, if_neg (show ¬ (false = true) by decide), nI_add, nI_add]
        rfl
      · rw [hbb] at hb
        rw [if_neg (fun z => by rw [b_selz _ (by omega), hbb] at z; cases z), g_S_worth hS, ydx, i_S_worth hS (by omega), hC.2.2.1 _ (by omega), ← hb, if_pos (show true = true from rfl), nI_add, nI_add, Nat.add_assoc]) (x := nI v) rfl
    try dsimp only at e
    rw [e, e_Pile_leftOf_97, if_pos (nI_le (by decide) (by decide)), nI_add, hw]
theorem leftOf_run (X : qz_X) {s : sT} {G : gsT} (h : Rel s G) {k : Nat} (hk : tk G (nI k) k) {v2 : Int32} {L : Nat → Bool} (hL : ∀ b, b < 6 → bt v2 b = L b) (hLT : ∀ b, b < 6 → L b = true → G.2.1.1 b = true) : rn 242 0 [some (.ref 3), some (.int (nI k)), some (.int v2), none, none, none, none, none] [] (mk X s) = some (some (.int (nI (fb_sm (fun y => fb_sm (fun x => wl G.2.1.2.1 k L (20 * y + x)) 20) ((G.2.1.2.1 k).1 1)))), mk X s) := by
  obtain ⟨hS, ok, hC, -⟩ := tk_P h hk
  have hk6 := hk.1
  have o2 := ok.2.1
  obtain ⟨w, hw, e⟩ := it_up (fun y (w : Int32) => rn 242 13 [some (.ref 3), none, some (.int v2), some (.ref (s.2.2 k)), some (.int w), some (.int (nI y)), none, none] [] (mk X s)) (fun y w => w = nI (fb_sm (fun y => fb_sm (fun x => wl G.2.1.2.1 k L (20 * y + x)) 20) y)) (Nat.zero_le ((G.2.1.2.1 k).1 1)) (by
    rintro y w _ hy rfl
    try dsimp only
    refine ⟨_, rfl, ?_⟩
    obtain ⟨r, er, br⟩ := tinRow_run X hS ok hC (nI ((G.2.1.2.1 k).1 5)) (y := y) (by omega)
    obtain ⟨r', br', e'⟩ := leftOf_rows X h (k := k) (v4 := nI (fb_sm (fun y => fb_sm (fun x => wl G.2.1.2.1 k L (20 * y + x)) 20) y)) hL hLT (y := y) (by omega) 6 0 (s.1 (s.2.2 k + 1) y &&& r) rfl (fun x hx => by
      rw [b_and, hC.2.1 y (by omega) x hx, br x hx]
      show _ = (decide (x < 20) && ((tin (G.2.1.2.1 k) (nI ((G.2.1.2.1 k).1 5)) (20 * y + x) && (G.2.1.2.1 k).2.1 (20 * y + x)) && !false))
      cases decide (x < 20) <;> cases tin (G.2.1.2.1 k) (nI ((G.2.1.2.1 k).1 5)) (20 * y + x) <;> cases (G.2.1.2.1 k).2.1 (20 * y + x) <;> rfl)
    rw [e_Pile_leftOf_13, g_S_high hS, hC.1.2.1, if_neg (nI_ge hy (by omega)), g_S_through hS, i_S_through hS (by omega), g_S_bridges hS, g_B_in hS, hC.1.2.2.2.2.2.1, ck_S hS, er, r1_s, e', leftOf_sum X h hk (by omega) br']
    rfl) (x := nI 0) rfl
  try dsimp only at e
  rw [e_Pile_leftOf_0, g_N_sheets, i_N_sheets hk6, e, e_Pile_leftOf_13, g_S_high hS, hC.1.2.1, if_pos (nI_le (Nat.le_refl _) (by omega)), hw]

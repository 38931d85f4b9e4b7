/-! which sheet paints a square, which keeps paint from it: the reference's rows -/
def prg (y x q : Nat) : Bool := decide (q / 20 < y) || (decide (q / 20 = y) && decide (q % 20 < x))
/-- bits of one row: the sheets below k whole, sheet k as far as D -/
def lpb (T : Nat → Bool) (f : Nat → Nat → Bool) (k : Nat) (D : Nat → Bool) (q b : Nat) : Bool := (decide (b < k) && (T b && f b q)) || (decide (b = k) && (T k && (f k q && D q)))
def pnt (P : Nat → shT) (b q : Nat) : Bool := hol (P b) (nI ((P b).1 5)) q
def lvs (P : Nat → shT) (b q : Nat) : Bool := tin (P b) (nI ((P b).1 5)) q && (P b).2.1 q
def lyS (s u : sT) (T : Nat → Bool) (P : Nat → shT) (k : Nat) (D : Nat → Bool) (m : Nat) : Prop := u.2 = s.2 ∧ (∀ c, c ∉ [318, 349, 350, 351] → u.1 c = s.1 c) ∧ (∀ j, j ≠ 52 → u.1 318 j = s.1 318 j) ∧ u.1 318 52 = nI (fb_ct T m) ∧ (∀ q, q < 400 → ∀ b, b < 32 → bt (u.1 349 q) b = lpb T (pnt P) k D q b) ∧ ∀ q, q < 400 → ∀ b, b < 32 → bt (u.1 350 q) b = lpb T (lvs P) k D q b
theorem lpb_c {T : Nat → Bool} {f : Nat → Nat → Bool} {k : Nat} {D D' : Nat → Bool} {q : Nat} (h : f k q = true → D q = D' q) (b : Nat) : lpb T f k D q b = lpb T f k D' q b := by
  unfold lpb
  cases hf : f k q
  · simp
  · rw [h hf]
theorem lpb_or {T : Nat → Bool} {f : Nat → Nat → Bool} {k x y : Nat} (hT : T k = true) (hx : x < 20) {q b : Nat} : lpb T f k (prg y (x + 1)) q b = (lpb T f k (prg y x) q b || (decide (b = k) && (decide (q = 20 * y + x) && f k q))) := by
  unfold lpb
  by_cases hb : b = k
  · subst hb
    rw [decide_eq_true (rfl : b = b), decide_eq_false (Nat.lt_irrefl b), hT]
    have e : prg y (x + 1) q = (prg y x q || decide (q = 20 * y + x)) := by
      unfold prg
      by_cases h1 : q / 20 < y
      · rw [decide_eq_true h1]; simp
      · by_cases h2 : q / 20 = y
        · rw [decide_eq_false h1, decide_eq_true h2]
          by_cases h3 : q % 20 = x
          · rw [decide_eq_true (show q % 20 < x + 1 by omega), decide_eq_true (show q = 20 * y + x by omega)]; simp
          · rw [decide_eq_false (show ¬ q = 20 * y + x by omega)]
            by_cases h4 : q % 20 < x
            · rw [decide_eq_true h4, decide_eq_true (show q % 20 < x + 1 by omega)]; rfl
            · rw [decide_eq_false h4, decide_eq_false (show ¬ q % 20 < x + 1 by omega)]; rfl
        · rw [decide_eq_false h1, decide_eq_false h2, decide_eq_false (show ¬ q = 20 * y + x by omega)]; rfl
    rw [e]
    cases f b q <;> cases prg y x q <;> cases decide (q = 20 * y + x) <;> rfl
  · rw [decide_eq_false hb]; simp
theorem lays_x (X : qz_X) {s : sT} {T : Nat → Bool} {P : Nat → shT} {k m : Nat} (hk : k < 6) (hT : T k = true) (ok : okA (P k)) (hM : isM (gN s) k (P k)) {y : Nat} (hy : y < (P k).1 1) : ∀ (x : Nat) (u : sT), 0 ≤ x → x < (P k).1 0 → lyS s u T P k (prg y x) m → ∃ z : sT, lyS s z T P k (prg y (x + 1)) m ∧ z.1 351 = u.1 351 ∧ rn 237 87 [some (.ref 318), some (.int (nI k)), some (.int (nI y)), some (.int (nI x)), none] [] (mk X u) = rn 237 87 [some (.ref 318), some (.int (nI k)), some (.int (nI y)), some (.int (nI (x + 1))), none] [] (mk X z) := by
  rintro x u _ hx ⟨h1, h2, h3, h4, h5, h6⟩
  have o1 := ok.1
  have o2 := ok.2.1
  have hq4 : 20 * y + x < 400 := by omega
  have hMu : isM (gN u) k (P k) := isM_of (fun c p q => h2 c (by simp; omega)) hM
  have hin : ins (P k) (20 * y + x) = true := ins_iff.mpr ⟨by omega, by omega⟩
  have ht : (!(P k).2.1 (20 * y + x) || brs (P k) (nI ((P k).1 5)) (20 * y + x)) = tin (P k) (nI ((P k).1 5)) (20 * y + x) := by
    unfold tin
    rw [hin, Bool.true_and]
  have bit : ∀ (v : Int32) (b : Nat), b < 32 → bt (v ||| (nI 1 <<< (nI k &&& 31))) b = (bt v b || decide (b = k)) := fun v b hb => by rw [b_or, b_one k (by omega) b hb]
  have htr : u.1 322 (400 * k + (20 * y + x)) = if (P k).2.1 (20 * y + x) then nI 1 else nI 0 := hMu.2.1 _ hq4
  rw [e_M_laysOver_87, ck_M, M_wide_run X (by omega) hMu, r1_s, if_neg (nI_ge hx (by omega)), ck_M, M_in_run X (by omega) hMu, r1_s, ck_M, M_isTin_run X (by omega) hMu _ (by omega) (by omega), r1_s, ht, ydm]
  cases hti : tin (P k) (nI ((P k).1 5)) (20 * y + x)
  · have hp : pnt P k (20 * y + x) = true := by unfold pnt hol; rw [hti, hin]; rfl
    have hl : lvs P k (20 * y + x) = false := by unfold lvs; rw [hti]; rfl
    refine ⟨su u 349 (20 * y + x) (u.1 349 (20 * y + x) ||| (nI 1 <<< (nI k &&& 31))), ⟨h1, fun c hc => ?_, fun j hj => ?_, ?_, fun q hq b hb => ?_, fun q hq b hb => ?_⟩, (by funext j; rw [su_1, if_neg (by omega)]), ?_⟩
    · have hc2 := hc
      simp only [List.mem_cons, List.not_mem_nil, or_false, not_or] at hc2
      funext j
      rw [su_1, if_neg (by omega), h2 c hc]
    · rw [su_1, if_neg (by omega), h3 j hj]
    · rw [su_1, if_neg (by omega), h4]
    · rw [su_1, lpb_or hT (by omega)]
      by_cases e : q = 20 * y + x
      · rw [if_pos ⟨rfl, e⟩, bit _ b hb, e, h5 _ hq4 b hb, hp]; simp
      · rw [if_neg (fun z => e z.2), h5 q hq b hb, decide_eq_false e]; simp
    · rw [su_1, if_neg (by omega), lpb_or hT (by omega), h6 q hq b hb]
      by_cases e : q = 20 * y + x
      · rw [e, hl]; simp
      · rw [decide_eq_false e]; simp
    · rw [if_pos (by decide), g_M_paints, i_M_paints hq4, w_M_paints hq4, e_M_laysOver_132, if_pos (by decide), nI_add]
  · have hp : pnt P k (20 * y + x) = false := by unfold pnt hol; rw [hti]; rfl
    rw [if_neg (by decide), e_M_laysOver_132, if_neg (by decide), g_M_through, M_at_run, r1_s, i_M_through (by omega), htr, told_one]
    cases htt : (P k).2.1 (20 * y + x)
    · have hl : lvs P k (20 * y + x) = false := by unfold lvs; rw [htt]; simp
      refine ⟨u, ⟨h1, h2, h3, h4, fun q hq b hb => ?_, fun q hq b hb => ?_⟩, rfl, ?_⟩
      · rw [lpb_or hT (by omega), h5 q hq b hb]
        by_cases e : q = 20 * y + x
        · rw [e, hp]; simp
        · rw [decide_eq_false e]; simp
      · rw [lpb_or hT (by omega), h6 q hq b hb]
        by_cases e : q = 20 * y + x
        · rw [e, hl]; simp
        · rw [decide_eq_false e]; simp
      · rw [if_neg (by decide), nI_add]
    · have hl : lvs P k (20 * y + x) = true := by unfold lvs; rw [htt, hti]; rfl
      refine ⟨su u 350 (20 * y + x) (u.1 350 (20 * y + x) ||| (nI 1 <<< (nI k &&& 31))), ⟨h1, fun c hc => ?_, fun j hj => ?_, ?_, fun q hq b hb => ?_, fun q hq b hb => ?_⟩, (by funext j; rw [su_1, if_neg (by omega)]), ?_⟩
      · have hc2 := hc
        simp only [List.mem_cons, List.not_mem_nil, or_false, not_or] at hc2
        funext j
        rw [su_1, if_neg (by omega), h2 c hc]
      · rw [su_1, if_neg (by omega), h3 j hj]
      · rw [su_1, if_neg (by omega), h4]
      · rw [su_1, if_neg (by omega), lpb_or hT (by omega), h5 q hq b hb]
        by_cases e : q = 20 * y + x
        · rw [e, hp]; simp
        · rw [decide_eq_false e]; simp
      · rw [su_1, lpb_or hT (by omega)]
        by_cases e : q = 20 * y + x
        · rw [if_pos ⟨rfl, e⟩, bit _ b hb, e, h6 _ hq4 b hb, hl]; simp
        · rw [if_neg (fun z => e z.2), h6 q hq b hb, decide_eq_false e]; simp
      · rw [if_pos rfl, g_M_leaves, ydm, i_M_leaves hq4, w_M_leaves hq4, nI_add]

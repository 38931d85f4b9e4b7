/-! joining: the class; one relaxing, one sweep, rest -/
def prJ (A : shT) (bw : Bool) (q : Nat) : Nat := if q = 400 then 0 else if A.2.1 q then (if bw then A.2.2.1 q else 1) else 0
def ndJ (A : shT) (v : Nat) : Prop := v = 400 ∨ (v < 400 ∧ ins A v = true)
def nbJ (A : shT) (p v : Nat) : Prop := (adj p v ∧ ins A p = true ∧ ins A v = true) ∨ (p = 400 ∧ v < 400 ∧ rim A v = true) ∨ (v = 400 ∧ p < 400 ∧ rim A p = true)
theorem rim_ins {A : shT} {q : Nat} (h : rim A q = true) : ins A q = true := by
  unfold rim at h
  rw [Bool.and_eq_true] at h
  exact h.1
theorem nbJ_nd {A : shT} {p v : Nat} (h : nbJ A p v) : ndJ A p ∧ ndJ A v := by
  rcases h with ⟨h1, h2, h3⟩ | ⟨h1, h2, h3⟩ | ⟨h1, h2, h3⟩
  · exact ⟨Or.inr ⟨h1.1, h2⟩, Or.inr ⟨h1.2.1, h3⟩⟩
  · exact ⟨Or.inl h1, Or.inr ⟨h2, rim_ins h3⟩⟩
  · exact ⟨Or.inr ⟨h2, rim_ins h3⟩, Or.inl h1⟩
theorem ndJ_lt {A : shT} {v : Nat} (h : ndJ A v) : v < 401 := by
  rcases h with h | h <;> omega
theorem prJ_le {A : shT} (ok : okA A) (bw : Bool) {q : Nat} (hq : q ≤ 400) : prJ A bw q ≤ 99 := by
  unfold prJ
  by_cases e : q = 400
  · rw [if_pos e]; omega
  · have := ok.2.2.2.2.2.2.2.2.2.2.1 q (by omega)
    rw [if_neg e]
    repeat' split
    all_goals omega
/-- the least beside a square, out of those on the sides below d -/
def nrA (A : shT) (a : Nat → Nat) (v : Nat) : Nat → Nat
  | 0 => if rim A v then a 400 else 1000000
  | d + 1 => if decide (nbs v d = 400) || !ins A (nbs v d) then nrA A a v d else if a (nbs v d) < nrA A a v d then a (nbs v d) else nrA A a v d
theorem nrA_dn {A : shT} {a : Nat → Nat} {v d : Nat} : nrA A a v (d + 1) ≤ nrA A a v d := by
  show (if decide (nbs v d = 400) || !ins A (nbs v d) then nrA A a v d else if a (nbs v d) < nrA A a v d then a (nbs v d) else nrA A a v d) ≤ _
  by_cases h : (decide (nbs v d = 400) || !ins A (nbs v d)) = true
  · rw [if_pos h]; exact Nat.le_refl _
  · rw [if_neg h]
    split <;> omega
theorem nrA_mono {A : shT} {a : Nat → Nat} {v : Nat} : ∀ e d, nrA A a v (d + e) ≤ nrA A a v d
  | 0, d => Nat.le_refl _
  | e + 1, d => Nat.le_trans nrA_dn (nrA_mono e d)
theorem nrA_low {A : shT} {a : Nat → Nat} {p v : Nat} (h : nbJ A p v) (hv : v < 400) : nrA A a v 4 ≤ a p := by
  rcases h with ⟨h1, h2, h3⟩ | ⟨h1, h2, h3⟩ | ⟨h1, h2, h3⟩
  · obtain ⟨-, hp, d, hd, e⟩ := adj_symm h1
    have hm := nrA_mono (A := A) (a := a) (v := v) (3 - d) (d + 1)
    rw [show d + 1 + (3 - d) = 4 by omega] at hm
    refine Nat.le_trans hm ?_
    show (if decide (nbs v d = 400) || !ins A (nbs v d) then nrA A a v d else if a (nbs v d) < nrA A a v d then a (nbs v d) else nrA A a v d) ≤ _
    rw [e, decide_eq_false (by omega), h2, if_neg (by decide)]
    split <;> omega
  · have hm := nrA_mono (A := A) (a := a) (v := v) 4 0
    have h0 : nrA A a v 0 = a 400 := by
      show (if rim A v then a 400 else 1000000) = _
      rw [if_pos h3]
    rw [h1, ← h0]
    exact hm
  · omega
theorem nrA_at {A : shT} {a : Nat → Nat} {v : Nat} (hv : v < 400) (hi : ins A v = true) : ∀ d, d ≤ 4 → nrA A a v d = 1000000 ∨ ∃ p, nbJ A p v ∧ nrA A a v d = a p
  | 0, _ => by
    show (if rim A v then a 400 else 1000000) = 1000000 ∨ ∃ p, nbJ A p v ∧ (if rim A v then a 400 else 1000000) = a p
    cases hr : rim A v
    · exact Or.inl rfl
    · exact Or.inr ⟨400, Or.inr (Or.inl ⟨rfl, hv, hr⟩), rfl⟩
  | d + 1, hd => by
    have ih := nrA_at (a := a) hv hi d (by omega)
    show (if decide (nbs v d = 400) || !ins A (nbs v d) then nrA A a v d else if a (nbs v d) < nrA A a v d then a (nbs v d) else nrA A a v d) = 1000000 ∨ ∃ p, nbJ A p v ∧ (if decide (nbs v d = 400) || !ins A (nbs v d) then nrA A a v d else if a (nbs v d) < nrA A a v d then a (nbs v d) else nrA A a v d) = a p
    by_cases h : (decide (nbs v d = 400) || !ins A (nbs v d)) = true
    · rw [if_pos h]; exact ih
    · rw [if_neg h]
      by_cases hl : a (nbs v d) < nrA A a v d
      · rw [if_pos hl]
        have h1 : ¬ nbs v d = 400 := fun e => h (by rw [decide_eq_true e]; rfl)
        have h2 : ins A (nbs v d) = true := by
          cases hh : ins A (nbs v d)
          · exact absurd (by rw [hh]; simp) h
          · rfl
        have hle := nbs_le (q := v) (d := d) hv
        exact Or.inr ⟨nbs v d, Or.inl ⟨adj_symm ⟨hv, by omega, d, by omega, rfl⟩, h2, hi⟩, rfl⟩
      · rw [if_neg hl]; exact ih
def upN (a : Nat → Nat) (v x : Nat) : Nat → Nat := fun w => if w = v then x else a w
/-- one square relaxed -/
def rs1 (A : shT) (bw : Bool) (a : Nat → Nat) (v : Nat) : Nat → Nat := if nrA A a v 4 + prJ A bw v < a v then upN a v (nrA A a v 4 + prJ A bw v) else a
def rs2 (A : shT) (a1 : Nat → Nat) (v : Nat) : Nat → Nat := if rim A v && decide (a1 v < a1 400) then upN a1 400 (a1 v) else a1
def rsB (A : shT) (bw : Bool) (a : Nat → Nat) (v : Nat) : Bool := decide (nrA A a v 4 + prJ A bw v < a v) || (rim A v && decide (rs1 A bw a v v < rs1 A bw a v 400))
def rsA (A : shT) (bw : Bool) (a : Nat → Nat) (v : Nat) : Nat → Nat := rs2 A (rs1 A bw a v) v
theorem rs1_le {A : shT} {bw : Bool} {a : Nat → Nat} {v w : Nat} : rs1 A bw a v w ≤ a w := by
  unfold rs1 upN
  split
  · dsimp only
    by_cases e : w = v
    · rw [if_pos e, e]; omega
    · rw [if_neg e]; exact Nat.le_refl _
  · exact Nat.le_refl _
theorem rs2_le {A : shT} {a : Nat → Nat} {v w : Nat} : rs2 A a v w ≤ a w := by
  unfold rs2 upN
  by_cases h : (rim A v && decide (a v < a 400)) = true
  · rw [if_pos h]
    rw [Bool.and_eq_true, decide_eq_true_eq] at h
    try dsimp only
    by_cases e : w = 400
    · rw [if_pos e, e]; omega
    · rw [if_neg e]; exact Nat.le_refl _
  · rw [if_neg h]; exact Nat.le_refl _
theorem rsA_le {A : shT} {bw : Bool} {a : Nat → Nat} {v w : Nat} : rsA A bw a v w ≤ a w := Nat.le_trans rs2_le rs1_le
theorem rs1_v {A : shT} {bw : Bool} {a : Nat → Nat} {v : Nat} : rs1 A bw a v v ≤ nrA A a v 4 + prJ A bw v := by
  unfold rs1 upN
  split
  · dsimp only
    rw [if_pos rfl]; exact Nat.le_refl _
  · omega
theorem rsA_nb {A : shT} {bw : Bool} {a : Nat → Nat} {p v : Nat} (hv : v < 400) (h : nbJ A p v) : rsA A bw a v v ≤ a p + prJ A bw v := by
  have h1 := nrA_low (a := a) h hv
  have h2 := rs1_v (A := A) (bw := bw) (a := a) (v := v)
  have h3 := rs2_le (A := A) (a := rs1 A bw a v) (v := v) (w := v)
  have h3 : rsA A bw a v v ≤ rs1 A bw a v v := h3
  omega
theorem rsA_400 {A : shT} {bw : Bool} {a : Nat → Nat} {v : Nat} (hv : v < 400) (hr : rim A v = true) : rsA A bw a v 400 ≤ a v := by
  have h1 := rs1_le (A := A) (bw := bw) (a := a) (v := v) (w := v)
  unfold rsA rs2 upN
  rw [hr, Bool.true_and]
  by_cases h : rs1 A bw a v v < rs1 A bw a v 400
  · rw [decide_eq_true h, if_pos rfl]
    try dsimp only
    rw [if_pos rfl]
    exact h1
  · rw [decide_eq_false h, if_neg (by decide)]
    omega
theorem rsA_no {A : shT} {bw : Bool} {a : Nat → Nat} {v : Nat} (h : rsB A bw a v = false) : rsA A bw a v = a := by
  unfold rsB at h
  rw [Bool.or_eq_false_iff] at h
  have h1 : rs1 A bw a v = a := by
    unfold rs1
    rw [if_neg (of_decide_eq_false h.1)]
  unfold rsA rs2
  rw [if_neg (by rw [h.2]; decide), h1]
/-- what is found so is found by steps -/
theorem rsA_q {A : shT} {bw : Bool} {a : Nat → Nat} {v : Nat} (hv : v < 400) (hi : ins A v = true) (hb : ∀ w, ndJ A w → a w ≤ 1000000) {Q : Nat → Nat → Prop} (hs : ∀ p v c, nbJ A p v → Q p c → Q v (c + prJ A bw v)) (h : ∀ w, ndJ A w → Q w (a w)) : ∀ w, ndJ A w → Q w (rsA A bw a v w) := by
  have h1 : ∀ w, ndJ A w → Q w (rs1 A bw a v w) := by
    intro w hw
    unfold rs1 upN
    split
    · rename_i hl
      try dsimp only
      by_cases e : w = v
      · subst e
        rw [if_pos rfl]
        rcases nrA_at (a := a) hv hi 4 (Nat.le_refl 4) with g | ⟨p, g1, g2⟩
        · have := hb w hw
          omega
        · rw [g2]
          exact hs p w _ g1 (h p (nbJ_nd g1).1)
      · rw [if_neg e]; exact h w hw
    · exact h w hw
  intro w hw
  unfold rsA rs2 upN
  by_cases hc : (rim A v && decide (rs1 A bw a v v < rs1 A bw a v 400)) = true
  · rw [if_pos hc]
    rw [Bool.and_eq_true] at hc
    try dsimp only
    by_cases e : w = 400
    · subst e
      rw [if_pos rfl]
      have := hs v 400 _ (Or.inr (Or.inr ⟨rfl, hv, hc.1⟩)) (h1 v (Or.inr ⟨hv, hi⟩))
      have e0 : prJ A bw 400 = 0 := by unfold prJ; rw [if_pos rfl]
      rw [e0, Nat.add_zero] at this
      exact this
    · rw [if_neg e]; exact h1 w hw
  · rw [if_neg hc]; exact h1 w hw
/-- the class's numbers of one set -/
def cvS (u : sT) (A : shT) (S : Nat) (a : Nat → Nat) : Prop := ∀ v, ndJ A v → u.1 104 (S * 401 + v) = nI (a v)
def pcS (u : sT) (A : shT) (bw : Bool) : Prop := rows (u.1 106) (rim A) ∧ ∀ v, v < 401 → u.1 105 v = if v = 400 then nI 0 else if ins A v then nI (prJ A bw v) else -1
def jcF (S : Nat) (s u : sT) : Prop := u.2 = s.2 ∧ (∀ c, c ≠ 104 → u.1 c = s.1 c) ∧ ∀ j, (j < S * 401 ∨ S * 401 + 401 ≤ j) → u.1 104 j = s.1 104 j
theorem jcF.rf (S : Nat) (s : sT) : jcF S s s := ⟨rfl, fun _ _ => rfl, fun _ _ => rfl⟩
theorem jcF.tr {S : Nat} {s u v : sT} (h : jcF S s u) (g : jcF S u v) : jcF S s v := ⟨by rw [g.1, h.1], fun c hc => by rw [g.2.1 c hc, h.2.1 c hc], fun j hj => by rw [g.2.2 j hj, h.2.2 j hj]⟩
theorem jcF_su {S : Nat} {s : sT} {v : Nat} {x : Int32} (hv : v < 401) : jcF S s (su s 104 (S * 401 + v) x) := ⟨rfl, fun c hc => by
  funext j
  rw [su_1, if_neg (fun e => hc e.1)], fun j hj => by rw [su_1, if_neg (fun e => by omega)]⟩
theorem pcS_f {S : Nat} {s u : sT} {A : shT} {bw : Bool} (h : jcF S s u) (hp : pcS s A bw) : pcS u A bw := ⟨by rw [h.2.1 106 (by decide)]; exact hp.1, fun v hv => by rw [h.2.1 105 (by decide)]; exact hp.2 v hv⟩
theorem cvS_up {s : sT} {A : shT} {S : Nat} {a : Nat → Nat} {v x : Nat} (h : cvS s A S a) : cvS (su s 104 (S * 401 + v) (nI x)) A S (upN a v x) := fun w hw => by
  rw [su_1]
  unfold upN
  by_cases e : w = v
  · rw [if_pos ⟨rfl, by rw [e]⟩, if_pos e]
  · rw [if_neg (fun z => e (by omega)), if_neg e, h w hw]
theorem rd_106 (X : qz_X) : rd X 106 := fun _ _ _ h => i_J_rim h
theorem relaxSquare_run (X : qz_X) {s : sT} {A : shT} (ok : okA A) {bw : Bool} {S : Nat} (hS : S < 128) (hp : pcS s A bw) {a : Nat → Nat} (ha : cvS s A S a) (hb : ∀ w, ndJ A w → a w ≤ 1000000) {v : Nat} (hv : v < 400) (hi : ins A v = true) : ∃ z : sT, rn 192 0 [some (.ref 103), some (.int (nI (S * 401))), some (.int (nI v)), none, none, none, none] [] (mk X s) = some (some (.int (bI (rsB A bw a v))), mk X z) ∧ jcF S s z ∧ cvS z A S (rsA A bw a v) := by
  have hnv : ndJ A v := Or.inr ⟨hv, hi⟩
  have hpv : s.1 105 v = nI (prJ A bw v) := by
    rw [hp.2 v (by omega), if_neg (by omega), if_pos hi]
  have pl := prJ_le ok bw (show v ≤ 400 by omega)
  have nb4 : ∀ d, d ≤ 4 → nrA A a v d ≤ 1000000 := fun d hd => by
    rcases nrA_at (a := a) hv hi d hd with g | ⟨p, g1, g2⟩
    · omega
    · rw [g2]; exact hb p (nbJ_nd g1).1
  have near : rn 192 33 [some (.ref 103), some (.int (nI (S * 401))), some (.int (nI v)), some (.int (if rim A v then nI 1 else nI 0)), some (.int (nI (nrA A a v 0))), some (.int (nI 0)), none] [] (mk X s) = rn 192 33 [some (.ref 103), some (.int (nI (S * 401))), some (.int (nI v)), some (.int (if rim A v then nI 1 else nI 0)), some (.int (nI (nrA A a v 4))), some (.int (nI 4)), none] [] (mk X s) := by
    obtain ⟨w, rfl, e⟩ := it_up (fun d (w : Int32) => rn 192 33 [some (.ref 103), some (.int (nI (S * 401))), some (.int (nI v)), some (.int (if rim A v then nI 1 else nI 0)), some (.int w), some (.int (nI d)), none] [] (mk X s)) (fun d w => w = nI (nrA A a v d)) (Nat.zero_le 4) (by
      rintro d w _ hd rfl
      try dsimp only
      refine ⟨_, rfl, ?_⟩
      have hs : nrA A a v (d + 1) = if decide (nbs v d = 400) || !ins A (nbs v d) then nrA A a v d else if a (nbs v d) < nrA A a v d then a (nbs v d) else nrA A a v d := rfl
      have hle := nbs_le (q := v) (d := d) hv
      have n1 := nb4 d (by omega)
      rw [e_Joining_relaxSquare_33, if_neg (nI_ge hd (by decide)), C_beside_run X s hv hd, r1_s, nI_add]
      by_cases h4 : nbs v d = 400
      · rw [decide_eq_true h4, Bool.true_or, if_pos rfl] at hs
        rw [bsN_no h4, if_pos rfl, hs]
      · rw [decide_eq_false h4, Bool.false_or] at hs
        rw [bsN_yes h4, if_neg (nI_m1 (by omega)), g_J_price, i_J_price (by omega), hp.2 _ (by omega), if_neg h4]
        cases hii : ins A (nbs v d)
        · rw [hii, Bool.not_false, if_pos rfl] at hs
          rw [if_neg (show ¬ (false = true) by decide), if_pos rfl, hs]
        · rw [hii, Bool.not_true, if_neg (by decide)] at hs
          have hn : ndJ A (nbs v d) := Or.inr ⟨by omega, hii⟩
          have n2 := hb _ hn
          rw [if_pos (show true = true from rfl), if_neg (nI_m1 (by have := prJ_le ok bw (show nbs v d ≤ 400 by omega); omega)), g_J_cost, nI_add, i_J_cost (by omega), ha _ hn, min_run _ (by omega) (by omega), r1_s, hs]) (x := nI (nrA A a v 0)) rfl
    exact e
  -- behind the least
  have n4 := nb4 4 (Nat.le_refl 4)
  have tail : ∀ (z : sT) (ch : Bool) (a1 : Nat → Nat), jcF S s z → cvS z A S a1 → (∀ w, ndJ A w → a1 w ≤ 1000000) → ∃ y : sT, rn 192 135 [some (.ref 103), some (.int (nI (S * 401))), some (.int (nI v)), some (.int (if rim A v then nI 1 else nI 0)), none, some (.int (bI ch)), none] [] (mk X z) = some (some (.int (bI (ch || (rim A v && decide (a1 v < a1 400))))), mk X y) ∧ jcF S s y ∧ cvS y A S (rs2 A a1 v) := by
    intro z ch a1 hz hz1 hb1
    have q0 : cond (qz_z (bI ch)) (some (some (Value.int (bI ch)), mk X z)) none = some (some (Value.int (bI ch)), mk X z) := by cases ch <;> rfl
    rw [e_Joining_relaxSquare_135, told_int]
    unfold rs2
    cases hr : rim A v
    · rw [if_neg (by decide), q0]
      exact ⟨z, by rw [Bool.false_and, Bool.or_false], hz, hz1⟩
    · have b1 := hb1 v hnv
      have b2 := hb1 400 (Or.inl rfl)
      rw [if_pos rfl, g_J_cost, nI_add, i_J_cost (by omega), hz1 v hnv, g_J_cost, nI_add, i_J_cost (by omega), hz1 400 (Or.inl rfl), Bool.true_and]
      by_cases hl : a1 v < a1 400
      · rw [if_neg (nI_ge hl (by omega)), decide_eq_true hl, if_pos rfl, Bool.or_true, g_J_cost, g_J_cost, i_J_cost (by omega), hz1 v hnv, w_J_cost (by omega)]
        exact ⟨_, rfl, hz.tr (jcF_su (by decide)), cvS_up hz1⟩
      · rw [if_pos (nI_le (by omega) (by omega)), decide_eq_false hl, if_neg (by decide), Bool.or_false, q0]
        exact ⟨z, rfl, hz, hz1⟩
  have head : rn 192 0 [some (.ref 103), some (.int (nI (S * 401))), some (.int (nI v)), none, none, none, none] [] (mk X s) = rn 192 33 [some (.ref 103), some (.int (nI (S * 401))), some (.int (nI v)), some (.int (if rim A v then nI 1 else nI 0)), some (.int (nI (nrA A a v 4))), some (.int (nI 4)), none] [] (mk X s) := by
    rw [← near, e_Joining_relaxSquare_0, g_J_rim, isSet_run X (rd_106 X) hp.1 hv, r1_s]
    have h0 : nrA A a v 0 = if rim A v then a 400 else 1000000 := rfl
    rw [h0, told_int]
    cases hr : rim A v
    · rfl
    · rw [if_pos rfl, g_J_cost, nI_add, i_J_cost (by omega), ha 400 (Or.inl rfl)]
      rfl
  have av := hb v hnv
  rw [head, e_Joining_relaxSquare_33, if_pos (nI_le (by decide) (by decide)), g_J_price, i_J_price (by omega), hpv, g_J_cost, nI_add, i_J_cost (by omega), ha v hnv, nI_add]
  unfold rsB rsA
  by_cases hl : nrA A a v 4 + prJ A bw v < a v
  · rw [if_neg (nI_ge hl (by omega)), if_neg (by decide), g_J_cost, g_J_price, i_J_price (by omega), hpv, nI_add, w_J_cost (by omega)]
    have e1 : rs1 A bw a v = upN a v (nrA A a v 4 + prJ A bw v) := if_pos hl
    have hc : cvS (su s 104 (S * 401 + v) (nI (nrA A a v 4 + prJ A bw v))) A S (rs1 A bw a v) := by rw [e1]; exact cvS_up ha
    obtain ⟨y, ey, y1, y2⟩ := tail _ true (rs1 A bw a v) (jcF_su (by omega)) hc (fun w hw => Nat.le_trans rs1_le (hb w hw))
    refine ⟨y, ?_, y1, y2⟩
    rw [decide_eq_true hl]
    exact ey
  · rw [if_pos (nI_le (by omega) (by omega)), if_pos (by decide)]
    have e1 : rs1 A bw a v = a := if_neg hl
    obtain ⟨y, ey, y1, y2⟩ := tail s false (rs1 A bw a v) (jcF.rf S s) (by rw [e1]; exact ha) (fun w hw => Nat.le_trans rs1_le (hb w hw))
    refine ⟨y, ?_, y1, y2⟩
    rw [decide_eq_false hl]
    exact ey

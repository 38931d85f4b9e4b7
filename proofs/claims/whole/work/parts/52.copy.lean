/-! copies of sheets and piles -/
def cpI (s u : sT) (p q : Nat) (dn : Nat → Nat → Bool) : Prop := u.2 = s.2 ∧ (∀ c, ¬ (p ≤ c ∧ c < p + 10) → u.1 c = s.1 c) ∧ ∀ i, i < 10 → ∀ j, u.1 (p + i) j = if dn i j then s.1 (q + i) j else s.1 (p + i) j
theorem cpI_0 (s : sT) (p q : Nat) : cpI s s p q (fun _ _ => false) := ⟨rfl, fun _ _ => rfl, fun _ _ _ => rfl⟩
theorem cpI_f {s u : sT} {p q : Nat} {dn : Nat → Nat → Bool} (hd : q + 10 ≤ p ∨ p + 10 ≤ q) (h : cpI s u p q dn) (i0 j0 : Nat) (hi0 : i0 < 10) : cpI s (su u (p + i0) j0 (u.1 (q + i0) j0)) p q (fun i j => dn i j || (decide (i = i0) && decide (j = j0))) := by
  obtain ⟨h1, h2, h3⟩ := h
  refine ⟨h1, fun c hc => ?_, fun i hi j => ?_⟩
  · rw [← h2 c hc]
    funext l
    rw [su_1, if_neg (by omega)]
  · rw [su_1]
    by_cases e : i = i0 ∧ j = j0
    · obtain ⟨rfl, rfl⟩ := e
      rw [if_pos ⟨rfl, rfl⟩, h2 (q + i) (by omega)]
      simp
    · rw [if_neg (by omega), h3 i hi j]
      have : (decide (i = i0) && decide (j = j0)) = false := by
        cases hc : (decide (i = i0) && decide (j = j0))
        · rfl
        · rw [Bool.and_eq_true, decide_eq_true_eq, decide_eq_true_eq] at hc
          exact absurd hc e
      simp only [this, Bool.or_false]
theorem cpI_a {s u : sT} {p q : Nat} {dn : Nat → Nat → Bool} (hd : q + 10 ≤ p ∨ p + 10 ≤ q) (h : cpI s u p q dn) (i0 n : Nat) (hi0 : i0 < 10) : cpI s (sa u (p + i0) (fun j => if j < n then u.1 (q + i0) j else u.1 (p + i0) j)) p q (fun i j => dn i j || (decide (i = i0) && decide (j < n))) := by
  obtain ⟨h1, h2, h3⟩ := h
  refine ⟨h1, fun c hc => ?_, fun i hi j => ?_⟩
  · rw [← h2 c hc, sa_1, if_neg (by omega)]
  · rw [sa_1]
    by_cases e : i = i0
    · subst e
      rw [if_pos rfl]
      dsimp only
      by_cases hj : j < n
      · rw [if_pos hj, h2 (q + i) (by omega)]
        simp [hj]
      · rw [if_neg hj, h3 i hi j]
        simp [hj]
    · rw [if_neg (by omega), h3 i hi j]
      simp [e]
theorem mk_cpS (X : qz_X) {u : sT} {p q : Nat} (hp : isS p) (hq : isS q) {f : qz_W → Option qz_R} : (qz_cp (mk X u) (q + 1) (p + 1) (nI 0) (nI 0) (nI 20) f = f (mk X (sa u (p + 1) (fun j => if j < 20 then u.1 (q + 1) j else u.1 (p + 1) j)))) ∧ (qz_cp (mk X u) (q + 2) (p + 2) (nI 0) (nI 0) (nI 400) f = f (mk X (sa u (p + 2) (fun j => if j < 400 then u.1 (q + 2) j else u.1 (p + 2) j)))) ∧ (qz_cp (mk X u) (q + 4) (p + 4) (nI 0) (nI 0) (nI 12) f = f (mk X (sa u (p + 4) (fun j => if j < 12 then u.1 (q + 4) j else u.1 (p + 4) j)))) ∧ (qz_cp (mk X u) (q + 5) (p + 5) (nI 0) (nI 0) (nI 12) f = f (mk X (sa u (p + 5) (fun j => if j < 12 then u.1 (q + 5) j else u.1 (p + 5) j)))) ∧ (qz_cp (mk X u) (q + 6) (p + 6) (nI 0) (nI 0) (nI 240) f = f (mk X (sa u (p + 6) (fun j => if j < 240 then u.1 (q + 6) j else u.1 (p + 6) j)))) ∧ (qz_cp (mk X u) (q + 7) (p + 7) (nI 0) (nI 0) (nI 8) f = f (mk X (sa u (p + 7) (fun j => if j < 8 then u.1 (q + 7) j else u.1 (p + 7) j)))) ∧ (qz_cp (mk X u) (q + 8) (p + 8) (nI 0) (nI 0) (nI 8) f = f (mk X (sa u (p + 8) (fun j => if j < 8 then u.1 (q + 8) j else u.1 (p + 8) j)))) ∧ (qz_cp (mk X u) (q + 9) (p + 9) (nI 0) (nI 0) (nI 64) f = f (mk X (sa u (p + 9) (fun j => if j < 64 then u.1 (q + 9) j else u.1 (p + 9) j)))) := by
  obtain ⟨-, -, a1, a2, a4, a5, a6, a7, a8, a9⟩ := isS_S p hp
  obtain ⟨-, -, b1, b2, b4, b5, b6, b7, b8, b9⟩ := isS_S q hq
  have l1 := isS_lt p hp
  have l2 := isS_lt q hq
  exact ⟨mk_cp b1 (by omega) (by decide) a1 (by omega) (by decide) (by decide) (by decide), mk_cp b2 (by omega) (by decide) a2 (by omega) (by decide) (by decide) (by decide), mk_cp b4 (by omega) (by decide) a4 (by omega) (by decide) (by decide) (by decide), mk_cp b5 (by omega) (by decide) a5 (by omega) (by decide) (by decide) (by decide), mk_cp b6 (by omega) (by decide) a6 (by omega) (by decide) (by decide) (by decide), mk_cp b7 (by omega) (by decide) a7 (by omega) (by decide) (by decide) (by decide), mk_cp b8 (by omega) (by decide) a8 (by omega) (by decide) (by decide) (by decide), mk_cp b9 (by omega) (by decide) a9 (by omega) (by decide) (by decide) (by decide)⟩
def cF (p q : Nat) (i j : Nat) (u : sT) : sT := su u (p + i) j (u.1 (q + i) j)
def cA (p q : Nat) (i n : Nat) (u : sT) : sT := sa u (p + i) (fun j => if j < n then u.1 (q + i) j else u.1 (p + i) j)
def cB (u : sT) (p q : Nat) : sT := cA p q 6 240 (cA p q 5 12 (cA p q 4 12 (cF p q 3 2 (cF p q 3 1 (cF p q 3 0 u)))))
def cS (u : sT) (p q : Nat) : sT := cA p q 9 64 (cA p q 8 8 (cA p q 7 8 (cF p q 0 10 (cB (cA p q 2 400 (cA p q 1 20 (cF p q 0 6 (cF p q 0 5 (cF p q 0 4 (cF p q 0 3 (cF p q 0 2 (cF p q 0 1 (cF p q 0 0 u))))))))) p q))))
theorem copyB_run (X : qz_X) {u : sT} {p q : Nat} (hp : isS p) (hq : isS q) : rn 284 0 [some (.ref (p + 3)), some (.ref (q + 3))] [] (mk X u) = some (none, mk X (cB u p q)) := by
  rw [e_Bridges_copyFrom_0, g_B_number hq, p_B_number hp, g_B_in hq, p_B_in hp, g_B_hidden hq, p_B_hidden hp, g_B_kind hq, g_B_kind hp, (mk_cpS X hp hq).2.2.1, g_B_lasts hq, g_B_lasts hp, (mk_cpS X hp hq).2.2.2.1, g_B_rows hq, g_B_rows hp, (mk_cpS X hp hq).2.2.2.2.1]
  rfl
theorem copyS_run (X : qz_X) {u : sT} {p q : Nat} (hp : isS p) (hq : isS q) {b : Bool} (hb : u.1 q 0 = bI b) : rn 285 0 [some (.ref p), some (.ref q)] [] (mk X u) = some (none, mk X (cS u p q)) := by
  have hz : qz_z (u.1 q 0) = true := by
    rw [hb]
    cases b <;> decide
  rw [e_Sheet_copyFrom_0, g_S_told hq, hz, cond_t, p_S_told hp, g_S_wide hq, p_S_wide hp, g_S_high hq, p_S_high hp, g_S_statements hq, p_S_statements hp, g_S_held hq, p_S_held hp, g_S_brush hq, p_S_brush hp, g_S_wear hq, p_S_wear hp, g_S_through hq, g_S_through hp, (mk_cpS X hp hq).1, g_S_worth hq, g_S_worth hp, (mk_cpS X hp hq).2.1, g_S_bridges hp, g_S_bridges hq, ck_B hp, copyB_run X hp hq, r0_s, g_S_shapeNumber hq, p_S_shapeNumber hp, g_S_shapeWide hq, g_S_shapeWide hp, (mk_cpS X hp hq).2.2.2.2.2.1, g_S_shapeHigh hq, g_S_shapeHigh hp, (mk_cpS X hp hq).2.2.2.2.2.2.1, g_S_shapeRows hq, g_S_shapeRows hp, (mk_cpS X hp hq).2.2.2.2.2.2.2]
  rfl
def cD (i j : Nat) : Bool := match i with
  | 0 => decide (j < 7) || decide (j = 10)
  | 1 => decide (j < 20)
  | 2 => decide (j < 400)
  | 3 => decide (j < 3)
  | 4 => decide (j < 12)
  | 5 => decide (j < 12)
  | 6 => decide (j < 240)
  | 7 => decide (j < 8)
  | 8 => decide (j < 8)
  | _ => decide (j < 64)
theorem cpI_cong {s u : sT} {p q : Nat} {d d' : Nat → Nat → Bool} (hd : ∀ i, i < 10 → ∀ j, d i j = d' i j) (h : cpI s u p q d) : cpI s u p q d' := ⟨h.1, h.2.1, fun i hi j => by rw [← hd i hi j]; exact h.2.2 i hi j⟩
theorem cS_cpI {s : sT} {p q : Nat} (hd : q + 10 ≤ p ∨ p + 10 ≤ q) : cpI s (cS s p q) p q cD := by
  have h := cpI_a hd (cpI_a hd (cpI_a hd (cpI_f hd (cpI_a hd (cpI_a hd (cpI_a hd (cpI_f hd (cpI_f hd (cpI_f hd (cpI_a hd (cpI_a hd (cpI_f hd (cpI_f hd (cpI_f hd (cpI_f hd (cpI_f hd (cpI_f hd (cpI_f hd (cpI_0 s p q) 0 0 (by decide)) 0 1 (by decide)) 0 2 (by decide)) 0 3 (by decide)) 0 4 (by decide)) 0 5 (by decide)) 0 6 (by decide)) 1 20 (by decide)) 2 400 (by decide)) 3 0 (by decide)) 3 1 (by decide)) 3 2 (by decide)) 4 12 (by decide)) 5 12 (by decide)) 6 240 (by decide)) 0 10 (by decide)) 7 8 (by decide)) 8 8 (by decide)) 9 64 (by decide)
  refine cpI_cong (fun i hi j => ?_) h
  rcases (show i = 0 ∨ i = 1 ∨ i = 2 ∨ i = 3 ∨ i = 4 ∨ i = 5 ∨ i = 6 ∨ i = 7 ∨ i = 8 ∨ i = 9 by omega) with rfl | rfl | rfl | rfl | rfl | rfl | rfl | rfl | rfl | rfl
  · rw [Bool.eq_iff_iff]
    simp [cD]
    omega
  · simp [cD]
  · simp [cD]
  · rw [Bool.eq_iff_iff]
    simp [cD]
    omega
  · simp [cD]
  · simp [cD]
  · simp [cD]
  · simp [cD]
  · simp [cD]
  · simp [cD]
theorem cpI_at {s u : sT} {p q : Nat} (h : cpI s u p q cD) {i j : Nat} (hi : i < 10) (hd : cD i j = true) : u.1 (p + i) j = s.1 (q + i) j := by
  rw [h.2.2 i hi j, hd]
  rfl
theorem cpI_isC {s u : sT} {p q : Nat} {A : shT} (h : cpI s u p q cD) (ok : okA A) (hC : isC s q A) : isC u p A := by
  obtain ⟨⟨a1, a2, a3, a4, a5, a6, a7, a8, a9⟩, c2, c3, c4, c5, c6, c7⟩ := hC
  have o4 := ok.2.2.2.1
  have o5 := ok.2.2.2.2.1
  have z : ∀ j, cD 0 j = true → u.1 p j = s.1 q j := fun j hj => cpI_at h (i := 0) (by decide) hj
  have t : ∀ j, cD 3 j = true → u.1 (p + 3) j = s.1 (q + 3) j := fun j hj => cpI_at h (i := 3) (by decide) hj
  refine ⟨⟨by rw [z 1 rfl]; exact a1, by rw [z 2 rfl]; exact a2, by rw [z 3 rfl]; exact a3, by rw [z 10 rfl]; exact a4, by rw [t 0 rfl]; exact a5, by rw [t 1 rfl]; exact a6, by rw [z 4 rfl]; exact a7, by rw [z 5 rfl]; exact a8, by rw [z 6 rfl]; exact a9⟩, fun y hy x hx => ?_, fun k hk => ?_, fun b hb y hy x hx => ?_, fun x hx => ?_, fun b hb => ?_, fun k hk => ?_⟩
  · rw [cpI_at h (i := 1) (by decide) (decide_eq_true hy)]; exact c2 y hy x hx
  · rw [cpI_at h (i := 2) (by decide) (decide_eq_true hk)]; exact c3 k hk
  · rw [cpI_at h (i := 6) (by decide) (decide_eq_true (by omega))]; exact c4 b hb y hy x hx
  · rw [t 2 rfl]; exact c5 x hx
  · rw [cpI_at h (i := 4) (by decide) (decide_eq_true (by omega)), cpI_at h (i := 5) (by decide) (decide_eq_true (by omega))]; exact c6 b hb
  · have hk8 := (ok.2.2.2.2.2.2.2.2.2.2.2.2.2 k hk).2.1
    rw [cpI_at h (i := 7) (by decide) (decide_eq_true (by omega)), cpI_at h (i := 8) (by decide) (decide_eq_true (by omega))]
    refine ⟨(c7 k hk).1, (c7 k hk).2.1, fun y hy => ?_⟩
    rw [cpI_at h (i := 9) (by decide) (decide_eq_true (by omega))]
    exact (c7 k hk).2.2 y hy
/-- a pile copied to a pile: places D from E, orders in rows cd from ce -/
theorem pile_run (X : qz_X) {s : sT} {P Q cd ce : Nat} {D E : Nat → Nat} {T : Nat → Bool} (hP0 : ∀ (u : sT) (f : Nat → Option qz_R) (k : Nat), u.2 = s.2 → k < 6 → qz_ga (mk X u).1 P 6 0 (fun q1 => qz_aa (mk X u).1 q1 (nI k) f) = f (D k)) (hQ0 : ∀ (u : sT) (f : Nat → Option qz_R) (k : Nat), u.2 = s.2 → k < 6 → qz_ga (mk X u).1 Q 6 0 (fun q1 => qz_aa (mk X u).1 q1 (nI k) f) = f (E k))
    (hcd : ∀ (u : sT) (f : Nat → Option qz_R), qz_ga (mk X u).1 P 6 1 f = f cd) (hce : ∀ (u : sT) (f : Nat → Option qz_R), qz_ga (mk X u).1 Q 6 1 f = f ce) (hwd : ∀ (u : sT) (f : qz_W → Option qz_R) (x : Int32) (k : Nat), k < 6 → qz_is (mk X u) cd (nI k) x f = f (mk X (su u cd k x))) (hre : ∀ (u : sT) (f : Int32 → Option qz_R) (k : Nat), k < 6 → qz_ia (mk X u).1 ce (nI k) f = f (u.1 ce k))
    (hD : ∀ k, k < 6 → isS (D k)) (hE : ∀ k, k < 6 → isS (E k)) (hDE : ∀ k l, k < 6 → l < 6 → E l + 10 ≤ D k ∨ D k + 10 ≤ E l) (hDD : ∀ k l, k < 6 → l < 6 → k ≠ l → D l + 10 ≤ D k ∨ D k + 10 ≤ D l) (hc : cd ≠ ce) (hdD : ∀ k, k < 6 → ¬ (D k ≤ cd ∧ cd < D k + 10) ∧ ¬ (D k ≤ ce ∧ ce < D k + 10) ∧ ¬ (E k ≤ cd ∧ cd < E k + 10)) (hT : ∀ k, k < 6 → s.1 (E k) 0 = bI (T k)) :
    ∃ st : sT, rn 286 0 [some (.ref P), some (.ref Q), none] [] (mk X s) = some (none, mk X st) ∧ st.2 = s.2 ∧ (∀ c, c ≠ cd → (∀ k, k < 6 → ¬ (D k ≤ c ∧ c < D k + 10)) → st.1 c = s.1 c) ∧ (∀ k, k < 6 → st.1 cd k = s.1 ce k) ∧ ∀ k, k < 6 → st.1 (D k) 0 = bI (T k) ∧ ∀ A, okA A → isC s (E k) A → isC st (D k) A := by
  have hs : ∀ (i : Nat) (u : sT), 0 ≤ i → i < 6 → (u.2 = s.2 ∧ (∀ c, c ≠ cd → (∀ k, k < i → ¬ (D k ≤ c ∧ c < D k + 10)) → u.1 c = s.1 c) ∧ (∀ k, k < i → u.1 cd k = s.1 ce k) ∧ ∀ k, k < i → u.1 (D k) 0 = bI (T k) ∧ ∀ A, okA A → isC s (E k) A → isC u (D k) A) → ∃ z : sT, (z.2 = s.2 ∧ (∀ c, c ≠ cd → (∀ k, k < i + 1 → ¬ (D k ≤ c ∧ c < D k + 10)) → z.1 c = s.1 c) ∧ (∀ k, k < i + 1 → z.1 cd k = s.1 ce k) ∧ ∀ k, k < i + 1 → z.1 (D k) 0 = bI (T k) ∧ ∀ A, okA A → isC s (E k) A → isC z (D k) A) ∧ rn 286 2 [some (.ref P), some (.ref Q), some (.int (nI i))] [] (mk X u) = rn 286 2 [some (.ref P), some (.ref Q), some (.int (nI (i + 1)))] [] (mk X z) := by
    rintro i u _ hi ⟨u1, u2, u3, u4⟩
    have hsrc : ∀ j, j < 10 → u.1 (E i + j) = s.1 (E i + j) := by
      intro j hj
      have h1 := (hdD i hi).2.2
      exact u2 _ (by omega) (fun k hk => by have := hDE k i (by omega) hi; omega)
    have hE0 : u.1 (E i) = s.1 (E i) := hsrc 0 (by decide)
    have hcp := cS_cpI (s := u) (hDE i i hi hi)
    have hce1 : (cS u (D i) (E i)).1 ce i = s.1 ce i := by
      have h1 := (hdD i hi).2.1
      rw [hcp.2.1 ce h1]
      rw [u2 ce (fun e => hc e.symm) (fun k hk => (hdD k (by omega)).2.1)]
    refine ⟨su (cS u (D i) (E i)) cd i (s.1 ce i), ⟨?_, fun c c1 c2 => ?_, fun k hk => ?_, fun k hk => ?_⟩, ?_⟩
    · rw [su_2, hcp.1, u1]
    · rw [← u2 c c1 (fun k hk => c2 k (by omega)), ← hcp.2.1 c (c2 i (by omega))]
      funext l
      rw [su_1, if_neg (fun z => c1 z.1)]
    · rw [su_1]
      by_cases e : k = i
      · subst e; rw [if_pos ⟨rfl, rfl⟩]
      · rw [if_neg (fun z => e z.2), hcp.2.1 cd (hdD i hi).1]
        exact u3 k (by omega)
    · have hcdk := (hdD k (by omega)).1
      have hrow : ∀ j, j < 10 → (su (cS u (D i) (E i)) cd i (s.1 ce i)).1 (D k + j) = (cS u (D i) (E i)).1 (D k + j) := by
        intro j hj
        funext l
        rw [su_1, if_neg (by omega)]
      have hrow0 : (su (cS u (D i) (E i)) cd i (s.1 ce i)).1 (D k) = (cS u (D i) (E i)).1 (D k) := hrow 0 (by decide)
      by_cases e : k = i
      · subst e
        constructor
        · rw [hrow0]
          have : (cS u (D k) (E k)).1 (D k) 0 = u.1 (E k) 0 := cpI_at hcp (i := 0) (j := 0) (by decide) rfl
          rw [this, hE0]
          exact hT k hi
        · intro A ok hC
          exact isC_cong hrow (cpI_isC hcp ok (isC_cong hsrc hC))
      · have hdd := hDD k i (by omega) hi e
        have hrow2 : ∀ j, j < 10 → (cS u (D i) (E i)).1 (D k + j) = u.1 (D k + j) := fun j hj => hcp.2.1 _ (by omega)
        have hrow20 : (cS u (D i) (E i)).1 (D k) = u.1 (D k) := hrow2 0 (by decide)
        constructor
        · rw [hrow0, hrow20]
          exact (u4 k (by omega)).1
        · intro A ok hC
          exact isC_cong hrow (isC_cong hrow2 ((u4 k (by omega)).2 A ok hC))
    · rw [e_Pile_copyFrom_2, if_neg (nI_ge hi (by decide)), hP0 u _ i u1 hi, hQ0 u _ i u1 hi, ck_S (hD i hi), copyS_run X (hD i hi) (hE i hi) (by rw [hE0]; exact hT i hi), r0_s, hcd, hce, hre _ _ i hi, hwd _ _ _ i hi, hce1, nI_add]
  obtain ⟨st, ⟨h1, h2, h3, h4⟩, e⟩ := it_up (fun i (u : sT) => rn 286 2 [some (.ref P), some (.ref Q), some (.int (nI i))] [] (mk X u)) (fun i u => u.2 = s.2 ∧ (∀ c, c ≠ cd → (∀ k, k < i → ¬ (D k ≤ c ∧ c < D k + 10)) → u.1 c = s.1 c) ∧ (∀ k, k < i → u.1 cd k = s.1 ce k) ∧ ∀ k, k < i → u.1 (D k) 0 = bI (T k) ∧ ∀ A, okA A → isC s (E k) A → isC u (D k) A) (Nat.zero_le 6) hs (x := s) ⟨rfl, fun _ _ _ => rfl, fun k hk => absurd hk (Nat.not_lt_zero k), fun k hk => absurd hk (Nat.not_lt_zero k)⟩
  try dsimp only at e
  exact ⟨st, by rw [e_Pile_copyFrom_0, e, e_Pile_copyFrom_2, if_pos (nI_le (by decide) (by decide))], h1, h2, h3, h4⟩

/-! beside, rim; the reference's flood -/
def bsM (q d : Int32) : Int32 :=
  if (if q - q / nI 20 * nI 20 + (if d = nI 1 then nI 1 else if d = nI 3 then -1 else nI 0) < nI 0 then nI 0 else if nI 19 < q - q / nI 20 * nI 20 + (if d = nI 1 then nI 1 else if d = nI 3 then -1 else nI 0) then nI 0 else nI 1) = 0 then -1
  else if (if q / nI 20 + (if d = nI 2 then nI 1 else if d = 0 then -1 else nI 0) < nI 0 then nI 0 else if nI 19 < q / nI 20 + (if d = nI 2 then nI 1 else if d = 0 then -1 else nI 0) then nI 0 else nI 1) = 0 then -1
  else nI 20 * (q / nI 20 + (if d = nI 2 then nI 1 else if d = 0 then -1 else nI 0)) + (q - q / nI 20 * nI 20 + (if d = nI 1 then nI 1 else if d = nI 3 then -1 else nI 0))
def bsN (q d : Nat) : Int32 := if nbs q d = 400 then -1 else nI (nbs q d)
theorem bsM_ok : ∀ d, d < 4 → ∀ q, q < 400 → bsM (nI q) (nI d) = bsN q d := by decide +kernel
theorem ite_some (c : Prop) [Decidable c] (a b : Int32) (w : qz_W) : (if c then some (some (Value.int a), w) else some (some (Value.int b), w) : Option qz_R) = some (some (.int (if c then a else b)), w) := by
  by_cases h : c
  · rw [if_pos h, if_pos h]
  · rw [if_neg h, if_neg h]
theorem M_beside_run (w : qz_W) {q d : Nat} (hq : q < 400) (hd : d < 4) : rn 144 0 [some (.int (nI q)), some (.int (nI d)), none, none] [] w = some (some (.int (bsN q d)), w) := by
  rw [← bsM_ok d hd q hq, e_M_beside_0, if_neg (by decide), e_M_east_0, ite_some, ite_some, r1_s, if_neg (by decide), e_M_south_0, ite_some, ite_some, r1_s, isIn_run, r1_s, isIn_run, r1_s, ite_some, ite_some]
  rfl
def bsC (q d : Nat) : Int32 :=
  if nI q - nI q / nI 20 * nI 20 + qz_sx d < 0 then -1 else if nI 20 ≤ nI q - nI q / nI 20 * nI 20 + qz_sx d then -1 else if nI q / nI 20 + qz_sy d < 0 then -1 else if nI q / nI 20 + qz_sy d < nI 20 then (nI q / nI 20 + qz_sy d) * nI 20 + (nI q - nI q / nI 20 * nI 20 + qz_sx d) else -1
theorem bsC_ok : ∀ d, d < 4 → ∀ q, q < 400 → bsC q d = bsN q d := by decide +kernel
theorem old_x (X : qz_X) (s : sT) {d : Nat} (hd : d < 4) (f : Int32 → Option qz_R) : qz_ia (mk X s).1 1000001 (nI d) f = f (qz_sx d) := by
  show (if nI d < 0 ∨ 4 ≤ (nI d).toNatClampNeg then none else f (qz_sx (nI d).toNatClampNeg)) = _
  rw [if_neg (nI_in hd (by decide)), nI_clamp (by omega)]
theorem old_y (X : qz_X) (s : sT) {d : Nat} (hd : d < 4) (f : Int32 → Option qz_R) : qz_ia (mk X s).1 1000002 (nI d) f = f (qz_sy d) := by
  show (if nI d < 0 ∨ 4 ≤ (nI d).toNatClampNeg then none else f (qz_sy (nI d).toNatClampNeg)) = _
  rw [if_neg (nI_in hd (by decide)), nI_clamp (by omega)]
theorem C_beside_run (X : qz_X) (s : sT) {q d : Nat} (hq : q < 400) (hd : d < 4) : rn 131 0 [some (.int (nI q)), some (.int (nI d)), none, none] [] (mk X s) = some (some (.int (bsN q d)), mk X s) := by
  rw [← bsC_ok d hd q hq, e_C_beside_0, if_neg (by decide), old_x X s hd, if_neg (by decide), old_y X s hd, ite_some, ite_some, ite_some, ite_some]
  rfl
theorem bsN_no {q d : Nat} (h : nbs q d = 400) : bsN q d = -1 := if_pos h
theorem bsN_yes {q d : Nat} (h : ¬ nbs q d = 400) : bsN q d = nI (nbs q d) := if_neg h
theorem nI_m1 {n : Nat} (h : n < 2 ^ 31) : ¬ nI n = -1 := by
  intro e
  have := nI_pos h
  rw [e] at this
  exact this (by decide)
/-- held by a side -/
def hb (A : shT) (i : Nat) : Bool := bt (nI (A.1 6)) i
def rx (A : shT) (q : Nat) : Bool := (hb A 0 && decide (q / 20 = 0)) || (hb A 1 && decide (q % 20 + 1 = A.1 0)) || (hb A 2 && decide (q / 20 + 1 = A.1 1)) || (hb A 3 && decide (q % 20 = 0))
def rim (A : shT) (q : Nat) : Bool := ins A q && rx A q
theorem M_isRim_run (X : qz_X) {s : sT} {k : Nat} {A : shT} (hk : k < 7) (ok : okA A) (hM : isM (gN s) k A) {q : Nat} (hq : q < 400) : rn 142 0 [some (.ref 318), some (.int (nI k)), some (.int (nI q)), none, none, none] [] (mk X s) = some (some (.int (if rx A q then nI 1 else nI 0)), mk X s) := by
  have h1 := ok.1
  have h2 := ok.2.1
  have c1 : (nI (q / 20) = 0) ↔ q / 20 = 0 := by rw [← nI_0, nI_eq (by omega) (by decide)]
  have c2 : (nI (q % 20) = 0) ↔ q % 20 = 0 := by rw [← nI_0, nI_eq (by omega) (by decide)]
  have c3 : (nI (q % 20) = nI (A.1 0 - 1)) ↔ q % 20 + 1 = A.1 0 := by rw [nI_eq (by omega) (by omega)]; omega
  have c4 : (nI (q / 20) = nI (A.1 1 - 1)) ↔ q / 20 + 1 = A.1 1 := by rw [nI_eq (by omega) (by omega)]; omega
  have r58 : rn 142 58 [some (.ref 318), some (.int (nI k)), none, some (.int (nI (A.1 6))), some (.int (nI (q % 20))), some (.int (nI (q / 20)))] [] (mk X s) = some (some (.int (if ((hb A 2 && decide (q / 20 + 1 = A.1 1)) || (hb A 3 && decide (q % 20 = 0))) then nI 1 else nI 0)), mk X s) := by
    rw [e_M_isRim_58, M_has_run _ _ (by decide), r1_s, told_int]
    show (if hb A 2 then _ else _) = _
    cases g2 : hb A 2
    · rw [if_neg (by decide), M_has_run _ _ (by decide), r1_s, told_int]
      show (if hb A 3 then _ else _) = _
      cases g3 : hb A 3
      · rfl
      · rw [if_pos rfl]
        by_cases h : q % 20 = 0
        · rw [if_pos (c2.mpr h), decide_eq_true h]; rfl
        · rw [if_neg (fun z => h (c2.mp z)), decide_eq_false h]; rfl
    · rw [if_pos rfl, ck_M, M_high_run X hk hM, r1_s, pk_sub (by omega)]
      by_cases h : q / 20 + 1 = A.1 1
      · rw [if_pos (c4.mpr h), decide_eq_true h]; rfl
      · rw [if_neg (fun z => h (c4.mp z)), decide_eq_false h, M_has_run _ _ (by decide), r1_s, told_int]
        show (if hb A 3 then _ else _) = _
        cases g3 : hb A 3
        · rfl
        · rw [if_pos rfl]
          by_cases h : q % 20 = 0
          · rw [if_pos (c2.mpr h), decide_eq_true h]; rfl
          · rw [if_neg (fun z => h (c2.mp z)), decide_eq_false h]; rfl
  have r38 : rn 142 38 [some (.ref 318), some (.int (nI k)), none, some (.int (nI (A.1 6))), some (.int (nI (q % 20))), some (.int (nI (q / 20)))] [] (mk X s) = some (some (.int (if ((hb A 1 && decide (q % 20 + 1 = A.1 0)) || ((hb A 2 && decide (q / 20 + 1 = A.1 1)) || (hb A 3 && decide (q % 20 = 0)))) then nI 1 else nI 0)), mk X s) := by
    rw [e_M_isRim_38, M_has_run _ _ (by decide), r1_s, told_int]
    show (if hb A 1 then _ else _) = _
    cases g1 : hb A 1
    · rw [if_neg (by decide), r58]; rfl
    · rw [if_pos rfl, ck_M, M_wide_run X hk hM, r1_s, pk_sub (by omega)]
      by_cases h : q % 20 + 1 = A.1 0
      · rw [if_pos (c3.mpr h), decide_eq_true h]; rfl
      · rw [if_neg (fun z => h (c3.mp z)), decide_eq_false h, r58]; rfl
  have ha : s.1 320 (16 * k + 6) = nI (A.1 6) := ab_at hM (by decide)
  rw [e_M_isRim_0, g_M_about, pk_mul, nI_add, i_M_about (by omega), ha, if_neg (by decide), if_neg (by decide), M_has_run _ _ (by decide), r1_s, told_int, div20 (by omega), rem20 (by omega), r38]
  show (if hb A 0 then _ else _) = _
  unfold rx
  cases g0 : hb A 0
  · rw [if_neg (by decide)]
    simp only [Bool.false_and, Bool.false_or, Bool.or_assoc]
  · rw [if_pos rfl]
    by_cases h : q / 20 = 0
    · rw [if_pos (c1.mpr h), decide_eq_true h]; rfl
    · rw [if_neg (fun z => h (c1.mp z)), decide_eq_false h]
      simp only [Bool.and_false, Bool.false_or, Bool.or_assoc]
noncomputable def hB (t a : Nat → Bool) (q : Nat) : Bool := @decide (hng t a q) (Classical.propDecidable _)
theorem hB_iff {t a : Nat → Bool} {q : Nat} : hB t a q = true ↔ hng t a q := by
  unfold hB
  exact @decide_eq_true_iff _ (Classical.propDecidable _)
theorem qok_cong {H : Nat → Bool} {Q Q' : Nat → Nat} {e : Nat} (h : ∀ i, i < e → Q' i = Q i) (hq : qok H Q e) : qok H Q' e := by
  obtain ⟨h1, h2, h3⟩ := hq
  refine ⟨h1, fun i hi => by rw [h i hi]; exact h2 i hi, fun q hq hH => ?_⟩
  obtain ⟨i, hi, e⟩ := h3 q hq hH
  exact ⟨i, hi, by rw [h i hi]; exact e⟩
/-- the state of a flood: marks H in row 335, the queue Q in row 336 -/
def fls (s st : sT) (H : Nat → Bool) (Q : Nat → Nat) (e : Nat) : Prop := st.2 = s.2 ∧ (∀ c, c ≠ 335 → c ≠ 336 → st.1 c = s.1 c) ∧ (∀ j, j < 400 → st.1 335 j = if H j then nI 1 else nI 0) ∧ (∀ j, j < e → st.1 336 j = nI (Q j)) ∧ qok H Q e
theorem fls_add {s st : sT} {H : Nat → Bool} {Q : Nat → Nat} {e b : Nat} (h : fls s st H Q e) (hb : b < 400) (hf : H b = false) : fls s (su (su st 335 b (nI 1)) 336 e (nI b)) (fun q => if q = b then true else H q) (fun i => if i = e then b else Q i) (e + 1) := by
  obtain ⟨h1, h2, h3, h4, h5⟩ := h
  refine ⟨h1, fun c p q => ?_, fun j hj => ?_, fun j hj => ?_, qok_add h5 hb hf⟩
  · rw [← h2 c p q]
    funext j
    rw [su_1, if_neg (fun z => q z.1), su_1, if_neg (fun z => p z.1)]
  · rw [su_1, if_neg (by omega), su_1]
    dsimp only
    by_cases h : j = b
    · subst h
      simp
    · simp only [h, and_false, if_false]
      exact h3 j hj
  · rw [su_1]
    dsimp only
    by_cases h : j = e
    · subst h
      rw [if_pos ⟨rfl, rfl⟩, if_pos rfl]
    · rw [if_neg (fun z => h z.2), if_neg h, su_1, if_neg (by omega)]
      exact h4 j (by omega)
theorem floods_run (X : qz_X) {s : sT} {t d t' a : Nat → Bool} {wo : Int32} (ht : ∀ j, j < 400 → s.1 334 j = if t j then nI 1 else nI 0) (hw : ∀ q, q < 400 → (nI q = wo ↔ d q = true)) (ht' : ∀ q, q < 400 → t' q = (t q && !d q)) {st0 : sT} {H0 : Nat → Bool} {Q0 : Nat → Nat} {e0 : Nat} (h0 : fls s st0 H0 Q0 e0) (hH0 : ∀ q, q < 400 → (H0 q = true ↔ t' q = true ∧ a q = true)) : ∃ (st : sT) (Q : Nat → Nat), rn 145 0 [some (.ref 318), some (.int (nI e0)), some (.int wo), none, none, none, none] [] (mk X st0) = some (some (.int (nI (fb_ct (hB t' a) 400))), mk X st) ∧ fls s st (hB t' a) Q (fb_ct (hB t' a) 400) := by
  have outer : ∀ x : sT × ((Nat → Bool) × (Nat → Nat)) × Nat × Nat, (fls s x.1 x.2.1.1 x.2.1.2 x.2.2.1 ∧ x.2.2.2 ≤ x.2.2.1 ∧ (∀ q, q < 400 → t' q = true → a q = true → x.2.1.1 q = true) ∧ (∀ q, q < 400 → x.2.1.1 q = true → hng t' a q) ∧ (∀ i, i < x.2.2.2 → ∀ q, adj (x.2.1.2 i) q → t' q = true → x.2.1.1 q = true)) → x.2.2.1 ≤ x.2.2.2 ∨ ∃ y : sT × ((Nat → Bool) × (Nat → Nat)) × Nat × Nat, (fls s y.1 y.2.1.1 y.2.1.2 y.2.2.1 ∧ y.2.2.2 ≤ y.2.2.1 ∧ (∀ q, q < 400 → t' q = true → a q = true → y.2.1.1 q = true) ∧ (∀ q, q < 400 → y.2.1.1 q = true → hng t' a q) ∧ (∀ i, i < y.2.2.2 → ∀ q, adj (y.2.1.2 i) q → t' q = true → y.2.1.1 q = true)) ∧ 401 - y.2.2.2 < 401 - x.2.2.2 ∧ rn 145 5 [some (.ref 318), none, some (.int wo), some (.int (nI x.2.2.1)), some (.int (nI x.2.2.2)), none, none] [] (mk X x.1) = rn 145 5 [some (.ref 318), none, some (.int wo), some (.int (nI y.2.2.1)), some (.int (nI y.2.2.2)), none, none] [] (mk X y.1) := by
    rintro ⟨st, ⟨H, Q⟩, e, k⟩ ⟨hf, hke, hsd, hso, hcl⟩
    dsimp only at hf hke hsd hso hcl ⊢
    by_cases hek : e ≤ k
    · exact Or.inl hek
    refine Or.inr ?_
    have he4 : e ≤ 400 := by rw [hf.2.2.2.2.1]; exact fb_ct_le H 400
    obtain ⟨hQk, hHk⟩ := hf.2.2.2.2.2.1 k (by omega)
    have hs : ∀ (i : Nat) (x : sT × ((Nat → Bool) × (Nat → Nat)) × Nat), 0 ≤ i → i < 4 → (fls s x.1 x.2.1.1 x.2.1.2 x.2.2 ∧ e ≤ x.2.2 ∧ (∀ j, j < e → x.2.1.2 j = Q j) ∧ (∀ q, H q = true → x.2.1.1 q = true) ∧ (∀ q, q < 400 → x.2.1.1 q = true → hng t' a q) ∧ (∀ d', d' < i → nbs (Q k) d' < 400 → t' (nbs (Q k) d') = true → x.2.1.1 (nbs (Q k) d') = true)) → ∃ y : sT × ((Nat → Bool) × (Nat → Nat)) × Nat, (fls s y.1 y.2.1.1 y.2.1.2 y.2.2 ∧ e ≤ y.2.2 ∧ (∀ j, j < e → y.2.1.2 j = Q j) ∧ (∀ q, H q = true → y.2.1.1 q = true) ∧ (∀ q, q < 400 → y.2.1.1 q = true → hng t' a q) ∧ (∀ d', d' < i + 1 → nbs (Q k) d' < 400 → t' (nbs (Q k) d') = true → y.2.1.1 (nbs (Q k) d') = true)) ∧ rn 145 14 [some (.ref 318), none, some (.int wo), some (.int (nI x.2.2)), some (.int (nI k)), some (.int (nI i)), none] [] (mk X x.1) = rn 145 14 [some (.ref 318), none, some (.int wo), some (.int (nI y.2.2)), some (.int (nI k)), some (.int (nI (i + 1))), none] [] (mk X y.1) := by
      rintro i ⟨u, ⟨G, P⟩, e2⟩ _ hi ⟨gf, ge, gQ, gH, gso, gcl⟩
      dsimp only at gf ge gQ gH gso gcl ⊢
      have he2 : e2 ≤ 400 := by rw [gf.2.2.2.2.1]; exact fb_ct_le G 400
      have hu334 : u.1 334 = s.1 334 := gf.2.1 334 (by decide) (by decide)
      have hqk : u.1 336 k = nI (Q k) := by rw [gf.2.2.2.1 k (by omega), gQ k (by omega)]
      rw [e_M_floods_14, if_neg (nI_ge hi (by decide)), g_M_queue, i_M_queue (by omega), hqk, M_beside_run _ hQk hi, r1_s, nI_add]
      have hstay : (¬ nbs (Q k) i < 400 ∨ ¬ t' (nbs (Q k) i) = true ∨ G (nbs (Q k) i) = true) → ∀ d', d' < i + 1 → nbs (Q k) d' < 400 → t' (nbs (Q k) d') = true → G (nbs (Q k) d') = true := by
        intro h d' hd' h1 h2
        by_cases hdi : d' = i
        · subst hdi
          rcases h with h | h | h
          · exact absurd h1 h
          · exact absurd h2 h
          · exact h
        · exact gcl d' (by omega) h1 h2
      by_cases hn : nbs (Q k) i = 400
      · refine ⟨(u, (G, P), e2), ⟨gf, ge, gQ, gH, gso, hstay (Or.inl (by omega))⟩, ?_⟩
        rw [bsN_no hn, if_pos rfl]
      · have hb4 : nbs (Q k) i < 400 := by have := nbs_le (d := i) hQk; omega
        rw [bsN_yes hn, if_neg (nI_m1 (by omega))]
        generalize hbe : nbs (Q k) i = b at *
        cases hdb : d b
        · have hnw : ¬ nI b = wo := fun z => by rw [hw b hb4, hdb] at z; cases z
          rw [if_neg hnw, g_M_tin, i_M_tin hb4, hu334, ht b hb4, told_int]
          cases htb : t b
          · refine ⟨(u, (G, P), e2), ⟨gf, ge, gQ, gH, gso, hstay (Or.inr (Or.inl ?_))⟩, ?_⟩
            · rw [ht' b hb4, htb]; simp
            · rw [if_neg (by decide)]
          · rw [if_pos rfl, g_M_hangs, i_M_hangs hb4, gf.2.2.1 b hb4, told_one]
            cases hGb : G b
            · have hlt := qok_lt gf.2.2.2.2 hb4 hGb
              have htt : t' b = true := by rw [ht' b hb4, htb, hdb]; rfl
              have hadj : adj (Q k) b := ⟨hQk, hb4, i, hi, hbe⟩
              refine ⟨(su (su u 335 b (nI 1)) 336 e2 (nI b), ((fun q => if q = b then true else G q), (fun i => if i = e2 then b else P i)), e2 + 1), ⟨fls_add gf hb4 hGb, by show e ≤ e2 + 1; omega, fun j hj => ?_, fun q hq => ?_, fun q hq hG => ?_, fun d' hd' h1 h2 => ?_⟩, ?_⟩
              · show (if j = e2 then b else P j) = Q j
                rw [if_neg (by omega)]
                exact gQ j hj
              · show (if q = b then true else G q) = true
                rw [gH q hq, ite_self]
              · have hG : (if q = b then true else G q) = true := hG
                by_cases hqb : q = b
                · subst hqb
                  exact hng_step (hso _ hQk hHk) hadj htt
                · rw [if_neg hqb] at hG
                  exact gso q hq hG
              · show (if nbs (Q k) d' = b then true else G (nbs (Q k) d')) = true
                by_cases hdb2 : nbs (Q k) d' = b
                · rw [if_pos hdb2]
                · rw [if_neg hdb2]
                  by_cases hdi : d' = i
                  · subst hdi; exact absurd hbe hdb2
                  · exact gcl d' (by omega) h1 h2
              · rw [if_neg (by decide), g_M_hangs, w_M_hangs hb4, g_M_queue, w_M_queue hlt, nI_add]
            · refine ⟨(u, (G, P), e2), ⟨gf, ge, gQ, gH, gso, hstay (Or.inr (Or.inr hGb))⟩, ?_⟩
              rw [if_pos rfl]
        · refine ⟨(u, (G, P), e2), ⟨gf, ge, gQ, gH, gso, hstay (Or.inr (Or.inl ?_))⟩, ?_⟩
          · rw [ht' b hb4, hdb]
            cases t b <;> decide
          · rw [if_pos ((hw b hb4).mpr hdb)]
    obtain ⟨⟨u, ⟨G, P⟩, e2⟩, ⟨gf, ge, gQ, gH, gso, gcl⟩, eq⟩ := it_up (fun i (x : sT × ((Nat → Bool) × (Nat → Nat)) × Nat) => rn 145 14 [some (.ref 318), none, some (.int wo), some (.int (nI x.2.2)), some (.int (nI k)), some (.int (nI i)), none] [] (mk X x.1)) (fun i x => fls s x.1 x.2.1.1 x.2.1.2 x.2.2 ∧ e ≤ x.2.2 ∧ (∀ j, j < e → x.2.1.2 j = Q j) ∧ (∀ q, H q = true → x.2.1.1 q = true) ∧ (∀ q, q < 400 → x.2.1.1 q = true → hng t' a q) ∧ (∀ d', d' < i → nbs (Q k) d' < 400 → t' (nbs (Q k) d') = true → x.2.1.1 (nbs (Q k) d') = true)) (Nat.zero_le 4) hs (x := (st, (H, Q), e)) ⟨hf, Nat.le_refl e, fun _ _ => rfl, fun _ h => h, hso, fun d' hd' => absurd hd' (Nat.not_lt_zero _)⟩
    dsimp only at gf ge gQ gH gso gcl eq
    refine ⟨(u, (G, P), e2, k + 1), ⟨gf, by show k + 1 ≤ e2; omega, fun q h1 h2 h3 => gH q (hsd q h1 h2 h3), gso, fun i hi q hj hq => ?_⟩, by show 401 - (k + 1) < 401 - k; omega, ?_⟩
    · have hi : i < k + 1 := hi
      have hj2 : adj (P i) q := hj
      rw [gQ i (by omega)] at hj2
      by_cases hik : i = k
      · obtain ⟨-, hq4, d', hd', e5⟩ := hj2
        rw [hik] at e5
        have := gcl d' hd' (by rw [e5]; exact hq4) (by rw [e5]; exact hq)
        rw [e5] at this
        exact this
      · exact gH q (hcl i (by omega) q hj2 hq)
    · dsimp only
      rw [e_M_floods_5, if_neg (nI_ge (by omega) (by omega)), eq, e_M_floods_14, if_pos (nI_le (by decide) (by decide)), nI_add]
  obtain ⟨⟨st, ⟨H, Q⟩, e, k⟩, ⟨hf, hke, hsd, hso, hcl⟩, hex, eq⟩ := it_wh (fun (x : sT × ((Nat → Bool) × (Nat → Nat)) × Nat × Nat) => rn 145 5 [some (.ref 318), none, some (.int wo), some (.int (nI x.2.2.1)), some (.int (nI x.2.2.2)), none, none] [] (mk X x.1)) (fun x => fls s x.1 x.2.1.1 x.2.1.2 x.2.2.1 ∧ x.2.2.2 ≤ x.2.2.1 ∧ (∀ q, q < 400 → t' q = true → a q = true → x.2.1.1 q = true) ∧ (∀ q, q < 400 → x.2.1.1 q = true → hng t' a q) ∧ (∀ i, i < x.2.2.2 → ∀ q, adj (x.2.1.2 i) q → t' q = true → x.2.1.1 q = true)) (fun x => x.2.2.1 ≤ x.2.2.2) (fun x => 401 - x.2.2.2) outer (st0, (H0, Q0), e0, 0) ⟨h0, Nat.zero_le _, fun q h1 h2 h3 => (hH0 q h1).mpr ⟨h2, h3⟩, fun q h1 h2 => hng_seed h1 ((hH0 q h1).mp h2).1 ((hH0 q h1).mp h2).2, fun i hi => absurd hi (Nat.not_lt_zero i)⟩
  dsimp only at hf hke hsd hso hcl hex eq
  have hHB : ∀ q, q < 400 → H q = hB t' a q := by
    intro q hq
    rw [Bool.eq_iff_iff, hB_iff]
    refine hng_of hsd (fun p q hp hHp hj hq => ?_) hso hq
    obtain ⟨i, hi, e⟩ := hf.2.2.2.2.2.2 p hp hHp
    exact hcl i (by omega) q (by rw [e]; exact hj) hq
  have hct : fb_ct H 400 = fb_ct (hB t' a) 400 := fb_ct_cong hHB
  have hee : e = fb_ct (hB t' a) 400 := by rw [← hct]; exact hf.2.2.2.2.1
  have he4 : e ≤ 400 := by rw [hee]; exact fb_ct_le _ 400
  refine ⟨st, Q, ?_, ?_⟩
  · rw [e_M_floods_0, show (nI 0 : Int32) = nI 0 from rfl, eq, e_M_floods_5, if_pos (nI_le hex (by omega)), hee]
  · rw [← hee]
    obtain ⟨f1, f2, f3, f4, f5, f6, f7⟩ := hf
    exact ⟨f1, f2, fun j hj => by rw [f3 j hj, hHB j hj], f4, hee, fun i hi => ⟨(f6 i hi).1, by rw [← hHB _ (f6 i hi).1]; exact (f6 i hi).2⟩, fun q hq hH => f7 q hq (by rw [hHB q hq]; exact hH)⟩
/-- hanging(s, root, without): how many hang, and which -/
theorem M_hanging_run (X : qz_X) {s : sT} {k : Nat} {A : shT} (hk : k < 7) (ok : okA A) (hM : isM (gN s) k A) {t d t' a : Nat → Bool} {root wo : Int32} (ht : ∀ j, j < 400 → s.1 334 j = if t j then nI 1 else nI 0) (hw : ∀ q, q < 400 → (nI q = wo ↔ d q = true)) (ht' : ∀ q, q < 400 → t' q = (t q && !d q)) (hr : (root = -1 ∧ ∀ q, q < 400 → a q = rim A q) ∨ ∃ r, r < 400 ∧ root = nI r ∧ ∀ q, q < 400 → a q = decide (q = r)) : ∃ st : sT, rn 146 0 [some (.ref 318), some (.int (nI k)), some (.int root), some (.int wo), none, none] [] (mk X s) = some (some (.int (nI (fb_ct (hB t' a) 400))), mk X st) ∧ st.2 = s.2 ∧ (∀ c, c ≠ 335 → c ≠ 336 → st.1 c = s.1 c) ∧ ∀ j, j < 400 → st.1 335 j = if hB t' a j then nI 1 else nI 0 := by
  have z : ∀ (i : Nat) (u : sT), 0 ≤ i → i < 400 → u = sa s 335 (fun j => if j < i then nI 0 else s.1 335 j) → ∃ y : sT, y = sa s 335 (fun j => if j < i + 1 then nI 0 else s.1 335 j) ∧ rn 146 6 [some (.ref 318), some (.int (nI k)), some (.int root), some (.int wo), some (.int (nI 0)), some (.int (nI i))] [] (mk X u) = rn 146 6 [some (.ref 318), some (.int (nI k)), some (.int root), some (.int wo), some (.int (nI 0)), some (.int (nI (i + 1)))] [] (mk X y) := by
    rintro i u _ hi rfl
    refine ⟨_, rfl, ?_⟩
    have e := fl_s (fun _ => nI 0) (s.1 335) i
    try dsimp only at e
    rw [e_M_hanging_6, if_neg (nI_ge hi (by decide)), g_M_hangs, w_M_hangs hi, su_sa, nI_add, e]
  obtain ⟨y, hy, e1⟩ := it_up (fun i (u : sT) => rn 146 6 [some (.ref 318), some (.int (nI k)), some (.int root), some (.int wo), some (.int (nI 0)), some (.int (nI i))] [] (mk X u)) (fun i u => u = sa s 335 (fun j => if j < i then nI 0 else s.1 335 j)) (Nat.zero_le 400) z (x := s) (by
    have e := fl_0 (fun _ => nI 0) (s.1 335)
    try dsimp only at e
    rw [e, sa_id])
  try dsimp only at e1
  have sd : ∀ (i : Nat) (x : sT × ((Nat → Bool) × (Nat → Nat)) × Nat), 0 ≤ i → i < 400 → (fls s x.1 x.2.1.1 x.2.1.2 x.2.2 ∧ ∀ q, q < 400 → x.2.1.1 q = (decide (q < i) && (t' q && a q))) → ∃ y : sT × ((Nat → Bool) × (Nat → Nat)) × Nat, (fls s y.1 y.2.1.1 y.2.1.2 y.2.2 ∧ ∀ q, q < 400 → y.2.1.1 q = (decide (q < i + 1) && (t' q && a q))) ∧ rn 146 31 [some (.ref 318), some (.int (nI k)), some (.int root), some (.int wo), some (.int (nI x.2.2)), some (.int (nI i))] [] (mk X x.1) = rn 146 31 [some (.ref 318), some (.int (nI k)), some (.int root), some (.int wo), some (.int (nI y.2.2)), some (.int (nI (i + 1)))] [] (mk X y.1) := by
    rintro i ⟨u, ⟨H, Q⟩, e⟩ _ hi ⟨hf, hH⟩
    dsimp only at hf hH ⊢
    have hu334 : u.1 334 = s.1 334 := hf.2.1 334 (by decide) (by decide)
    have hMu : isM (gN u) k A := isM_cong (gN_c (fun c p q => hf.2.1 c (by omega) (by omega))) hM
    have no : (t' i && a i) = false → ∀ q, q < 400 → H q = (decide (q < i + 1) && (t' q && a q)) := by
      intro h q hq
      rw [hH q hq]
      by_cases hqi : q = i
      · subst hqi; rw [h]; simp
      · by_cases h2 : q < i
        · rw [decide_eq_true h2, decide_eq_true (show q < i + 1 by omega)]
        · rw [decide_eq_false h2, decide_eq_false (show ¬ q < i + 1 by omega)]
    have yes : (t' i && a i) = true → ∃ y : sT × ((Nat → Bool) × (Nat → Nat)) × Nat, (fls s y.1 y.2.1.1 y.2.1.2 y.2.2 ∧ ∀ q, q < 400 → y.2.1.1 q = (decide (q < i + 1) && (t' q && a q))) ∧ qz_ck (mk X u).1 318 12 (qz_r1 (rn 143 0 [some (.ref 318), some (.int (nI i)), some (.int (nI e))] [] (mk X u)) (fun x12 w11 => rn 146 31 [some (.ref 318), some (.int (nI k)), some (.int root), some (.int wo), some (.int x12), some (.int (nI (i + 1)))] [] w11)) = rn 146 31 [some (.ref 318), some (.int (nI k)), some (.int root), some (.int wo), some (.int (nI y.2.2)), some (.int (nI (i + 1)))] [] (mk X y.1) := by
      intro h
      have hfi : H i = false := by rw [hH i hi]; simp
      have hlt := qok_lt hf.2.2.2.2 hi hfi
      refine ⟨(su (su u 335 i (nI 1)) 336 e (nI i), ((fun q => if q = i then true else H q), (fun j => if j = e then i else Q j)), e + 1), ⟨fls_add hf hi hfi, fun q hq => ?_⟩, ?_⟩
      · show (if q = i then true else H q) = _
        by_cases hqi : q = i
        · subst hqi; rw [if_pos rfl, h]; simp
        · rw [if_neg hqi, hH q hq]
          by_cases h2 : q < i
          · rw [decide_eq_true h2, decide_eq_true (show q < i + 1 by omega)]
          · rw [decide_eq_false h2, decide_eq_false (show ¬ q < i + 1 by omega)]
      · rw [ck_M, e_M_begins_0, g_M_hangs, w_M_hangs hi, g_M_queue, w_M_queue hlt, r1_s, nI_add]
    rw [e_M_hanging_31, if_neg (nI_ge hi (by decide)), g_M_tin, i_M_tin hi, hu334, ht i hi, told_one, nI_add]
    cases hti : t i
    · have h0 : (t' i && a i) = false := by rw [ht' i hi, hti]; rfl
      exact ⟨(u, (H, Q), e), ⟨hf, no h0⟩, by rw [if_neg (by decide)]⟩
    · rw [if_pos rfl]
      cases hdi : d i
      · have hti' : t' i = true := by rw [ht' i hi, hti, hdi]; rfl
        rw [if_neg (fun h => by rw [hw i hi, hdi] at h; cases h)]
        rcases hr with ⟨rfl, ha⟩ | ⟨r, hr4, rfl, ha⟩
        · rw [if_pos rfl, if_neg (by decide), if_neg (by decide), ck_M, div20 (by omega), rem20 (by omega), M_within_q X hk ok hMu hi, r1_s, told_int]
          cases hin : ins A i
          · have h0 : (t' i && a i) = false := by
              rw [ha i hi]
              unfold rim
              rw [hin]; simp
            exact ⟨(u, (H, Q), e), ⟨hf, no h0⟩, by rw [if_neg (by decide)]⟩
          · rw [if_pos rfl, ck_M, M_isRim_run X hk ok hMu hi, r1_s, told_int]
            have har : a i = rx A i := by
              rw [ha i hi]
              unfold rim
              rw [hin]; rfl
            cases hrx : rx A i
            · have h0 : (t' i && a i) = false := by rw [har, hrx]; simp
              exact ⟨(u, (H, Q), e), ⟨hf, no h0⟩, by rw [if_neg (by decide)]⟩
            · rw [if_pos rfl]
              exact yes (by rw [hti', har, hrx]; rfl)
        · rw [if_neg (nI_m1 (by omega))]
          by_cases hir : i = r
          · rw [if_pos (by rw [hir])]
            exact yes (by rw [hti', ha i hi, decide_eq_true hir]; rfl)
          · have h0 : (t' i && a i) = false := by rw [ha i hi, decide_eq_false hir]; simp
            exact ⟨(u, (H, Q), e), ⟨hf, no h0⟩, by rw [if_neg (fun h => hir ((nI_eq (by omega) (by omega)).mp h))]⟩
      · have h0 : (t' i && a i) = false := by rw [ht' i hi, hdi]; cases t i <;> rfl
        exact ⟨(u, (H, Q), e), ⟨hf, no h0⟩, by rw [if_pos ((hw i hi).mpr hdi)]⟩
  have hf0 : fls s y (fun _ => false) (fun _ => 0) 0 := by
    refine ⟨by rw [hy]; rfl, fun c p _ => by rw [hy, sa_1, if_neg p], fun j hj => ?_, fun j hj => absurd hj (Nat.not_lt_zero j), ?_, fun i hi => absurd hi (Nat.not_lt_zero i), fun q _ h => by cases h⟩
    · rw [hy, sa_1, if_pos rfl, if_pos hj]; rfl
    · exact (fb_ct_zero.mpr (fun k hk => rfl)).symm
  obtain ⟨⟨u, ⟨H, Q⟩, e⟩, ⟨hf, hH⟩, e2⟩ := it_up (fun i (x : sT × ((Nat → Bool) × (Nat → Nat)) × Nat) => rn 146 31 [some (.ref 318), some (.int (nI k)), some (.int root), some (.int wo), some (.int (nI x.2.2)), some (.int (nI i))] [] (mk X x.1)) (fun i x => fls s x.1 x.2.1.1 x.2.1.2 x.2.2 ∧ ∀ q, q < 400 → x.2.1.1 q = (decide (q < i) && (t' q && a q))) (Nat.zero_le 400) sd (x := (y, ((fun _ => false), (fun _ => 0)), 0)) ⟨hf0, fun q _ => by simp⟩
  try dsimp only at hf hH e2
  obtain ⟨st, Q2, e3, hf2⟩ := floods_run X (a := a) ht hw ht' hf (fun q hq => by rw [hH q hq, decide_eq_true hq, Bool.true_and, Bool.and_eq_true])
  refine ⟨st, ?_, hf2.1, hf2.2.1, hf2.2.2.1⟩
  rw [e_M_hanging_0, e1, e_M_hanging_6, if_pos (nI_le (by decide) (by decide)), e2, e_M_hanging_31, if_pos (nI_le (by decide) (by decide)), ck_M, e3, r1_s]

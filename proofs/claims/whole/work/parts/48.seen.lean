/-! SEEN -/
theorem b_shb (c : Bool) {b i : Nat} (hb : b < 32) (hi : i < 32) : bt ((if c then nI 1 else nI 0 : Int32) <<< (nI b &&& 31)) i = (c && decide (i = b)) := by
  cases c
  · rw [if_neg (by decide), b_shl b hb _ hi, b_n0]; simp
  · rw [if_pos rfl, b_one b hb i hi]; rfl
theorem over_run (X : qz_X) {s : sT} {q : Nat} {A : shT} (hq : isS q) (ok : okA A) (hC : isC s q A) {x y : Nat} (hx : x < 20) (hy : y < 20) : ∃ r : Int32, rn 179 0 [some (.ref (q + 3)), some (.int (nI x)), some (.int (nI y)), none, none] [] (mk X s) = some (some (.int r), mk X s) ∧ ∀ b, b < 32 → bt r b = A.2.2.2.1 b (20 * y + x) := by
  have o5 := ok.2.2.2.2.1
  have hs : ∀ (i : Nat) (r : Int32), 0 ≤ i → i < A.1 4 → (∀ b, b < 32 → bt r b = (decide (b < i) && A.2.2.2.1 b (20 * y + x))) → ∃ r2 : Int32, (∀ b, b < 32 → bt r2 b = (decide (b < i + 1) && A.2.2.2.1 b (20 * y + x))) ∧ rn 179 5 [some (.ref (q + 3)), some (.int (nI x)), some (.int (nI y)), some (.int r), some (.int (nI i))] [] (mk X s) = rn 179 5 [some (.ref (q + 3)), some (.int (nI x)), some (.int (nI y)), some (.int r2), some (.int (nI (i + 1)))] [] (mk X s) := by
    intro i r _ hi hr
    have hrow := hC.2.2.2.1 i hi y hy x (by omega)
    rw [decide_eq_true hx, Bool.true_and] at hrow
    refine ⟨r ||| ((if A.2.2.2.1 i (20 * y + x) then nI 1 else nI 0) <<< (nI i &&& 31)), fun b hb => ?_, ?_⟩
    · rw [b_or, hr b hb, b_shb _ (by omega) hb]
      by_cases e : b = i
      · subst e; simp
      · by_cases h2 : b < i
        · simp [e, h2, show b < i + 1 by omega]
        · simp [e, h2, show ¬ b < i + 1 by omega]
    · rw [e_Bridges_over_5, g_B_number hq, hC.1.2.2.2.2.1, if_neg (nI_ge hi (by omega)), g_B_rows hq, pk_mul, nI_add, i_B_rows hq (by omega), Nat.mul_comm i 20, b_sel _ (by omega), hrow, nI_add]
  obtain ⟨r, hr, e⟩ := it_up (fun i (r : Int32) => rn 179 5 [some (.ref (q + 3)), some (.int (nI x)), some (.int (nI y)), some (.int r), some (.int (nI i))] [] (mk X s)) (fun i r => ∀ b, b < 32 → bt r b = (decide (b < i) && A.2.2.2.1 b (20 * y + x))) (Nat.zero_le (A.1 4)) hs (x := nI 0) (fun b _ => by simp [b_n0])
  try dsimp only at e
  refine ⟨r, ?_, fun b hb => ?_⟩
  · rw [e_Bridges_over_0, e, e_Bridges_over_5, g_B_number hq, hC.1.2.2.2.2.1, if_pos (nI_le (Nat.le_refl _) (by omega))]
  · rw [hr b hb]
    cases h : A.2.2.2.1 b (20 * y + x)
    · simp
    · have := (ok.2.2.2.2.2.2.2.2.2.2.2.1 b _ (by omega) h).1
      simp [this]
/-- bridge b of a set shows at q, where cv says what the next sheet lets paint -/
def shw (A : shT) (cv : Nat → Bool) (v : Int32) (q b : Nat) : Bool := A.2.1 q && (A.2.2.2.1 b q && bt v b && !(cv q && decide (A.2.2.2.2 1 b = 1)))
def sqn (A : shT) (cv : Nat → Bool) (v : Int32) (q : Nat) : Bool := (List.range 12).any (shw A cv v q)
theorem sqn_iff {A : shT} {cv : Nat → Bool} {v : Int32} {q : Nat} : sqn A cv v q = true ↔ ∃ b, b < 12 ∧ shw A cv v q b = true := by
  unfold sqn
  simp only [List.any_eq_true, List.mem_range]
def SEEN (A : shT) (cv : Nat → Bool) (v : Int32) : Nat := fb_sm (fun y => fb_sm (fun x => if sqn A cv v (20 * y + x) then A.2.2.1 (20 * y + x) else 0) (A.1 0)) (A.1 1)
/-- the next sheet as the class is given it: none, or at a place -/
def nxt (s : sT) (nv : Value) (cv : Nat → Bool) : Prop := (nv = .null ∧ ∀ q, q < 400 → cv q = false) ∨ ∃ p A2, nv = .ref p ∧ isS p ∧ okA A2 ∧ isC s p A2 ∧ ∀ q, q < 400 → cv q = (ins A2 q && A2.2.1 q)
theorem nxt_cong {s st : sT} {nv : Value} {cv : Nat → Bool} (h : ∀ q A, isS q → isC s q A → isC st q A) (hn : nxt s nv cv) : nxt st nv cv := by
  rcases hn with hn | ⟨p, A2, h1, h2, h3, h4, h5⟩
  · exact Or.inl hn
  · exact Or.inr ⟨p, A2, h1, h2, h3, h p A2 h2 h4, h5⟩
theorem showing_run (X : qz_X) {s : sT} {q : Nat} {A : shT} (hq : isS q) (ok : okA A) (hC : isC s q A) {nv : Value} {cv : Nat → Bool} (hn : nxt s nv cv) (v : Int32) {x y : Nat} (hx : x < 20) (hy : y < 20) : ∃ r : Int32, rn 180 0 [some (.ref q), some (.int (nI x)), some (.int (nI y)), some (.int v), some nv, none, none] [] (mk X s) = some (some (.int r), mk X s) ∧ ∀ b, b < 32 → bt r b = shw A cv v (20 * y + x) b := by
  obtain ⟨o, ho, bo⟩ := over_run X hq ok hC hx hy
  have hth := hC.2.1 y hy x (by omega)
  rw [decide_eq_true hx, Bool.true_and] at hth
  have hhid : ∀ b, b < 32 → bt (s.1 (q + 3) 2) b = decide (b < A.1 4 ∧ A.2.2.2.2 1 b = 1) := hC.2.2.2.2.1
  have plain : cv (20 * y + x) = false → A.2.1 (20 * y + x) = true → ∀ b, b < 32 → bt (o &&& v) b = shw A cv v (20 * y + x) b := by
    intro h1 h2 b hb
    unfold shw
    rw [b_and, bo b hb, h1, h2]
    simp
  have cover : cv (20 * y + x) = true → A.2.1 (20 * y + x) = true → ∀ b, b < 32 → bt ((o &&& v) &&& (s.1 (q + 3) 2 ^^^ (-1))) b = shw A cv v (20 * y + x) b := by
    intro h1 h2 b hb
    unfold shw
    rw [b_and, b_and, b_not _ hb, bo b hb, hhid b hb, h1, h2]
    cases h : A.2.2.2.1 b (20 * y + x)
    · simp
    · have := (ok.2.2.2.2.2.2.2.2.2.2.2.1 b _ (by omega) h).1
      simp [this]
  have zero : A.2.1 (20 * y + x) = false → ∀ b, b < 32 → bt (nI 0) b = shw A cv v (20 * y + x) b := by
    intro h2 b hb
    unfold shw
    rw [b_n0, h2]
    rfl
  rcases hn with ⟨rfl, hcv⟩ | ⟨p, A2, rfl, hp, ok2, hC2, hcv⟩
  · rw [e_Sheet_showingN_0, g_S_through hq, i_S_through hq hy]
    cases ht : A.2.1 (20 * y + x)
    · rw [if_pos ((b_selz _ (by omega)).mpr (hth.trans ht))]
      exact ⟨_, rfl, zero ht⟩
    · rw [if_neg (fun z => by rw [b_selz _ (by omega), hth, ht] at z; cases z), g_S_bridges hq, ck_B hq, ho, r1_s, if_pos (by decide)]
      exact ⟨_, rfl, plain (hcv _ (by omega)) ht⟩
  · rw [e_Sheet_showingR_0, g_S_through hq, i_S_through hq hy]
    cases ht : A.2.1 (20 * y + x)
    · rw [if_pos ((b_selz _ (by omega)).mpr (hth.trans ht))]
      exact ⟨_, rfl, zero ht⟩
    · rw [if_neg (fun z => by rw [b_selz _ (by omega), hth, ht] at z; cases z), g_S_bridges hq, ck_B hq, ho, r1_s, ck_S hp]
      have hq4 : 20 * y + x < 400 := by omega
      have hc := hcv _ hq4
      have hth2 := hC2.2.1 y hy x (by omega)
      rw [decide_eq_true hx, Bool.true_and] at hth2
      have w1 := ok2.1
      have w2 := ok2.2.1
      cases hi : ins A2 (20 * y + x)
      · rw [C_has_no X hp ok2 hC2 (vx := nI x) (vy := nI y) (by
          rintro ⟨a, b, ha, hb, e1, e2⟩
          rw [nI_eq (by omega) (by omega)] at e1 e2
          have : ins A2 (20 * y + x) = true := by rw [ins_xy A2 hx, decide_eq_true (by omega), decide_eq_true (by omega)]; rfl
          rw [hi] at this
          cases this), r1_s, if_pos (by decide), if_pos (by decide)]
        exact ⟨_, rfl, plain (by rw [hc, hi]; rfl) ht⟩
      · have hi2 := ins_iff.mp hi
        rw [C_has_yes X hp ok2 hC2 (a := x) (b := y) (by omega) (by omega), r1_s, if_neg (by decide), g_S_through hp, i_S_through hp hy]
        cases ht2 : A2.2.1 (20 * y + x)
        · rw [if_pos ((b_selz _ (by omega)).mpr (hth2.trans ht2)), if_pos (by decide)]
          exact ⟨_, rfl, plain (by rw [hc, ht2]; simp) ht⟩
        · rw [if_neg (fun z => by rw [b_selz _ (by omega), hth2, ht2] at z; cases z), if_neg (by decide), g_S_bridges hq, g_B_hidden hq]
          exact ⟨_, rfl, cover (by rw [hc, hi, ht2]; rfl) ht⟩
theorem seen5 (v0 : Nat) (v1 : Int32) (nv : Value) (hnv : nv = .null ∨ ∃ p, nv = .ref p) (v3 v4 : Int32) (w : qz_W) : rn 181 5 [some (.ref v0), some (.int v1), some nv, some (.int v3), some (.int v4), none] [] w = qz_gi w.1 v0 8 2 (fun x1 => (if x1 ≤ v4 then some (some (.int v3), w) else rn 181 17 [some (.ref v0), some (.int v1), some nv, some (.int v3), some (.int v4), some (.int (nI 0))] [] w)) := by
  rcases hnv with rfl | ⟨p, rfl⟩
  · rw [e_Sheet_seenN_5]
  · rw [e_Sheet_seenR_5]
theorem seen17 (v0 : Nat) (v1 : Int32) (nv : Value) (hnv : nv = .null ∨ ∃ p, nv = .ref p) (v3 v4 v5 : Int32) (w : qz_W) : rn 181 17 [some (.ref v0), some (.int v1), some nv, some (.int v3), some (.int v4), some (.int v5)] [] w = qz_gi w.1 v0 8 1 (fun x1 => (if x1 ≤ v5 then rn 181 5 [some (.ref v0), some (.int v1), some nv, some (.int v3), some (.int (v4 + (nI 1))), none] [] w else qz_ck w.1 v0 8 (qz_r1 (rn 180 0 [some (.ref v0), some (.int v5), some (.int v4), some (.int v1), some nv, none, none] [] w) (fun x3 w2 => (if x3 = 0 then rn 181 17 [some (.ref v0), some (.int v1), some nv, some (.int v3), some (.int v4), some (.int (v5 + (nI 1)))] [] w2 else qz_ga w2.1 v0 8 8 (fun q4 => qz_ia w2.1 q4 ((v4 * (nI 20)) + v5) (fun x5 => rn 181 17 [some (.ref v0), some (.int v1), some nv, some (.int (v3 + x5)), some (.int v4), some (.int (v5 + (nI 1)))] [] w2))))))) := by
  rcases hnv with rfl | ⟨p, rfl⟩
  · rw [e_Sheet_seenN_17]
  · rw [e_Sheet_seenR_17]
theorem seen0 (v0 : Nat) (v1 : Int32) (nv : Value) (hnv : nv = .null ∨ ∃ p, nv = .ref p) (w : qz_W) : rn 181 0 [some (.ref v0), some (.int v1), some nv, none, none, none] [] w = rn 181 5 [some (.ref v0), some (.int v1), some nv, some (.int (nI 0)), some (.int (nI 0)), none] [] w := by
  rcases hnv with rfl | ⟨p, rfl⟩
  · rw [e_Sheet_seenN_0]
  · rw [e_Sheet_seenR_0]
/-- a number shows no bit of twelve -/
theorem sq_zero {A : shT} (ok : okA A) {cv : Nat → Bool} {v r : Int32} {q : Nat} (hq : q < 400) (h : ∀ b, b < 32 → bt r b = shw A cv v q b) : (r = 0 ↔ sqn A cv v q = false) := by
  have o5 := ok.2.2.2.2.1
  rw [b_zero]
  constructor
  · intro hz
    cases hc : sqn A cv v q
    · rfl
    · obtain ⟨b, hb, hs⟩ := sqn_iff.mp hc
      have := hz b (by omega)
      rw [h b (by omega), hs] at this
      cases this
  · intro hs i hi
    rw [h i hi]
    cases hc : shw A cv v q i
    · rfl
    · have hbr : A.2.2.2.1 i q = true := by
        unfold shw at hc
        simp only [Bool.and_eq_true] at hc
        exact hc.2.1.1
      have := (ok.2.2.2.2.2.2.2.2.2.2.2.1 i q hq hbr).1
      have := sqn_iff.mpr ⟨i, by omega, hc⟩
      rw [hs] at this
      cases this
theorem seen_run (X : qz_X) {s : sT} {q : Nat} {A : shT} (hq : isS q) (ok : okA A) (hC : isC s q A) {nv : Value} {cv : Nat → Bool} (hn : nxt s nv cv) (v : Int32) : rn 181 0 [some (.ref q), some (.int v), some nv, none, none, none] [] (mk X s) = some (some (.int (nI (SEEN A cv v))), mk X s) := by
  have w1 := ok.1
  have w2 := ok.2.1
  have hnv : nv = .null ∨ ∃ p, nv = .ref p := by
    rcases hn with ⟨h, -⟩ | ⟨p, -, h, -⟩
    · exact Or.inl h
    · exact Or.inr ⟨p, h⟩
  have inner : ∀ (y : Nat), y < A.1 1 → ∀ (acc : Nat) (i : Nat) (r : Int32), 0 ≤ i → i < A.1 0 → r = nI (acc + fb_sm (fun x => if sqn A cv v (20 * y + x) then A.2.2.1 (20 * y + x) else 0) i) → ∃ r2 : Int32, r2 = nI (acc + fb_sm (fun x => if sqn A cv v (20 * y + x) then A.2.2.1 (20 * y + x) else 0) (i + 1)) ∧ rn 181 17 [some (.ref q), some (.int v), some nv, some (.int r), some (.int (nI y)), some (.int (nI i))] [] (mk X s) = rn 181 17 [some (.ref q), some (.int v), some nv, some (.int r2), some (.int (nI y)), some (.int (nI (i + 1)))] [] (mk X s) := by
    rintro y hy acc i r _ hi rfl
    obtain ⟨z, hz, bz⟩ := showing_run X hq ok hC hn v (x := i) (y := y) (by omega) (by omega)
    have hsq := sq_zero ok (cv := cv) (v := v) (q := 20 * y + i) (by omega) bz
    refine ⟨_, rfl, ?_⟩
    rw [seen17 _ _ _ hnv, g_S_wide hq, hC.1.1, if_neg (nI_ge hi (by omega)), ck_S hq, hz, r1_s, fb_sm_succ, nI_add]
    cases hc : sqn A cv v (20 * y + i)
    · rw [if_pos (hsq.mpr hc)]
      simp only [Bool.false_eq_true, if_false, Nat.add_zero]
    · rw [if_neg (fun e => by rw [hsq, hc] at e; cases e), g_S_worth hq, pk_mul, nI_add, i_S_worth hq (by omega), hC.2.2.1 _ (by omega), nI_add, Nat.mul_comm y 20]
      simp only [if_true, Nat.add_assoc]
  have outer : ∀ (y : Nat) (r : Int32), 0 ≤ y → y < A.1 1 → r = nI (fb_sm (fun y => fb_sm (fun x => if sqn A cv v (20 * y + x) then A.2.2.1 (20 * y + x) else 0) (A.1 0)) y) → ∃ r2 : Int32, r2 = nI (fb_sm (fun y => fb_sm (fun x => if sqn A cv v (20 * y + x) then A.2.2.1 (20 * y + x) else 0) (A.1 0)) (y + 1)) ∧ rn 181 5 [some (.ref q), some (.int v), some nv, some (.int r), some (.int (nI y)), none] [] (mk X s) = rn 181 5 [some (.ref q), some (.int v), some nv, some (.int r2), some (.int (nI (y + 1))), none] [] (mk X s) := by
    rintro y r _ hy rfl
    obtain ⟨r2, h2, e⟩ := it_up (fun i (r : Int32) => rn 181 17 [some (.ref q), some (.int v), some nv, some (.int r), some (.int (nI y)), some (.int (nI i))] [] (mk X s)) (fun i r => r = nI (fb_sm (fun y => fb_sm (fun x => if sqn A cv v (20 * y + x) then A.2.2.1 (20 * y + x) else 0) (A.1 0)) y + fb_sm (fun x => if sqn A cv v (20 * y + x) then A.2.2.1 (20 * y + x) else 0) i)) (Nat.zero_le (A.1 0)) (inner y hy _) (x := nI (fb_sm (fun y => fb_sm (fun x => if sqn A cv v (20 * y + x) then A.2.2.1 (20 * y + x) else 0) (A.1 0)) y)) rfl
    try dsimp only at e
    refine ⟨_, rfl, ?_⟩
    rw [seen5 _ _ _ hnv, g_S_high hq, hC.1.2.1, if_neg (nI_ge hy (by omega)), e, seen17 _ _ _ hnv, g_S_wide hq, hC.1.1, if_pos (nI_le (Nat.le_refl _) (by omega)), h2, nI_add, fb_sm_succ]
  obtain ⟨r2, h2, e⟩ := it_up (fun y (r : Int32) => rn 181 5 [some (.ref q), some (.int v), some nv, some (.int r), some (.int (nI y)), none] [] (mk X s)) (fun y r => r = nI (fb_sm (fun y => fb_sm (fun x => if sqn A cv v (20 * y + x) then A.2.2.1 (20 * y + x) else 0) (A.1 0)) y)) (Nat.zero_le (A.1 1)) outer (x := nI 0) rfl
  try dsimp only at e
  rw [seen0 _ _ _ hnv, e, seen5 _ _ _ hnv, g_S_high hq, hC.1.2.1, if_pos (nI_le (Nat.le_refl _) (by omega)), h2]
  rfl
theorem hidden_run (X : qz_X) {s : sT} {k : Nat} {A : shT} (hk : k < 7) (ok : okA A) (hM : isM (gN s) k A) : ∃ r : Int32, rn 184 0 [some (.ref 318), some (.int (nI k)), none, none] [] (mk X s) = some (some (.int r), mk X s) ∧ ∀ x, x < 32 → bt r x = decide (x < A.1 4 ∧ A.2.2.2.2 1 x = 1) := by
  have o5 := ok.2.2.2.2.1
  have ha : s.1 320 (16 * k + 4) = nI (A.1 4) := ab_at hM (by decide)
  have hs : ∀ (i : Nat) (r : Int32), 0 ≤ i → i < A.1 4 → (∀ x, x < 32 → bt r x = decide (x < i ∧ A.2.2.2.2 1 x = 1)) → ∃ r2 : Int32, (∀ x, x < 32 → bt r2 x = decide (x < i + 1 ∧ A.2.2.2.2 1 x = 1)) ∧ rn 184 4 [some (.ref 318), some (.int (nI k)), some (.int r), some (.int (nI i))] [] (mk X s) = rn 184 4 [some (.ref 318), some (.int (nI k)), some (.int r2), some (.int (nI (i + 1)))] [] (mk X s) := by
    intro i r _ hi hr
    have hh : s.1 329 (12 * k + i) = nI (A.2.2.2.2 1 i) := (hM.2.2.2.2.2 i hi).2.1
    have h01 := (ok.2.2.2.2.2.2.2.2.2.2.2.2.1 i hi).2.1
    have e1 : nI (A.2.2.2.2 1 i) = if decide (A.2.2.2.2 1 i = 1) then nI 1 else nI 0 := by
      rcases (show A.2.2.2.2 1 i = 0 ∨ A.2.2.2.2 1 i = 1 by omega) with h | h <;> rw [h] <;> rfl
    refine ⟨r ||| (nI (A.2.2.2.2 1 i) <<< (nI i &&& 31)), fun x hx => ?_, ?_⟩
    · rw [b_or, hr x hx, e1, b_shb _ (by omega) hx]
      by_cases e : x = i
      · subst e
        simp
      · by_cases h2 : x < i
        · simp [e, h2, show x < i + 1 by omega]
        · simp [e, h2, show ¬ x < i + 1 by omega]
    · rw [e_M_hiddenOnes_4, g_M_about, pk_mul, nI_add, i_M_about (by omega), ha, if_neg (nI_ge hi (by omega)), g_M_bridgeHidden, pk_mul, nI_add, i_M_bridgeHidden (by omega), hh, nI_add]
  obtain ⟨r, hr, e⟩ := it_up (fun i (r : Int32) => rn 184 4 [some (.ref 318), some (.int (nI k)), some (.int r), some (.int (nI i))] [] (mk X s)) (fun i r => ∀ x, x < 32 → bt r x = decide (x < i ∧ A.2.2.2.2 1 x = 1)) (Nat.zero_le (A.1 4)) hs (x := nI 0) (fun x _ => by simp [b_n0])
  try dsimp only at e
  refine ⟨r, ?_, hr⟩
  rw [e_M_hiddenOnes_0, e, e_M_hiddenOnes_4, g_M_about, pk_mul, nI_add, i_M_about (by omega), ha, if_pos (nI_le (Nat.le_refl _) (by omega))]
theorem M_seen_run (X : qz_X) {s : sT} {k : Nat} {A : shT} (hk : k < 7) (ok : okA A) (hM : isM (gN s) k A) {cv : Nat → Bool} (hcut : ∀ x y, x < 20 → y < 20 → rn 185 0 [some (.ref 318), some (.int (nI k)), some (.int (nI x)), some (.int (nI y))] [] (mk X s) = some (some (.int (bI (cv (20 * y + x)))), mk X s)) (v : Int32) : rn 186 0 [some (.ref 318), some (.int (nI k)), some (.int v), none, none, none, none, none] [] (mk X s) = some (some (.int (nI (SEEN A cv v))), mk X s) := by
  have w1 := ok.1
  have w2 := ok.2.1
  have o5 := ok.2.2.2.2.1
  obtain ⟨hd, hhd, bhd⟩ := hidden_run X hk ok hM
  have inner : ∀ (y : Nat), y < A.1 1 → ∀ (acc : Nat) (i : Nat) (r : Int32), 0 ≤ i → i < A.1 0 → r = nI (acc + fb_sm (fun x => if sqn A cv v (20 * y + x) then A.2.2.1 (20 * y + x) else 0) i) → ∃ r2 : Int32, r2 = nI (acc + fb_sm (fun x => if sqn A cv v (20 * y + x) then A.2.2.1 (20 * y + x) else 0) (i + 1)) ∧ rn 186 29 [some (.ref 318), some (.int (nI k)), some (.int v), some (.int (v &&& (hd ^^^ (-1)))), some (.int r), some (.int (nI y)), some (.int (nI i)), none] [] (mk X s) = rn 186 29 [some (.ref 318), some (.int (nI k)), some (.int v), some (.int (v &&& (hd ^^^ (-1)))), some (.int r2), some (.int (nI y)), some (.int (nI (i + 1))), none] [] (mk X s) := by
    rintro y hy acc i r _ hi rfl
    have hq4 : 20 * y + i < 400 := by omega
    have e1 : s.1 322 (400 * k + (20 * y + i)) = if A.2.1 (20 * y + i) then nI 1 else nI 0 := hM.2.1 _ hq4
    have e2 : s.1 323 (400 * k + (20 * y + i)) = nI (A.2.2.1 (20 * y + i)) := hM.2.2.1 _ hq4
    have e3 : ∀ b, b < 32 → bt (s.1 324 (400 * k + (20 * y + i))) b = (decide (b < 12) && A.2.2.2.1 b (20 * y + i)) := hM.2.2.2.1 _ hq4
    refine ⟨_, rfl, ?_⟩
    rw [e_M_seen_29, ck_M, M_wide_run X hk hM, r1_s, if_neg (nI_ge hi (by omega)), M_at_run, r1_s, g_M_through, i_M_through (by omega), e1, told_int, fb_sm_succ, nI_add]
    cases ht : A.2.1 (20 * y + i)
    · have hsq : sqn A cv v (20 * y + i) = false := by
        cases hc : sqn A cv v (20 * y + i)
        · rfl
        · obtain ⟨b, -, hs⟩ := sqn_iff.mp hc
          unfold shw at hs
          rw [ht] at hs
          cases hs
      rw [if_neg (by decide), hsq]
      simp only [Bool.false_eq_true, if_false, Nat.add_zero]
    · rw [if_pos rfl, g_M_bridgeAt, i_M_bridgeAt (by omega)]
      by_cases hz : s.1 324 (400 * k + (20 * y + i)) &&& v = 0
      · have hsq : sqn A cv v (20 * y + i) = false := by
          cases hc : sqn A cv v (20 * y + i)
          · rfl
          · obtain ⟨b, hb, hs⟩ := sqn_iff.mp hc
            unfold shw at hs
            simp only [Bool.and_eq_true] at hs
            have := b_zero.mp hz b (by omega)
            rw [b_and, e3 b (by omega), decide_eq_true hb, hs.2.1.1, hs.2.1.2] at this
            cases this
        rw [if_pos hz, hsq]
        simp only [Bool.false_eq_true, if_false, Nat.add_zero]
      · rw [if_neg hz, g_M_bridgeAt, i_M_bridgeAt (by omega)]
        by_cases hz2 : s.1 324 (400 * k + (20 * y + i)) &&& (v &&& (hd ^^^ (-1))) = 0
        · have hall : ∀ b, b < 12 → A.2.2.2.1 b (20 * y + i) = true → bt v b = true → A.2.2.2.2 1 b = 1 := by
            intro b hb h1 h2
            have := b_zero.mp hz2 b (by omega)
            rw [b_and, b_and, b_not _ (by omega), e3 b (by omega), bhd b (by omega), decide_eq_true hb, h1, h2] at this
            simp only [Bool.true_and, Bool.not_eq_false', decide_eq_true_eq] at this
            exact this.2
          rw [if_pos hz2, ck_M, hcut i y (by omega) (by omega), r1_s, bI_z]
          cases hcv : cv (20 * y + i)
          · have hsq : sqn A cv v (20 * y + i) = true := by
              apply Classical.byContradiction
              intro hno
              apply hz
              rw [b_zero]
              intro b hb
              rw [b_and, e3 b hb]
              cases hx : (decide (b < 12) && A.2.2.2.1 b (20 * y + i) && bt v b)
              · rfl
              · exfalso
                simp only [Bool.and_eq_true, decide_eq_true_eq] at hx
                apply hno
                refine sqn_iff.mpr ⟨b, hx.1.1, ?_⟩
                unfold shw
                rw [ht, hx.1.2, hx.2, hcv]
                rfl
            rw [if_neg (by decide), g_M_worth, i_M_worth (by omega), e2, nI_add, hsq]
            simp only [if_true, Nat.add_assoc]
          · have hsq : sqn A cv v (20 * y + i) = false := by
              cases hc : sqn A cv v (20 * y + i)
              · rfl
              · obtain ⟨b, hb, hs⟩ := sqn_iff.mp hc
                unfold shw at hs
                simp only [Bool.and_eq_true] at hs
                have := hall b hb hs.2.1.1 hs.2.1.2
                rw [hcv, this] at hs
                simp at hs
            rw [if_pos rfl, hsq]
            simp only [Bool.false_eq_true, if_false, Nat.add_zero]
        · have hsq : sqn A cv v (20 * y + i) = true := by
            apply Classical.byContradiction
            intro hno
            apply hz2
            rw [b_zero]
            intro b hb
            rw [b_and, b_and, b_not _ hb, e3 b hb, bhd b hb]
            cases hx : (decide (b < 12) && A.2.2.2.1 b (20 * y + i) && (bt v b && !decide (b < A.1 4 ∧ A.2.2.2.2 1 b = 1)))
            · rfl
            · exfalso
              simp only [Bool.and_eq_true, decide_eq_true_eq, Bool.not_eq_true', decide_eq_false_iff_not] at hx
              have hb4 := (ok.2.2.2.2.2.2.2.2.2.2.2.1 b _ hq4 hx.1.2).1
              apply hno
              refine sqn_iff.mpr ⟨b, hx.1.1, ?_⟩
              unfold shw
              rw [ht, hx.1.2, hx.2.1, decide_eq_false (fun h => hx.2.2 ⟨hb4, h⟩)]
              simp
          rw [if_neg hz2, g_M_worth, i_M_worth (by omega), e2, nI_add, hsq]
          simp only [if_true, Nat.add_assoc]
  have outer : ∀ (y : Nat) (r : Int32), 0 ≤ y → y < A.1 1 → r = nI (fb_sm (fun y => fb_sm (fun x => if sqn A cv v (20 * y + x) then A.2.2.1 (20 * y + x) else 0) (A.1 0)) y) → ∃ r2 : Int32, r2 = nI (fb_sm (fun y => fb_sm (fun x => if sqn A cv v (20 * y + x) then A.2.2.1 (20 * y + x) else 0) (A.1 0)) (y + 1)) ∧ rn 186 16 [some (.ref 318), some (.int (nI k)), some (.int v), some (.int (v &&& (hd ^^^ (-1)))), some (.int r), some (.int (nI y)), none, none] [] (mk X s) = rn 186 16 [some (.ref 318), some (.int (nI k)), some (.int v), some (.int (v &&& (hd ^^^ (-1)))), some (.int r2), some (.int (nI (y + 1))), none, none] [] (mk X s) := by
    rintro y r _ hy rfl
    obtain ⟨r2, h2, e⟩ := it_up (fun i (r : Int32) => rn 186 29 [some (.ref 318), some (.int (nI k)), some (.int v), some (.int (v &&& (hd ^^^ (-1)))), some (.int r), some (.int (nI y)), some (.int (nI i)), none] [] (mk X s)) (fun i r => r = nI (fb_sm (fun y => fb_sm (fun x => if sqn A cv v (20 * y + x) then A.2.2.1 (20 * y + x) else 0) (A.1 0)) y + fb_sm (fun x => if sqn A cv v (20 * y + x) then A.2.2.1 (20 * y + x) else 0) i)) (Nat.zero_le (A.1 0)) (inner y hy _) (x := nI (fb_sm (fun y => fb_sm (fun x => if sqn A cv v (20 * y + x) then A.2.2.1 (20 * y + x) else 0) (A.1 0)) y)) rfl
    try dsimp only at e
    refine ⟨_, rfl, ?_⟩
    rw [e_M_seen_16, ck_M, M_high_run X hk hM, r1_s, if_neg (nI_ge hy (by omega)), e, e_M_seen_29, ck_M, M_wide_run X hk hM, r1_s, if_pos (nI_le (Nat.le_refl _) (by omega)), h2, nI_add, fb_sm_succ]
  obtain ⟨r2, h2, e⟩ := it_up (fun y (r : Int32) => rn 186 16 [some (.ref 318), some (.int (nI k)), some (.int v), some (.int (v &&& (hd ^^^ (-1)))), some (.int r), some (.int (nI y)), none, none] [] (mk X s)) (fun y r => r = nI (fb_sm (fun y => fb_sm (fun x => if sqn A cv v (20 * y + x) then A.2.2.1 (20 * y + x) else 0) (A.1 0)) y)) (Nat.zero_le (A.1 1)) outer (x := nI 0) rfl
  try dsimp only at e
  rw [e_M_seen_0, ck_M, hhd, r1_s, e, e_M_seen_16, ck_M, M_high_run X hk hM, r1_s, if_pos (nI_le (Nat.le_refl _) (by omega)), h2]
  rfl

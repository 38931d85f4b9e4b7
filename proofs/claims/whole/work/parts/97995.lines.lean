/-! bridges: opening, squares, lines -/
def brF (A : shT) (E : Nat → Bool) (kn hi la : Nat) : shT := ((fun i => if i = 4 then A.1 4 + 1 else A.1 i), A.2.1, A.2.2.1, (fun b j => if b = A.1 4 then E j else A.2.2.2.1 b j), fun i k => if k = A.1 4 ∧ i = 0 then kn else if k = A.1 4 ∧ i = 1 then hi else if k = A.1 4 ∧ i = 2 then la else A.2.2.2.2 i k)
/-- the reference's sheet while a bridge is laid -/
def brE (A : shT) (E : Nat → Bool) : shT := (A.1, A.2.1, A.2.2.1, (fun b j => if b = A.1 4 then E j else A.2.2.2.1 b j), A.2.2.2.2)
def inB (A : shT) (px py : Int32) : Bool := decide ((¬ px < 0 ∧ px.toNatClampNeg < A.1 0) ∧ (¬ py < 0 ∧ py.toNatClampNeg < A.1 1))
def adE (A : shT) (px py : Int32) (E : Nat → Bool) : Nat → Bool := if inB A px py then (fun j => if j = 20 * py.toNatClampNeg + px.toNatClampNeg then true else E j) else E
def lnO (A : shT) (x y : Int32) (d f0 : Nat) (E : Nat → Bool) : Nat → Nat → Bool
  | 0 => E
  | k + 1 => adE A (x + nI (f0 + k) * qz_sx d) (y + nI (f0 + k) * qz_sy d) (lnO A x y d f0 E k)
def brdE (A : shT) (x y : Int32) (d l r : Nat) : Nat → Nat → Bool
  | 0 => fun _ => false
  | k + 1 => lnO A (x + nI k * qz_sx r) (y + nI k * qz_sy r) d 0 (brdE A x y d l r k) l
section BR
variable {T : txT} {P q : Nat} {s t u : sT} {D : drT} {A : shT} {E : Nat → Bool}
theorem inB_cases (ok : okA A) (px py : Int32) : (∃ a b, a < A.1 0 ∧ b < A.1 1 ∧ px = nI a ∧ py = nI b ∧ ∀ E, adE A px py E = fun j => if j = 20 * b + a then true else E j) ∨ (¬ inXY A px py ∧ ∀ E, adE A px py E = E) := by
  have h1 := ok.1
  have h2 := ok.2.1
  by_cases h : (¬ px < 0 ∧ px.toNatClampNeg < A.1 0) ∧ (¬ py < 0 ∧ py.toNatClampNeg < A.1 1)
  · obtain ⟨a, ha, rfl⟩ := nI_of h.1.1
    obtain ⟨b, hb, rfl⟩ := nI_of h.2.1
    have ea := nI_clamp ha
    have eb := nI_clamp hb
    rw [ea, eb] at h
    refine Or.inl ⟨a, b, h.1.2, h.2.2, rfl, rfl, fun E => ?_⟩
    unfold adE inB
    rw [ea, eb, decide_eq_true h, if_pos rfl]
  · refine Or.inr ⟨?_, fun E => ?_⟩
    · rintro ⟨a, b, g1, g2, rfl, rfl⟩
      refine h ⟨⟨nI_pos (by omega), ?_⟩, nI_pos (by omega), ?_⟩
      · rw [nI_clamp (by omega)]; exact g1
      · rw [nI_clamp (by omega)]; exact g2
    · unfold adE inB
      rw [decide_eq_false h, if_neg (by decide)]
theorem adE_ins (ok : okA A) {px py : Int32} (h : ∀ j, j < 400 → E j = true → ins A j = true) : ∀ j, j < 400 → adE A px py E j = true → ins A j = true := by
  have h1 := ok.1
  intro j hj he
  rcases inB_cases ok px py with ⟨a, b, ha, hb, _, _, e⟩ | ⟨_, e⟩
  · rw [e E] at he
    by_cases ej : j = 20 * b + a
    · unfold ins
      rw [decide_eq_true (show j % 20 < A.1 0 by omega), decide_eq_true (show j / 20 < A.1 1 by omega)]
      rfl
    · have he : (if j = 20 * b + a then true else E j) = true := he
      rw [if_neg ej] at he
      exact h j hj he
  · rw [e E] at he
    exact h j hj he
theorem lnO_ins (ok : okA A) {x y : Int32} {d f0 : Nat} (h : ∀ j, j < 400 → E j = true → ins A j = true) : ∀ k j, j < 400 → lnO A x y d f0 E k j = true → ins A j = true
  | 0 => h
  | k + 1 => adE_ins ok (lnO_ins ok h k)
theorem brdE_ins (ok : okA A) {x y : Int32} {d l r : Nat} : ∀ k j, j < 400 → brdE A x y d l r k j = true → ins A j = true
  | 0 => fun j _ h => by cases h
  | k + 1 => lnO_ins ok (brdE_ins ok k) l
theorem brF_ok (ok : okA A) (h12 : A.1 4 < 12) (hE : ∀ j, j < 400 → E j = true → ins A j = true) {kn hi la : Nat} (hk : kn ≤ 3) (hh : hi ≤ 1) (hl : la ≤ 24000) : okA (brF A E kn hi la) := by
  obtain ⟨o1, o2, o3, o4, o5, o6, o7, o8, o9, o10, o11, o12, o13, o14⟩ := ok
  refine ⟨o1, o2, o3, o4, ?_, ?_, o7, o8, o9, o10, o11, fun b j hj he => ?_, fun b hb => ?_, fun k hk' => ?_⟩
  · show A.1 4 + 1 ≤ 12
    omega
  · show A.1 5 < 2 ^ (A.1 4 + 1)
    rw [Nat.pow_succ]
    omega
  · have he : (if b = A.1 4 then E j else A.2.2.2.1 b j) = true := he
    show b < A.1 4 + 1 ∧ ins A j = true
    by_cases eb : b = A.1 4
    · rw [if_pos eb] at he
      exact ⟨by omega, hE j hj he⟩
    · rw [if_neg eb] at he
      have := o12 b j hj he
      exact ⟨by omega, this.2⟩
  · have hb : b < A.1 4 + 1 := hb
    show (if b = A.1 4 ∧ (0 : Nat) = 0 then kn else if b = A.1 4 ∧ (0 : Nat) = 1 then hi else if b = A.1 4 ∧ (0 : Nat) = 2 then la else A.2.2.2.2 0 b) ≤ 3 ∧ (if b = A.1 4 ∧ (1 : Nat) = 0 then kn else if b = A.1 4 ∧ (1 : Nat) = 1 then hi else if b = A.1 4 ∧ (1 : Nat) = 2 then la else A.2.2.2.2 1 b) ≤ 1 ∧ (if b = A.1 4 ∧ (2 : Nat) = 0 then kn else if b = A.1 4 ∧ (2 : Nat) = 1 then hi else if b = A.1 4 ∧ (2 : Nat) = 2 then la else A.2.2.2.2 2 b) ≤ 24000
    by_cases eb : b = A.1 4
    · rw [if_pos ⟨eb, rfl⟩, if_neg (show ¬ (b = A.1 4 ∧ (1 : Nat) = 0) by omega), if_pos (show b = A.1 4 ∧ (1 : Nat) = 1 from ⟨eb, rfl⟩), if_neg (show ¬ (b = A.1 4 ∧ (2 : Nat) = 0) by omega), if_neg (show ¬ (b = A.1 4 ∧ (2 : Nat) = 1) by omega), if_pos (show b = A.1 4 ∧ (2 : Nat) = 2 from ⟨eb, rfl⟩)]
      exact ⟨hk, hh, hl⟩
    · simp only [eb, false_and, if_false]
      exact o13 b (by omega)
  · have := o14 k hk'
    have e : ∀ i j, 3 ≤ i → (brF A E kn hi la).2.2.2.2 i j = A.2.2.2.2 i j := fun i j hi' => by
      show (if j = A.1 4 ∧ i = 0 then kn else if j = A.1 4 ∧ i = 1 then hi else if j = A.1 4 ∧ i = 2 then la else A.2.2.2.2 i j) = _
      rw [if_neg (by omega), if_neg (by omega), if_neg (by omega)]
    rw [e 3 k (by decide), e 4 k (by decide)]
    refine ⟨this.1, this.2.1, fun y hy => ?_⟩
    rw [e 5 _ (by decide)]
    exact this.2.2 y hy
theorem ones : ∀ n, n < 12 → (2 ^ n - 1) ||| 2 ^ n = 2 ^ (n + 1) - 1 := by decide
theorem open_C (X : qz_X) (hq : isS q) (hq2 : q < 69) (h12 : D.1.1 4 < 12) (hd : dCd T q D s) {kn la : Nat} : ∃ u : sT, rn 56 0 [some (.ref (q + 3)), some (.int (nI kn)), some (.int (nI la))] [] (mk X s) = some (none, mk X u) ∧ u.2 = s.2 ∧ (∀ c, ¬ (q + 3 ≤ c ∧ c ≤ q + 5) → u.1 c = s.1 c) ∧ dCd T q (brF D.1 (fun _ => false) kn 0 la, D.2) u := by
  obtain ⟨⟨⟨a1, a2, a3, a4, a5, a6, a7, a8, a9⟩, c2, c3, c4, c5, c6, c7⟩, e2, e3, e4⟩ := hd
  have n0 : s.1 (q + 3) 0 = nI (D.1.1 4) := a5
  have n1 : s.1 (q + 3) 1 = nI (2 ^ D.1.1 4 - 1) := a6
  have hp : 2 ^ D.1.1 4 ≤ 2 ^ 12 := Nat.pow_le_pow_right (by decide) (by omega)
  have hu : ∃ u : sT, u = su (su (su (su s (q + 4) (D.1.1 4) (nI kn)) (q + 5) (D.1.1 4) (nI la)) (q + 3) 1 (nI (2 ^ (D.1.1 4 + 1) - 1))) (q + 3) 0 (nI (D.1.1 4 + 1)) := ⟨_, rfl⟩
  obtain ⟨u, hu⟩ := hu
  have uc : ∀ c, ¬ (q + 3 ≤ c ∧ c ≤ q + 5) → u.1 c = s.1 c := fun c hc => funext fun j => by
    rw [hu, su_1, if_neg (by omega), su_1, if_neg (by omega), su_1, if_neg (by omega), su_1, if_neg (by omega)]
  refine ⟨u, ?_, by rw [hu]; rfl, uc, ?_, ?_, fun b g1 g2 y hy => ?_, fun i hi => ?_⟩
  · rw [e_Bridges_open_0, g_B_number hq, n0, if_neg (nI_ge h12 (by decide)), g_B_kind hq, g_B_number hq, n0, w_B_kind hq h12, g_B_lasts hq, g_B_number hq, su_1, if_neg (by omega), n0, w_B_lasts hq h12, g_B_in hq, su_1, if_neg (by omega), su_1, if_neg (by omega), n1, g_B_number hq, su_1, if_neg (by omega), su_1, if_neg (by omega), n0, one_2 _ (by omega), fa_or, ones _ h12, p_B_in hq, g_B_number hq, su_1, if_neg (by omega), su_1, if_neg (by omega), su_1, if_neg (by omega), n0, nI_add, p_B_number hq, hu]
  · have e0 : u.1 q = s.1 q := uc q (by omega)
    show isC u q (fA (brF D.1 (fun _ => false) kn 0 la))
    unfold isC
    rw [e0, uc (q + 1) (by omega), uc (q + 2) (by omega), uc (q + 6) (by omega), uc (q + 7) (by omega), uc (q + 8) (by omega), uc (q + 9) (by omega)]
    refine ⟨⟨a1, a2, a3, a4, ?_, ?_, a7, a8, a9⟩, c2, c3, fun b hb y hy x hx => ?_, fun x hx => ?_, fun b hb => ?_, fun k hk => ?_⟩
    · rw [hu, su_1, if_pos ⟨rfl, rfl⟩]
      rfl
    · rw [hu, su_1, if_neg (by omega), su_1, if_pos ⟨rfl, rfl⟩]
      rfl
    · have hb : b < D.1.1 4 + 1 := hb
      show _ = (decide (x < 20) && (if b = D.1.1 4 then false else D.1.2.2.2.1 b (20 * y + x)))
      by_cases eb : b = D.1.1 4
      · rw [if_pos eb, Bool.and_false, e3 b (by omega) (by omega) y hy]
        exact b_n0 x
      · rw [if_neg eb]
        exact c4 b (show b < D.1.1 4 by omega) y hy x hx
    · rw [hu, su_1, if_neg (by omega), su_1, if_neg (by omega), su_1, if_neg (by omega), su_1, if_neg (by omega), c5 x hx, Bool.eq_iff_iff, decide_eq_true_iff, decide_eq_true_iff]
      show (x < D.1.1 4 ∧ D.1.2.2.2.2 1 x = 1) ↔ (x < D.1.1 4 + 1 ∧ (if x = D.1.1 4 ∧ (1 : Nat) = 0 then kn else if x = D.1.1 4 ∧ (1 : Nat) = 1 then 0 else if x = D.1.1 4 ∧ (1 : Nat) = 2 then la else D.1.2.2.2.2 1 x) = 1)
      by_cases eb : x = D.1.1 4
      · rw [if_neg (show ¬ (x = D.1.1 4 ∧ (1 : Nat) = 0) by omega), if_pos (show x = D.1.1 4 ∧ (1 : Nat) = 1 from ⟨eb, rfl⟩)]
        omega
      · simp only [eb, false_and, if_false]
        exact ⟨fun z => ⟨by omega, z.2⟩, fun z => ⟨by omega, z.2⟩⟩
    · have hb : b < D.1.1 4 + 1 := hb
      show _ = nI (if b = D.1.1 4 ∧ (0 : Nat) = 0 then kn else if b = D.1.1 4 ∧ (0 : Nat) = 1 then 0 else if b = D.1.1 4 ∧ (0 : Nat) = 2 then la else D.1.2.2.2.2 0 b) ∧ _ = nI (if b = D.1.1 4 ∧ (2 : Nat) = 0 then kn else if b = D.1.1 4 ∧ (2 : Nat) = 1 then 0 else if b = D.1.1 4 ∧ (2 : Nat) = 2 then la else D.1.2.2.2.2 2 b)
      by_cases eb : b = D.1.1 4
      · rw [if_pos ⟨eb, rfl⟩, if_neg (show ¬ (b = D.1.1 4 ∧ (2 : Nat) = 0) by omega), if_neg (show ¬ (b = D.1.1 4 ∧ (2 : Nat) = 1) by omega), if_pos (show b = D.1.1 4 ∧ (2 : Nat) = 2 from ⟨eb, rfl⟩), eb]
        constructor
        · rw [hu, su_1, if_neg (by omega), su_1, if_neg (by omega), su_1, if_neg (by omega), su_1, if_pos ⟨rfl, rfl⟩]
        · rw [hu, su_1, if_neg (by omega), su_1, if_neg (by omega), su_1, if_pos ⟨rfl, rfl⟩]
      · simp only [eb, false_and, if_false]
        have := c6 b (show b < D.1.1 4 by omega)
        constructor
        · rw [hu, su_1, if_neg (by omega), su_1, if_neg (by omega), su_1, if_neg (by omega), su_1, if_neg (by omega)]; exact this.1
        · rw [hu, su_1, if_neg (by omega), su_1, if_neg (by omega), su_1, if_neg (by omega), su_1, if_neg (by omega)]; exact this.2
    · have e : ∀ i j, 3 ≤ i → (fA (brF D.1 (fun _ => false) kn 0 la)).2.2.2.2 i j = D.1.2.2.2.2 i j := fun i j hi' => by
        show (if j = D.1.1 4 ∧ i = 0 then kn else if j = D.1.1 4 ∧ i = 1 then 0 else if j = D.1.1 4 ∧ i = 2 then la else D.1.2.2.2.2 i j) = _
        rw [if_neg (by omega), if_neg (by omega), if_neg (by omega)]
      rw [e 3 k (by decide), e 4 k (by decide)]
      have := c7 k hk
      refine ⟨this.1, this.2.1, fun y hy => ?_⟩
      rw [e 5 _ (by decide)]
      exact this.2.2 y hy
  · rw [uc q (by omega)]; exact e2
  · rw [uc (q + 6) (by omega)]
    have g1 : D.1.1 4 + 1 ≤ b := g1
    exact e3 b (by omega) g2 y hy
  · rw [show u.2.1 = s.2.1 by rw [hu]; rfl]
    exact e4 i hi
theorem addSq_C (X : qz_X) (hq : isS q) (hq2 : q < 69) (h12 : D.1.1 4 < 12) {kn hi la : Nat} (hd : dCd T q (brF D.1 E kn hi la, D.2) s) {x y : Nat} (hx : x < 20) (hy : y < 20) : ∃ u : sT, rn 57 0 [some (.ref (q + 3)), some (.int (nI x)), some (.int (nI y))] [] (mk X s) = some (none, mk X u) ∧ u.2 = s.2 ∧ (∀ c, c ≠ q + 6 → u.1 c = s.1 c) ∧ dCd T q (brF D.1 (fun j => if j = 20 * y + x then true else E j) kn hi la, D.2) u := by
  obtain ⟨⟨a0, c2, c3, c4, c5, c6, c7⟩, e2, e3, e4⟩ := hd
  have n0 : s.1 (q + 3) 0 = nI (D.1.1 4 + 1) := a0.2.2.2.2.1
  have hu : ∃ u : sT, u = su s (q + 6) (D.1.1 4 * 20 + y) (s.1 (q + 6) (D.1.1 4 * 20 + y) ||| (nI 1 <<< (nI x &&& 31))) := ⟨_, rfl⟩
  obtain ⟨u, hu⟩ := hu
  have uc : ∀ c, c ≠ q + 6 → u.1 c = s.1 c := fun c hc => funext fun j => by rw [hu, su_1, if_neg (fun z => hc z.1)]
  refine ⟨u, ?_, by rw [hu]; rfl, uc, ?_, ?_, fun b g1 g2 y' hy' => ?_, fun i hi => ?_⟩
  · rw [e_Bridges_addSquare_0, g_B_number hq, n0, if_neg (nI_nle (by omega) (by omega)), g_B_rows hq, g_B_number hq, n0, pk_sub (by omega), show D.1.1 4 + 1 - 1 = D.1.1 4 by omega, pk_mul, nI_add, i_B_rows hq (by omega), w_B_rows hq (by omega), hu]
  · have e0 : u.1 q = s.1 q := uc q (by omega)
    show isC u q (fA (brF D.1 (fun j => if j = 20 * y + x then true else E j) kn hi la))
    unfold isC
    rw [e0, uc (q + 1) (by omega), uc (q + 2) (by omega), uc (q + 3) (by omega), uc (q + 4) (by omega), uc (q + 5) (by omega), uc (q + 7) (by omega), uc (q + 8) (by omega), uc (q + 9) (by omega)]
    refine ⟨a0, c2, c3, fun b hb y' hy' x' hx' => ?_, c5, c6, c7⟩
    have hb : b < D.1.1 4 + 1 := hb
    have old : bt (s.1 (q + 6) (20 * b + y')) x' = (decide (x' < 20) && (if b = D.1.1 4 then E (20 * y' + x') else D.1.2.2.2.1 b (20 * y' + x'))) := c4 b hb y' hy' x' hx'
    show _ = (decide (x' < 20) && (if b = D.1.1 4 then (if 20 * y' + x' = 20 * y + x then true else E (20 * y' + x')) else D.1.2.2.2.1 b (20 * y' + x')))
    rw [hu, su_1]
    by_cases eb : b = D.1.1 4
    · rw [if_pos eb] at old ⊢
      by_cases ey : y' = y
      · rw [if_pos ⟨rfl, by omega⟩, show D.1.1 4 * 20 + y = 20 * b + y' by omega, b_or, b_one x (by omega) x' hx', old]
        by_cases h20 : x' < 20
        · rw [decide_eq_true h20, Bool.true_and, Bool.true_and]
          by_cases ex : x' = x
          · rw [decide_eq_true ex, if_pos (by omega), Bool.or_true]
          · rw [decide_eq_false ex, if_neg (by omega), Bool.or_false]
        · rw [decide_eq_false h20, decide_eq_false (by omega)]
          rfl
      · rw [if_neg (by omega), old]
        by_cases h20 : x' < 20
        · rw [if_neg (by omega)]
        · rw [decide_eq_false h20]; rfl
    · rw [if_neg eb] at old ⊢
      rw [if_neg (by omega), old]
  · rw [uc q (by omega)]; exact e2
  · have g1' : D.1.1 4 + 1 ≤ b := g1
    rw [hu, su_1, if_neg (by omega)]
    exact e3 b g1 g2 y' hy'
  · rw [show u.2.1 = s.2.1 by rw [hu]; rfl]
    exact e4 i hi
theorem line_C (X : qz_X) (hq : isS q) (hq2 : q < 69) (ok : okA D.1) (h12 : D.1.1 4 < 12) {kn hi la : Nat} (hd : dCd T q (brF D.1 E kn hi la, D.2) s) (x y : Int32) {d l : Nat} (hd4 : d < 4) (hl : l ≤ 20) : ∃ u : sT, rn 58 0 [some (.ref q), some (.int x), some (.int y), some (.int (nI d)), some (.int (nI l)), none, none, none] [] (mk X s) = some (none, mk X u) ∧ u.2 = s.2 ∧ (∀ c, c ≠ q + 6 → u.1 c = s.1 c) ∧ dCd T q (brF D.1 (lnO D.1 x y d 0 E l) kn hi la, D.2) u := by
  have h1 := ok.1
  have h2 := ok.2.1
  obtain ⟨u, ⟨u2, uc, ud⟩, e⟩ := it_up (fun k (u : sT) => rn 58 3 [some (.ref q), some (.int x), some (.int y), some (.int (nI d)), some (.int (nI l)), some (.int (nI k)), none, none] [] (mk X u)) (fun k u => u.2 = s.2 ∧ (∀ c, c ≠ q + 6 → u.1 c = s.1 c) ∧ dCd T q (brF D.1 (lnO D.1 x y d 0 E k) kn hi la, D.2) u) (Nat.zero_le l) (by
    rintro k u _ hk ⟨u2, uc, ud⟩
    try dsimp only
    have w1 : u.1 q 1 = nI (D.1.1 0) := ud.1.1.1
    have w2 : u.1 q 2 = nI (D.1.1 1) := ud.1.1.2.1
    rw [e_Sheet_bridgeLine_3, if_neg (nI_ge hk (by omega)), old_x X u hd4, old_y X u hd4, ck_S hq]
    have es : lnO D.1 x y d 0 E (k + 1) = adE D.1 (x + nI k * qz_sx d) (y + nI k * qz_sy d) (lnO D.1 x y d 0 E k) := by
      show adE D.1 (x + nI (0 + k) * qz_sx d) (y + nI (0 + k) * qz_sy d) _ = _
      rw [Nat.zero_add]
    rcases inB_cases ok (x + nI k * qz_sx d) (y + nI k * qz_sy d) with ⟨a, b, ha, hb, ea, eb, ee⟩ | ⟨hn, ee⟩
    · obtain ⟨z, ez, z2, zc, zd⟩ := addSq_C X hq hq2 h12 ud (x := a) (y := b) (by omega) (by omega)
      refine ⟨z, ⟨z2.trans u2, fun c hc => (zc c hc).trans (uc c hc), ?_⟩, ?_⟩
      · rw [es, ee]; exact zd
      · rw [ea, eb, C_has_y2 X hq w1 w2 h1.2 h2.2 ha hb, r1_s, if_neg (by decide), g_S_bridges hq, ck_B hq, ez, r0_s, nI_add]
    · refine ⟨u, ⟨u2, uc, ?_⟩, ?_⟩
      · rw [es, ee]; exact ud
      · have hno : rn 46 0 [some (.ref q), some (.int (x + nI k * qz_sx d)), some (.int (y + nI k * qz_sy d))] [] (mk X u) = some (some (.int (nI 0)), mk X u) := by
          rw [e_Sheet_has_0]
          by_cases x0 : x + nI k * qz_sx d < 0
          · rw [if_pos x0]
          · rw [if_neg x0, g_S_wide hq, w1]
            obtain ⟨a, ha, ea⟩ := nI_of x0
            rw [ea] at hn ⊢
            by_cases xa : a < D.1.1 0
            · rw [if_neg (nI_ge xa (by omega))]
              by_cases y0 : y + nI k * qz_sy d < 0
              · rw [if_pos y0]
              · rw [if_neg y0, g_S_high hq, w2]
                obtain ⟨b, hb, eb⟩ := nI_of y0
                rw [eb] at hn ⊢
                by_cases yb : b < D.1.1 1
                · exact absurd ⟨a, b, xa, yb, rfl, rfl⟩ hn
                · rw [if_pos (nI_le (by omega) hb)]
            · rw [if_pos (nI_le (by omega) ha)]
        rw [hno, r1_s, if_pos (by decide), nI_add]) (x := s) ⟨rfl, fun _ _ => rfl, hd⟩
  try dsimp only at e
  refine ⟨u, ?_, u2, uc, ud⟩
  rw [e_Sheet_bridgeLine_0, e, e_Sheet_bridgeLine_3, if_pos (nI_le (Nat.le_refl _) (by omega))]
end BR

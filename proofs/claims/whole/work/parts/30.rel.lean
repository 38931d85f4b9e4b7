/-! what class and reference hold, as one picture -/
/-- a sheet: numbers (0 wide, 1 high, 2 statements, 3 shapes, 4 bridges, 5 those in, 6 held, 7 brush, 8 wear), THROUGH, worth, squares of bridges; kind, hidden, lasts of bridges, wide, high, rows of shapes -/
abbrev shT : Type := (Nat → Nat) × (Nat → Bool) × (Nat → Nat) × (Nat → Nat → Bool) × (Nat → Nat → Nat)
def ins (A : shT) (q : Nat) : Bool := decide (q % 20 < A.1 0) && decide (q / 20 < A.1 1)
def okA (A : shT) : Prop := (1 ≤ A.1 0 ∧ A.1 0 ≤ 20) ∧ (1 ≤ A.1 1 ∧ A.1 1 ≤ 20) ∧ A.1 2 ≤ 60 ∧ A.1 3 ≤ 8 ∧ A.1 4 ≤ 12 ∧ A.1 5 < 2 ^ A.1 4 ∧ (1 ≤ A.1 6 ∧ A.1 6 ≤ 15) ∧ A.1 7 ≤ 400 ∧ A.1 8 ≤ 999 ∧
  (∀ q, q < 400 → A.2.1 q = true → ins A q = true) ∧ (∀ q, q < 400 → A.2.2.1 q ≤ 99) ∧ (∀ b q, q < 400 → A.2.2.2.1 b q = true → b < A.1 4 ∧ ins A q = true) ∧
  (∀ b, b < A.1 4 → A.2.2.2.2 0 b ≤ 3 ∧ A.2.2.2.2 1 b ≤ 1 ∧ A.2.2.2.2 2 b ≤ 24000) ∧
  (∀ k, k < A.1 3 → (1 ≤ A.2.2.2.2 3 k ∧ A.2.2.2.2 3 k ≤ 8) ∧ (1 ≤ A.2.2.2.2 4 k ∧ A.2.2.2.2 4 k ≤ 8) ∧ ∀ y, y < A.2.2.2.2 4 k → A.2.2.2.2 5 (8 * k + y) < 2 ^ A.2.2.2.2 3 k)
/-- the class's sheet at place q -/
def isC (s : sT) (q : Nat) (A : shT) : Prop :=
  (s.1 q 1 = nI (A.1 0) ∧ s.1 q 2 = nI (A.1 1) ∧ s.1 q 3 = nI (A.1 2) ∧ s.1 q 10 = nI (A.1 3) ∧ s.1 (q + 3) 0 = nI (A.1 4) ∧ s.1 (q + 3) 1 = nI (A.1 5) ∧ s.1 q 4 = nI (A.1 6) ∧ s.1 q 5 = nI (A.1 7) ∧ s.1 q 6 = nI (A.1 8)) ∧
  (∀ y, y < 20 → ∀ x, x < 32 → bt (s.1 (q + 1) y) x = (decide (x < 20) && A.2.1 (20 * y + x))) ∧
  (∀ k, k < 400 → s.1 (q + 2) k = nI (A.2.2.1 k)) ∧
  (∀ b, b < A.1 4 → ∀ y, y < 20 → ∀ x, x < 32 → bt (s.1 (q + 6) (20 * b + y)) x = (decide (x < 20) && A.2.2.2.1 b (20 * y + x))) ∧
  (∀ x, x < 32 → bt (s.1 (q + 3) 2) x = decide (x < A.1 4 ∧ A.2.2.2.2 1 x = 1)) ∧
  (∀ b, b < A.1 4 → s.1 (q + 4) b = nI (A.2.2.2.2 0 b) ∧ s.1 (q + 5) b = nI (A.2.2.2.2 2 b)) ∧
  (∀ k, k < A.1 3 → s.1 (q + 7) k = nI (A.2.2.2.2 3 k) ∧ s.1 (q + 8) k = nI (A.2.2.2.2 4 k) ∧ ∀ y, y < A.2.2.2.2 4 k → s.1 (q + 9) (8 * k + y) = nI (A.2.2.2.2 5 (8 * k + y)))
/-- the reference's sheet k out of its ten rows: 0 about, 1 through, 2 worth, 3 bridgeAt, 4 shapeWide, 5 shapeHigh, 6 shapeRow, 7 bridgeKind, 8 bridgeHidden, 9 bridgeLasts -/
def isM (g : Nat → Nat → Int32) (k : Nat) (A : shT) : Prop :=
  (∀ j, j < 9 → g 0 (16 * k + j) = nI (A.1 j)) ∧ (∀ q, q < 400 → g 1 (400 * k + q) = if A.2.1 q then nI 1 else nI 0) ∧ (∀ q, q < 400 → g 2 (400 * k + q) = nI (A.2.2.1 q)) ∧
  (∀ q, q < 400 → ∀ b, b < 32 → bt (g 3 (400 * k + q)) b = (decide (b < 12) && A.2.2.2.1 b q)) ∧
  (∀ i, i < A.1 3 → g 4 (8 * k + i) = nI (A.2.2.2.2 3 i) ∧ g 5 (8 * k + i) = nI (A.2.2.2.2 4 i) ∧ ∀ y, y < A.2.2.2.2 4 i → g 6 (8 * (8 * k + i) + y) = nI (A.2.2.2.2 5 (8 * i + y))) ∧
  (∀ b, b < A.1 4 → g 7 (12 * k + b) = nI (A.2.2.2.2 0 b) ∧ g 8 (12 * k + b) = nI (A.2.2.2.2 1 b) ∧ g 9 (12 * k + b) = nI (A.2.2.2.2 2 b))
def gN (s : sT) (i : Nat) : Nat → Int32 := s.1 (qz_gd 0 [320, 322, 323, 324, 325, 326, 327, 328, 329, 330] i)
def gI (s : sT) (m : Nat) (i : Nat) : Nat → Int32 := fun j => s.1 360 (8100 * m + qz_gd 0 [0, 102, 2502, 4902, 7302, 7350, 7398, 7782, 7854, 7926] i + j)
def dig (o : Nat → Nat) : Nat := 100000 * o 0 + 10000 * o 1 + 1000 * o 2 + 100 * o 3 + 10 * o 4 + o 5
def okO (o : Nat → Nat) : Prop := (∀ k, k < 6 → o k < 6) ∧ ∀ i j, i < 6 → j < 6 → o i = o j → i = j
def pl0 : List Nat := [7, 17, 27, 37, 47, 57, 68]
/-- the picture: tape, told sheets, order, images -/
abbrev gsT : Type := (Nat × (Nat → Nat)) × ((Nat → Bool) × (Nat → shT) × (Nat → Nat)) × Nat × (Nat → (Nat → Bool) × (Nat → shT) × (Nat → Nat))
def okP (P : (Nat → Bool) × (Nat → shT) × (Nat → Nat)) : Prop := okO P.2.2 ∧ ∀ k, k < 6 → P.1 k = true → okA (P.2.1 k)
def rPl (s : sT) : Prop := (∀ k, k < 7 → s.2.2 k ∈ pl0) ∧ (∀ i j, i < 7 → j < 7 → s.2.2 i = s.2.2 j → i = j)
def rTp (s : sT) (T : Nat × (Nat → Nat)) : Prop := T.1 ≤ 1200 ∧ s.1 0 1 = nI T.1 ∧ s.1 318 14 = nI T.1 ∧ ∀ j, j < T.1 → T.2 j < 256 ∧ s.1 1 j = nI (T.2 j) ∧ s.1 332 j = (nI (T.2 j)).toInt8.toInt32
def rFa (s : sT) : Prop := s.1 0 2 = s.1 318 17
def rRe (s : sT) : Prop := ∀ j, j < 3 → s.1 2 j = s.1 319 j
def rNo (s : sT) (P : (Nat → Bool) × (Nat → shT) × (Nat → Nat)) : Prop := okP P ∧ (∀ k, k < 6 → s.1 (s.2.2 k) 0 = (if P.1 k then nI 1 else nI 0) ∧ s.1 321 k = (if P.1 k then nI 1 else nI 0) ∧ (P.1 k = true → isC s (s.2.2 k) (P.2.1 k) ∧ isM (gN s) k (P.2.1 k))) ∧ (∀ k, k < 6 → s.1 5 k = nI (P.2.2 k)) ∧ s.1 318 1 = nI (dig P.2.2)
def rIm (s : sT) (I : Nat × (Nat → (Nat → Bool) × (Nat → shT) × (Nat → Nat))) : Prop := I.1 ≤ 3 ∧ s.1 0 6 = nI I.1 ∧ s.1 318 61 = nI I.1 ∧ ∀ m, m < I.1 → okP (I.2 m) ∧ (∀ k, k < 6 → s.1 (130 + 64 * m + 10 * k) 0 = (if (I.2 m).1 k then nI 1 else nI 0) ∧ s.1 360 (8100 * m + 96 + k) = (if (I.2 m).1 k then nI 1 else nI 0) ∧ ((I.2 m).1 k = true → isC s (130 + 64 * m + 10 * k) ((I.2 m).2.1 k) ∧ isM (gI s m) k ((I.2 m).2.1 k))) ∧ (∀ k, k < 6 → s.1 (128 + 64 * m) k = nI ((I.2 m).2.2 k)) ∧ s.1 361 m = nI (dig (I.2 m).2.2)
def Rel (s : sT) (G : gsT) : Prop := rPl s ∧ rTp s G.1 ∧ rFa s ∧ rRe s ∧ rNo s G.2.1 ∧ rIm s G.2.2
/-- cells that the picture does not look at -/
def scr (i j : Nat) : Bool := i == 6 || (Nat.ble 78 i && Nat.ble i 125) || (i == 331) || (i == 333) || (Nat.ble 334 i && Nat.ble i 359) || (i == 318 && !(j == 1) && !(j == 14) && !(j == 17) && !(j == 61))
def fr (s s' : sT) : Prop := s'.2.2 = s.2.2 ∧ ∀ i j, scr i j = false → s'.1 i j = s.1 i j
theorem fr.rf (s : sT) : fr s s := ⟨rfl, fun _ _ _ => rfl⟩
theorem fr.tr {s t u : sT} (h : fr s t) (g : fr t u) : fr s u := ⟨g.1.trans h.1, fun i j e => (g.2 i j e).trans (h.2 i j e)⟩
theorem fr_su {s : sT} {o k : Nat} {x : Int32} (h : scr o k = true) : fr s (su s o k x) := ⟨rfl, fun i j e => by
  rw [su_1, if_neg]
  rintro ⟨rfl, rfl⟩
  rw [h] at e
  cases e⟩
theorem fr_sa {s : sT} {o : Nat} {g : Nat → Int32} (h : ∀ k, scr o k = true) : fr s (sa s o g) := ⟨rfl, fun i j e => by
  rw [sa_1, if_neg]
  rintro rfl
  rw [h] at e
  cases e⟩
theorem isS_pl : ∀ q ∈ pl0, q ∈ sh_l ∧ 7 ≤ q ∧ q ≤ 68 := by decide
theorem scr_lo {i j : Nat} (h : 7 ≤ i) (h2 : i ≤ 77) : scr i j = false := by
  unfold scr
  have h1 : Nat.ble 78 i = false := by
    rw [← Bool.not_eq_true, Nat.ble_eq]
    omega
  have h3 : Nat.ble 334 i = false := by
    rw [← Bool.not_eq_true, Nat.ble_eq]
    omega
  simp only [h1, h3, Bool.false_and, Bool.or_false]
  simp
  omega
theorem scr_im {i j : Nat} (h : 126 ≤ i) (h2 : i ≤ 317) : scr i j = false := by
  unfold scr
  have h1 : Nat.ble i 125 = false := by
    rw [← Bool.not_eq_true, Nat.ble_eq]
    omega
  have h3 : Nat.ble 334 i = false := by
    rw [← Bool.not_eq_true, Nat.ble_eq]
    omega
  simp only [h1, h3, Bool.false_and, Bool.and_false, Bool.or_false]
  simp
  omega
theorem isC_cong {s s' : sT} {q : Nat} {A : shT} (h : ∀ i, i < 10 → s'.1 (q + i) = s.1 (q + i)) (hc : isC s q A) : isC s' q A := by
  unfold isC at hc ⊢
  rw [show s'.1 q = s.1 q from h 0 (by decide), h 1 (by decide), h 2 (by decide), h 3 (by decide), h 4 (by decide), h 5 (by decide), h 6 (by decide), h 7 (by decide), h 8 (by decide), h 9 (by decide)]
  exact hc
theorem isM_cong {g g' : Nat → Nat → Int32} {k : Nat} {A : shT} (h : ∀ i, i < 10 → g' i = g i) (hc : isM g k A) : isM g' k A := by
  unfold isM at hc ⊢
  rw [h 0 (by decide), h 1 (by decide), h 2 (by decide), h 3 (by decide), h 4 (by decide), h 5 (by decide), h 6 (by decide), h 7 (by decide), h 8 (by decide), h 9 (by decide)]
  exact hc
theorem fr_row {s s' : sT} (h : fr s s') {i : Nat} (hi : ∀ j, scr i j = false) : s'.1 i = s.1 i := funext fun j => h.2 i j (hi j)
theorem scr_c : ∀ i, i ∈ [0, 1, 2, 5, 319, 332, 360, 361] → ∀ j, scr i j = false := by
  intro i hi j
  simp only [List.mem_cons, List.not_mem_nil, or_false] at hi
  rcases hi with rfl | rfl | rfl | rfl | rfl | rfl | rfl | rfl <;> rfl
theorem rPl_c {s s' : sT} (h : s'.2.2 = s.2.2) (r : rPl s) : rPl s' := by
  unfold rPl
  rw [h]
  exact r
theorem rTp_c {s s' : sT} {T : Nat × (Nat → Nat)} (h0 : s'.1 0 1 = s.1 0 1) (h1 : s'.1 318 14 = s.1 318 14) (h2 : s'.1 1 = s.1 1) (h3 : s'.1 332 = s.1 332) (r : rTp s T) : rTp s' T := by
  unfold rTp
  rw [h0, h1, h2, h3]
  exact r
theorem gN_c {s s' : sT} (h : ∀ i, 320 ≤ i → i ≤ 330 → s'.1 i = s.1 i) (i : Nat) (hi : i < 10) : gN s' i = gN s i := by
  have : ∀ i, i < 10 → 320 ≤ qz_gd 0 [320, 322, 323, 324, 325, 326, 327, 328, 329, 330] i ∧ qz_gd 0 [320, 322, 323, 324, 325, 326, 327, 328, 329, 330] i ≤ 330 := by decide
  exact h _ (this i hi).1 (this i hi).2
theorem rNo_c {s s' : sT} {P : (Nat → Bool) × (Nat → shT) × (Nat → Nat)} (hp : rPl s) (h : s'.2.2 = s.2.2) (h7 : ∀ i, 7 ≤ i → i ≤ 77 → s'.1 i = s.1 i) (h5 : s'.1 5 = s.1 5) (hm : ∀ i, 320 ≤ i → i ≤ 330 → s'.1 i = s.1 i) (h1 : s'.1 318 1 = s.1 318 1) (r : rNo s P) : rNo s' P := by
  obtain ⟨d1, d2, d3, d4⟩ := r
  refine ⟨d1, fun k hk => ?_, by rw [h5]; exact d3, by rw [h1]; exact d4⟩
  obtain ⟨p1, p2, p3⟩ := d2 k hk
  have hq := isS_pl _ (hp.1 k (by omega))
  rw [h, hm 321 (by omega) (by omega), h7 (s.2.2 k) (by omega) (by omega)]
  exact ⟨p1, p2, fun ht => ⟨isC_cong (fun i hi => h7 _ (by omega) (by omega)) (p3 ht).1, isM_cong (gN_c hm) (p3 ht).2⟩⟩
theorem gI_c {s s' : sT} (h : s'.1 360 = s.1 360) (m i : Nat) : gI s' m i = gI s m i := by
  unfold gI
  rw [h]
theorem rIm_c {s s' : sT} {I : Nat × (Nat → (Nat → Bool) × (Nat → shT) × (Nat → Nat))} (h0 : s'.1 0 6 = s.1 0 6) (h1 : s'.1 318 61 = s.1 318 61) (hi : ∀ i, 126 ≤ i → i ≤ 317 → s'.1 i = s.1 i) (h2 : s'.1 360 = s.1 360) (h3 : s'.1 361 = s.1 361) (r : rIm s I) : rIm s' I := by
  obtain ⟨e1, e2, e3, e4⟩ := r
  refine ⟨e1, by rw [h0]; exact e2, by rw [h1]; exact e3, fun m hM => ?_⟩
  obtain ⟨q1, q2, q3, q4⟩ := e4 m hM
  refine ⟨q1, fun k hk => ?_, by rw [hi _ (by omega) (by omega)]; exact q3, by rw [h3]; exact q4⟩
  obtain ⟨p1, p2, p3⟩ := q2 k hk
  exact ⟨by rw [hi _ (by omega) (by omega)]; exact p1, by rw [h2]; exact p2, fun ht => ⟨isC_cong (fun i hk => hi _ (by omega) (by omega)) (p3 ht).1, isM_cong (fun i _ => gI_c h2 m i) (p3 ht).2⟩⟩
theorem scr_hi : ∀ i, 320 ≤ i → i ≤ 330 → ∀ j, scr i j = false := by
  intro i h1 h2 j
  unfold scr
  have h3 : Nat.ble 334 i = false := by
    rw [← Bool.not_eq_true, Nat.ble_eq]
    omega
  have h4 : Nat.ble i 125 = false := by
    rw [← Bool.not_eq_true, Nat.ble_eq]
    omega
  simp only [h3, h4, Bool.false_and, Bool.and_false, Bool.or_false]
  simp
  omega
/-- what changes scratch alone keeps the picture -/
theorem Rel.fr {s s' : sT} {G : gsT} (h : Rel s G) (hf : fr s s') : Rel s' G := by
  obtain ⟨a, b, c, d, e, f⟩ := h
  have hc : ∀ i, i ∈ [0, 1, 2, 5, 319, 332, 360, 361] → s'.1 i = s.1 i := fun i hi => fr_row hf (scr_c i hi)
  have hm : ∀ j, j = 1 ∨ j = 14 ∨ j = 17 ∨ j = 61 → s'.1 318 j = s.1 318 j := by
    intro j hj
    refine hf.2 318 j ?_
    rcases hj with rfl | rfl | rfl | rfl <;> rfl
  have h0 := hc 0 (by decide)
  refine ⟨rPl_c hf.1 a, rTp_c (by rw [h0]) (hm 14 (by decide)) (hc 1 (by decide)) (hc 332 (by decide)) b, ?_, ?_, rNo_c a hf.1 (fun i p q => fr_row hf fun j => scr_lo p q) (hc 5 (by decide)) (fun i p q => fr_row hf (scr_hi i p q)) (hm 1 (by decide)) e, rIm_c (by rw [h0]) (hm 61 (by decide)) (fun i p q => fr_row hf fun j => scr_im p q) (hc 360 (by decide)) (hc 361 (by decide)) f⟩
  · unfold rFa
    rw [h0, hm 17 (by decide)]
    exact c
  · unfold rRe
    rw [hc 2 (by decide), hc 319 (by decide)]
    exact d

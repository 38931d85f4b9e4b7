/-! alike, turn -/
def tX (t x y w h : Nat) : Nat := if t = 1 then h - 1 - y else if t = 2 then w - 1 - x else if t = 3 then y else x
def tY (t x y w h : Nat) : Nat := if t = 1 then x else if t = 2 then h - 1 - y else if t = 3 then w - 1 - x else y
theorem C_tX (w : qz_W) {t x y a b : Nat} (ht : t < 4) (hx : x < a) (hy : y < b) (hb : b < 2 ^ 30) (ha : a < 2 ^ 30) : rn 44 0 [some (.int (nI x)), some (.int (nI y)), some (.int (nI a)), some (.int (nI b)), some (.int (nI t))] [] w = some (some (.int (nI (tX t x y a b))), w) := by
  rw [e_C_turnedX_0]
  rcases (show t = 0 ∨ t = 1 ∨ t = 2 ∨ t = 3 by omega) with rfl | rfl | rfl | rfl
  · rw [if_neg (by decide), if_neg (by decide), if_neg (by decide)]; rfl
  · rw [if_pos rfl, pk_sub (by omega), pk_sub (by omega)]; rfl
  · rw [if_neg (by decide), if_pos rfl, pk_sub (by omega), pk_sub (by omega)]; rfl
  · rw [if_neg (by decide), if_neg (by decide), if_pos rfl]; rfl
theorem C_tY (w : qz_W) {t x y a b : Nat} (ht : t < 4) (hx : x < a) (hy : y < b) (hb : b < 2 ^ 30) (ha : a < 2 ^ 30) : rn 45 0 [some (.int (nI x)), some (.int (nI y)), some (.int (nI a)), some (.int (nI b)), some (.int (nI t))] [] w = some (some (.int (nI (tY t x y a b))), w) := by
  rw [e_C_turnedY_0]
  rcases (show t = 0 ∨ t = 1 ∨ t = 2 ∨ t = 3 by omega) with rfl | rfl | rfl | rfl
  · rw [if_neg (by decide), if_neg (by decide), if_neg (by decide)]; rfl
  · rw [if_pos rfl]; rfl
  · rw [if_neg (by decide), if_pos rfl, pk_sub (by omega), pk_sub (by omega)]; rfl
  · rw [if_neg (by decide), if_neg (by decide), if_pos rfl, pk_sub (by omega), pk_sub (by omega)]; rfl
theorem M_turned_run (w : qz_W) {t x y a b c : Nat} (ht : t < 4) (hc : c < 2) (hx : x < a) (hy : y < b) (hb : b < 2 ^ 30) (ha : a < 2 ^ 30) : rn 93 0 [some (.int (nI x)), some (.int (nI y)), some (.int (nI a)), some (.int (nI b)), some (.int (nI t)), some (.int (nI c)), none, none, none, none, none, none, none] [] w = some (some (.int (nI (if c = 0 then tX t x y a b else tY t x y a b))), w) := by
  have fin : ∀ u v : Nat, (if nI c = 0 then some (some (Value.int (nI u)), w) else some (some (Value.int (nI v)), w) : Option qz_R) = some (some (.int (nI (if c = 0 then u else v))), w) := by
    intro u v
    rcases (show c = 0 ∨ c = 1 by omega) with rfl | rfl
    · rw [if_pos (by decide)]; rfl
    · rw [if_neg (by decide)]; rfl
  rw [e_M_turned_0]
  rcases (show t = 0 ∨ t = 1 ∨ t = 2 ∨ t = 3 by omega) with rfl | rfl | rfl | rfl
  · rw [e_M_turned_15, if_pos (by decide), fin]; rfl
  · rw [e_M_turned_15, if_neg (by decide), e_M_turned_15, if_pos (by decide), pk_sub (by omega), pk_sub (by omega), fin]; rfl
  · rw [e_M_turned_15, if_neg (by decide), e_M_turned_15, if_neg (by decide), e_M_turned_15, if_pos (by decide), pk_sub (by omega), pk_sub (by omega), pk_sub (by omega), pk_sub (by omega), fin]; rfl
  · rw [e_M_turned_15, if_neg (by decide), e_M_turned_15, if_neg (by decide), e_M_turned_15, if_neg (by decide), e_M_turned_15, if_pos (by decide), pk_sub (by omega), pk_sub (by omega), pk_sub (by omega), pk_sub (by omega), pk_sub (by omega), fin, show b - 1 - (b - 1 - y) = y by omega]; rfl
theorem tX_lt {t x y a b : Nat} (hx : x < a) (hy : y < b) (ha : a ≤ 20) (hb : b ≤ 20) : tX t x y a b < 20 ∧ tY t x y a b < 20 := by
  unfold tX tY
  constructor <;> (repeat' split) <;> omega
/-- a square of A, turned and moved, lies in B and is alike there -/
def alP (A B : shT) (t : Nat) (dx dy : Int32) (x y : Nat) : Prop := ∃ a b, a < B.1 0 ∧ b < B.1 1 ∧ nI (tX t x y (A.1 0) (A.1 1)) + dx = nI a ∧ nI (tY t x y (A.1 0) (A.1 1)) + dy = nI b ∧ tin A (nI (A.1 5)) (20 * y + x) = tin B (nI (B.1 5)) (20 * b + a)
noncomputable def alB (A B : shT) (t : Nat) (dx dy : Int32) (x y : Nat) : Bool := @decide (alP A B t dx dy x y) (Classical.propDecidable _)
theorem alB_iff {A B : shT} {t : Nat} {dx dy : Int32} {x y : Nat} : alB A B t dx dy x y = true ↔ alP A B t dx dy x y := by
  unfold alB
  exact @decide_eq_true_iff _ (Classical.propDecidable _)
noncomputable def ALK (A B : shT) (t : Nat) (dx dy : Int32) : Nat := fb_sm (fun y => fb_ct (fun x => alB A B t dx dy x y) (A.1 0)) (A.1 1)
theorem alB_no {A B : shT} {t : Nat} {dx dy : Int32} {x y : Nat} (h : ¬ inXY B (nI (tX t x y (A.1 0) (A.1 1)) + dx) (nI (tY t x y (A.1 0) (A.1 1)) + dy)) : alB A B t dx dy x y = false := by
  cases hc : alB A B t dx dy x y
  · rfl
  · obtain ⟨a, b, h1, h2, h3, h4, -⟩ := alB_iff.mp hc
    exact absurd ⟨a, b, h1, h2, h3, h4⟩ h
theorem alB_yes {A B : shT} (ok : okA B) {t : Nat} {dx dy : Int32} {x y a b : Nat} (ha : a < B.1 0) (hb : b < B.1 1) (h1 : nI (tX t x y (A.1 0) (A.1 1)) + dx = nI a) (h2 : nI (tY t x y (A.1 0) (A.1 1)) + dy = nI b) : alB A B t dx dy x y = (tin A (nI (A.1 5)) (20 * y + x) == tin B (nI (B.1 5)) (20 * b + a)) := by
  have w1 := ok.1
  have w2 := ok.2.1
  rw [Bool.eq_iff_iff, alB_iff, beq_iff_eq]
  constructor
  · rintro ⟨a', b', ha', hb', e1, e2, h⟩
    have ea : a' = a := (nI_eq (by omega) (by omega)).mp (e1.symm.trans h1)
    have eb : b' = b := (nI_eq (by omega) (by omega)).mp (e2.symm.trans h2)
    subst ea eb
    exact h
  · intro h
    exact ⟨a, b, ha, hb, h1, h2, h⟩
theorem alike_C (X : qz_X) {s : sT} {p q : Nat} {A B : shT} (hp : isS p) (okp : okA A) (hCp : isC s p A) (hq : isS q) (okq : okA B) (hCq : isC s q B) {t : Nat} (ht : t < 4) (dx dy : Int32) : rn 253 0 [some (.ref p), some (.ref q), some (.int (nI t)), some (.int dx), some (.int dy), none, none, none, none, none, none] [] (mk X s) = some (some (.int (nI (ALK A B t dx dy))), mk X s) := by
  have w1 := okp.1
  have w2 := okp.2.1
  have u1 := okq.1
  have u2 := okq.2.1
  have inner : ∀ (y : Nat), y < A.1 1 → ∀ (r : Int32), (∀ x, x < 32 → bt r x = (decide (x < 20) && tin A (nI (A.1 5)) (20 * y + x))) → ∀ (acc : Nat) (i : Nat) (m : Int32), 0 ≤ i → i < A.1 0 → m = nI (acc + fb_ct (fun x => alB A B t dx dy x y) i) → ∃ m2 : Int32, m2 = nI (acc + fb_ct (fun x => alB A B t dx dy x y) (i + 1)) ∧ rn 253 33 [some (.ref p), some (.ref q), some (.int (nI t)), some (.int dx), some (.int dy), some (.int m), some (.int (nI y)), some (.int r), some (.int (nI i)), none, none] [] (mk X s) = rn 253 33 [some (.ref p), some (.ref q), some (.int (nI t)), some (.int dx), some (.int dy), some (.int m2), some (.int (nI y)), some (.int r), some (.int (nI (i + 1))), none, none] [] (mk X s) := by
    rintro y hy r hr acc i m _ hi rfl
    refine ⟨_, rfl, ?_⟩
    rw [e_C_alikeSquares_33, g_S_wide hp, hCp.1.1, if_neg (nI_ge hi (by omega)), g_S_wide hp, g_S_high hp, hCp.1.1, hCp.1.2.1, C_tX _ ht hi hy (by omega) (by omega), r1_s, g_S_wide hp, g_S_high hp, hCp.1.1, hCp.1.2.1, C_tY _ ht hi hy (by omega) (by omega), r1_s, ck_S hq, fb_ct_succ, nI_add]
    rcases xy_or B (nI (tX t i y (A.1 0) (A.1 1)) + dx) (nI (tY t i y (A.1 0) (A.1 1)) + dy) with ⟨a, b, ha, hb, e1, e2⟩ | hno
    · obtain ⟨z, hz, bz⟩ := tinRow_run X hq okq hCq (nI (B.1 5)) (y := b) (by omega)
      have c1 := hr i (by omega)
      have c2 := bz a (by omega)
      rw [decide_eq_true (by omega), Bool.true_and] at c1 c2
      rw [e1, e2, C_has_yes X hq okq hCq ha hb, r1_s, if_neg (by decide), g_S_bridges hq, g_B_in hq, hCq.1.2.2.2.2.2.1, ck_S hq, hz, r1_s, b_sel _ (by omega), b_sel _ (by omega), c1, c2, alB_yes okq ha hb e1 e2, nI_add]
      cases tin A (nI (A.1 5)) (20 * y + i) <;> cases tin B (nI (B.1 5)) (20 * b + a)
      · rw [if_pos rfl]; rfl
      · rw [if_neg (by decide)]; rfl
      · rw [if_neg (by decide)]; rfl
      · rw [if_pos rfl]; rfl
    · rw [C_has_no X hq okq hCq hno, r1_s, if_pos (by decide), alB_no hno]
      rfl
  have outer : ∀ (y : Nat) (m : Int32), 0 ≤ y → y < A.1 1 → m = nI (fb_sm (fun y => fb_ct (fun x => alB A B t dx dy x y) (A.1 0)) y) → ∃ m2 : Int32, m2 = nI (fb_sm (fun y => fb_ct (fun x => alB A B t dx dy x y) (A.1 0)) (y + 1)) ∧ rn 253 6 [some (.ref p), some (.ref q), some (.int (nI t)), some (.int dx), some (.int dy), some (.int m), some (.int (nI y)), none, none, none, none] [] (mk X s) = rn 253 6 [some (.ref p), some (.ref q), some (.int (nI t)), some (.int dx), some (.int dy), some (.int m2), some (.int (nI (y + 1))), none, none, none, none] [] (mk X s) := by
    rintro y m _ hy rfl
    obtain ⟨r, hr, br⟩ := tinRow_run X hp okp hCp (nI (A.1 5)) (y := y) (by omega)
    obtain ⟨m2, h2, e⟩ := it_up (fun i (m : Int32) => rn 253 33 [some (.ref p), some (.ref q), some (.int (nI t)), some (.int dx), some (.int dy), some (.int m), some (.int (nI y)), some (.int r), some (.int (nI i)), none, none] [] (mk X s)) (fun i m => m = nI (fb_sm (fun y => fb_ct (fun x => alB A B t dx dy x y) (A.1 0)) y + fb_ct (fun x => alB A B t dx dy x y) i)) (Nat.zero_le (A.1 0)) (inner y hy r br _) (x := nI (fb_sm (fun y => fb_ct (fun x => alB A B t dx dy x y) (A.1 0)) y)) rfl
    try dsimp only at e
    refine ⟨_, rfl, ?_⟩
    rw [e_C_alikeSquares_6, g_S_high hp, hCp.1.2.1, if_neg (nI_ge hy (by omega)), g_S_bridges hp, g_B_in hp, hCp.1.2.2.2.2.2.1, ck_S hp, hr, r1_s, e, e_C_alikeSquares_33, g_S_wide hp, hCp.1.1, if_pos (nI_le (Nat.le_refl _) (by omega)), h2, nI_add, fb_sm_succ]
  obtain ⟨m2, h2, e⟩ := it_up (fun y (m : Int32) => rn 253 6 [some (.ref p), some (.ref q), some (.int (nI t)), some (.int dx), some (.int dy), some (.int m), some (.int (nI y)), none, none, none, none] [] (mk X s)) (fun y m => m = nI (fb_sm (fun y => fb_ct (fun x => alB A B t dx dy x y) (A.1 0)) y)) (Nat.zero_le (A.1 1)) outer (x := nI 0) rfl
  try dsimp only at e
  rw [e_C_alikeSquares_0, e, e_C_alikeSquares_6, g_S_high hp, hCp.1.2.1, if_pos (nI_le (Nat.le_refl _) (by omega)), h2]
  rfl
theorem tin_in {A : shT} {v : Int32} {q : Nat} (h : ins A q = true) : tin A v q = (!A.2.1 q || brs A v q) := by
  unfold tin
  rw [h]
  rfl
theorem alike_M (X : qz_X) {s : sT} {p q : Nat} {A B : shT} (hp : p < 6) (okp : okA A) (hMp : isM (gN s) p A) (hq : q < 6) (okq : okA B) (hMq : isM (gN s) q B) {t : Nat} (ht : t < 4) (dx dy : Int32) : rn 255 57 [some (.ref 318), some (.int (nI p)), some (.int (nI q)), some (.int (nI t)), some (.int dx), some (.int dy), some (.int (nI 0)), some (.int (nI 0)), none, none, none] [] (mk X s) = some (some (.int (nI (ALK A B t dx dy))), mk X s) := by
  have w1 := okp.1
  have w2 := okp.2.1
  have u1 := okq.1
  have u2 := okq.2.1
  have hp7 : p < 7 := by omega
  have hq7 : q < 7 := by omega
  have inner : ∀ (y : Nat), y < A.1 1 → ∀ (acc : Nat) (i : Nat) (m : Int32), 0 ≤ i → i < A.1 0 → m = nI (acc + fb_ct (fun x => alB A B t dx dy x y) i) → ∃ m2 : Int32, m2 = nI (acc + fb_ct (fun x => alB A B t dx dy x y) (i + 1)) ∧ rn 255 70 [some (.ref 318), some (.int (nI p)), some (.int (nI q)), some (.int (nI t)), some (.int dx), some (.int dy), some (.int m), some (.int (nI y)), some (.int (nI i)), none, none] [] (mk X s) = rn 255 70 [some (.ref 318), some (.int (nI p)), some (.int (nI q)), some (.int (nI t)), some (.int dx), some (.int dy), some (.int m2), some (.int (nI y)), some (.int (nI (i + 1))), none, none] [] (mk X s) := by
    rintro y hy acc i m _ hi rfl
    refine ⟨_, rfl, ?_⟩
    rw [e_M_alike_70, ck_M, M_wide_run X hp7 hMp, r1_s, if_neg (nI_ge hi (by omega)), ck_M, M_wide_run X hp7 hMp, r1_s, ck_M, M_high_run X hp7 hMp, r1_s, M_turned_run _ ht (show 0 < 2 by decide) hi hy (by omega) (by omega), if_pos rfl, r1_s, ck_M, M_wide_run X hp7 hMp, r1_s, ck_M, M_high_run X hp7 hMp, r1_s, M_turned_run _ ht (show 1 < 2 by decide) hi hy (by omega) (by omega), if_neg (by decide), r1_s, ck_M, fb_ct_succ, nI_add]
    rcases xy_or B (nI (tX t i y (A.1 0) (A.1 1)) + dx) (nI (tY t i y (A.1 0) (A.1 1)) + dy) with ⟨a, b, ha, hb, e1, e2⟩ | hno
    · have hia : ins A (20 * y + i) = true := by rw [ins_xy A (by omega), decide_eq_true hi, decide_eq_true hy]; rfl
      have hib : ins B (20 * b + a) = true := by rw [ins_xy B (by omega), decide_eq_true ha, decide_eq_true hb]; rfl
      rw [e1, e2, M_within_yes X hq7 okq hMq ha hb, r1_s, if_neg (by decide), ck_M, M_in_run X hp7 hMp, r1_s, ck_M, M_isTin_run X hp7 hMp _ (by omega) (by omega), r1_s, ck_M, M_in_run X hq7 hMq, r1_s, ck_M, M_isTin_run X hq7 hMq _ (by omega) (by omega), r1_s, ← tin_in hia, ← tin_in hib, alB_yes okq ha hb e1 e2]
      cases tin A (nI (A.1 5)) (20 * y + i) <;> cases tin B (nI (B.1 5)) (20 * b + a)
      · rw [if_pos rfl, M_unit_1, r1_s, nI_add]; rfl
      · rw [if_neg (by decide), M_unit_0, r1_s, nI_add]; rfl
      · rw [if_neg (by decide), M_unit_0, r1_s, nI_add]; rfl
      · rw [if_pos rfl, M_unit_1, r1_s, nI_add]; rfl
    · rw [M_within_no X hq7 okq hMq hno, r1_s, if_pos (by decide), M_unit_0, r1_s, nI_add, alB_no hno]
      rfl
  have outer : ∀ (y : Nat) (m : Int32), 0 ≤ y → y < A.1 1 → m = nI (fb_sm (fun y => fb_ct (fun x => alB A B t dx dy x y) (A.1 0)) y) → ∃ m2 : Int32, m2 = nI (fb_sm (fun y => fb_ct (fun x => alB A B t dx dy x y) (A.1 0)) (y + 1)) ∧ rn 255 57 [some (.ref 318), some (.int (nI p)), some (.int (nI q)), some (.int (nI t)), some (.int dx), some (.int dy), some (.int m), some (.int (nI y)), none, none, none] [] (mk X s) = rn 255 57 [some (.ref 318), some (.int (nI p)), some (.int (nI q)), some (.int (nI t)), some (.int dx), some (.int dy), some (.int m2), some (.int (nI (y + 1))), none, none, none] [] (mk X s) := by
    rintro y m _ hy rfl
    obtain ⟨m2, h2, e⟩ := it_up (fun i (m : Int32) => rn 255 70 [some (.ref 318), some (.int (nI p)), some (.int (nI q)), some (.int (nI t)), some (.int dx), some (.int dy), some (.int m), some (.int (nI y)), some (.int (nI i)), none, none] [] (mk X s)) (fun i m => m = nI (fb_sm (fun y => fb_ct (fun x => alB A B t dx dy x y) (A.1 0)) y + fb_ct (fun x => alB A B t dx dy x y) i)) (Nat.zero_le (A.1 0)) (inner y hy _) (x := nI (fb_sm (fun y => fb_ct (fun x => alB A B t dx dy x y) (A.1 0)) y)) rfl
    try dsimp only at e
    refine ⟨_, rfl, ?_⟩
    rw [e_M_alike_57, ck_M, M_high_run X hp7 hMp, r1_s, if_neg (nI_ge hy (by omega)), e, e_M_alike_70, ck_M, M_wide_run X hp7 hMp, r1_s, if_pos (nI_le (Nat.le_refl _) (by omega)), h2, nI_add, fb_sm_succ]
  obtain ⟨m2, h2, e⟩ := it_up (fun y (m : Int32) => rn 255 57 [some (.ref 318), some (.int (nI p)), some (.int (nI q)), some (.int (nI t)), some (.int dx), some (.int dy), some (.int m), some (.int (nI y)), none, none, none] [] (mk X s)) (fun y m => m = nI (fb_sm (fun y => fb_ct (fun x => alB A B t dx dy x y) (A.1 0)) y)) (Nat.zero_le (A.1 1)) outer (x := nI 0) rfl
  try dsimp only at e
  rw [e, e_M_alike_57, ck_M, M_high_run X hp7 hMp, r1_s, if_pos (nI_le (Nat.le_refl _) (by omega)), h2]
  rfl
theorem alike_M0 (X : qz_X) {s : sT} {G : gsT} (h : Rel s G) {va vb : Int32} {p q : Nat} (hp : tk G va p) (hq : tk G vb q) {t : Nat} (ht : t < 4) {dx dy : Int32} (hx1 : ¬ dx < -9) (hx2 : ¬ nI 9 < dx) (hy1 : ¬ dy < -9) (hy2 : ¬ nI 9 < dy) : rn 255 0 [some (.ref 318), some (.int va), some (.int vb), some (.int (nI t)), some (.int dx), some (.int dy), none, none, none, none, none] [] (mk X s) = some (some (.int (nI (ALK (G.2.1.2.1 p) (G.2.1.2.1 q) t dx dy))), mk X s) := by
  obtain ⟨-, okp, -, hMp⟩ := tk_P h hp
  obtain ⟨-, okq, -, hMq⟩ := tk_P h hq
  rw [e_M_alike_0, ck_M, M_sheet_yes X h hp, r1_s, if_neg (by decide), ck_M, M_sheet_yes X h hq, r1_s, if_neg (by decide), isIn_yes _ (by omega) (by decide), r1_s, if_neg (by decide), isIn_run, if_neg hx1, if_neg hx2, r1_s, if_neg (by decide), isIn_run, if_neg hy1, if_neg hy2, r1_s, if_neg (by decide), hp.2.1, hq.2.1, alike_M X hp.1 okp hMp hq.1 okq hMq ht]
theorem sim_alike (X : qz_X) (s : sT) (G : gsT) (h : Rel s G) (va vb vt dx dy : Int32) : Sim X s 254 255 [some (.ref 0), some (.int va), some (.int vb), some (.int vt), some (.int dx), some (.int dy), none, none] [some (.ref 318), some (.int va), some (.int vb), some (.int vt), some (.int dx), some (.int dy), none, none, none, none, none] := by
  rcases tk_or G va with ⟨p, hp⟩ | hn
  · obtain ⟨hSp, okp, hCp, hMp⟩ := tk_P h hp
    rcases tk_or G vb with ⟨q, hq⟩ | hn
    · obtain ⟨hSq, okq, hCq, hMq⟩ := tk_P h hq
      have hC : rn 254 0 [some (.ref 0), some (.int va), some (.int vb), some (.int vt), some (.int dx), some (.int dy), none, none] [] (mk X s) = (if vt < 0 then some (some (.int (-1)), mk X s) else (if vt ≤ (nI 3) then (if dx < (-9) then some (some (.int (-1)), mk X s) else (if (nI 9) < dx then some (some (.int (-1)), mk X s) else (if dy < (-9) then some (some (.int (-1)), mk X s) else (if dy ≤ (nI 9) then qz_r1 (rn 253 0 [some (.ref (s.2.2 p)), some (.ref (s.2.2 q)), some (.int vt), some (.int dx), some (.int dy), none, none, none, none, none, none] [] (mk X s)) (fun x8 w7 => some (some (.int x8), w7)) else some (some (.int (-1)), mk X s))))) else some (some (.int (-1)), mk X s))) := by
        rw [e_C_alike_0, ck_C, C_told_yes X h hp, r3_r, ck_C, C_told_yes X h hq, r3_r]
      have hM : ∀ f : Int32 → qz_W → Option qz_R, True := fun _ => trivial
      have M1 : rn 255 0 [some (.ref 318), some (.int va), some (.int vb), some (.int vt), some (.int dx), some (.int dy), none, none, none, none, none] [] (mk X s) = qz_r1 (rn 72 0 [some (.int vt), some (.int (nI 0)), some (.int (nI 3))] [] (mk X s)) (fun x6 w5 => (if x6 = 0 then some (some (.int (-1)), w5) else qz_r1 (rn 72 0 [some (.int dx), some (.int (-9)), some (.int (nI 9))] [] w5) (fun x8 w7 => (if x8 = 0 then some (some (.int (-1)), w7) else qz_r1 (rn 72 0 [some (.int dy), some (.int (-9)), some (.int (nI 9))] [] w7) (fun x10 w9 => (if x10 = 0 then some (some (.int (-1)), w9) else rn 255 57 [some (.ref 318), some (.int va), some (.int vb), some (.int vt), some (.int dx), some (.int dy), some (.int (nI 0)), some (.int (nI 0)), none, none, none] [] w9)))))) := by
        rw [e_M_alike_0, ck_M, M_sheet_yes X h hp, r1_s, if_neg (by decide), ck_M, M_sheet_yes X h hq, r1_s, if_neg (by decide)]
      have none1 : (rn 254 0 [some (.ref 0), some (.int va), some (.int vb), some (.int vt), some (.int dx), some (.int dy), none, none] [] (mk X s) = some (some (.int (-1)), mk X s)) → (rn 255 0 [some (.ref 318), some (.int va), some (.int vb), some (.int vt), some (.int dx), some (.int dy), none, none, none, none, none] [] (mk X s) = some (some (.int (-1)), mk X s)) → Sim X s 254 255 [some (.ref 0), some (.int va), some (.int vb), some (.int vt), some (.int dx), some (.int dy), none, none] [some (.ref 318), some (.int va), some (.int vb), some (.int vt), some (.int dx), some (.int dy), none, none, none, none, none] := fun a b => sim_q h a (fr.rf s) b (fr.rf s)
      rcases num_or vt 3 with ⟨t, ht, rfl⟩ | hno
      · rw [if_neg (nI_pos (by omega)), if_pos (nI_le ht (by decide))] at hC
        rw [isIn_yes _ ht (by decide), r1_s, if_neg (by decide), isIn_run] at M1
        by_cases x1 : dx < -9
        · rw [if_pos x1] at hC
          rw [if_pos x1, r1_s, if_pos (by decide)] at M1
          exact none1 hC M1
        rw [if_neg x1] at hC M1
        by_cases x2 : nI 9 < dx
        · rw [if_pos x2] at hC
          rw [if_pos x2, r1_s, if_pos (by decide)] at M1
          exact none1 hC M1
        rw [if_neg x2] at hC
        rw [if_neg x2, r1_s, if_neg (by decide), isIn_run] at M1
        by_cases y1 : dy < -9
        · rw [if_pos y1] at hC
          rw [if_pos y1, r1_s, if_pos (by decide)] at M1
          exact none1 hC M1
        rw [if_neg y1] at hC M1
        by_cases y2 : nI 9 < dy
        · rw [if_neg (Int32.not_le.mpr y2)] at hC
          rw [if_pos y2, r1_s, if_pos (by decide)] at M1
          exact none1 hC M1
        rw [if_pos (Int32.not_lt.mp y2), alike_C X hSp okp hCp hSq okq hCq (by omega), r1_s] at hC
        exact sim_q h hC (fr.rf s) (alike_M0 X h hp hq (by omega) x1 x2 y1 y2) (fr.rf s)
      · rw [isIn_no _ (by decide) hno, r1_s, if_pos (by decide)] at M1
        by_cases h0 : vt < 0
        · rw [if_pos h0] at hC
          exact none1 hC M1
        · obtain ⟨n, hn, rfl⟩ := nI_of h0
          rw [if_neg h0, if_neg (nI_ge (by
            rcases Nat.lt_or_ge 3 n with g | g
            · exact g
            · exact absurd rfl (hno n g)) hn)] at hC
          exact none1 hC M1
    · refine sim_q (r := .int (-1)) h (s1 := s) (s2 := s) ?_ (fr.rf s) ?_ (fr.rf s)
      · rw [e_C_alike_0, ck_C, C_told_yes X h hp, r3_r, ck_C, C_told_no X h hn, r3_n]
      · rw [e_M_alike_0, ck_M, M_sheet_yes X h hp, r1_s, if_neg (by decide), ck_M, M_sheet_no X h hn, r1_s, if_pos (by decide)]
  · refine sim_q (r := .int (-1)) h (s1 := s) (s2 := s) ?_ (fr.rf s) ?_ (fr.rf s)
    · rw [e_C_alike_0, ck_C, C_told_no X h hn, r3_n, ck_C]
      rcases tk_or G vb with ⟨q, hq⟩ | hn2
      · rw [C_told_yes X h hq, r3_r]
      · rw [C_told_no X h hn2, r3_n]
    · rw [e_M_alike_0, ck_M, M_sheet_no X h hn, r1_s, if_pos (by decide)]
def bTn (L : Nat → Nat) : Nat → Nat
  | 0 => 0
  | t + 1 => if L (t + 1) ≤ L (bTn L t) then bTn L t else t + 1
theorem bTn_le (L : Nat → Nat) : ∀ t, bTn L t ≤ t
  | 0 => Nat.le_refl 0
  | t + 1 => by
    have := bTn_le L t
    unfold bTn
    split <;> omega
theorem ALK_le (A B : shT) (ok : okA A) (t : Nat) (dx dy : Int32) : ALK A B t dx dy ≤ 400 := by
  have w1 := ok.1
  have w2 := ok.2.1
  unfold ALK
  have h1 := fb_sm_bound (f := fun y => fb_ct (fun x => alB A B t dx dy x y) (A.1 0)) (c := 20) (n := A.1 1) (fun k _ => Nat.le_trans (fb_ct_le _ _) w1.2)
  omega
theorem sim_turn (X : qz_X) (s : sT) (G : gsT) (h : Rel s G) (va vb : Int32) : Sim X s 256 257 [some (.ref 0), some (.int va), some (.int vb), none, none, none, none, none, none] [some (.ref 318), some (.int va), some (.int vb), none, none] := by
  rcases tk_or G va with ⟨p, hp⟩ | hn
  · obtain ⟨hSp, okp, hCp, hMp⟩ := tk_P h hp
    rcases tk_or G vb with ⟨q, hq⟩ | hn
    · obtain ⟨hSq, okq, hCq, hMq⟩ := tk_P h hq
      have hL := fun t => ALK_le (G.2.1.2.1 p) (G.2.1.2.1 q) okp t (nI 0) (nI 0)
      generalize hLe : (fun t => ALK (G.2.1.2.1 p) (G.2.1.2.1 q) t (nI 0) (nI 0)) = L
      have hLt : ∀ t, ALK (G.2.1.2.1 p) (G.2.1.2.1 q) t (nI 0) (nI 0) = L t := fun t => by rw [← hLe]
      have hLb : ∀ t, L t ≤ 400 := fun t => by rw [← hLt]; exact hL t
      have eC : ∀ t, t < 4 → rn 253 0 [some (.ref (s.2.2 p)), some (.ref (s.2.2 q)), some (.int (nI t)), some (.int (nI 0)), some (.int (nI 0)), none, none, none, none, none, none] [] (mk X s) = some (some (.int (nI (L t))), mk X s) := fun t ht => by rw [alike_C X hSp okp hCp hSq okq hCq ht, hLt]
      have eM : ∀ t, t < 4 → rn 255 0 [some (.ref 318), some (.int va), some (.int vb), some (.int (nI t)), some (.int (nI 0)), some (.int (nI 0)), none, none, none, none, none] [] (mk X s) = some (some (.int (nI (L t))), mk X s) := fun t ht => by rw [alike_M0 X h hp hq ht (by decide) (by decide) (by decide) (by decide), hLt]
      have cs : ∀ (i : Nat) (v : Int32 × Int32), 1 ≤ i → i < 4 → (v.1 = nI (bTn L (i - 1)) ∧ v.2 = nI (L (bTn L (i - 1)))) → ∃ y : Int32 × Int32, (y.1 = nI (bTn L (i + 1 - 1)) ∧ y.2 = nI (L (bTn L (i + 1 - 1)))) ∧ rn 256 33 [none, none, none, some (.ref (s.2.2 p)), some (.ref (s.2.2 q)), some (.int v.1), some (.int v.2), some (.int (nI i)), none] [] (mk X s) = rn 256 33 [none, none, none, some (.ref (s.2.2 p)), some (.ref (s.2.2 q)), some (.int y.1), some (.int y.2), some (.int (nI (i + 1))), none] [] (mk X s) := by
        rintro i ⟨v1, v2⟩ hi1 hi ⟨e1, e2⟩
        dsimp only at e1 e2
        subst e1 e2
        refine ⟨(nI (bTn L (i + 1 - 1)), nI (L (bTn L (i + 1 - 1)))), ⟨rfl, rfl⟩, ?_⟩
        dsimp only
        have b1 := hLb i
        have b2 := hLb (bTn L (i - 1))
        have eT : bTn L (i + 1 - 1) = if L i ≤ L (bTn L (i - 1)) then bTn L (i - 1) else i := by
          obtain ⟨j, rfl⟩ : ∃ j, i = j + 1 := ⟨i - 1, by omega⟩
          rfl
        rw [e_C_turn_33, if_neg (nI_ge hi (by decide)), eC i hi, r1_s, nI_add, eT]
        by_cases hc : L i ≤ L (bTn L (i - 1))
        · rw [if_pos (nI_le hc (by omega)), if_pos hc]
        · rw [if_neg (nI_ge (by omega) (by omega)), if_neg hc]
      have ms : ∀ (i : Nat) (v : Int32), 1 ≤ i → i < 4 → v = nI (bTn L (i - 1)) → ∃ y : Int32, y = nI (bTn L (i + 1 - 1)) ∧ rn 257 23 [some (.ref 318), some (.int va), some (.int vb), some (.int v), some (.int (nI i))] [] (mk X s) = rn 257 23 [some (.ref 318), some (.int va), some (.int vb), some (.int y), some (.int (nI (i + 1)))] [] (mk X s) := by
        rintro i v hi1 hi rfl
        refine ⟨_, rfl, ?_⟩
        have b1 := hLb i
        have b2 := hLb (bTn L (i - 1))
        have b3 := bTn_le L (i - 1)
        have eT : bTn L (i + 1 - 1) = if L i ≤ L (bTn L (i - 1)) then bTn L (i - 1) else i := by
          obtain ⟨j, rfl⟩ : ∃ j, i = j + 1 := ⟨i - 1, by omega⟩
          rfl
        rw [e_M_turn_23, if_neg (nI_ge hi (by decide)), ck_M, eM i hi, r1_s, ck_M, eM _ (by omega), r1_s, nI_add, eT]
        by_cases hc : L i ≤ L (bTn L (i - 1))
        · rw [if_pos (nI_le hc (by omega)), if_pos hc]
        · rw [if_neg (nI_ge (by omega) (by omega)), if_neg hc]
      obtain ⟨⟨y1, y2⟩, ⟨hy1, -⟩, e1⟩ := it_up (fun i (v : Int32 × Int32) => rn 256 33 [none, none, none, some (.ref (s.2.2 p)), some (.ref (s.2.2 q)), some (.int v.1), some (.int v.2), some (.int (nI i)), none] [] (mk X s)) (fun i v => v.1 = nI (bTn L (i - 1)) ∧ v.2 = nI (L (bTn L (i - 1)))) (show 1 ≤ 4 by decide) cs (x := (nI 0, nI (L 0))) ⟨rfl, rfl⟩
      obtain ⟨z, hz, e2⟩ := it_up (fun i (v : Int32) => rn 257 23 [some (.ref 318), some (.int va), some (.int vb), some (.int v), some (.int (nI i))] [] (mk X s)) (fun i v => v = nI (bTn L (i - 1))) (show 1 ≤ 4 by decide) ms (x := nI 0) rfl
      dsimp only at e1 e2 hy1
      refine sim_q (r := .int (nI (bTn L 3))) h (s1 := s) (s2 := s) ?_ (fr.rf s) ?_ (fr.rf s)
      · have b0 := hLb 0
        rw [e_C_turn_0, ck_C, C_told_yes X h hp, r3_r, ck_C, C_told_yes X h hq, r3_r, e_C_turn_33, if_neg (by decide), eC 0 (by decide), r1_s, if_neg (by
          rw [Int32.not_le, Int32.lt_iff_toInt_lt, nI_toInt (by omega)]
          have : (-1 : Int32).toInt = -1 := by decide
          omega), nI_add, e1, e_C_turn_33, if_pos (by decide), hy1]
      · rw [e_M_turn_0, ck_M, M_sheet_yes X h hp, r1_s, if_neg (by decide), ck_M, M_sheet_yes X h hq, r1_s, if_neg (by decide), e2, e_M_turn_23, if_pos (by decide), hz]
    · refine sim_q (r := .int (-1)) h (s1 := s) (s2 := s) ?_ (fr.rf s) ?_ (fr.rf s)
      · rw [e_C_turn_0, ck_C, C_told_yes X h hp, r3_r, ck_C, C_told_no X h hn, r3_n]
      · rw [e_M_turn_0, ck_M, M_sheet_yes X h hp, r1_s, if_neg (by decide), ck_M, M_sheet_no X h hn, r1_s, if_pos (by decide)]
  · refine sim_q (r := .int (-1)) h (s1 := s) (s2 := s) ?_ (fr.rf s) ?_ (fr.rf s)
    · rw [e_C_turn_0, ck_C, C_told_no X h hn, r3_n, ck_C]
      rcases tk_or G vb with ⟨q, hq⟩ | hn2
      · rw [C_told_yes X h hq, r3_r]
      · rw [C_told_no X h hn2, r3_n]
    · rw [e_M_turn_0, ck_M, M_sheet_no X h hn, r1_s, if_pos (by decide)]

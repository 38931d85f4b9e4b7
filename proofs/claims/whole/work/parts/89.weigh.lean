/-! the worth of squares that show bridges of a set alone -/
def sqs (A : shT) (p : Nat → Bool) : Nat := fb_sm (fun y => fb_sm (fun x => if p (20 * y + x) then A.2.2.1 (20 * y + x) else 0) (A.1 0)) (A.1 1)
theorem sqs_cong {A : shT} (ok : okA A) {p p' : Nat → Bool} (h : ∀ q, q < 400 → p q = p' q) : sqs A p = sqs A p' := by
  have o1 := ok.1
  have o2 := ok.2.1
  unfold sqs
  refine fb_sm_cong (fun y hy => ?_)
  refine fb_sm_cong (fun x hx => ?_)
  rw [h _ (by omega)]
theorem sqs_or {A : shT} (ok : okA A) {p a b : Nat → Bool} (h : ∀ q, q < 400 → p q = (a q || b q)) (hd : ∀ q, q < 400 → ¬ (a q = true ∧ b q = true)) : sqs A p = sqs A a + sqs A b := by
  have o1 := ok.1
  have o2 := ok.2.1
  unfold sqs
  rw [← fb_sm_add]
  refine fb_sm_cong (fun y hy => ?_)
  rw [← fb_sm_add]
  refine fb_sm_cong (fun x hx => ?_)
  have h1 := h (20 * y + x) (by omega)
  have h2 := hd (20 * y + x) (by omega)
  rw [h1]
  cases ha : a (20 * y + x)
  · cases hb : b (20 * y + x) <;> simp
  · cases hb : b (20 * y + x)
    · simp
    · exact absurd ⟨ha, hb⟩ h2
theorem sqs_le {A : shT} (ok : okA A) (p : Nat → Bool) : sqs A p ≤ 39600 := by
  have o1 := ok.1
  have o2 := ok.2.1
  have hw := ok.2.2.2.2.2.2.2.2.2.2.1
  unfold sqs
  have h1 : ∀ y, y < A.1 1 → fb_sm (fun x => if p (20 * y + x) then A.2.2.1 (20 * y + x) else 0) (A.1 0) ≤ 1980 := fun y hy => by
    have := fb_sm_bound (f := fun x => if p (20 * y + x) then A.2.2.1 (20 * y + x) else 0) (c := 99) (n := A.1 0) (fun x hx => by
      have := hw (20 * y + x) (by omega)
      show (if p (20 * y + x) then A.2.2.1 (20 * y + x) else 0) ≤ 99
      split <;> omega)
    omega
  have := fb_sm_bound (f := fun y => fb_sm (fun x => if p (20 * y + x) then A.2.2.1 (20 * y + x) else 0) (A.1 0)) (c := 1980) (n := A.1 1) h1
  have h2 : A.1 1 * 1980 ≤ 20 * 1980 := Nat.mul_le_mul_right _ (by omega)
  omega
/-- what a square shows, of all bridges -/
def shA (A : shT) (cv : Nat → Bool) (q b : Nat) : Bool := A.2.1 q && (A.2.2.2.1 b q && !(cv q && decide (A.2.2.2.2 1 b = 1)))
def mtb (A : shT) (cv : Nat → Bool) (j T q : Nat) : Bool := (List.range 12).all (fun b => if b < j then !shA A cv q b || T.testBit b else shA A cv q b == T.testBit b)
theorem mtb_iff {A : shT} {cv : Nat → Bool} {j T q : Nat} : mtb A cv j T q = true ↔ ∀ b, b < 12 → (b < j → shA A cv q b = true → T.testBit b = true) ∧ (j ≤ b → shA A cv q b = T.testBit b) := by
  unfold mtb
  rw [List.all_eq_true]
  constructor
  · intro h b hb
    have := h b (List.mem_range.mpr hb)
    constructor
    · intro hj hs
      rw [if_pos hj, hs] at this
      simpa using this
    · intro hj
      rw [if_neg (by omega)] at this
      simpa using this
  · intro h b hb
    obtain ⟨h1, h2⟩ := h b (List.mem_range.mp hb)
    by_cases hj : b < j
    · rw [if_pos hj]
      cases hs : shA A cv q b
      · rfl
      · rw [h1 hj hs]; rfl
    · rw [if_neg hj, h2 (by omega)]
      simp
theorem mtb_no {A : shT} {cv : Nat → Bool} {j T q : Nat} (hT : T.testBit j = false) : mtb A cv (j + 1) T q = mtb A cv j T q := by
  rw [Bool.eq_iff_iff, mtb_iff, mtb_iff]
  constructor
  · intro h b hb
    obtain ⟨h1, h2⟩ := h b hb
    refine ⟨fun hj => h1 (by omega), fun hj => ?_⟩
    by_cases e : b = j
    · have := h1 (by omega)
      rw [e] at this ⊢
      rw [hT] at this ⊢
      cases hs : shA A cv q j
      · rfl
      · exact (this hs).symm
    · exact h2 (by omega)
  · intro h b hb
    obtain ⟨h1, h2⟩ := h b hb
    refine ⟨fun hj hs => ?_, fun hj => h2 (by omega)⟩
    by_cases e : b = j
    · rw [← h2 (by omega)]; exact hs
    · exact h1 (by omega) hs
theorem flip_bit (T j b : Nat) : (T ^^^ 2 ^ j).testBit b = (T.testBit b ^^ decide (b = j)) := fb_bit_flip T j b
theorem mtb_yes {A : shT} {cv : Nat → Bool} {j T q : Nat} (hj : j < 12) (hT : T.testBit j = true) : mtb A cv (j + 1) T q = (mtb A cv j T q || mtb A cv j (T ^^^ 2 ^ j) q) ∧ ¬ (mtb A cv j T q = true ∧ mtb A cv j (T ^^^ 2 ^ j) q = true) := by
  have fl : ∀ b, b ≠ j → (T ^^^ 2 ^ j).testBit b = T.testBit b := fun b hb => by rw [flip_bit, decide_eq_false hb, Bool.xor_false]
  have fj : (T ^^^ 2 ^ j).testBit j = false := by rw [flip_bit, decide_eq_true rfl, hT]; rfl
  constructor
  · rw [Bool.eq_iff_iff, Bool.or_eq_true, mtb_iff, mtb_iff, mtb_iff]
    constructor
    · intro h
      cases hs : shA A cv q j
      · refine Or.inr (fun b hb => ?_)
        obtain ⟨h1, h2⟩ := h b hb
        by_cases e : b = j
        · rw [e, fj, hs]
          exact ⟨fun z => absurd z (Nat.lt_irrefl j), fun _ => rfl⟩
        · rw [fl b e]
          exact ⟨fun z => h1 (by omega), fun z => h2 (by omega)⟩
      · refine Or.inl (fun b hb => ?_)
        obtain ⟨h1, h2⟩ := h b hb
        by_cases e : b = j
        · rw [e, hT, hs]
          exact ⟨fun z => absurd z (Nat.lt_irrefl j), fun _ => rfl⟩
        · exact ⟨fun z => h1 (by omega), fun z => h2 (by omega)⟩
    · rintro (h | h) b hb
      · obtain ⟨h1, h2⟩ := h b hb
        refine ⟨fun z hs => ?_, fun z => h2 (by omega)⟩
        by_cases e : b = j
        · rw [e]; exact hT
        · exact h1 (by omega) hs
      · obtain ⟨h1, h2⟩ := h b hb
        by_cases e : b = j
        · rw [e]
          exact ⟨fun _ _ => hT, fun z => absurd z (by omega)⟩
        · rw [fl b e] at h1 h2
          exact ⟨fun z => h1 (by omega), fun z => h2 (by omega)⟩
  · rintro ⟨h1, h2⟩
    have a := ((mtb_iff.mp h1) j hj).2 (Nat.le_refl j)
    have b := ((mtb_iff.mp h2) j hj).2 (Nat.le_refl j)
    rw [hT] at a
    rw [fj, a] at b
    cases b
theorem shA_br {A : shT} (ok : okA A) {cv : Nat → Bool} {q b : Nat} (hq : q < 400) (h : shA A cv q b = true) : b < A.1 4 := by
  unfold shA at h
  simp only [Bool.and_eq_true] at h
  exact (ok.2.2.2.2.2.2.2.2.2.2.2.1 b q hq h.2.1).1
theorem shw_A {A : shT} (ok : okA A) {cv : Nat → Bool} {v : Int32} {q b : Nat} : shw A cv v q b = (shA A cv q b && bt v b) := by
  unfold shw shA
  cases A.2.1 q <;> cases A.2.2.2.1 b q <;> cases bt v b <;> simp
theorem weigh10 (v0 : Nat) (v1 : Nat) (nv : Value) (hnv : nv = .null ∨ ∃ p, nv = .ref p) (v3 : Int32) (w : qz_W) : rn 206 10 [some (.ref v0), some (.ref v1), some nv, some (.int v3), none] [] w = qz_gi w.1 v1 8 2 (fun x1 => (if x1 ≤ v3 then rn 206 76 [some (.ref v0), none, none, some (.int (nI 1)), none] [] w else rn 206 21 [some (.ref v0), some (.ref v1), some nv, some (.int v3), some (.int (nI 0))] [] w)) := by
  rcases hnv with rfl | ⟨p, rfl⟩
  · rw [e_Choosing_weighN_10]
  · rw [e_Choosing_weighR_10]
theorem weigh21 (v0 : Nat) (v1 : Nat) (nv : Value) (hnv : nv = .null ∨ ∃ p, nv = .ref p) (v3 v4 : Int32) (w : qz_W) : rn 206 21 [some (.ref v0), some (.ref v1), some nv, some (.int v3), some (.int v4)] [] w = qz_gi w.1 v1 8 1 (fun x1 => (if x1 ≤ v4 then rn 206 10 [some (.ref v0), some (.ref v1), some nv, some (.int (v3 + (nI 1))), none] [] w else qz_ga w.1 v0 1 0 (fun q2 => qz_gi w.1 v0 1 2 (fun x3 => qz_ck w.1 v1 8 (qz_r1 (rn 180 0 [some (.ref v1), some (.int v4), some (.int v3), some (.int x3), some nv, none, none] [] w) (fun x5 w4 => qz_ia w4.1 q2 x5 (fun x6 => qz_ga w4.1 v1 8 8 (fun q7 => qz_ia w4.1 q7 ((v3 * (nI 20)) + v4) (fun x8 => qz_is w4 q2 x5 (x6 + x8) (fun w9 => rn 206 21 [some (.ref v0), some (.ref v1), some nv, some (.int v3), some (.int (v4 + (nI 1)))] [] w9)))))))))) := by
  rcases hnv with rfl | ⟨p, rfl⟩
  · rw [e_Choosing_weighN_21]
  · rw [e_Choosing_weighR_21]
theorem weigh0 (v0 : Nat) (v1 : Nat) (nv : Value) (hnv : nv = .null ∨ ∃ p, nv = .ref p) (w : qz_W) : rn 206 0 [some (.ref v0), some (.ref v1), some nv, none, none] [] w = qz_ga w.1 v0 1 0 (fun q1 => qz_r0 (rn 31 0 [some (.ref q1), some (.int (nI 0)), none, none] [] w) (fun w2 => rn 206 10 [some (.ref v0), some (.ref v1), some nv, some (.int (nI 0)), none] [] w2)) := by
  rcases hnv with rfl | ⟨p, rfl⟩
  · rw [e_Choosing_weighN_0]
  · rw [e_Choosing_weighR_0]
theorem low_all : ∀ n, n < 13 → ∀ b, b < 32 → bt (nI (2 ^ n - 1)) b = decide (b < n) := by decide +kernel
theorem pow_12 {n : Nat} (h : n ≤ 12) : 2 ^ n ≤ 4096 := show 2 ^ n ≤ 2 ^ 12 from Nat.pow_le_pow_right (by decide) h
/-- squares of the rows below y, and of row y those below x -/
def sqp (A : shT) (p : Nat → Bool) (y x : Nat) : Nat := fb_sm (fun y => fb_sm (fun x => if p (20 * y + x) then A.2.2.1 (20 * y + x) else 0) (A.1 0)) y + fb_sm (fun x => if p (20 * y + x) then A.2.2.1 (20 * y + x) else 0) x
theorem weigh_run (X : qz_X) {s : sT} {q : Nat} {A : shT} (hq : isS q) (ok : okA A) (hC : isC s q A) {nv : Value} {cv : Nat → Bool} (hn : nxt s nv cv) (h107 : s.1 107 2 = nI (2 ^ A.1 4 - 1)) : ∃ z : sT, rn 206 0 [some (.ref 107), some (.ref q), some nv, none, none] [] (mk X s) = some (none, mk X z) ∧ z.2 = s.2 ∧ (∀ c, c ≠ 108 → z.1 c = s.1 c) ∧ ∀ T, T < 2 ^ A.1 4 → z.1 108 T = nI (sqs A (mtb A cv (A.1 4) T)) := by
  have o1 := ok.1
  have o2 := ok.2.1
  have o5 := ok.2.2.2.2.1
  have hp := pow_12 o5
  have hp0 := Nat.two_pow_pos (A.1 4)
  have sg := isS_gap q hq
  have sl := isS_lt q hq
  have hnv : nv = .null ∨ ∃ p, nv = .ref p := by
    rcases hn with ⟨h, -⟩ | ⟨p, -, h, -⟩
    · exact Or.inl h
    · exact Or.inr ⟨p, h⟩
  have cong : ∀ u : sT, (∀ c, c ≠ 108 → u.1 c = s.1 c) → isC u q A ∧ nxt u nv cv := fun u hu => ⟨isC_cong (fun i hi => hu _ (by omega)) hC, nxt_cong (fun p A2 hp h2 => isC_cong (fun i hi => hu _ (by have := isS_gap p hp; have := isS_lt p hp; omega)) h2) hn⟩
  -- gathering
  obtain ⟨u, ⟨u2, uc, ut⟩, e1⟩ := it_up (fun y (u : sT) => rn 206 10 [some (.ref 107), some (.ref q), some nv, some (.int (nI y)), none] [] (mk X u)) (fun y u => u.2 = s.2 ∧ (∀ c, c ≠ 108 → u.1 c = s.1 c) ∧ ∀ T, T < 4096 → u.1 108 T = nI (sqp A (mtb A cv 0 T) y 0)) (Nat.zero_le (A.1 1)) (by
    rintro y u _ hy ⟨u2, uc, ut⟩
    try dsimp only
    obtain ⟨z, ⟨z2, zc, zt⟩, ez⟩ := it_up (fun x (u : sT) => rn 206 21 [some (.ref 107), some (.ref q), some nv, some (.int (nI y)), some (.int (nI x))] [] (mk X u)) (fun x u => u.2 = s.2 ∧ (∀ c, c ≠ 108 → u.1 c = s.1 c) ∧ ∀ T, T < 4096 → u.1 108 T = nI (sqp A (mtb A cv 0 T) y x)) (Nat.zero_le (A.1 0)) (by
      rintro x u _ hx ⟨u2, uc, ut⟩
      try dsimp only
      obtain ⟨hCu, hnu⟩ := cong u uc
      obtain ⟨r, er, br⟩ := showing_run X hq ok hCu hnu (nI (2 ^ A.1 4 - 1)) (x := x) (y := y) (by omega) (by omega)
      have bs : ∀ b, b < 32 → bt r b = shA A cv (20 * y + x) b := fun b hb => by
        rw [br b hb, shw_A ok, low_all _ (by omega) b hb]
        cases hs : shA A cv (20 * y + x) b
        · rfl
        · rw [decide_eq_true (shA_br ok (by omega) hs)]; rfl
      obtain ⟨n, hnn, rfl⟩ := bt_small (v := r) (k := 12) (by decide) (fun i h1 h2 => by
        rw [bs i h2]
        cases hs : shA A cv (20 * y + x) i
        · rfl
        · have := shA_br ok (by omega) hs
          omega)
      have bn : ∀ b, b < 12 → n.testBit b = shA A cv (20 * y + x) b := fun b hb => by
        rw [← bt_nat (n := n) (i := b) (by omega)]
        exact bs b (by omega)
      have hmt : ∀ T, T < 4096 → mtb A cv 0 T (20 * y + x) = decide (T = n) := fun T hT => by
        rw [Bool.eq_iff_iff, mtb_iff, decide_eq_true_eq]
        constructor
        · intro h
          apply Nat.eq_of_testBit_eq
          intro i
          by_cases hi : i < 12
          · rw [bn i hi, (h i hi).2 (Nat.zero_le i)]
          · rw [Nat.testBit_lt_two_pow (Nat.lt_of_lt_of_le (show T < 2 ^ 12 from hT) (Nat.pow_le_pow_right (by decide) (by omega))), Nat.testBit_lt_two_pow (Nat.lt_of_lt_of_le hnn (Nat.pow_le_pow_right (by decide) (by omega)))]
        · rintro rfl b hb
          exact ⟨fun z => absurd z (Nat.not_lt_zero b), fun _ => (bn b hb).symm⟩
      have hw : u.1 (q + 2) (20 * y + x) = nI (A.2.2.1 (20 * y + x)) := hCu.2.2.1 _ (by omega)
      refine ⟨su u 108 n (nI (sqp A (mtb A cv 0 n) y x) + nI (A.2.2.1 (20 * y + x))), ⟨u2, fun c hc => ?_, fun T hT => ?_⟩, ?_⟩
      · funext j
        rw [su_1, if_neg (fun z => hc z.1), uc c hc]
      · have hsx : sqp A (mtb A cv 0 T) y (x + 1) = sqp A (mtb A cv 0 T) y x + (if mtb A cv 0 T (20 * y + x) then A.2.2.1 (20 * y + x) else 0) := by
          unfold sqp
          rw [fb_sm_succ, Nat.add_assoc]
        rw [su_1, hsx, hmt T hT]
        by_cases e : T = n
        · subst e
          rw [if_pos ⟨rfl, rfl⟩, decide_eq_true rfl, if_pos rfl, nI_add]
        · rw [if_neg (fun z => e z.2), decide_eq_false e, if_neg (by decide), Nat.add_zero, ut T hT]
      · rw [weigh21 _ _ _ hnv, g_S_wide hq, hCu.1.1, if_neg (nI_ge hx (by omega)), g_O_within, g_O_all, uc 107 (by decide), h107, ck_S hq, er, r1_s, i_O_within (by omega), ut n (by omega), g_S_worth hq, ydx, i_S_worth hq (by omega), hw, w_O_within (by omega), nI_add]) (x := u) ⟨u2, uc, ut⟩
    try dsimp only at ez
    refine ⟨z, ⟨z2, zc, fun T hT => by rw [zt T hT]; rfl⟩, ?_⟩
    rw [weigh10 _ _ _ hnv, g_S_high hq, (cong u uc).1.1.2.1, if_neg (nI_ge hy (by omega)), ez, weigh21 _ _ _ hnv, g_S_wide hq, (cong z zc).1.1.1, if_pos (nI_le (Nat.le_refl _) (by omega)), nI_add]) (x := sa s 108 (fun j => if j < 4096 then nI 0 else s.1 108 j)) ⟨rfl, fun c hc => by rw [sa_1, if_neg hc], fun T hT => by rw [sa_1, if_pos rfl, if_pos hT]; rfl⟩
  try dsimp only at e1
  -- sums over subsets
  obtain ⟨z, ⟨z2, zc, zt⟩, e2⟩ := it_up (fun j (u : sT) => rn 206 76 [some (.ref 107), none, none, some (.int (nI (2 ^ j))), none] [] (mk X u)) (fun j u => u.2 = s.2 ∧ (∀ c, c ≠ 108 → u.1 c = s.1 c) ∧ ∀ T, T < 2 ^ A.1 4 → u.1 108 T = nI (sqs A (mtb A cv j T))) (Nat.zero_le (A.1 4)) (by
    rintro j u _ hj ⟨u2, uc, ut⟩
    try dsimp only
    have hpj : 2 ^ j < 2 ^ A.1 4 := Nat.pow_lt_pow_right (by decide) hj
    obtain ⟨z, ⟨z2, zc, zt⟩, ez⟩ := it_up (fun t (u : sT) => rn 206 87 [some (.ref 107), none, none, some (.int (nI (2 ^ j))), some (.int (nI t))] [] (mk X u)) (fun t u => u.2 = s.2 ∧ (∀ c, c ≠ 108 → u.1 c = s.1 c) ∧ ∀ T, T < 2 ^ A.1 4 → u.1 108 T = nI (sqs A (mtb A cv (if T < t then j + 1 else j) T))) (Nat.zero_le (2 ^ A.1 4)) (by
      rintro t u _ ht ⟨u2, uc, ut⟩
      try dsimp only
      rw [e_Choosing_weighN_87, g_O_all, uc 107 (by decide), h107, if_neg (nI_nlt (by omega) (by omega))]
      have keep : ∀ T, T ≠ t → (if T < t + 1 then j + 1 else j) = (if T < t then j + 1 else j) := fun T e => by
        by_cases g : T < t
        · rw [if_pos g, if_pos (by omega)]
        · rw [if_neg g, if_neg (by omega)]
      cases hb : t.testBit j
      · rw [if_pos ((fa_bit (by omega)).mpr hb), nI_add]
        refine ⟨u, ⟨u2, uc, fun T hT => ?_⟩, rfl⟩
        by_cases e : T = t
        · subst e
          rw [ut T hT, if_neg (Nat.lt_irrefl T), if_pos (Nat.lt_succ_self T), sqs_cong ok (fun q _ => mtb_no hb)]
        · rw [ut T hT, keep T e]
      · rw [if_neg (fun z => by rw [fa_bit (by omega), hb] at z; cases z), fb_xorI]
        have hx : t ^^^ 2 ^ j < 2 ^ A.1 4 := Nat.xor_lt_two_pow ht hpj
        have hxb : (t ^^^ 2 ^ j).testBit j = false := by rw [flip_bit, decide_eq_true rfl, hb]; rfl
        have hv : u.1 108 (t ^^^ 2 ^ j) = nI (sqs A (mtb A cv j (t ^^^ 2 ^ j))) := by
          rw [ut _ hx]
          by_cases g : t ^^^ 2 ^ j < t
          · rw [if_pos g, sqs_cong ok (fun q _ => mtb_no hxb)]
          · rw [if_neg g]
        have hv2 : u.1 108 t = nI (sqs A (mtb A cv j t)) := by
          rw [ut _ ht, if_neg (Nat.lt_irrefl t)]
        have hsum := sqs_or ok (p := mtb A cv (j + 1) t) (a := mtb A cv j t) (b := mtb A cv j (t ^^^ 2 ^ j)) (fun q _ => (mtb_yes (by omega) hb).1) (fun q _ => (mtb_yes (by omega) hb).2)
        refine ⟨su u 108 t (nI (sqs A (mtb A cv j t)) + nI (sqs A (mtb A cv j (t ^^^ 2 ^ j)))), ⟨u2, fun c hc => ?_, fun T hT => ?_⟩, ?_⟩
        · funext i
          rw [su_1, if_neg (fun z => hc z.1), uc c hc]
        · rw [su_1]
          by_cases e : T = t
          · subst e
            rw [if_pos ⟨rfl, rfl⟩, if_pos (Nat.lt_succ_self T), hsum, nI_add]
          · rw [if_neg (fun z => e z.2), ut T hT, keep T e]
        · rw [g_O_within, i_O_within (by omega), hv2, g_O_within, i_O_within (by omega), hv, w_O_within (by omega), nI_add]) (x := u) ⟨u2, uc, fun T hT => by rw [ut T hT, if_neg (Nat.not_lt_zero T)]⟩
    try dsimp only at ez
    refine ⟨z, ⟨z2, zc, fun T hT => by rw [zt T hT, if_pos hT]⟩, ?_⟩
    rw [e_Choosing_weighN_76, g_O_all, uc 107 (by decide), h107, if_neg (nI_nlt (by omega) (by omega)), ez, e_Choosing_weighN_87, g_O_all, zc 107 (by decide), h107, if_pos (nI_lt (by omega) (by omega)), pk_mul, Nat.pow_succ]) (x := u) ⟨u2, uc, fun T hT => by rw [ut T (by omega)]; rfl⟩
  try dsimp only at e2
  refine ⟨z, ?_, z2, zc, zt⟩
  rw [weigh0 _ _ _ hnv, g_O_within, fill_run X s 108 4096 (nI 0) rfl (by decide) (by decide), r0_s, e1, weigh10 _ _ _ hnv, g_S_high hq, (cong u uc).1.1.2.1, if_pos (nI_le (Nat.le_refl _) (by omega))]
  refine Eq.trans e2 ?_
  rw [e_Choosing_weighN_76, g_O_all, zc 107 (by decide), h107, if_pos (nI_lt (by omega) (by omega))]
/-- what a set shows: all that there is, less what shows others alone -/
theorem seenBy_run (X : qz_X) {s : sT} {A : shT} (ok : okA A) {cv : Nat → Bool} (h107 : s.1 107 2 = nI (2 ^ A.1 4 - 1)) (h108 : ∀ T, T < 2 ^ A.1 4 → s.1 108 T = nI (sqs A (mtb A cv (A.1 4) T))) {T : Nat} (hT : T < 2 ^ A.1 4) : rn 207 0 [some (.ref 107), some (.int (nI T))] [] (mk X s) = some (some (.int (nI (SEEN A cv (nI T)))), mk X s) := by
  have o5 := ok.2.2.2.2.1
  have hp := pow_12 o5
  have hp0 := Nat.two_pow_pos (A.1 4)
  obtain ⟨c, hc, ec⟩ := bt_small (v := nI (2 ^ A.1 4 - 1) &&& (nI T ^^^ (-1))) (k := A.1 4) (by omega) (fun i h1 h2 => by rw [b_and, low_all _ (by omega) i h2, decide_eq_false (by omega)]; rfl)
  have bc : ∀ b, b < 32 → c.testBit b = (decide (b < A.1 4) && !T.testBit b) := fun b hb => by
    rw [← bt_nat (n := c) (i := b) (by omega), ← ec, b_and, low_all _ (by omega) b hb, b_not _ hb, bt_nat (by omega)]
  have ba : ∀ b, b < 32 → (2 ^ A.1 4 - 1).testBit b = decide (b < A.1 4) := fun b hb => by
    rw [← bt_nat (i := b) (by omega), low_all _ (by omega) b hb]
  have full : ∀ q, q < 400 → mtb A cv (A.1 4) (2 ^ A.1 4 - 1) q = true := fun q hq => mtb_iff.mpr (fun b hb => ⟨fun h1 _ => by rw [ba b (by omega), decide_eq_true h1], fun h1 => by
    rw [ba b (by omega), decide_eq_false (by omega)]
    cases hs : shA A cv q b
    · rfl
    · have := shA_br ok hq hs
      omega⟩)
  have neg : ∀ q, q < 400 → mtb A cv (A.1 4) c q = !sqn A cv (nI T) q := fun q hq => by
    cases hs : sqn A cv (nI T) q
    · refine mtb_iff.mpr (fun b hb => ⟨fun h1 h2 => ?_, fun h1 => ?_⟩)
      · rw [bc b (by omega), decide_eq_true h1, Bool.true_and]
        cases ht : T.testBit b
        · rfl
        · have : sqn A cv (nI T) q = true := sqn_iff.mpr ⟨b, hb, by rw [shw_A ok, h2, bt_nat (by omega), ht]; rfl⟩
          rw [hs] at this
          cases this
      · rw [bc b (by omega), decide_eq_false (by omega)]
        cases hs : shA A cv q b
        · rfl
        · have := shA_br ok hq hs
          omega
    · obtain ⟨b, hb, hw⟩ := sqn_iff.mp hs
      rw [shw_A ok, Bool.and_eq_true, bt_nat (by omega)] at hw
      have hlt := shA_br ok hq hw.1
      cases hm : mtb A cv (A.1 4) c q
      · rfl
      · have := ((mtb_iff.mp hm) b hb).1 hlt hw.1
        rw [bc b (by omega), hw.2] at this
        simp at this
  have hsum := sqs_or ok (p := mtb A cv (A.1 4) (2 ^ A.1 4 - 1)) (a := sqn A cv (nI T)) (b := mtb A cv (A.1 4) c) (fun q hq => by rw [full q hq, neg q hq]; cases sqn A cv (nI T) q <;> rfl) (fun q hq h => by
    rw [neg q hq, h.1] at h
    cases h.2)
  rw [e_Choosing_seenBy_0, g_O_within, g_O_all, h107, i_O_within (by omega), h108 _ (by omega), g_O_within, g_O_all, h107, ec, i_O_within (by omega), h108 c hc, hsum, pk_sub (by omega), Nat.add_sub_cancel]
  rfl

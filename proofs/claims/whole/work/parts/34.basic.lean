/-! small methods of sheets, class and reference -/
def tk (G : gsT) (v : Int32) (k : Nat) : Prop := k < 6 ∧ v = nI k ∧ G.2.1.1 k = true
theorem tk_or (G : gsT) (v : Int32) : (∃ k, tk G v k) ∨ ∀ k, ¬ tk G v k := by
  rcases Classical.em (∃ k, tk G v k) with h | h
  · exact Or.inl h
  · exact Or.inr fun k hk => h ⟨k, hk⟩
theorem tk_P {s : sT} {G : gsT} {v : Int32} {k : Nat} (h : Rel s G) (hk : tk G v k) : isS (s.2.2 k) ∧ okA (G.2.1.2.1 k) ∧ isC s (s.2.2 k) (G.2.1.2.1 k) ∧ isM (gN s) k (G.2.1.2.1 k) := by
  obtain ⟨k6, rfl, ht⟩ := hk
  exact ⟨(isS_pl _ (h.1.1 k (by omega))).1, h.2.2.2.2.1.1.2 k k6 ht, (h.2.2.2.2.1.2.1 k k6).2.2 ht⟩
theorem C_told_yes (X : qz_X) {s : sT} {G : gsT} {v : Int32} {k : Nat} (h : Rel s G) (hk : tk G v k) : rn 115 0 [some (.ref 0), some (.int v)] [] (mk X s) = some (some (.ref (s.2.2 k)), mk X s) := by
  obtain ⟨k6, rfl, ht⟩ := hk
  have hq := (isS_pl _ (h.1.1 k (by omega))).1
  rw [e_C_toldSheet_0, if_neg (nI_pos (by omega)), if_neg (nI_ge k6 (by decide)), g_C_now, g_N_sheets, i_N_sheets k6, g_S_told hq, (h.2.2.2.2.1.2.1 k k6).1, told_int, if_pos ht, g_C_now, g_N_sheets, i_N_sheets k6]
theorem C_told_no (X : qz_X) {s : sT} {G : gsT} {v : Int32} (h : Rel s G) (hn : ∀ k, ¬ tk G v k) : rn 115 0 [some (.ref 0), some (.int v)] [] (mk X s) = some (some .null, mk X s) := by
  rw [e_C_toldSheet_0]
  rcases pk_ix v (n := 6) (by decide) with h0 | h0 | ⟨k, k6, rfl⟩
  · rw [if_pos h0]
  · by_cases h1 : v < 0
    · rw [if_pos h1]
    · rw [if_neg h1, if_pos h0]
  · have hq := (isS_pl _ (h.1.1 k (by omega))).1
    have ht : G.2.1.1 k = false := by
      cases hb : G.2.1.1 k
      · rfl
      · exact absurd ⟨k6, rfl, hb⟩ (hn k)
    rw [if_neg (nI_pos (by omega)), if_neg (nI_ge k6 (by decide)), g_C_now, g_N_sheets, i_N_sheets k6, g_S_told hq, (h.2.2.2.2.1.2.1 k k6).1, told_int, if_neg (by rw [ht]; decide)]
theorem isIn_run (w : qz_W) (v a b : Int32) : rn 72 0 [some (.int v), some (.int a), some (.int b)] [] w = some (some (.int (if v < a then nI 0 else if b < v then nI 0 else nI 1)), w) := by
  rw [e_M_isIn_0]
  by_cases h1 : v < a
  · rw [if_pos h1, if_pos h1]
  · rw [if_neg h1, if_neg h1]
    by_cases h2 : b < v
    · rw [if_pos h2, if_pos h2]
    · rw [if_neg h2, if_neg h2]
theorem isIn_yes (w : qz_W) {j n : Nat} (hj : j ≤ n) (hn : n < 2 ^ 31) : rn 72 0 [some (.int (nI j)), some (.int (nI 0)), some (.int (nI n))] [] w = some (some (.int (nI 1)), w) := by
  rw [isIn_run, if_neg (nI_nlt (Nat.zero_le _) (by omega)), if_neg (nI_nlt hj (by omega))]
theorem isIn_no (w : qz_W) {v : Int32} {n : Nat} (hn : n < 2 ^ 31 - 1) (h : ∀ j, j ≤ n → v ≠ nI j) : rn 72 0 [some (.int v), some (.int (nI 0)), some (.int (nI n))] [] w = some (some (.int (nI 0)), w) := by
  rw [isIn_run]
  rcases pk_ix v (n := n + 1) (by omega) with h0 | h0 | ⟨k, hk, rfl⟩
  · rw [if_pos (show v < nI 0 from h0)]
  · by_cases h1 : v < nI 0
    · rw [if_pos h1]
    · rw [if_neg h1]
      obtain ⟨m, hm, rfl⟩ := nI_of h1
      have := (nI_leI (a := n + 1) (b := m) (by omega) hm).mp h0
      rw [if_pos (nI_lt (by omega) hm)]
  · exact absurd rfl (h k (by omega))
theorem isIn_none (w : qz_W) (v : Int32) : rn 72 0 [some (.int v), some (.int (nI 0)), some (.int (nI 0 - nI 1))] [] w = some (some (.int (nI 0)), w) := by
  rw [isIn_run]
  by_cases h1 : v < nI 0
  · rw [if_pos h1]
  · rw [if_neg h1]
    obtain ⟨m, hm, rfl⟩ := nI_of h1
    rw [if_pos]
    rw [Int32.lt_iff_toInt_lt, nI_toInt hm]
    have : (nI 0 - nI 1).toInt = -1 := by decide
    omega
/-- within 0 to n - 1, n perhaps 0 -/
theorem isIn_lt (w : qz_W) (v : Int32) {n : Nat} (hn : n < 2 ^ 30) : ((∃ j, j < n ∧ v = nI j) ∧ rn 72 0 [some (.int v), some (.int (nI 0)), some (.int (nI n - nI 1))] [] w = some (some (.int (nI 1)), w)) ∨ ((¬ ∃ j, j < n ∧ v = nI j) ∧ rn 72 0 [some (.int v), some (.int (nI 0)), some (.int (nI n - nI 1))] [] w = some (some (.int (nI 0)), w)) := by
  by_cases h0 : n = 0
  · subst h0
    exact Or.inr ⟨fun ⟨j, hj, _⟩ => absurd hj (Nat.not_lt_zero j), isIn_none w v⟩
  · rw [pk_sub (by omega)]
    rcases Classical.em (∃ j, j < n ∧ v = nI j) with ⟨j, hj, rfl⟩ | h
    · exact Or.inl ⟨⟨j, hj, rfl⟩, isIn_yes w (by omega) (by omega)⟩
    · exact Or.inr ⟨h, isIn_no w (by omega) fun j hj e => h ⟨j, by omega, e⟩⟩
theorem M_sheet_yes (X : qz_X) {s : sT} {G : gsT} {v : Int32} {k : Nat} (h : Rel s G) (hk : tk G v k) : rn 120 0 [some (.ref 318), some (.int v)] [] (mk X s) = some (some (.int (nI 1)), mk X s) := by
  obtain ⟨k6, rfl, ht⟩ := hk
  rw [e_M_isSheet_0, isIn_yes _ (by omega) (by decide), r1_s, if_neg (by decide), g_M_isTold, i_M_isTold k6, (h.2.2.2.2.1.2.1 k k6).2.1, told_one, if_pos ht]
theorem M_sheet_no (X : qz_X) {s : sT} {G : gsT} {v : Int32} (h : Rel s G) (hn : ∀ k, ¬ tk G v k) : rn 120 0 [some (.ref 318), some (.int v)] [] (mk X s) = some (some (.int (nI 0)), mk X s) := by
  rw [e_M_isSheet_0]
  rcases Classical.em (∃ j, j ≤ 5 ∧ v = nI j) with ⟨k, k6, rfl⟩ | hj
  · have ht : ¬ G.2.1.1 k = true := fun hb => hn k ⟨by omega, rfl, hb⟩
    rw [isIn_yes _ k6 (by decide), r1_s, if_neg (by decide), g_M_isTold, i_M_isTold (by omega), (h.2.2.2.2.1.2.1 k (by omega)).2.1, told_one, if_neg ht]
  · rw [isIn_no _ (by decide) (fun j h e => hj ⟨j, h, e⟩), r1_s, if_pos (by decide)]
/-- the reference's numbers of a sheet -/
theorem ab_at {s : sT} {k : Nat} {A : shT} (hM : isM (gN s) k A) {j : Nat} (hj : j < 9) : s.1 320 (16 * k + j) = nI (A.1 j) := hM.1 j hj
theorem M_wide_run (X : qz_X) {s : sT} {k : Nat} {A : shT} (hk : k < 7) (hM : isM (gN s) k A) : rn 82 0 [some (.ref 318), some (.int (nI k))] [] (mk X s) = some (some (.int (nI (A.1 0))), mk X s) := by
  rw [e_M_wide_0, g_M_about, pk_mul, nI_add, i_M_about (by omega), ab_at hM (by decide)]
theorem M_high_run (X : qz_X) {s : sT} {k : Nat} {A : shT} (hk : k < 7) (hM : isM (gN s) k A) : rn 81 0 [some (.ref 318), some (.int (nI k))] [] (mk X s) = some (some (.int (nI (A.1 1))), mk X s) := by
  rw [e_M_high_0, g_M_about, pk_mul, nI_add, i_M_about (by omega), ab_at hM (by decide)]
theorem M_in_run (X : qz_X) {s : sT} {k : Nat} {A : shT} (hk : k < 7) (hM : isM (gN s) k A) : rn 121 0 [some (.ref 318), some (.int (nI k))] [] (mk X s) = some (some (.int (nI (A.1 5))), mk X s) := by
  rw [e_M_bridgesIn_0, g_M_about, pk_mul, nI_add, i_M_about (by omega), ab_at hM (by decide)]
/-- a square of a sheet -/
def inXY (A : shT) (vx vy : Int32) : Prop := ∃ a b, a < A.1 0 ∧ b < A.1 1 ∧ vx = nI a ∧ vy = nI b
theorem M_within_yes (X : qz_X) {s : sT} {k : Nat} {A : shT} (hk : k < 7) (ok : okA A) (hM : isM (gN s) k A) {a b : Nat} (ha : a < A.1 0) (hb : b < A.1 1) : rn 94 0 [some (.ref 318), some (.int (nI k)), some (.int (nI a)), some (.int (nI b))] [] (mk X s) = some (some (.int (nI 1)), mk X s) := by
  have h1 := ok.1
  have h2 := ok.2.1
  rw [e_M_isWithin_0, ck_M, M_wide_run X hk hM, r1_s, pk_sub (by omega), isIn_yes _ (by omega) (by omega), r1_s, if_neg (by decide), ck_M, M_high_run X hk hM, r1_s, pk_sub (by omega), isIn_yes _ (by omega) (by omega), r1_s, if_neg (by decide)]
theorem M_within_no (X : qz_X) {s : sT} {k : Nat} {A : shT} (hk : k < 7) (ok : okA A) (hM : isM (gN s) k A) {vx vy : Int32} (hn : ¬ inXY A vx vy) : rn 94 0 [some (.ref 318), some (.int (nI k)), some (.int vx), some (.int vy)] [] (mk X s) = some (some (.int (nI 0)), mk X s) := by
  have h1 := ok.1
  have h2 := ok.2.1
  rw [e_M_isWithin_0, ck_M, M_wide_run X hk hM, r1_s]
  rcases isIn_lt (mk X s) vx (n := A.1 0) (by omega) with ⟨⟨a, ha, rfl⟩, e⟩ | ⟨-, e⟩
  · rw [e, r1_s, if_neg (by decide), ck_M, M_high_run X hk hM, r1_s]
    rcases isIn_lt (mk X s) vy (n := A.1 1) (by omega) with ⟨⟨b, hb, rfl⟩, e⟩ | ⟨-, e⟩
    · exact absurd ⟨a, b, ha, hb, rfl, rfl⟩ hn
    · rw [e, r1_s, if_pos (by decide)]
  · rw [e, r1_s, if_pos (by decide)]
theorem C_has_yes (X : qz_X) {s : sT} {q : Nat} {A : shT} (hq : isS q) (ok : okA A) (hC : isC s q A) {a b : Nat} (ha : a < A.1 0) (hb : b < A.1 1) : rn 46 0 [some (.ref q), some (.int (nI a)), some (.int (nI b))] [] (mk X s) = some (some (.int (nI 1)), mk X s) := by
  have h1 := ok.1
  have h2 := ok.2.1
  rw [e_Sheet_has_0, if_neg (nI_pos (by omega)), g_S_wide hq, hC.1.1, if_neg (nI_ge ha (by omega)), if_neg (nI_pos (by omega)), g_S_high hq, hC.1.2.1, if_neg (nI_ge hb (by omega))]
theorem C_has_no (X : qz_X) {s : sT} {q : Nat} {A : shT} (hq : isS q) (ok : okA A) (hC : isC s q A) {vx vy : Int32} (hn : ¬ inXY A vx vy) : rn 46 0 [some (.ref q), some (.int vx), some (.int vy)] [] (mk X s) = some (some (.int (nI 0)), mk X s) := by
  have h1 := ok.1
  have h2 := ok.2.1
  rw [e_Sheet_has_0]
  by_cases x0 : vx < 0
  · rw [if_pos x0]
  rw [if_neg x0, g_S_wide hq, hC.1.1]
  by_cases x1 : nI (A.1 0) ≤ vx
  · rw [if_pos x1]
  rw [if_neg x1]
  by_cases y0 : vy < 0
  · rw [if_pos y0]
  rw [if_neg y0, g_S_high hq, hC.1.2.1]
  by_cases y1 : nI (A.1 1) ≤ vy
  · rw [if_pos y1]
  exfalso
  obtain ⟨a, ha, rfl⟩ := nI_of x0
  obtain ⟨b, hb, rfl⟩ := nI_of y0
  rw [nI_leI (by omega) ha] at x1
  rw [nI_leI (by omega) hb] at y1
  exact hn ⟨a, b, by omega, by omega, rfl, rfl⟩
theorem M_at_run (w : qz_W) (k x y : Nat) : rn 84 0 [some (.int (nI k)), some (.int (nI x)), some (.int (nI y))] [] w = some (some (.int (nI (400 * k + (20 * y + x)))), w) := by
  rw [e_M_at_0, pk_mul, pk_mul, nI_add, nI_add, Nat.add_assoc]
theorem M_unit_run (w : qz_W) (b : Bool) : rn 104 0 [some (.int (if b then nI 1 else nI 0))] [] w = some (some (.int (if b then nI 1 else nI 0)), w) := by
  rw [e_M_unit_0, told_int]
  cases b <;> rfl
/-- a bit as a truth -/
theorem M_unit_v (w : qz_W) (v : Int32) : rn 104 0 [some (.int v)] [] w = some (some (.int (if v = 0 then nI 0 else nI 1)), w) := by
  rw [e_M_unit_0]
  by_cases h : v = 0
  · rw [if_pos h, if_pos h]
  · rw [if_neg h, if_neg h]
theorem M_has_run (w : qz_W) (v : Int32) {x : Nat} (hx : x < 32) : rn 92 0 [some (.int v), some (.int (nI x))] [] w = some (some (.int (if bt v x then nI 1 else nI 0)), w) := by
  rw [e_M_has_0]
  cases hb : bt v x
  · rw [if_neg (fun h => by rw [b_sel1 v hx, hb] at h; cases h)]; rfl
  · rw [if_pos ((b_sel1 v hx).mpr hb)]; rfl

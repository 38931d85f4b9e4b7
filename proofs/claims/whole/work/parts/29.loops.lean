/-! loops; numbers; bits of rows -/
theorem it_up {α : Type} (F : Nat → α → Option qz_R) (P : Nat → α → Prop) {a n : Nat} (h : a ≤ n) (hs : ∀ i x, a ≤ i → i < n → P i x → ∃ y, P (i + 1) y ∧ F i x = F (i + 1) y) {x : α} (h0 : P a x) : ∃ y, P n y ∧ F a x = F n y := by
  obtain ⟨d, rfl⟩ := Nat.exists_eq_add_of_le h
  have key : ∀ e, e ≤ d → ∃ y, P (a + e) y ∧ F a x = F (a + e) y := by
    intro e
    induction e with
    | zero => exact fun _ => ⟨x, h0, rfl⟩
    | succ e ih =>
      intro he
      obtain ⟨y, hy, ey⟩ := ih (by omega)
      obtain ⟨z, hz, ez⟩ := hs (a + e) y (by omega) (by omega) hy
      exact ⟨z, hz, ey.trans ez⟩
  exact key d (Nat.le_refl d)
theorem it_ex {α : Type} (F : Nat → α → Option qz_R) (P : Nat → α → Prop) (Q : Option qz_R → Prop) {a n : Nat} (h : a ≤ n) (hs : ∀ i x, a ≤ i → i < n → P i x → (∃ y, P (i + 1) y ∧ F i x = F (i + 1) y) ∨ Q (F i x)) {x : α} (h0 : P a x) : (∃ y, P n y ∧ F a x = F n y) ∨ Q (F a x) := by
  obtain ⟨d, rfl⟩ := Nat.exists_eq_add_of_le h
  have key : ∀ e, e ≤ d → (∃ y, P (a + e) y ∧ F a x = F (a + e) y) ∨ Q (F a x) := by
    intro e
    induction e with
    | zero => exact fun _ => Or.inl ⟨x, h0, rfl⟩
    | succ e ih =>
      intro he
      rcases ih (by omega) with ⟨y, hy, ey⟩ | hq
      · rcases hs (a + e) y (by omega) (by omega) hy with ⟨z, hz, ez⟩ | hq
        · exact Or.inl ⟨z, hz, ey.trans ez⟩
        · exact Or.inr (by rw [ey]; exact hq)
      · exact Or.inr hq
  exact key d (Nat.le_refl d)
/-- downward: place i + 1 stands for the number i -/
theorem it_dn {α : Type} (F : Nat → α → Option qz_R) (P : Nat → α → Prop) (n : Nat) (hs : ∀ i x, i < n → P (i + 1) x → ∃ y, P i y ∧ F (i + 1) x = F i y) {x : α} (h0 : P n x) : ∃ y, P 0 y ∧ F n x = F 0 y := by
  have key : ∀ e, e ≤ n → ∃ y, P (n - e) y ∧ F n x = F (n - e) y := by
    intro e
    induction e with
    | zero => exact fun _ => ⟨x, h0, rfl⟩
    | succ e ih =>
      intro he
      obtain ⟨y, hy, ey⟩ := ih (by omega)
      have hn : n - e = (n - (e + 1)) + 1 := by omega
      rw [hn] at hy ey
      obtain ⟨z, hz, ez⟩ := hs _ y (by omega) hy
      exact ⟨z, hz, ey.trans ez⟩
  have := key n (Nat.le_refl n)
  rwa [Nat.sub_self] at this
theorem it_dx {α : Type} (F : Nat → α → Option qz_R) (P : Nat → α → Prop) (Q : Option qz_R → Prop) (n : Nat) (hs : ∀ i x, i < n → P (i + 1) x → (∃ y, P i y ∧ F (i + 1) x = F i y) ∨ Q (F (i + 1) x)) {x : α} (h0 : P n x) : (∃ y, P 0 y ∧ F n x = F 0 y) ∨ Q (F n x) := by
  have key : ∀ e, e ≤ n → (∃ y, P (n - e) y ∧ F n x = F (n - e) y) ∨ Q (F n x) := by
    intro e
    induction e with
    | zero => exact fun _ => Or.inl ⟨x, h0, rfl⟩
    | succ e ih =>
      intro he
      rcases ih (by omega) with ⟨y, hy, ey⟩ | hq
      · have hn : n - e = (n - (e + 1)) + 1 := by omega
        rw [hn] at hy ey
        rcases hs _ y (by omega) hy with ⟨z, hz, ez⟩ | hq
        · exact Or.inl ⟨z, hz, ey.trans ez⟩
        · exact Or.inr (by rw [ey]; exact hq)
      · exact Or.inr hq
  have := key n (Nat.le_refl n)
  rwa [Nat.sub_self] at this
/-- the number below i: -1 below 0 -/
theorem nI_dn (i : Nat) : nI (i + 1) + (-1) = nI i := pk_m1 i
theorem nI_ltz {i : Nat} (h : i < 2 ^ 31) : (nI i < 0) = False := eq_false (nI_pos h)
theorem m1_ltz : ((nI 0 + (-1) : Int32) < 0) = True := by decide
theorem nI_ne_0 {n : Nat} (h : n < 2 ^ 31) : (nI n = 0) = (n = 0) := by
  rw [← nI_0, nI_eq h (by decide)]
theorem nI_ten : (nI 10 = 0) = False := by decide
theorem nI_twenty : (nI 20 = 0) = False := by decide
theorem r1_call {o : Option qz_R} {x : Int32} {w : qz_W} {f : Int32 → qz_W → Option qz_R} (h : o = some (some (.int x), w)) : qz_r1 o f = f x w := by rw [h]; rfl
theorem r0_c {o : Option qz_R} {w : qz_W} {f : qz_W → Option qz_R} (h : o = some (none, w)) : qz_r0 o f = f w := by rw [h]; rfl
theorem r2_call {o : Option qz_R} {x : Int64} {w : qz_W} {f : Int64 → qz_W → Option qz_R} (h : o = some (some (.long x), w)) : qz_r2 o f = f x w := by rw [h]; rfl
theorem r1_s (x : Int32) (w : qz_W) (f : Int32 → qz_W → Option qz_R) : qz_r1 (some (some (.int x), w)) f = f x w := rfl
theorem r0_s (w : qz_W) (f : qz_W → Option qz_R) : qz_r0 (some (none, w)) f = f w := rfl
theorem r2_s (x : Int64) (w : qz_W) (f : Int64 → qz_W → Option qz_R) : qz_r2 (some (some (.long x), w)) f = f x w := rfl
theorem r3_n (w : qz_W) (f0 : qz_W → Option qz_R) (f : Nat → qz_W → Option qz_R) : qz_r3 (some (some .null, w)) f0 f = f0 w := rfl
theorem r3_r (q : Nat) (w : qz_W) (f0 : qz_W → Option qz_R) (f : Nat → qz_W → Option qz_R) : qz_r3 (some (some (.ref q), w)) f0 f = f q w := rfl
theorem qz_z0 : qz_z (nI 0) = true := by decide
theorem qz_z1 : qz_z (nI 1) = true := by decide
theorem cond_t {α : Type} (a b : α) : cond true a b = a := rfl
/-- su on a row that was set -/
theorem su_sa (s : sT) (o k : Nat) (g : Nat → Int32) (x : Int32) : su (sa s o g) o k x = sa s o (fun j => if j = k then x else g j) := by
  refine Prod.ext ?_ rfl
  funext i j
  show (if i = o ∧ j = k then x else (if i = o then g else s.1 i) j) = (if i = o then (fun j => if j = k then x else g j) else s.1 i) j
  by_cases h : i = o
  · simp [h]
  · simp [h]
theorem su_eq_sa (s : sT) (o k : Nat) (x : Int32) : su s o k x = sa s o (fun j => if j = k then x else s.1 o j) := by
  refine Prod.ext ?_ rfl
  funext i j
  show (if i = o ∧ j = k then x else s.1 i j) = (if i = o then (fun j => if j = k then x else s.1 o j) else s.1 i) j
  by_cases h : i = o
  · subst h; simp
  · simp [h]
theorem sa_id (s : sT) (o : Nat) : sa s o (s.1 o) = s := by
  refine Prod.ext ?_ rfl
  funext i
  show (if i = o then s.1 o else s.1 i) = s.1 i
  by_cases h : i = o
  · subst h; simp
  · simp [h]
theorem sa_sa (s : sT) (o : Nat) (g h : Nat → Int32) : sa (sa s o g) o h = sa s o h := by
  refine Prod.ext ?_ rfl
  funext i
  show (if i = o then h else if i = o then g else s.1 i) = if i = o then h else s.1 i
  by_cases h : i = o
  · simp [h]
  · simp [h]
theorem mk_len {X : qz_X} {s : sT} {o n : Nat} {f : Int32 → Option qz_R} (hS : ms_S o = (0, n)) (ho : o < 362) : qz_len (mk X s).1 o f = f (nI n) := by
  unfold qz_len
  rw [show (mk X s).1 o = _ from mkw_at ho]
  unfold ms_c
  rw [hS]
  rfl
/-- Arrays.fill -/
theorem fill_run (X : qz_X) (s : sT) (o n : Nat) (v : Int32) (hS : ms_S o = (0, n)) (ho : o < 362) (hn : n < 2 ^ 31) : rn 31 0 [some (.ref o), some (.int v), none, none] [] (mk X s) = some (none, mk X (sa s o (fun j => if j < n then v else s.1 o j))) := by
  rw [e_Arrays_fill_0, mk_len hS ho]
  have hs : ∀ (i : Nat) (t : sT), 0 ≤ i → i < n → t = sa s o (fun j => if j < i then v else s.1 o j) → ∃ y, y = sa s o (fun j => if j < i + 1 then v else s.1 o j) ∧ rn 31 5 [some (.ref o), some (.int v), some (.int (nI i)), some (.int (nI n))] [] (mk X t) = rn 31 5 [some (.ref o), some (.int v), some (.int (nI (i + 1))), some (.int (nI n))] [] (mk X y) := by
    intro i t _ hi ht
    refine ⟨_, rfl, ?_⟩
    subst ht
    rw [e_Arrays_fill_5, if_neg (nI_ge hi hn), mk_is hS ho hn hi, su_sa, nI_add]
    have e : (fun j => if j = i then v else if j < i then v else s.1 o j) = (fun j => if j < i + 1 then v else s.1 o j) := by
      funext j
      by_cases h1 : j = i
      · rw [if_pos h1, if_pos (by omega)]
      · rw [if_neg h1]
        by_cases h2 : j < i
        · rw [if_pos h2, if_pos (by omega)]
        · rw [if_neg h2, if_neg (by omega)]
    rw [e]
  obtain ⟨y, hy, e⟩ := it_up (fun i t => rn 31 5 [some (.ref o), some (.int v), some (.int (nI i)), some (.int (nI n))] [] (mk X t)) (fun i t => t = sa s o (fun j => if j < i then v else s.1 o j)) (Nat.zero_le n) hs (x := s) (by
    have e : (fun j => if j < 0 then v else s.1 o j) = s.1 o := by
      funext j
      rw [if_neg (Nat.not_lt_zero j)]
    rw [e, sa_id])
  try dsimp only at e
  rw [e, hy, e_Arrays_fill_5, if_pos (nI_le (Nat.le_refl n) hn)]

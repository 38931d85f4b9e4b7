/-! the least that is left, over sets of the latest sheets: the class -/
noncomputable def tbl (P : Nat → shT) : Nat → Nat → Nat
  | 0, _ => 0
  | n + 1, j => if j = n + 1 then (match mnf (gah P (tbl P n) (n + 1)) (fun b => (n + 1).testBit b) 6 with
      | none => 0
      | some x => x.2) else tbl P n j
noncomputable def lvl (P : Nat → shT) (m : Nat) : Nat := tbl P m m
theorem tbl_le {P : Nat → shT} {j : Nat} : ∀ n, j ≤ n → tbl P n j = lvl P j
  | 0, h => by
    have : j = 0 := by omega
    subst this; rfl
  | n + 1, h => by
    by_cases e : j = n + 1
    · subst e; rfl
    · show (if j = n + 1 then _ else tbl P n j) = _
      rw [if_neg e]
      exact tbl_le n (by omega)
theorem mnf_c {g g' : Nat → Nat} {B : Nat → Bool} : ∀ n, (∀ k, k < n → B k = true → g k = g' k) → mnf g B n = mnf g' B n
  | 0, _ => rfl
  | n + 1, h => by
    have ih := mnf_c n (fun k hk => h k (by omega))
    cases hB : B n
    · show (if B n then _ else mnf g B n) = (if B n then _ else mnf g' B n)
      rw [hB, if_neg (by decide), if_neg (by decide), ih]
    · have e := h n (by omega) hB
      show (if B n then some (match mnf g B n with
        | none => (n, g n)
        | some x => if x.2 ≤ g n then x else (n, g n)) else mnf g B n) = (if B n then some (match mnf g' B n with
        | none => (n, g' n)
        | some x => if x.2 ≤ g' n then x else (n, g' n)) else mnf g' B n)
      rw [ih, e]
theorem mnf_ex {g : Nat → Nat} {B : Nat → Bool} {k : Nat} (hB : B k = true) : ∀ n, k < n → ∃ x, mnf g B n = some x
  | 0, h => absurd h (Nat.not_lt_zero k)
  | n + 1, h => by
    cases hn : B n
    · have : k ≠ n := fun z => by rw [z, hn] at hB; cases hB
      obtain ⟨x, hx⟩ := mnf_ex (g := g) hB n (by omega)
      refine ⟨x, ?_⟩
      show (if B n then _ else mnf g B n) = _
      rw [hn, if_neg (by decide), hx]
    · exact ⟨_, by
        show (if B n then some _ else mnf g B n) = _
        rw [hn, if_pos rfl]⟩
theorem mnf_b {g : Nat → Nat} {B : Nat → Bool} {c : Nat} (hg : ∀ k, B k = true → g k ≤ c) : ∀ n x, mnf g B n = some x → x.2 ≤ c
  | 0, x, h => by cases h
  | n + 1, x, h => by
    have h : (if B n then some (match mnf g B n with
        | none => (n, g n)
        | some x => if x.2 ≤ g n then x else (n, g n)) else mnf g B n) = some x := h
    cases hB : B n
    · rw [hB, if_neg (by decide)] at h
      exact mnf_b hg n x h
    · rw [hB, if_pos rfl] at h
      have h := Option.some.inj h
      rw [← h]
      cases hm : mnf g B n with
      | none => exact hg n hB
      | some y =>
        show (if y.2 ≤ g n then y else (n, g n)).2 ≤ c
        split
        · exact mnf_b hg n y hm
        · exact hg n hB
theorem low_bit : ∀ m, m < 64 → m ≠ 0 → ∃ k, k < 6 ∧ m.testBit k = true := by decide
theorem lvl_eq {P : Nat → shT} {n : Nat} (hn : n + 1 < 64) {x : Nat × Nat} (hx : mnf (gah P (lvl P) (n + 1)) (fun b => (n + 1).testBit b) 6 = some x) : lvl P (n + 1) = x.2 := by
  have e : mnf (gah P (tbl P n) (n + 1)) (fun b => (n + 1).testBit b) 6 = mnf (gah P (lvl P) (n + 1)) (fun b => (n + 1).testBit b) 6 := mnf_c 6 (fun k hk hB => by
    have := (cl_bit (n + 1) hn k hk hB).2
    unfold gah
    rw [tbl_le n (by omega)])
  show (if n + 1 = n + 1 then (match mnf (gah P (tbl P n) (n + 1)) (fun b => (n + 1).testBit b) 6 with
      | none => 0
      | some x => x.2) else tbl P n (n + 1)) = x.2
  rw [if_pos rfl, e, hx]
theorem wl_le {P : Nat → shT} {k : Nat} (ok : okA (P k)) (L : Nat → Bool) : fb_sm (wl P k L) 400 ≤ 39600 := by
  refine Nat.le_trans (fb_sm_bound (c := 99) (fun q hq => ?_)) (by decide)
  unfold wl
  split
  · exact ok.2.2.2.2.2.2.2.2.2.2.1 q hq
  · omega
theorem lvl_b {P : Nat → shT} {T : Nat → Bool} (ok : ∀ k, k < 6 → T k = true → okA (P k)) : ∀ m, m < 64 → (∀ b, b < 6 → m.testBit b = true → T b = true) → lvl P m ≤ 39600 * m := by
  intro m
  induction m using Nat.strongRecOn with
  | ind m ih =>
    intro hm hT
    cases m with
    | zero => exact Nat.le_refl _
    | succ n =>
      obtain ⟨k0, hk0, hb0⟩ := low_bit (n + 1) hm (by omega)
      obtain ⟨x, hx⟩ := mnf_ex (g := gah P (lvl P) (n + 1)) (B := fun b => (n + 1).testBit b) hb0 6 hk0
      rw [lvl_eq hm hx]
      have hbit : ∀ k, (n + 1).testBit k = true → k < 6 := fun k hk => by
        rcases Nat.lt_or_ge k 6 with g | g
        · exact g
        · rw [Nat.testBit_lt_two_pow (show n + 1 < 2 ^ k from Nat.lt_of_lt_of_le (show n + 1 < 2 ^ 6 from hm) (Nat.pow_le_pow_right (show 0 < 2 by decide) g))] at hk
          cases hk
      refine mnf_b (fun k hB => ?_) 6 x hx
      have hk := hbit k hB
      have hc := (cl_bit (n + 1) hm k hk hB).2
      have h1 := wl_le (ok k hk (hT k hk hB)) (fun b => (n + 1 - 2 ^ k).testBit b)
      have h2 := ih (n + 1 - 2 ^ k) hc (by omega) (fun b hb hbb => by
        rw [sub_bit (n + 1) hm k hk hB b hb, Bool.and_eq_true] at hbb
        exact hT b hb hbb.1)
      unfold gah
      omega
theorem sub_set : ∀ n, n < 64 → ∀ m, m < 64 → ((nI m &&& (nI n ^^^ (-1)) = 0) ↔ ∀ b, b < 6 → m.testBit b = true → n.testBit b = true) := by decide +kernel
/-- the class's table of the least, when the sets below m are done -/
def lsT (s u : sT) (P : Nat → shT) (n m : Nat) : Prop := u.2 = s.2 ∧ (∀ c, c ≠ 6 → u.1 c = s.1 c) ∧ ∀ j, j < m → (∀ b, b < 6 → j.testBit b = true → n.testBit b = true) → u.1 6 j = nI (lvl P j)
theorem C_ahead_run (X : qz_X) {s u : sT} {G : gsT} (h : Rel s G) {n : Nat} (hn : n < 64) (hnT : ∀ b, b < 6 → n.testBit b = G.2.1.1 b) {m M : Nat} (hm : m < 64) (hm0 : m ≠ 0) (hmM : m ≤ M) (hsub : ∀ b, b < 6 → m.testBit b = true → n.testBit b = true) (hu : lsT s u G.2.1.2.1 n M) : ∃ (z : sT) (x : Nat × Nat), rn 244 0 [some (.ref 3), some (.int (nI m)), none, none, none, none] [] (mk X u) = some (some (.int (nI x.1)), mk X z) ∧ mnf (gah G.2.1.2.1 (lvl G.2.1.2.1) m) (fun b => m.testBit b) 6 = some x ∧ lsT s z G.2.1.2.1 n M ∧ z.1 6 m = nI (lvl G.2.1.2.1 m) := by
  obtain ⟨u2, uc, ut⟩ := hu
  have fu : fr s u := ⟨by rw [u2], fun i j hij => by
    have : i ≠ 6 := fun z => by subst z; revert hij; simp [scr]
    rw [uc i this]⟩
  have hR := h.fr fu
  have hT : ∀ b, b < 6 → m.testBit b = true → G.2.1.1 b = true := fun b hb hbb => by rw [← hnT b hb]; exact hsub b hb hbb
  have ok : ∀ k, k < 6 → G.2.1.1 k = true → okA (G.2.1.2.1 k) := fun k hk hTk => (tk_P h (show tk G (nI k) k from ⟨hk, rfl, hTk⟩)).2.1
  have ss : ∀ k, k < 6 → m.testBit k = true → m - 2 ^ k < m ∧ ∀ b, b < 6 → (m - 2 ^ k).testBit b = true → m.testBit b = true := fun k hk hb => ⟨(cl_bit m hm k hk hb).2, fun b hb2 hbb => by
    rw [sub_bit m hm k hk hb b hb2, Bool.and_eq_true] at hbb
    exact hbb.1⟩
  obtain ⟨k0, hk0, hb0⟩ := low_bit m hm hm0
  obtain ⟨x, hx⟩ := mnf_ex (g := gah G.2.1.2.1 (lvl G.2.1.2.1) m) (B := fun b => m.testBit b) hb0 6 hk0
  have hbd : ∀ k, k < 6 → m.testBit k = true → gah G.2.1.2.1 (lvl G.2.1.2.1) m k < 2 ^ 31 := fun k hk hb => by
    have h1 := wl_le (ok k hk (hT k hk hb)) (fun b => (m - 2 ^ k).testBit b)
    have h2 := lvl_b ok (m - 2 ^ k) (by have := (ss k hk hb).1; omega) (fun b hb2 hbb => hT b hb2 ((ss k hk hb).2 b hb2 hbb))
    have := (ss k hk hb).1
    unfold gah
    omega
  obtain ⟨z, e, z2, zc, zj, zx⟩ := weighAhead_run X hR hm hT (f := lvl G.2.1.2.1) (fun k hk hb => ut _ (by have := (ss k hk hb).1; omega) (fun b hb2 hbb => hsub b hb2 ((ss k hk hb).2 b hb2 hbb))) hbd
  rw [hx] at e
  have hz : z.1 6 m = nI (lvl G.2.1.2.1 m) := by
    rw [zx x hx]
    obtain ⟨m', rfl⟩ : ∃ m', m = m' + 1 := ⟨m - 1, by omega⟩
    rw [lvl_eq hm hx]
  refine ⟨z, x, e, hx, ⟨by rw [z2, u2], fun c hc => by rw [zc c hc, uc c hc], fun j hj hs => ?_⟩, hz⟩
  by_cases e1 : j = m
  · rw [e1]; exact hz
  · rw [zj j e1]; exact ut j hj hs

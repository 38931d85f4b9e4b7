/-! WORLDS AND STATES: cell i of a world lies at z + i; the numbers from qz_old on are cells that were there before -/
abbrev qz_X : Type := va_G × (FieldType → ClassId) × (Nat → Nat) × Nat × Nat × (Nat → Int32)
def qz_ad (X : qz_X) (i : Nat) : Nat := if i < qz_old then X.2.2.2.1 + i else X.2.2.1 (i - qz_old)
def qz_v (X : qz_X) (v : Value) : Value := match v with
  | .ref i => .ref (qz_ad X i)
  | v => v
def qz_e (X : qz_X) (e : qz_E) : va_E := match e with
  | .inl (ty, n, .inr (.inr (.inr (.inr g)))) => .inl (X.2.1 ty, n, .inr (.inr (.inr (.inr (fun j => (g j).map (qz_ad X))))))
  | .inl (ty, a) => .inl (X.2.1 ty, a)
  | .inr (ci, fs) => .inr (ci, fs.map (qz_v X))
def qz_ws (X : qz_X) (w : qz_W) : va_W := (List.range w.2.1).map (fun i => (X.2.2.2.1 + i, qz_e X (w.1 i)))
def qz_A (X : qz_X) : Nat → Prop := fun q => X.2.2.2.1 ≤ q
def qz_tx : String := "plate row shape put turned hold worth to brush wear bridge straight broad corner told hidden north east south west "
def qz_by : List Int32 := [112, 108, 97, 116, 101, 32, 114, 111, 119, 32, 115, 104, 97, 112, 101, 32, 112, 117, 116, 32, 116, 117, 114, 110, 101, 100, 32, 104, 111, 108, 100, 32, 119, 111, 114, 116, 104, 32, 116, 111, 32, 98, 114, 117, 115, 104, 32, 119, 101, 97, 114, 32, 98, 114, 105, 100, 103, 101, 32, 115, 116, 114, 97, 105, 103, 104, 116, 32, 98, 114, 111, 97, 100, 32, 99, 111, 114, 110, 101, 114, 32, 116, 111, 108, 100, 32, 104, 105, 100, 100, 101, 110, 32, 110, 111, 114, 116, 104, 32, 101, 97, 115, 116, 32, 115, 111, 117, 116, 104, 32, 119, 101, 115, 116, 32]
def qz_sx : Nat → Int32 := fun j => ([0, 1, 0, -1] : List Int32).getD j 0
def qz_sy : Nat → Int32 := fun j => ([-1, 0, 1, 0] : List Int32).getD j 0
def qz_jk : qz_E := .inr (999, [])
def qz_oc (X : qz_X) (i : Nat) : qz_E := match i with
  | 0 => .inl (.float, X.2.2.2.2.1, .inl X.2.2.2.2.2)
  | 1 => .inl (.float, 4, .inl qz_sx)
  | 2 => .inl (.float, 4, .inl qz_sy)
  | 3 => .inr (13, [.int 0, .ref (qz_old + 4)])
  | 4 => .inl (.double, 115, .inl (fun j => qz_by.getD j 0))
  | _ => qz_jk
/-- a cell's own shape: an array's kind, an object's number of fields -/
def qz_ce (e : qz_E) : Prop := match e with
  | .inl (ty, _) => ty = .int ∨ ty = .long ∨ ty = .byte ∨ ty = .object "TinStencils$Sheet" ∨ ty = .object "TinStencils$Pile"
  | .inr (ci, fs) => fs.length = (qz_gd (cT_0, cY_0, 0) qz_ct ci).2.2
def qz_Wd (X : qz_X) (H : Heap) (w : qz_W) : Prop := va_P X.1 qz_cl (qz_ws X w) H ∧ w.2.1 ≤ qz_old ∧ (∀ i, w.2.1 ≤ i → i < qz_old → w.1 i = qz_jk) ∧ (∀ i, w.1 (qz_old + i) = qz_oc X i) ∧ ∀ i, i < w.2.1 → qz_ce (w.1 i)
def qz_tys (X : qz_X) : List (ClassId × FieldType) := [(X.2.1 .int, .int), (X.2.1 .long, .long), (X.2.1 .byte, .byte), (X.2.1 (.object "TinStencils$Sheet"), .object "TinStencils$Sheet"), (X.2.1 (.object "TinStencils$Pile"), .object "TinStencils$Pile")]
def qz_fh : List (Nat × Nat × String) := [(8, 126, "STEP_X"), (8, 129, "STEP_Y"), (9, 185, "STEP_X"), (9, 188, "STEP_Y")]
/-- what is known of a state's tables and of its old cells -/
def qz_St (X : qz_X) (s : State) : Prop :=
  va_K X.1 qz_cl (qz_tys X) s ∧ (∀ q ∈ qz_mh, va_Nw (.methodLinkNest (qz_gd "" qz_on q.1) q.2.1 (qz_in q.2.2).1.1 "TinStencils") s) ∧ (∀ q ∈ qz_fh, va_Nw (.fieldLinkNest (qz_gd "" qz_on q.1) q.2.1 "TinStencils" q.2.2 "[I" "TinStencils") s) ∧
  va_AO "TinStencils$Sheet" s ∧ va_AO "TinStencils$Pile" s ∧ vk_R "TinStencils$Tokens" 55 qz_tx (X.2.2.1 3) s ∧
  va_Z "TinStencils" "STEP_X" "[I" (.ref (X.2.2.1 1)) (qz_A X) s s.heap ∧ va_Z "TinStencils" "STEP_Y" "[I" (.ref (X.2.2.1 2)) (qz_A X) s s.heap ∧ va_Z "java/lang/String" "COMPACT_STRINGS" "Z" (.int 1) (qz_A X) s s.heap ∧
  va_T .int (X.2.2.1 0) X.2.2.2.2.1 (fun j => .int (X.2.2.2.2.2 j)) (qz_A X) s s.heap ∧ va_T .int (X.2.2.1 1) 4 (fun j => .int (qz_sx j)) (qz_A X) s s.heap ∧ va_T .int (X.2.2.1 2) 4 (fun j => .int (qz_sy j)) (qz_A X) s s.heap ∧
  va_O "java/lang/String" (X.2.2.1 3) (qz_A X) s s.heap ∧ va_OF "java/lang/String" "coder" "B" (.int 0) (X.2.2.1 3) (qz_A X) s s.heap ∧ va_OF "java/lang/String" "value" "[B" (.ref (X.2.2.1 4)) (X.2.2.1 3) (qz_A X) s s.heap ∧
  va_T .byte (X.2.2.1 4) 115 (fun j => .int (qz_by.getD j 0)) (qz_A X) s s.heap ∧ va_Zq "jdk/internal/util/Preconditions" "SIOOBE_FORMATTER" "Ljava/util/function/BiFunction;" (qz_A X) s s.heap
theorem qz_St.to {X : qz_X} {s U : State} (hW : s.WarmedH U.vm) (hk : ∀ a : Nat, a < s.heap.size → ¬ qz_A X a → U.heap[a]? = s.heap[a]?) (h : qz_St X s) : qz_St X U := by
  obtain ⟨h1, h2, h3, h4, h5, h6, h7, h8, h9, h10, h11, h12, h13, h14, h15, h16, h17⟩ := h
  have hv := hW.alike
  exact ⟨va_K.moved hv h1, fun q hq => va_Nw.warmM hW (h2 q hq), fun q hq => va_Nw.warmF hW (h3 q hq), va_AO.moved hv h4, va_AO.moved hv h5, vk_R.warm hW h6,
    (va_Z.moved hv h7).kept hk, (va_Z.moved hv h8).kept hk, (va_Z.moved hv h9).kept hk, (va_T.moved hv h10).kept hk, (va_T.moved hv h11).kept hk, (va_T.moved hv h12).kept hk,
    (va_O.moved hv h13).kept hk, (va_OF.moved hv h14).kept hk, (va_OF.moved hv h15).kept hk, (va_T.moved hv h16).kept hk, (va_Zq.moved hv h17).kept hk⟩
theorem qz_ws_at {X : qz_X} {w : qz_W} {i : Nat} (h : i < w.2.1) : (qz_ws X w)[i]? = some (X.2.2.2.1 + i, qz_e X (w.1 i)) := by simp [qz_ws, h]
theorem qz_ws_inv {X : qz_X} {w : qz_W} {k : Nat} {q : Nat × va_E} (h : (qz_ws X w)[k]? = some q) : k < w.2.1 ∧ q = (X.2.2.2.1 + k, qz_e X (w.1 k)) := by
  have hl := (List.getElem?_eq_some_iff.mp h).1
  have hk : k < w.2.1 := by simpa [qz_ws] using hl
  rw [qz_ws_at hk] at h
  exact ⟨hk, (Option.some.inj h).symm⟩
theorem qz_ws_D {X : qz_X} {w : qz_W} : va_D (qz_A X) (qz_ws X w) := by
  refine ⟨fun i j p q hi hj e => ?_, fun k q hk => ?_⟩
  · obtain ⟨-, rfl⟩ := qz_ws_inv hi
    obtain ⟨-, rfl⟩ := qz_ws_inv hj
    have e : X.2.2.2.1 + i = X.2.2.2.1 + j := e
    omega
  · obtain ⟨-, rfl⟩ := qz_ws_inv hk
    exact Nat.le_add_right _ _
theorem qz_ws_len {X : qz_X} {w : qz_W} : (qz_ws X w).length = w.2.1 := by simp [qz_ws]
theorem qz_ws_set {X : qz_X} {w : qz_W} {o : Nat} {e : qz_E} (h : o < w.2.1) : qz_ws X (va_up w.1 o e, w.2) = (qz_ws X w).set o (X.2.2.2.1 + o, qz_e X e) := by
  apply List.ext_getElem?
  intro k
  by_cases hk : k < w.2.1
  · rw [qz_ws_at (w := (va_up w.1 o e, w.2)) hk]
    by_cases hko : k = o
    · subst hko
      rw [List.getElem?_set_self (by rw [qz_ws_len]; exact hk)]
      simp [va_up]
    · rw [List.getElem?_set_ne (Ne.symm hko), qz_ws_at hk]
      simp [va_up, hko]
  · rw [List.getElem?_eq_none (by rw [qz_ws_len]; exact Nat.not_lt.mp hk), List.getElem?_eq_none (by rw [List.length_set, qz_ws_len]; exact Nat.not_lt.mp hk)]
theorem qz_ws_push {X : qz_X} {w : qz_W} {e : qz_E} {k : Nat} : qz_ws X (qz_new w e k) = qz_ws X w ++ [(X.2.2.2.1 + w.2.1, qz_e X e)] := by
  apply List.ext_getElem?
  intro j
  by_cases hj : j < w.2.1
  · rw [qz_ws_at (w := qz_new w e k) (show j < w.2.1 + 1 by omega), List.getElem?_append_left (by rw [qz_ws_len]; exact hj), qz_ws_at hj]
    simp [qz_new, va_up, Nat.ne_of_lt hj]
  · by_cases hj2 : j = w.2.1
    · subst hj2
      rw [qz_ws_at (w := qz_new w e k) (show w.2.1 < w.2.1 + 1 by omega), List.getElem?_append_right (by rw [qz_ws_len]; exact Nat.le_refl _), qz_ws_len]
      simp [qz_new, va_up]
    · rw [List.getElem?_eq_none (by rw [qz_ws_len]; show w.2.1 + 1 ≤ j; omega), List.getElem?_eq_none (by rw [List.length_append, qz_ws_len]; show w.2.1 + 1 ≤ j; omega)]
/-- a cell that is neither junk nor old lies in the world -/
theorem qz_in_w {X : qz_X} {H : Heap} {w : qz_W} {o : Nat} (h : qz_Wd X H w) (h1 : w.1 o ≠ qz_jk) (h2 : ∀ i, w.1 o ≠ qz_oc X i) : o < w.2.1 := by
  rcases Nat.lt_or_ge o w.2.1 with q | q
  · exact q
  · rcases Nat.lt_or_ge o qz_old with r | r
    · exact absurd (h.2.2.1 o q r) h1
    · have e := h.2.2.2.1 (o - qz_old)
      rw [show qz_old + (o - qz_old) = o by omega] at e
      exact absurd e (h2 _)
theorem qz_ad_in {X : qz_X} {H : Heap} {w : qz_W} {o : Nat} (h : qz_Wd X H w) (ho : o < w.2.1) : qz_ad X o = X.2.2.2.1 + o := by
  unfold qz_ad
  rw [if_pos (Nat.lt_of_lt_of_le ho h.2.1)]
theorem qz_ad_old (X : qz_X) (i : Nat) : qz_ad X (qz_old + i) = X.2.2.1 i := by
  unfold qz_ad
  rw [if_neg (by omega), show qz_old + i - qz_old = i by omega]
theorem qz_oc_cases {X : qz_X} (P : qz_E → Prop) (h0 : P (.inl (.float, X.2.2.2.2.1, .inl X.2.2.2.2.2))) (h1 : P (.inl (.float, 4, .inl qz_sx))) (h2 : P (.inl (.float, 4, .inl qz_sy))) (h3 : P (.inr (13, [.int 0, .ref (qz_old + 4)]))) (h4 : P (.inl (.double, 115, .inl (fun j => qz_by.getD j 0)))) (h5 : P qz_jk) (i : Nat) : P (qz_oc X i) := by
  unfold qz_oc
  split
  · exact h0
  · exact h1
  · exact h2
  · exact h3
  · exact h4
  · exact h5
/-- the world behind a write into one of its cells -/
theorem qz_Wd.up {X : qz_X} {H H1 : Heap} {w : qz_W} {o : Nat} {e : qz_E} (h : qz_Wd X H w) (ho : o < w.2.1) (hc : qz_ce e) (hP : va_P X.1 qz_cl ((qz_ws X w).set o (X.2.2.2.1 + o, qz_e X e)) H1) : qz_Wd X H1 (va_up w.1 o e, w.2) := by
  refine ⟨by rw [qz_ws_set ho]; exact hP, h.2.1, fun i hi hj => ?_, fun i => ?_, fun i hi => ?_⟩
  · show va_up w.1 o e i = qz_jk
    unfold va_up
    rw [if_neg (by have : w.2.1 ≤ i := hi; omega)]
    exact h.2.2.1 i hi hj
  · show va_up w.1 o e (qz_old + i) = _
    unfold va_up
    rw [if_neg (by have := h.2.1; omega)]
    exact h.2.2.2.1 i
  · show qz_ce (va_up w.1 o e i)
    unfold va_up
    by_cases hio : i = o
    · rw [if_pos hio]; exact hc
    · rw [if_neg hio]; exact h.2.2.2.2 i hi
/-- the locals that are known -/
def qz_pl (X : qz_X) : Nat → qz_L → List (Nat × Value)
  | _, [] => []
  | i, none :: L => qz_pl X (i + 1) L
  | i, some v :: L => (i, qz_v X v) :: qz_pl X (i + 1) L
theorem qz_pl_mem {X : qz_X} : ∀ (L : qz_L) (i j : Nat) (u : Value), (j, u) ∈ qz_pl X i L ↔ ∃ (k : Nat) (v : Value), j = i + k ∧ qz_at L k = some (some v) ∧ u = qz_v X v
  | [], i, j, u => by
    constructor
    · intro h; cases h
    · rintro ⟨k, v, -, h, -⟩; simp [qz_at] at h
  | none :: L, i, j, u => by
    rw [show qz_pl X i (none :: L) = qz_pl X (i + 1) L from rfl, qz_pl_mem L]
    constructor
    · rintro ⟨k, v, h1, h2, h3⟩; exact ⟨k + 1, v, by omega, h2, h3⟩
    · rintro ⟨k, v, h1, h2, h3⟩
      cases k with
      | zero => simp [qz_at] at h2
      | succ k => exact ⟨k, v, by omega, h2, h3⟩
  | some x :: L, i, j, u => by
    rw [show qz_pl X i (some x :: L) = (i, qz_v X x) :: qz_pl X (i + 1) L from rfl, List.mem_cons, qz_pl_mem L]
    constructor
    · rintro (h | ⟨k, v, h1, h2, h3⟩)
      · cases h; exact ⟨0, x, rfl, rfl, rfl⟩
      · exact ⟨k + 1, v, by omega, h2, h3⟩
    · rintro ⟨k, v, h1, h2, h3⟩
      cases k with
      | zero =>
        simp only [qz_at, Option.some.injEq] at h2
        subst h2
        exact Or.inl (by rw [h1, h3]; rfl)
      | succ k => exact Or.inr ⟨k, v, by omega, h2, h3⟩
theorem qz_has_mono {ls : Array Slot} {n : Nat} {l l' : List (Nat × Value)} (h : lv_has ls n l) (hs : ∀ q ∈ l', q ∈ l) : lv_has ls n l' := ⟨h.1, h.2.1, fun q hq => h.2.2 q (hs q hq)⟩
theorem qz_at_m : ∀ (mn : List Bool) (L : qz_L) (k : Nat) (v : Value), qz_at (qz_m mn L) k = some (some v) → qz_at L k = some (some v)
  | [], L, k, v, h => h
  | _ :: _, [], k, v, h => by simp [qz_m, qz_at] at h
  | b :: bs, x :: L, 0, v, h => by
    cases b
    · simp [qz_m, qz_at] at h
    · simpa [qz_m, qz_at] using h
  | b :: bs, x :: L, k + 1, v, h => qz_at_m bs L k v h
theorem qz_has_m {X : qz_X} {ls : Array Slot} {n : Nat} {L : qz_L} (mn : List Bool) (h : lv_has ls n (qz_pl X 0 L)) : lv_has ls n (qz_pl X 0 (qz_m mn L)) := by
  refine qz_has_mono h fun q hq => ?_
  obtain ⟨j, u⟩ := q
  obtain ⟨k, v, h1, h2, h3⟩ := (qz_pl_mem _ _ _ _).mp hq
  exact (qz_pl_mem _ _ _ _).mpr ⟨k, v, h1, qz_at_m mn L k v h2, h3⟩
theorem qz_k1_some {x : Option Value} {u : Value} (h : qz_k1 x = some u) : x = some u ∧ ¬ u.category = 2 := by
  unfold qz_k1 at h
  split at h
  · cases h
  · cases h
  · next h1 h2 =>
    refine ⟨h, fun hc => ?_⟩
    subst h
    cases u <;> simp [Value.category] at hc
    · exact h1 _ rfl
    · exact h2 _ rfl
theorem qz_at_s1 : ∀ (L : qz_L) (i : Nat) (v : Value) (k : Nat) (u : Value), qz_at (qz_s1 L i v) k = some (some u) → (k = i ∧ u = v) ∨ (k ≠ i ∧ qz_at L k = some (some u) ∧ ¬ (k + 1 = i ∧ u.category = 2))
  | [], i, v, k, u, h => by simp [qz_s1, qz_at] at h
  | x :: L, 0, v, 0, u, h => by
    simp only [qz_s1, qz_at, Option.some.injEq] at h
    exact Or.inl ⟨rfl, h.symm⟩
  | x :: L, 0, v, k + 1, u, h => Or.inr ⟨by omega, h, by omega⟩
  | x :: L, 1, v, 0, u, h => by
    simp only [qz_s1, qz_at, Option.some.injEq] at h
    obtain ⟨h1, h2⟩ := qz_k1_some h
    subst h1
    exact Or.inr ⟨by omega, rfl, fun q => h2 q.2⟩
  | x :: L, 1, v, k + 1, u, h => by
    rcases qz_at_s1 L 0 v k u h with ⟨h1, h2⟩ | ⟨h1, h2, h3⟩
    · exact Or.inl ⟨by omega, h2⟩
    · exact Or.inr ⟨by omega, h2, by omega⟩
  | x :: L, i + 2, v, 0, u, h => Or.inr ⟨by omega, h, by omega⟩
  | x :: L, i + 2, v, k + 1, u, h => by
    rcases qz_at_s1 L (i + 1) v k u h with ⟨h1, h2⟩ | ⟨h1, h2, h3⟩
    · exact Or.inl ⟨by omega, h2⟩
    · exact Or.inr ⟨by omega, h2, fun q => h3 ⟨by omega, q.2⟩⟩
theorem qz_at_s2 : ∀ (L : qz_L) (i : Nat) (v : Value) (k : Nat) (u : Value), qz_at (qz_s2 L i v) k = some (some u) → (k = i ∧ u = v) ∨ (k ≠ i ∧ k ≠ i + 1 ∧ qz_at L k = some (some u) ∧ ¬ (k + 1 = i ∧ u.category = 2))
  | [], i, v, k, u, h => by simp [qz_s2, qz_at] at h
  | x :: L, 0, v, 0, u, h => by
    simp only [qz_s2, qz_at, Option.some.injEq] at h
    exact Or.inl ⟨rfl, h.symm⟩
  | [x], 0, v, k + 1, u, h => by simp [qz_s2, qz_at] at h
  | x :: y :: L, 0, v, 1, u, h => by simp [qz_s2, qz_at] at h
  | x :: y :: L, 0, v, k + 2, u, h => Or.inr ⟨by omega, by omega, h, by omega⟩
  | x :: L, 1, v, 0, u, h => by
    simp only [qz_s2, qz_at, Option.some.injEq] at h
    obtain ⟨h1, h2⟩ := qz_k1_some h
    subst h1
    exact Or.inr ⟨by omega, by omega, rfl, fun q => h2 q.2⟩
  | x :: L, 1, v, k + 1, u, h => by
    rcases qz_at_s2 L 0 v k u h with ⟨h1, h2⟩ | ⟨h1, h0, h2, h3⟩
    · exact Or.inl ⟨by omega, h2⟩
    · exact Or.inr ⟨by omega, by omega, h2, by omega⟩
  | x :: L, i + 2, v, 0, u, h => Or.inr ⟨by omega, by omega, h, by omega⟩
  | x :: L, i + 2, v, k + 1, u, h => by
    rcases qz_at_s2 L (i + 1) v k u h with ⟨h1, h2⟩ | ⟨h1, h0, h2, h3⟩
    · exact Or.inl ⟨by omega, h2⟩
    · exact Or.inr ⟨by omega, by omega, h2, fun q => h3 ⟨by omega, q.2⟩⟩
theorem qz_v_cat (X : qz_X) (v : Value) : (qz_v X v).category = v.category := by cases v <;> rfl
theorem qz_has_s1 {X : qz_X} {ls : Array Slot} {n i : Nat} {L : qz_L} {v : Value} (h : lv_has ls n ((i, qz_v X v) :: (qz_pl X 0 L).filter (fun q => !(q.1 == i) && !(q.1 + 1 == i && q.2.category == 2)))) : lv_has ls n (qz_pl X 0 (qz_s1 L i v)) := by
  refine qz_has_mono h fun q hq => ?_
  obtain ⟨j, u⟩ := q
  obtain ⟨k, x, h1, h2, h3⟩ := (qz_pl_mem _ _ _ _).mp hq
  rcases qz_at_s1 L i v k x h2 with ⟨g1, g2⟩ | ⟨g1, g2, g3⟩
  · subst g1; subst g2
    rw [h1, h3, Nat.zero_add]
    exact List.mem_cons_self
  · refine List.mem_cons_of_mem _ (List.mem_filter.mpr ⟨(qz_pl_mem _ _ _ _).mpr ⟨k, x, h1, g2, h3⟩, ?_⟩)
    have hj : j = k := by omega
    subst hj
    subst h3
    simp only [Bool.and_eq_true, Bool.not_eq_true', beq_eq_false_iff_ne, ne_eq, Bool.and_eq_false_imp, beq_iff_eq, qz_v_cat]
    exact ⟨g1, fun a b => g3 ⟨a, b⟩⟩
theorem qz_has_s2 {X : qz_X} {ls : Array Slot} {n i : Nat} {L : qz_L} {v : Value} (h : lv_has ls n ((i, qz_v X v) :: (qz_pl X 0 L).filter (fun q => !(q.1 == i) && (!(q.1 == i + 1) && !(q.1 + 1 == i && q.2.category == 2))))) : lv_has ls n (qz_pl X 0 (qz_s2 L i v)) := by
  refine qz_has_mono h fun q hq => ?_
  obtain ⟨j, u⟩ := q
  obtain ⟨k, x, h1, h2, h3⟩ := (qz_pl_mem _ _ _ _).mp hq
  rcases qz_at_s2 L i v k x h2 with ⟨g1, g2⟩ | ⟨g1, g0, g2, g3⟩
  · subst g1; subst g2
    rw [h1, h3, Nat.zero_add]
    exact List.mem_cons_self
  · refine List.mem_cons_of_mem _ (List.mem_filter.mpr ⟨(qz_pl_mem _ _ _ _).mpr ⟨k, x, h1, g2, h3⟩, ?_⟩)
    have hj : j = k := by omega
    subst hj
    subst h3
    simp only [Bool.and_eq_true, Bool.not_eq_true', beq_eq_false_iff_ne, ne_eq, Bool.and_eq_false_imp, beq_iff_eq, qz_v_cat]
    exact ⟨g1, g0, fun a b => g3 ⟨a, b⟩⟩
theorem qz_at_has {X : qz_X} {ls : Array Slot} {n i : Nat} {L : qz_L} {v : Value} (h : lv_has ls n (qz_pl X 0 L)) (hv : qz_at L i = some (some v)) : ls[i]? = some (.val (qz_v X v)) := h.2.2 (i, qz_v X v) ((qz_pl_mem _ _ _ _).mpr ⟨i, v, by omega, hv, rfl⟩)
theorem qz_at_mem {α : Type} : ∀ (l : List α) (i : Nat) (x : α), qz_at l i = some x → l[i]? = some x
  | [], _, _, h => by cases h
  | _ :: _, 0, _, h => h
  | _ :: l, i + 1, x, h => qz_at_mem l i x h
/-- a table's row is one of its list's -/
theorem qz_lb_mem : ∀ (b : List (Nat × qz_I)) (pc : Nat) (e : qz_I), qz_lb b pc = some e → (pc, e) ∈ b
  | [], _, _, h => by cases h
  | q :: r, pc, e, h => by
    unfold qz_lb at h
    cases hq : Nat.beq pc q.1 with
    | true =>
      rw [hq] at h
      have h1 := Nat.eq_of_beq_eq_true hq
      obtain ⟨x, y⟩ := q
      cases h
      subst h1
      exact List.mem_cons_self
    | false =>
      rw [hq] at h
      exact List.mem_cons_of_mem _ (qz_lb_mem r pc e h)
theorem qz_lk_mem : ∀ (b : qz_B) (pc : Nat) (e : qz_I), qz_lk b pc = some e → ∃ q ∈ b, (pc, e) ∈ q.2
  | [], _, _, h => by cases h
  | q :: r, pc, e, h => by
    unfold qz_lk at h
    cases hq : Nat.ble q.1 pc with
    | true =>
      rw [hq] at h
      obtain ⟨x, h1, h2⟩ := qz_lk_mem r pc e h
      exact ⟨x, List.mem_cons_of_mem _ h1, h2⟩
    | false =>
      rw [hq] at h
      exact ⟨q, List.mem_cons_self, qz_lb_mem _ _ _ h⟩
/-- W, with the size of its heap in hand -/
theorem qz_size {p : Program} {l : Launch} {e : Env} {R : Room} {s : State} {m : MethodId} {args : Array Value} {below : List Frame} {meth : Method} {c : Code} {H : Heap} {locs : List Loc} {cells slots : Nat} {Q : State → Prop} {g : JFrame} (k : H.size ≤ s.heap.size + cells → W p l e R s m args below meth c H locs cells slots Q g) : W p l e R s m args below meth c H locs cells slots Q g := fun T hT X => k (by rw [← hT]; exact X.same.2.2.1) T hT X

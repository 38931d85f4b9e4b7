/-! the constructors: worlds as lists of cells -/
def bw (X : qz_X) (L : List qz_E) (sl : Nat) : qz_W := (fun i => if i < qz_old then qz_gd qz_jk L i else qz_oc X (i - qz_old), L.length, sl)
theorem bw_0 (X : qz_X) : qz_w0 X = bw X [] 0 := rfl
theorem gd_app_r {α : Type} {d : α} : ∀ (P : List α) (Q : List α), qz_gd d (P ++ Q) P.length = qz_gd d Q 0
  | [], _ => rfl
  | _ :: P, Q => gd_app_r P Q
theorem gd_app_lt {α : Type} {d : α} : ∀ (P Q : List α) (i : Nat), i < P.length → qz_gd d (P ++ Q) i = qz_gd d P i
  | [], _, i, h => absurd h (Nat.not_lt_zero i)
  | _ :: _, _, 0, _ => rfl
  | _ :: P, Q, i + 1, h => gd_app_lt P Q i (Nat.lt_of_succ_lt_succ h)
theorem gd_app_sh {α : Type} {d : α} : ∀ (P Q : List α) (i : Nat), P.length ≤ i → qz_gd d (P ++ Q) i = qz_gd d Q (i - P.length)
  | [], _, _, _ => rfl
  | _ :: P, Q, 0, h => absurd h (by simp)
  | _ :: P, Q, i + 1, h => by
    show qz_gd d (P ++ Q) i = _
    rw [gd_app_sh P Q i (Nat.le_of_succ_le_succ h)]
    simp
theorem bx_at {X : qz_X} {P Q : List qz_E} {sl : Nat} (j : Nat) (h : P.length + j < qz_old) : (bw X (P ++ Q) sl).1 (P.length + j) = qz_gd qz_jk Q j := by
  show (if P.length + j < qz_old then _ else _) = _
  rw [if_pos h, gd_app_sh _ _ _ (Nat.le_add_right _ _), Nat.add_sub_cancel_left]
theorem gd_set_self {α : Type} {d : α} : ∀ (Q : List α) (j : Nat) (e : α), j < Q.length → qz_gd d (Q.set j e) j = e
  | [], j, _, h => absurd h (Nat.not_lt_zero j)
  | _ :: _, 0, _, _ => rfl
  | _ :: Q, j + 1, e, h => gd_set_self Q j e (Nat.lt_of_succ_lt_succ h)
theorem gd_set_ne {α : Type} {d : α} : ∀ (Q : List α) (j i : Nat) (e : α), i ≠ j → qz_gd d (Q.set j e) i = qz_gd d Q i
  | [], _, _, _, _ => rfl
  | _ :: _, 0, 0, _, h => absurd rfl h
  | _ :: _, 0, _ + 1, _, _ => rfl
  | _ :: _, _ + 1, 0, _, _ => rfl
  | _ :: Q, j + 1, i + 1, e, h => gd_set_ne Q j i e (fun q => h (congrArg Nat.succ q))
theorem bx_up {X : qz_X} {P Q : List qz_E} {sl : Nat} (j : Nat) (e : qz_E) (h : P.length + j < qz_old) (hj : j < Q.length) : (va_up (bw X (P ++ Q) sl).1 (P.length + j) e, (bw X (P ++ Q) sl).2) = bw X (P ++ Q.set j e) sl := by
  refine Prod.ext ?_ (by simp [bw])
  funext i
  unfold bw va_up
  dsimp only
  by_cases hi : i = P.length + j
  · subst hi
    rw [if_pos rfl, if_pos h, gd_app_sh _ _ _ (Nat.le_add_right _ _), Nat.add_sub_cancel_left, gd_set_self _ _ _ hj]
  · rw [if_neg hi]
    by_cases ho : i < qz_old
    · rw [if_pos ho, if_pos ho]
      rcases Nat.lt_or_ge i P.length with h1 | h1
      · rw [gd_app_lt _ _ _ h1, gd_app_lt _ _ _ h1]
      · rw [gd_app_sh _ _ _ h1, gd_app_sh _ _ _ h1, gd_set_ne _ _ _ _ (by omega)]
    · rw [if_neg ho, if_neg ho]
theorem bw_nw {X : qz_X} {L : List qz_E} {e : qz_E} {sl n : Nat} {f : Nat → qz_W → Option qz_R} (h : L.length < qz_old) : qz_nw (bw X L sl) e n f = f L.length (bw X (L ++ [e]) (sl + n)) := by
  show f L.length (va_up (bw X L sl).1 L.length e, L.length + 1, sl + n) = _
  congr 1
  refine Prod.ext ?_ (by simp [bw])
  funext i
  unfold bw va_up
  dsimp only
  by_cases hi : i = L.length
  · subst hi
    rw [if_pos rfl, if_pos h, gd_app_r]
    rfl
  · rw [if_neg hi]
    by_cases ho : i < qz_old
    · rw [if_pos ho, if_pos ho]
      rcases Nat.lt_or_ge i L.length with h1 | h1
      · rw [gd_app_lt _ _ _ h1]
      · rw [gd_app_sh _ _ _ h1, qz_gd_ge _ _ h1]
        have : ∃ k, i - L.length = k + 1 := ⟨i - L.length - 1, by omega⟩
        obtain ⟨k, hk⟩ := this
        rw [hk]
        rfl
    · rw [if_neg ho, if_neg ho]
theorem bx_nw {X : qz_X} {P Q : List qz_E} {e : qz_E} {sl n : Nat} {f : Nat → qz_W → Option qz_R} (k : Nat) (hk : Q.length = k) (h : P.length + k < qz_old) : qz_nw (bw X (P ++ Q) sl) e n f = f (P.length + k) (bw X (P ++ (Q ++ [e])) (sl + n)) := by
  rw [bw_nw (by rw [List.length_append, hk]; exact h), List.length_append, hk, List.append_assoc]
theorem sz_ok {n : Nat} (h : n ≤ 60000) : ¬ (nI n < 0 ∨ 60000 < (nI n).toNatClampNeg) := by
  rw [nI_clamp (by omega)]
  rintro (h1 | h1)
  · exact nI_pos (by omega) h1
  · omega
/-- arrays of zeros -/
def zA (n : Nat) : qz_E := .inl (.int, n, .inl (fun _ => 0))
def zJ (n : Nat) : qz_E := .inl (.long, n, .inr (.inl (fun _ => 0)))
def zB (n : Nat) : qz_E := .inl (.byte, n, .inl (fun _ => 0))
def zO (C : String) (n : Nat) : qz_E := .inl (.object C, n, .inr (.inr (.inr (.inr (fun _ => none)))))
theorem bx_na {X : qz_X} {P Q : List qz_E} {sl : Nat} {f : Nat → qz_W → Option qz_R} (n k : Nat) (hk : Q.length = k) (hn : n ≤ 60000) (h : P.length + k < qz_old) : (if nI n < 0 ∨ 60000 < (nI n).toNatClampNeg then none else qz_nw (bw X (P ++ Q) sl) (qz_na .int (nI n).toNatClampNeg) (nI n).toNatClampNeg f) = f (P.length + k) (bw X (P ++ (Q ++ [zA n])) (sl + n)) := by
  rw [if_neg (sz_ok hn), bx_nw k hk h, nI_clamp (by omega)]
  rfl
theorem bx_nj {X : qz_X} {P Q : List qz_E} {sl : Nat} {f : Nat → qz_W → Option qz_R} (n k : Nat) (hk : Q.length = k) (hn : n ≤ 60000) (h : P.length + k < qz_old) : (if nI n < 0 ∨ 60000 < (nI n).toNatClampNeg then none else qz_nw (bw X (P ++ Q) sl) (qz_na .long (nI n).toNatClampNeg) (nI n).toNatClampNeg f) = f (P.length + k) (bw X (P ++ (Q ++ [zJ n])) (sl + n)) := by
  rw [if_neg (sz_ok hn), bx_nw k hk h, nI_clamp (by omega)]
  rfl
theorem bx_nb {X : qz_X} {P Q : List qz_E} {sl : Nat} {f : Nat → qz_W → Option qz_R} (n k : Nat) (hk : Q.length = k) (hn : n ≤ 60000) (h : P.length + k < qz_old) : (if nI n < 0 ∨ 60000 < (nI n).toNatClampNeg then none else qz_nw (bw X (P ++ Q) sl) (qz_na .byte (nI n).toNatClampNeg) (nI n).toNatClampNeg f) = f (P.length + k) (bw X (P ++ (Q ++ [zB n])) (sl + n)) := by
  rw [if_neg (sz_ok hn), bx_nw k hk h, nI_clamp (by omega)]
  rfl
theorem bx_no {X : qz_X} {P Q : List qz_E} {sl : Nat} {C : String} {f : Nat → qz_W → Option qz_R} (n k : Nat) (hk : Q.length = k) (hn : n ≤ 60000) (h : P.length + k < qz_old) : (if nI n < 0 ∨ 60000 < (nI n).toNatClampNeg then none else qz_nw (bw X (P ++ Q) sl) (.inl (.object C, (nI n).toNatClampNeg, .inr (.inr (.inr (.inr (fun _ => none)))))) (nI n).toNatClampNeg f) = f (P.length + k) (bw X (P ++ (Q ++ [zO C n])) (sl + n)) := by
  rw [if_neg (sz_ok hn), bx_nw k hk h, nI_clamp (by omega)]
  rfl
theorem bx_pf {X : qz_X} {P Q : List qz_E} {ci k sl : Nat} {fs : List Value} {v : Value} {f : qz_W → Option qz_R} (j : Nat) (hq : qz_gd qz_jk Q j = .inr (ci, fs)) (hj : j < Q.length) (h : P.length + j < qz_old) : qz_pf (bw X (P ++ Q) sl) (P.length + j) ci k v f = f (bw X (P ++ Q.set j (.inr (ci, fs.set k v))) sl) := by
  unfold qz_pf
  rw [bx_at j h, hq]
  dsimp only
  rw [show Nat.beq ci ci = true from Nat.beq_refl ci]
  show f _ = _
  rw [bx_up j _ h hj]
theorem bx_ck {X : qz_X} {P Q : List qz_E} {ci sl : Nat} {fs : List Value} {f : Option qz_R} (j : Nat) (hq : qz_gd qz_jk Q j = .inr (ci, fs)) (h : P.length + j < qz_old) : qz_ck (bw X (P ++ Q) sl).1 (P.length + j) ci f = f := by
  unfold qz_ck
  rw [bx_at j h, hq]
  dsimp only
  rw [show Nat.beq ci ci = true from Nat.beq_refl ci]
  rfl
theorem bx_ga {X : qz_X} {P Q : List qz_E} {ci k sl x : Nat} {fs : List Value} {f : Nat → Option qz_R} (j : Nat) (hq : qz_gd qz_jk Q j = .inr (ci, fs)) (hx : qz_at fs k = some (.ref x)) (h : P.length + j < qz_old) : qz_ga (bw X (P ++ Q) sl).1 (P.length + j) ci k f = f x := by
  unfold qz_ga
  rw [bx_at j h, hq]
  dsimp only
  rw [show Nat.beq ci ci = true from Nat.beq_refl ci, hx]
  rfl
theorem bx_is {X : qz_X} {P Q : List qz_E} {n sl : Nat} {g : Nat → Int32} {x : Int32} {f : qz_W → Option qz_R} (i j : Nat) (hq : qz_gd qz_jk Q j = .inl (.int, n, .inl g)) (hj : j < Q.length) (hi : i < n) (hn : n < 2 ^ 31) (h : P.length + j < qz_old) : qz_is (bw X (P ++ Q) sl) (P.length + j) (nI i) x f = f (bw X (P ++ Q.set j (.inl (.int, n, .inl (upd g i x)))) sl) := by
  unfold qz_is
  rw [bx_at j h, hq]
  dsimp only
  rw [if_neg (nI_in hi hn), nI_clamp (by omega), bx_up j _ h hj]
theorem bx_as {X : qz_X} {P Q : List qz_E} {n sl ci : Nat} {C : String} {vs : List Value} {g : Nat → Option Nat} {f : qz_W → Option qz_R} (i j y : Nat) (hq : qz_gd qz_jk Q j = .inl (.object C, n, .inr (.inr (.inr (.inr g))))) (hy : qz_gd qz_jk Q y = .inr (ci, vs)) (hc : qz_at qz_cn ci = some C) (hj : j < Q.length) (hi : i < n) (hn : n < 2 ^ 31) (h : P.length + j < qz_old) (h2 : P.length + y < qz_old) : qz_as (bw X (P ++ Q) sl) (P.length + j) (nI i) (P.length + y) f = f (bw X (P ++ Q.set j (.inl (.object C, n, .inr (.inr (.inr (.inr (va_up g i (some (P.length + y))))))))) sl) := by
  unfold qz_as
  rw [bx_at j h, hq]
  dsimp only
  rw [if_neg (nI_in hi hn), bx_at y h2, hy]
  dsimp only
  rw [if_pos hc, nI_clamp (by omega), bx_up j _ h hj]
theorem by_pf {X : qz_X} {P Q : List qz_E} {ci k sl : Nat} {fs : List Value} {v : Value} {f : qz_W → Option qz_R} (j : Nat) (Q' : List qz_E) (hq : qz_gd qz_jk Q j = .inr (ci, fs)) (hQ : Q.set j (.inr (ci, fs.set k v)) = Q') (hj : j < Q.length) (h : P.length + j < qz_old) : qz_pf (bw X (P ++ Q) sl) (P.length + j) ci k v f = f (bw X (P ++ Q') sl) := by
  rw [← hQ]
  exact bx_pf j hq hj h
theorem by_is {X : qz_X} {P Q : List qz_E} {n sl : Nat} {g : Nat → Int32} {x : Int32} {f : qz_W → Option qz_R} (i j : Nat) (Q' : List qz_E) (hq : qz_gd qz_jk Q j = .inl (.int, n, .inl g)) (hQ : Q.set j (.inl (.int, n, .inl (upd g i x))) = Q') (hj : j < Q.length) (hi : i < n) (hn : n < 2 ^ 31) (h : P.length + j < qz_old) : qz_is (bw X (P ++ Q) sl) (P.length + j) (nI i) x f = f (bw X (P ++ Q') sl) := by
  rw [← hQ]
  exact bx_is i j hq hj hi hn h
theorem by_as {X : qz_X} {P Q : List qz_E} {n sl ci : Nat} {C : String} {vs : List Value} {g : Nat → Option Nat} {f : qz_W → Option qz_R} (i j y : Nat) (Q' : List qz_E) (hq : qz_gd qz_jk Q j = .inl (.object C, n, .inr (.inr (.inr (.inr g))))) (hy : qz_gd qz_jk Q y = .inr (ci, vs)) (hc : qz_at qz_cn ci = some C) (hQ : Q.set j (.inl (.object C, n, .inr (.inr (.inr (.inr (va_up g i (some (P.length + y)))))))) = Q') (hj : j < Q.length) (hi : i < n) (hn : n < 2 ^ 31) (h : P.length + j < qz_old) (h2 : P.length + y < qz_old) : qz_as (bw X (P ++ Q) sl) (P.length + j) (nI i) (P.length + y) f = f (bw X (P ++ Q') sl) := by
  rw [← hQ]
  exact bx_as i j y hq hy hc hj hi hn h h2
theorem r0_call {o : Option qz_R} {w : qz_W} {f : qz_W → Option qz_R} (h : o = some (none, w)) : qz_r0 o f = f w := by rw [h]; rfl
def k_Bridges_init (q : Nat) : List qz_E := [.inr (0, [.int (nI 0), .int (nI 0), .int (nI 0), .ref (q + 1), .ref (q + 2), .ref (q + 3)]), zA 12, zA 12, zA 240]
theorem b_Bridges_init (X : qz_X) (P : List qz_E) (sl : Nat) (h : P.length + 4 < qz_old) : rn 0 0 [some (.ref (P.length + 0))] [] (bw X (P ++ [.inr (0, qz_nf [0, 0, 0, 1, 1, 1])]) sl) = some (none, bw X (P ++ k_Bridges_init P.length) (sl + 12 + 12 + 240)) := by
  rw [e_Bridges_init_0]
  refine (bx_pf (P := P) 0 rfl (by simp) (by omega)).trans ?_
  refine (bx_pf (P := P) 0 rfl (by simp) (by omega)).trans ?_
  refine (bx_pf (P := P) 0 rfl (by simp) (by omega)).trans ?_
  refine (bx_na (P := P) 12 1 rfl (by decide) (by omega)).trans ?_
  refine (bx_pf (P := P) 0 rfl (by simp) (by omega)).trans ?_
  refine (bx_na (P := P) 12 2 rfl (by decide) (by omega)).trans ?_
  refine (bx_pf (P := P) 0 rfl (by simp) (by omega)).trans ?_
  refine (bx_na (P := P) 240 3 rfl (by decide) (by omega)).trans ?_
  refine (bx_pf (P := P) 0 rfl (by simp) (by omega)).trans ?_
  rfl
def k_Tokens_init (q : Nat) : List qz_E := [.inr (10, [.ref (q + 1), .ref (q + 2), .ref (q + 3), .ref (q + 4), .ref (q + 5), .int (nI 0)]), zA 1200, zA 1201, zA 1201, zA 1201, zA 1201]
theorem b_Tokens_init (X : qz_X) (P : List qz_E) (sl : Nat) (h : P.length + 6 < qz_old) : rn 3 0 [some (.ref (P.length + 0))] [] (bw X (P ++ [.inr (10, qz_nf [1, 1, 1, 1, 1, 0])]) sl) = some (none, bw X (P ++ k_Tokens_init P.length) (sl + 1200 + 1201 + 1201 + 1201 + 1201)) := by
  rw [e_Tokens_init_0]
  refine (bx_na (P := P) 1200 1 rfl (by decide) (by omega)).trans ?_
  refine (bx_pf (P := P) 0 rfl (by simp) (by omega)).trans ?_
  refine (bx_na (P := P) 1201 2 rfl (by decide) (by omega)).trans ?_
  refine (bx_pf (P := P) 0 rfl (by simp) (by omega)).trans ?_
  refine (bx_na (P := P) 1201 3 rfl (by decide) (by omega)).trans ?_
  refine (bx_pf (P := P) 0 rfl (by simp) (by omega)).trans ?_
  refine (bx_na (P := P) 1201 4 rfl (by decide) (by omega)).trans ?_
  refine (bx_pf (P := P) 0 rfl (by simp) (by omega)).trans ?_
  refine (bx_na (P := P) 1201 5 rfl (by decide) (by omega)).trans ?_
  refine (bx_pf (P := P) 0 rfl (by simp) (by omega)).trans ?_
  refine (bx_pf (P := P) 0 rfl (by simp) (by omega)).trans ?_
  rfl
def k_Hanging_init (q : Nat) : List qz_E := [.inr (3, [.ref (q + 1), .ref (q + 2), .ref (q + 3), .ref (q + 4), .int (nI 0), .ref (q + 5), .ref (q + 6), .ref (q + 7), .ref (q + 8), .ref (q + 9)]), zA 20, zA 20, zA 20, zA 400, zA 400, zA 400, zA 400, zA 400, zA 400]
theorem b_Hanging_init (X : qz_X) (P : List qz_E) (sl : Nat) (h : P.length + 10 < qz_old) : rn 5 0 [some (.ref (P.length + 0))] [] (bw X (P ++ [.inr (3, qz_nf [1, 1, 1, 1, 0, 1, 1, 1, 1, 1])]) sl) = some (none, bw X (P ++ k_Hanging_init P.length) (sl + 20 + 20 + 20 + 400 + 400 + 400 + 400 + 400 + 400)) := by
  rw [e_Hanging_init_0]
  refine (bx_na (P := P) 20 1 rfl (by decide) (by omega)).trans ?_
  refine (bx_pf (P := P) 0 rfl (by simp) (by omega)).trans ?_
  refine (bx_na (P := P) 20 2 rfl (by decide) (by omega)).trans ?_
  refine (bx_pf (P := P) 0 rfl (by simp) (by omega)).trans ?_
  refine (bx_na (P := P) 20 3 rfl (by decide) (by omega)).trans ?_
  refine (bx_pf (P := P) 0 rfl (by simp) (by omega)).trans ?_
  refine (bx_na (P := P) 400 4 rfl (by decide) (by omega)).trans ?_
  refine (bx_pf (P := P) 0 rfl (by simp) (by omega)).trans ?_
  refine (bx_pf (P := P) 0 rfl (by simp) (by omega)).trans ?_
  refine (bx_na (P := P) 400 5 rfl (by decide) (by omega)).trans ?_
  refine (bx_pf (P := P) 0 rfl (by simp) (by omega)).trans ?_
  refine (bx_na (P := P) 400 6 rfl (by decide) (by omega)).trans ?_
  refine (bx_pf (P := P) 0 rfl (by simp) (by omega)).trans ?_
  refine (bx_na (P := P) 400 7 rfl (by decide) (by omega)).trans ?_
  refine (bx_pf (P := P) 0 rfl (by simp) (by omega)).trans ?_
  refine (bx_na (P := P) 400 8 rfl (by decide) (by omega)).trans ?_
  refine (bx_pf (P := P) 0 rfl (by simp) (by omega)).trans ?_
  refine (bx_na (P := P) 400 9 rfl (by decide) (by omega)).trans ?_
  refine (bx_pf (P := P) 0 rfl (by simp) (by omega)).trans ?_
  rfl
def k_Parts_init (q : Nat) : List qz_E := [.inr (5, [.int (nI 0), .ref (q + 1), .ref (q + 2), .ref (q + 3), .ref (q + 4), .ref (q + 5), .ref (q + 6)]), zA 400, zA 400, zA 400, zA 400, zA 20, zA 20]
theorem b_Parts_init (X : qz_X) (P : List qz_E) (sl : Nat) (h : P.length + 7 < qz_old) : rn 6 0 [some (.ref (P.length + 0))] [] (bw X (P ++ [.inr (5, qz_nf [0, 1, 1, 1, 1, 1, 1])]) sl) = some (none, bw X (P ++ k_Parts_init P.length) (sl + 400 + 400 + 400 + 400 + 20 + 20)) := by
  rw [e_Parts_init_0]
  refine (bx_pf (P := P) 0 rfl (by simp) (by omega)).trans ?_
  refine (bx_na (P := P) 400 1 rfl (by decide) (by omega)).trans ?_
  refine (bx_pf (P := P) 0 rfl (by simp) (by omega)).trans ?_
  refine (bx_na (P := P) 400 2 rfl (by decide) (by omega)).trans ?_
  refine (bx_pf (P := P) 0 rfl (by simp) (by omega)).trans ?_
  refine (bx_na (P := P) 400 3 rfl (by decide) (by omega)).trans ?_
  refine (bx_pf (P := P) 0 rfl (by simp) (by omega)).trans ?_
  refine (bx_na (P := P) 400 4 rfl (by decide) (by omega)).trans ?_
  refine (bx_pf (P := P) 0 rfl (by simp) (by omega)).trans ?_
  refine (bx_na (P := P) 20 5 rfl (by decide) (by omega)).trans ?_
  refine (bx_pf (P := P) 0 rfl (by simp) (by omega)).trans ?_
  refine (bx_na (P := P) 20 6 rfl (by decide) (by omega)).trans ?_
  refine (bx_pf (P := P) 0 rfl (by simp) (by omega)).trans ?_
  rfl
def k_Joining_init (q : Nat) : List qz_E := [.inr (4, [.ref (q + 1), .ref (q + 2), .ref (q + 3), .int (nI 0)]), zA 51328, zA 401, zA 20]
theorem b_Joining_init (X : qz_X) (P : List qz_E) (sl : Nat) (h : P.length + 4 < qz_old) : rn 7 0 [some (.ref (P.length + 0))] [] (bw X (P ++ [.inr (4, qz_nf [1, 1, 1, 0])]) sl) = some (none, bw X (P ++ k_Joining_init P.length) (sl + 51328 + 401 + 20)) := by
  rw [e_Joining_init_0]
  refine (bx_na (P := P) 51328 1 rfl (by decide) (by omega)).trans ?_
  refine (bx_pf (P := P) 0 rfl (by simp) (by omega)).trans ?_
  refine (bx_na (P := P) 401 2 rfl (by decide) (by omega)).trans ?_
  refine (bx_pf (P := P) 0 rfl (by simp) (by omega)).trans ?_
  refine (bx_na (P := P) 20 3 rfl (by decide) (by omega)).trans ?_
  refine (bx_pf (P := P) 0 rfl (by simp) (by omega)).trans ?_
  refine (bx_pf (P := P) 0 rfl (by simp) (by omega)).trans ?_
  rfl
def k_Choosing_init (q : Nat) : List qz_E := [.inr (1, [.ref (q + 1), .ref (q + 2), .int (nI 0)]), zA 4096, zA 4096]
theorem b_Choosing_init (X : qz_X) (P : List qz_E) (sl : Nat) (h : P.length + 3 < qz_old) : rn 8 0 [some (.ref (P.length + 0))] [] (bw X (P ++ [.inr (1, qz_nf [1, 1, 0])]) sl) = some (none, bw X (P ++ k_Choosing_init P.length) (sl + 4096 + 4096)) := by
  rw [e_Choosing_init_0]
  refine (bx_na (P := P) 4096 1 rfl (by decide) (by omega)).trans ?_
  refine (bx_pf (P := P) 0 rfl (by simp) (by omega)).trans ?_
  refine (bx_na (P := P) 4096 2 rfl (by decide) (by omega)).trans ?_
  refine (bx_pf (P := P) 0 rfl (by simp) (by omega)).trans ?_
  refine (bx_pf (P := P) 0 rfl (by simp) (by omega)).trans ?_
  rfl
def k_Reading_init (q : Nat) : List qz_E := [.inr (7, [.ref (q + 1), .ref (q + 2), .ref (q + 3), .ref (q + 4), .ref (q + 5), .ref (q + 6), .int (nI 0)]), zA 8, zA 21, zA 21, zJ 21, zA 20, zA 20]
theorem b_Reading_init (X : qz_X) (P : List qz_E) (sl : Nat) (h : P.length + 7 < qz_old) : rn 9 0 [some (.ref (P.length + 0))] [] (bw X (P ++ [.inr (7, qz_nf [1, 1, 1, 1, 1, 1, 0])]) sl) = some (none, bw X (P ++ k_Reading_init P.length) (sl + 8 + 21 + 21 + 21 + 20 + 20)) := by
  rw [e_Reading_init_0]
  refine (bx_na (P := P) 8 1 rfl (by decide) (by omega)).trans ?_
  refine (bx_pf (P := P) 0 rfl (by simp) (by omega)).trans ?_
  refine (bx_na (P := P) 21 2 rfl (by decide) (by omega)).trans ?_
  refine (bx_pf (P := P) 0 rfl (by simp) (by omega)).trans ?_
  refine (bx_na (P := P) 21 3 rfl (by decide) (by omega)).trans ?_
  refine (bx_pf (P := P) 0 rfl (by simp) (by omega)).trans ?_
  refine (bx_nj (P := P) 21 4 rfl (by decide) (by omega)).trans ?_
  refine (bx_pf (P := P) 0 rfl (by simp) (by omega)).trans ?_
  refine (bx_na (P := P) 20 5 rfl (by decide) (by omega)).trans ?_
  refine (bx_pf (P := P) 0 rfl (by simp) (by omega)).trans ?_
  refine (bx_na (P := P) 20 6 rfl (by decide) (by omega)).trans ?_
  refine (bx_pf (P := P) 0 rfl (by simp) (by omega)).trans ?_
  refine (bx_pf (P := P) 0 rfl (by simp) (by omega)).trans ?_
  rfl
def k_Cutting_init (q : Nat) : List qz_E := [.inr (2, [.ref (q + 1), .ref (q + 2), .ref (q + 3), .ref (q + 4), .ref (q + 5), .ref (q + 6)]), zA 8, zA 160, zA 256, zA 256, zA 20, zA 20]
theorem b_Cutting_init (X : qz_X) (P : List qz_E) (sl : Nat) (h : P.length + 7 < qz_old) : rn 10 0 [some (.ref (P.length + 0))] [] (bw X (P ++ [.inr (2, qz_nf [1, 1, 1, 1, 1, 1])]) sl) = some (none, bw X (P ++ k_Cutting_init P.length) (sl + 8 + 160 + 256 + 256 + 20 + 20)) := by
  rw [e_Cutting_init_0]
  refine (bx_na (P := P) 8 1 rfl (by decide) (by omega)).trans ?_
  refine (bx_pf (P := P) 0 rfl (by simp) (by omega)).trans ?_
  refine (bx_na (P := P) 160 2 rfl (by decide) (by omega)).trans ?_
  refine (bx_pf (P := P) 0 rfl (by simp) (by omega)).trans ?_
  refine (bx_na (P := P) 256 3 rfl (by decide) (by omega)).trans ?_
  refine (bx_pf (P := P) 0 rfl (by simp) (by omega)).trans ?_
  refine (bx_na (P := P) 256 4 rfl (by decide) (by omega)).trans ?_
  refine (bx_pf (P := P) 0 rfl (by simp) (by omega)).trans ?_
  refine (bx_na (P := P) 20 5 rfl (by decide) (by omega)).trans ?_
  refine (bx_pf (P := P) 0 rfl (by simp) (by omega)).trans ?_
  refine (bx_na (P := P) 20 6 rfl (by decide) (by omega)).trans ?_
  refine (bx_pf (P := P) 0 rfl (by simp) (by omega)).trans ?_
  rfl
theorem c_Bridges_init (X : qz_X) (P Q : List qz_E) (k : Nat) (hk : Q.length = k) (sl : Nat) (h : P.length + k + 4 < qz_old) : rn 0 0 [some (.ref (P.length + k))] [] (bw X (P ++ (Q ++ [.inr (0, qz_nf [0, 0, 0, 1, 1, 1])])) sl) = some (none, bw X (P ++ (Q ++ k_Bridges_init (P.length + k))) (sl + 12 + 12 + 240)) := by
  have := b_Bridges_init X (P ++ Q) sl (by rw [List.length_append, hk]; exact h)
  rw [List.length_append, hk, List.append_assoc, List.append_assoc] at this
  exact this
theorem c_Tokens_init (X : qz_X) (P Q : List qz_E) (k : Nat) (hk : Q.length = k) (sl : Nat) (h : P.length + k + 6 < qz_old) : rn 3 0 [some (.ref (P.length + k))] [] (bw X (P ++ (Q ++ [.inr (10, qz_nf [1, 1, 1, 1, 1, 0])])) sl) = some (none, bw X (P ++ (Q ++ k_Tokens_init (P.length + k))) (sl + 1200 + 1201 + 1201 + 1201 + 1201)) := by
  have := b_Tokens_init X (P ++ Q) sl (by rw [List.length_append, hk]; exact h)
  rw [List.length_append, hk, List.append_assoc, List.append_assoc] at this
  exact this
theorem c_Hanging_init (X : qz_X) (P Q : List qz_E) (k : Nat) (hk : Q.length = k) (sl : Nat) (h : P.length + k + 10 < qz_old) : rn 5 0 [some (.ref (P.length + k))] [] (bw X (P ++ (Q ++ [.inr (3, qz_nf [1, 1, 1, 1, 0, 1, 1, 1, 1, 1])])) sl) = some (none, bw X (P ++ (Q ++ k_Hanging_init (P.length + k))) (sl + 20 + 20 + 20 + 400 + 400 + 400 + 400 + 400 + 400)) := by
  have := b_Hanging_init X (P ++ Q) sl (by rw [List.length_append, hk]; exact h)
  rw [List.length_append, hk, List.append_assoc, List.append_assoc] at this
  exact this
theorem c_Parts_init (X : qz_X) (P Q : List qz_E) (k : Nat) (hk : Q.length = k) (sl : Nat) (h : P.length + k + 7 < qz_old) : rn 6 0 [some (.ref (P.length + k))] [] (bw X (P ++ (Q ++ [.inr (5, qz_nf [0, 1, 1, 1, 1, 1, 1])])) sl) = some (none, bw X (P ++ (Q ++ k_Parts_init (P.length + k))) (sl + 400 + 400 + 400 + 400 + 20 + 20)) := by
  have := b_Parts_init X (P ++ Q) sl (by rw [List.length_append, hk]; exact h)
  rw [List.length_append, hk, List.append_assoc, List.append_assoc] at this
  exact this
theorem c_Joining_init (X : qz_X) (P Q : List qz_E) (k : Nat) (hk : Q.length = k) (sl : Nat) (h : P.length + k + 4 < qz_old) : rn 7 0 [some (.ref (P.length + k))] [] (bw X (P ++ (Q ++ [.inr (4, qz_nf [1, 1, 1, 0])])) sl) = some (none, bw X (P ++ (Q ++ k_Joining_init (P.length + k))) (sl + 51328 + 401 + 20)) := by
  have := b_Joining_init X (P ++ Q) sl (by rw [List.length_append, hk]; exact h)
  rw [List.length_append, hk, List.append_assoc, List.append_assoc] at this
  exact this
theorem c_Choosing_init (X : qz_X) (P Q : List qz_E) (k : Nat) (hk : Q.length = k) (sl : Nat) (h : P.length + k + 3 < qz_old) : rn 8 0 [some (.ref (P.length + k))] [] (bw X (P ++ (Q ++ [.inr (1, qz_nf [1, 1, 0])])) sl) = some (none, bw X (P ++ (Q ++ k_Choosing_init (P.length + k))) (sl + 4096 + 4096)) := by
  have := b_Choosing_init X (P ++ Q) sl (by rw [List.length_append, hk]; exact h)
  rw [List.length_append, hk, List.append_assoc, List.append_assoc] at this
  exact this
theorem c_Reading_init (X : qz_X) (P Q : List qz_E) (k : Nat) (hk : Q.length = k) (sl : Nat) (h : P.length + k + 7 < qz_old) : rn 9 0 [some (.ref (P.length + k))] [] (bw X (P ++ (Q ++ [.inr (7, qz_nf [1, 1, 1, 1, 1, 1, 0])])) sl) = some (none, bw X (P ++ (Q ++ k_Reading_init (P.length + k))) (sl + 8 + 21 + 21 + 21 + 20 + 20)) := by
  have := b_Reading_init X (P ++ Q) sl (by rw [List.length_append, hk]; exact h)
  rw [List.length_append, hk, List.append_assoc, List.append_assoc] at this
  exact this
theorem c_Cutting_init (X : qz_X) (P Q : List qz_E) (k : Nat) (hk : Q.length = k) (sl : Nat) (h : P.length + k + 7 < qz_old) : rn 10 0 [some (.ref (P.length + k))] [] (bw X (P ++ (Q ++ [.inr (2, qz_nf [1, 1, 1, 1, 1, 1])])) sl) = some (none, bw X (P ++ (Q ++ k_Cutting_init (P.length + k))) (sl + 8 + 160 + 256 + 256 + 20 + 20)) := by
  have := b_Cutting_init X (P ++ Q) sl (by rw [List.length_append, hk]; exact h)
  rw [List.length_append, hk, List.append_assoc, List.append_assoc] at this
  exact this

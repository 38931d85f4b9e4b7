/-! worlds as one memory: int fields and arrays, long arrays, references -/
abbrev ms_T : Type := (Nat → Nat → Int32) × (Nat → Nat → Int64) × (Nat → Nat → Nat)
def ms_t0 : List (Nat × Nat) := [(3, 11), (0, 1200), (0, 3), (3, 6), (4, 6), (0, 6), (0, 64), (3, 8), (0, 20), (0, 400), (3, 0), (0, 12), (0, 12), (0, 240), (0, 8), (0, 8)]
def ms_t1 : List (Nat × Nat) := [(0, 64), (3, 8), (0, 20), (0, 400), (3, 0), (0, 12), (0, 12), (0, 240), (0, 8), (0, 8), (0, 64), (3, 8), (0, 20), (0, 400), (3, 0), (0, 12)]
def ms_t2 : List (Nat × Nat) := [(0, 12), (0, 240), (0, 8), (0, 8), (0, 64), (3, 8), (0, 20), (0, 400), (3, 0), (0, 12), (0, 12), (0, 240), (0, 8), (0, 8), (0, 64), (3, 8)]
def ms_t3 : List (Nat × Nat) := [(0, 20), (0, 400), (3, 0), (0, 12), (0, 12), (0, 240), (0, 8), (0, 8), (0, 64), (3, 8), (0, 20), (0, 400), (3, 0), (0, 12), (0, 12), (0, 240)]
def ms_t4 : List (Nat × Nat) := [(0, 8), (0, 8), (0, 64), (5, 3), (3, 8), (0, 20), (0, 400), (3, 0), (0, 12), (0, 12), (0, 240), (0, 8), (0, 8), (0, 64), (3, 9), (3, 10)]
def ms_t5 : List (Nat × Nat) := [(0, 1200), (0, 1201), (0, 1201), (0, 1201), (0, 1201), (2, 8), (3, 3), (0, 20), (0, 20), (0, 20), (0, 400), (0, 400), (0, 400), (0, 400), (0, 400), (0, 400)]
def ms_t6 : List (Nat × Nat) := [(3, 5), (0, 400), (0, 400), (0, 400), (0, 400), (0, 20), (0, 20), (3, 4), (0, 51328), (0, 401), (0, 20), (3, 1), (0, 4096), (0, 4096), (3, 7), (0, 8)]
def ms_t7 : List (Nat × Nat) := [(0, 21), (0, 21), (2, 21), (0, 20), (0, 20), (3, 2), (0, 8), (0, 160), (0, 256), (0, 256), (0, 20), (0, 20), (0, 20), (0, 20), (3, 6), (4, 6)]
def ms_t8 : List (Nat × Nat) := [(0, 6), (0, 64), (3, 8), (0, 20), (0, 400), (3, 0), (0, 12), (0, 12), (0, 240), (0, 8), (0, 8), (0, 64), (3, 8), (0, 20), (0, 400), (3, 0)]
def ms_t9 : List (Nat × Nat) := [(0, 12), (0, 12), (0, 240), (0, 8), (0, 8), (0, 64), (3, 8), (0, 20), (0, 400), (3, 0), (0, 12), (0, 12), (0, 240), (0, 8), (0, 8), (0, 64)]
def ms_t10 : List (Nat × Nat) := [(3, 8), (0, 20), (0, 400), (3, 0), (0, 12), (0, 12), (0, 240), (0, 8), (0, 8), (0, 64), (3, 8), (0, 20), (0, 400), (3, 0), (0, 12), (0, 12)]
def ms_t11 : List (Nat × Nat) := [(0, 240), (0, 8), (0, 8), (0, 64), (3, 8), (0, 20), (0, 400), (3, 0), (0, 12), (0, 12), (0, 240), (0, 8), (0, 8), (0, 64), (3, 6), (4, 6)]
def ms_t12 : List (Nat × Nat) := [(0, 6), (0, 64), (3, 8), (0, 20), (0, 400), (3, 0), (0, 12), (0, 12), (0, 240), (0, 8), (0, 8), (0, 64), (3, 8), (0, 20), (0, 400), (3, 0)]
def ms_t13 : List (Nat × Nat) := [(0, 12), (0, 12), (0, 240), (0, 8), (0, 8), (0, 64), (3, 8), (0, 20), (0, 400), (3, 0), (0, 12), (0, 12), (0, 240), (0, 8), (0, 8), (0, 64)]
def ms_t14 : List (Nat × Nat) := [(3, 8), (0, 20), (0, 400), (3, 0), (0, 12), (0, 12), (0, 240), (0, 8), (0, 8), (0, 64), (3, 8), (0, 20), (0, 400), (3, 0), (0, 12), (0, 12)]
def ms_t15 : List (Nat × Nat) := [(0, 240), (0, 8), (0, 8), (0, 64), (3, 8), (0, 20), (0, 400), (3, 0), (0, 12), (0, 12), (0, 240), (0, 8), (0, 8), (0, 64), (3, 6), (4, 6)]
def ms_t16 : List (Nat × Nat) := [(0, 6), (0, 64), (3, 8), (0, 20), (0, 400), (3, 0), (0, 12), (0, 12), (0, 240), (0, 8), (0, 8), (0, 64), (3, 8), (0, 20), (0, 400), (3, 0)]
def ms_t17 : List (Nat × Nat) := [(0, 12), (0, 12), (0, 240), (0, 8), (0, 8), (0, 64), (3, 8), (0, 20), (0, 400), (3, 0), (0, 12), (0, 12), (0, 240), (0, 8), (0, 8), (0, 64)]
def ms_t18 : List (Nat × Nat) := [(3, 8), (0, 20), (0, 400), (3, 0), (0, 12), (0, 12), (0, 240), (0, 8), (0, 8), (0, 64), (3, 8), (0, 20), (0, 400), (3, 0), (0, 12), (0, 12)]
def ms_t19 : List (Nat × Nat) := [(0, 240), (0, 8), (0, 8), (0, 64), (3, 8), (0, 20), (0, 400), (3, 0), (0, 12), (0, 12), (0, 240), (0, 8), (0, 8), (0, 64), (3, 12), (0, 3)]
def ms_t20 : List (Nat × Nat) := [(0, 112), (0, 6), (0, 2800), (0, 2800), (0, 2800), (0, 56), (0, 56), (0, 448), (0, 84), (0, 84), (0, 84), (2, 56), (1, 1200), (1, 1200), (0, 400), (0, 400)]
def ms_t21 : List (Nat × Nat) := [(0, 400), (0, 400), (0, 400), (0, 400), (0, 400), (0, 400), (0, 4096), (0, 51200), (0, 128), (0, 400), (0, 400), (0, 6), (0, 6), (0, 400), (0, 400), (0, 6)]
def ms_t22 : List (Nat × Nat) := [(0, 21), (0, 21), (0, 21), (2, 21), (0, 256), (0, 256), (0, 400), (0, 8), (0, 24300), (0, 3)]
def ms_tab : List (List (Nat × Nat)) := [ms_t0, ms_t1, ms_t2, ms_t3, ms_t4, ms_t5, ms_t6, ms_t7, ms_t8, ms_t9, ms_t10, ms_t11, ms_t12, ms_t13, ms_t14, ms_t15, ms_t16, ms_t17, ms_t18, ms_t19, ms_t20, ms_t21, ms_t22]
/-- the kind of a cell: 0 ints, 1 bytes, 2 longs, 3 an object of a class, 4 sheets, 5 piles -/
def ms_S (i : Nat) : Nat × Nat := qz_gd (9, 0) (qz_gd [] ms_tab (i / 16)) (i % 16)
def ms_f0 (m : Nat → Int32) (r : Nat → Nat) : List Value := [.int (m 0), .int (m 1), .int (m 2), .ref (r 3), .ref (r 4), .ref (r 5)]
def ms_f1 (m : Nat → Int32) (r : Nat → Nat) : List Value := [.ref (r 0), .ref (r 1), .int (m 2)]
def ms_f2 (m : Nat → Int32) (r : Nat → Nat) : List Value := [.ref (r 0), .ref (r 1), .ref (r 2), .ref (r 3), .ref (r 4), .ref (r 5)]
def ms_f3 (m : Nat → Int32) (r : Nat → Nat) : List Value := [.ref (r 0), .ref (r 1), .ref (r 2), .ref (r 3), .int (m 4), .ref (r 5), .ref (r 6), .ref (r 7), .ref (r 8), .ref (r 9)]
def ms_f4 (m : Nat → Int32) (r : Nat → Nat) : List Value := [.ref (r 0), .ref (r 1), .ref (r 2), .int (m 3)]
def ms_f5 (m : Nat → Int32) (r : Nat → Nat) : List Value := [.int (m 0), .ref (r 1), .ref (r 2), .ref (r 3), .ref (r 4), .ref (r 5), .ref (r 6)]
def ms_f6 (m : Nat → Int32) (r : Nat → Nat) : List Value := [.ref (r 0), .ref (r 1), .ref (r 2)]
def ms_f7 (m : Nat → Int32) (r : Nat → Nat) : List Value := [.ref (r 0), .ref (r 1), .ref (r 2), .ref (r 3), .ref (r 4), .ref (r 5), .int (m 6)]
def ms_f8 (m : Nat → Int32) (r : Nat → Nat) : List Value := [.int (m 0), .int (m 1), .int (m 2), .int (m 3), .int (m 4), .int (m 5), .int (m 6), .ref (r 7), .ref (r 8), .ref (r 9), .int (m 10), .ref (r 11), .ref (r 12), .ref (r 13)]
def ms_f9 (m : Nat → Int32) (r : Nat → Nat) : List Value := [.ref (r 0), .ref (r 1), .int (m 2), .int (m 3), .int (m 4), .int (m 5), .int (m 6), .int (m 7)]
def ms_f10 (m : Nat → Int32) (r : Nat → Nat) : List Value := [.ref (r 0), .ref (r 1), .ref (r 2), .ref (r 3), .ref (r 4), .int (m 5)]
def ms_f11 (m : Nat → Int32) (r : Nat → Nat) : List Value := [.ref (r 0), .int (m 1), .int (m 2), .ref (r 3), .ref (r 4), .ref (r 5), .int (m 6), .ref (r 7), .ref (r 8), .ref (r 9), .ref (r 10), .ref (r 11), .ref (r 12), .ref (r 13), .ref (r 14), .ref (r 15), .ref (r 16)]
def ms_f12 (m : Nat → Int32) (r : Nat → Nat) : List Value := [.ref (r 0), .int (m 1), .ref (r 2), .ref (r 3), .ref (r 4), .ref (r 5), .ref (r 6), .ref (r 7), .ref (r 8), .ref (r 9), .ref (r 10), .ref (r 11), .ref (r 12), .ref (r 13), .int (m 14), .int (m 15), .int (m 16), .int (m 17), .ref (r 18), .ref (r 19), .int (m 20), .int (m 21), .int (m 22), .int (m 23), .int (m 24), .int (m 25), .int (m 26), .int (m 27), .int (m 28), .ref (r 29), .ref (r 30), .ref (r 31), .ref (r 32), .ref (r 33), .ref (r 34), .ref (r 35), .int (m 36), .ref (r 37), .int (m 38), .int (m 39), .int (m 40), .int (m 41), .ref (r 42), .ref (r 43), .ref (r 44), .ref (r 45), .ref (r 46), .ref (r 47), .ref (r 48), .ref (r 49), .ref (r 50), .ref (r 51), .int (m 52), .ref (r 53), .ref (r 54), .ref (r 55), .ref (r 56), .ref (r 57), .ref (r 58), .ref (r 59), .ref (r 60), .int (m 61), .int (m 62), .ref (r 63), .ref (r 64)]
def ms_f (ci : Nat) (m : Nat → Int32) (r : Nat → Nat) : List Value := qz_gd [] [ms_f0 m r, ms_f1 m r, ms_f2 m r, ms_f3 m r, ms_f4 m r, ms_f5 m r, ms_f6 m r, ms_f7 m r, ms_f8 m r, ms_f9 m r, ms_f10 m r, ms_f11 m r, ms_f12 m r] ci
def ms_k (p : Nat × Nat) (m : Nat → Int32) (ml : Nat → Int64) (r : Nat → Nat) : qz_E := match p with
  | (0, n) => .inl (.int, n, .inl m)
  | (1, n) => .inl (.byte, n, .inl m)
  | (2, n) => .inl (.long, n, .inr (.inl ml))
  | (3, ci) => .inr (ci, ms_f ci m r)
  | (4, n) => .inl (.object "TinStencils$Sheet", n, .inr (.inr (.inr (.inr (fun j => if j < n then some (r j) else none)))))
  | (5, n) => .inl (.object "TinStencils$Pile", n, .inr (.inr (.inr (.inr (fun j => if j < n then some (r j) else none)))))
  | _ => qz_jk
def ms_c (s : ms_T) (i : Nat) : qz_E := ms_k (ms_S i) (s.1 i) (s.2.1 i) (s.2.2 i)
def mkw (X : qz_X) (s : ms_T) : qz_W := (fun i => if i < qz_old then ms_c s i else qz_oc X (i - qz_old), 362, 189517)
/-- one number changed -/
def ms_u (s : ms_T) (o k : Nat) (x : Int32) : ms_T := (fun i j => if i = o ∧ j = k then x else s.1 i j, s.2)
theorem mkw_at {X : qz_X} {s : ms_T} {o : Nat} (h : o < 362) : (mkw X s).1 o = ms_c s o := by
  show (if o < qz_old then _ else _) = _
  rw [if_pos (Nat.lt_of_lt_of_le h (by decide))]
theorem mkw_ia {X : qz_X} {s : ms_T} {o n j : Nat} {f : Int32 → Option qz_R} (hS : ms_S o = (0, n)) (ho : o < 362) (hj : j < n) (hn : n < 2 ^ 31) : qz_ia (mkw X s).1 o (nI j) f = f (s.1 o j) := by
  unfold qz_ia
  rw [mkw_at ho]
  unfold ms_c
  rw [hS]
  show (if nI j < 0 ∨ n ≤ (nI j).toNatClampNeg then none else f (s.1 o (nI j).toNatClampNeg)) = _
  rw [if_neg (nI_in hj hn), nI_clamp (by omega)]
theorem mkw_gi {X : qz_X} {s : ms_T} {o ci k : Nat} {x : Int32} {f : Int32 → Option qz_R} (hS : ms_S o = (3, ci)) (ho : o < 362) (hx : qz_at (ms_f ci (s.1 o) (s.2.2 o)) k = some (.int x)) : qz_gi (mkw X s).1 o ci k f = f x := by
  unfold qz_gi
  rw [mkw_at ho]
  unfold ms_c
  rw [hS]
  show cond (Nat.beq ci ci) (match qz_at (ms_f ci (s.1 o) (s.2.2 o)) k with | some (.int x) => f x | _ => none) none = _
  rw [Nat.beq_refl, hx]
  rfl
theorem mkw_ga {X : qz_X} {s : ms_T} {o ci k x : Nat} {f : Nat → Option qz_R} (hS : ms_S o = (3, ci)) (ho : o < 362) (hx : qz_at (ms_f ci (s.1 o) (s.2.2 o)) k = some (.ref x)) : qz_ga (mkw X s).1 o ci k f = f x := by
  unfold qz_ga
  rw [mkw_at ho]
  unfold ms_c
  rw [hS]
  show cond (Nat.beq ci ci) (match qz_at (ms_f ci (s.1 o) (s.2.2 o)) k with | some (.ref x) => f x | _ => none) none = _
  rw [Nat.beq_refl, hx]
  rfl
theorem mkw_is {X : qz_X} {s : ms_T} {o n j : Nat} {x : Int32} {f : qz_W → Option qz_R} (hS : ms_S o = (0, n)) (ho : o < 362) (hj : j < n) (hn : n < 2 ^ 31) : qz_is (mkw X s) o (nI j) x f = f (mkw X (ms_u s o j x)) := by
  unfold qz_is
  rw [mkw_at ho]
  unfold ms_c
  rw [hS]
  show (if nI j < 0 ∨ n ≤ (nI j).toNatClampNeg then none else f (va_up (mkw X s).1 o (.inl (.int, n, .inl (upd (s.1 o) (nI j).toNatClampNeg x))), (mkw X s).2)) = _
  rw [if_neg (nI_in hj hn), nI_clamp (by omega)]
  congr 1
  refine Prod.ext ?_ rfl
  funext i
  unfold va_up mkw
  dsimp only
  by_cases hi : i = o
  · subst hi
    rw [if_pos rfl, if_pos (Nat.lt_of_lt_of_le ho (by decide))]
    unfold ms_c
    rw [hS]
    show (.inl (.int, n, .inl (upd (s.1 i) j x)) : qz_E) = .inl (.int, n, .inl ((ms_u s i j x).1 i))
    have e : upd (s.1 i) j x = (ms_u s i j x).1 i := by
      funext k
      simp [upd, ms_u]
    rw [e]
  · rw [if_neg hi]
    by_cases hq : i < qz_old
    · rw [if_pos hq, if_pos hq]
      unfold ms_c ms_u
      dsimp only
      simp only [hi, false_and, if_false]
    · rw [if_neg hq, if_neg hq]
theorem mkw_pi {X : qz_X} {s : ms_T} {o ci k : Nat} {x : Int32} {f : qz_W → Option qz_R} (hS : ms_S o = (3, ci)) (ho : o < 362) (hx : (ms_f ci (s.1 o) (s.2.2 o)).set k (.int x) = ms_f ci ((ms_u s o k x).1 o) (s.2.2 o)) : qz_pf (mkw X s) o ci k (.int x) f = f (mkw X (ms_u s o k x)) := by
  unfold qz_pf
  rw [mkw_at ho]
  unfold ms_c
  rw [hS]
  show cond (Nat.beq ci ci) (f (va_up (mkw X s).1 o (.inr (ci, (ms_f ci (s.1 o) (s.2.2 o)).set k (.int x))), (mkw X s).2)) none = _
  rw [Nat.beq_refl, hx]
  show f _ = _
  congr 1
  refine Prod.ext ?_ rfl
  funext i
  unfold va_up mkw
  dsimp only
  by_cases hi : i = o
  · subst hi
    rw [if_pos rfl, if_pos (Nat.lt_of_lt_of_le ho (by decide))]
    unfold ms_c
    rw [hS]
    rfl
  · rw [if_neg hi]
    by_cases hq : i < qz_old
    · rw [if_pos hq, if_pos hq]
      unfold ms_c ms_u
      dsimp only
      simp only [hi, false_and, if_false]
    · rw [if_neg hq, if_neg hq]

/-! A SMALL MACHINE over pure worlds: cells by numbers, locals, stack; one step a row of a table. Its runs are what the proofs speak of; that a run of it is a run of the JVM's model is one theorem (part 04). -/
abbrev qz_E : Type := (FieldType × vp_A) ⊕ (Nat × List Value)
abbrev qz_H : Type := Nat → qz_E
/-- cells, how many are made, how many slots they have -/
abbrev qz_W : Type := qz_H × Nat × Nat
abbrev qz_R : Type := Option Value × qz_W
abbrev qz_L : Type := List (Option Value)
/-- a row: instruction and length; three numbers; two constants; what locals are kept (going on, jumping); numbers -/
abbrev qz_I : Type := (Instr × Nat) × (Nat × Nat × Nat) × (Int32 × Int64) × (List Bool × List Bool) × List Nat
abbrev qz_B : Type := List (Nat × List (Nat × qz_I))
abbrev qz_K : Type := Nat → Nat → qz_L → List Value → qz_W → Option qz_R
/-- the numbers from here on are cells that were there before: the script, STEP_X, STEP_Y, the text and its bytes -/
abbrev qz_old : Nat := 1000000
def qz_lb : List (Nat × qz_I) → Nat → Option qz_I
  | [], _ => none
  | q :: r, pc => cond (Nat.beq pc q.1) (some q.2) (qz_lb r pc)
def qz_lk : qz_B → Nat → Option qz_I
  | [], _ => none
  | q :: r, pc => cond (Nat.ble q.1 pc) (qz_lk r pc) (qz_lb q.2 pc)
def qz_m : List Bool → qz_L → qz_L
  | [], L => L
  | _ :: _, [] => []
  | b :: bs, x :: L => cond b x none :: qz_m bs L
/-- a store: a long one place lower is no more -/
def qz_k1 (x : Option Value) : Option Value := match x with
  | some (.long _) => none
  | some (.double _) => none
  | x => x
def qz_s1 : qz_L → Nat → Value → qz_L
  | [], _, _ => []
  | _ :: L, 0, v => some v :: L
  | x :: L, 1, v => qz_k1 x :: qz_s1 L 0 v
  | x :: L, j + 2, v => x :: qz_s1 L (j + 1) v
def qz_s2 : qz_L → Nat → Value → qz_L
  | [], _, _ => []
  | _ :: L, 0, v => some v :: (match L with
    | [] => []
    | _ :: L => none :: L)
  | x :: L, 1, v => qz_k1 x :: qz_s2 L 0 v
  | x :: L, j + 2, v => x :: qz_s2 L (j + 1) v
def qz_li (L : qz_L) (j : Nat) (f : Int32 → Option qz_R) : Option qz_R := match qz_at L j with
  | some (some (.int x)) => f x
  | _ => none
def qz_ll (L : qz_L) (j : Nat) (f : Int64 → Option qz_R) : Option qz_R := match qz_at L j with
  | some (some (.long x)) => f x
  | _ => none
def qz_la (L : qz_L) (j : Nat) (f : Value → Option qz_R) : Option qz_R := match qz_at L j with
  | some (some (.ref o)) => f (.ref o)
  | some (some .null) => f .null
  | _ => none
def qz_p1 (st : List Value) (f : Int32 → List Value → Option qz_R) : Option qz_R := match st with
  | .int x :: r => f x r
  | _ => none
def qz_p2 (st : List Value) (f : Int32 → Int32 → List Value → Option qz_R) : Option qz_R := match st with
  | .int y :: .int x :: r => f x y r
  | _ => none
def qz_q1 (st : List Value) (f : Int64 → List Value → Option qz_R) : Option qz_R := match st with
  | .long x :: r => f x r
  | _ => none
def qz_q2 (st : List Value) (f : Int64 → Int64 → List Value → Option qz_R) : Option qz_R := match st with
  | .long y :: .long x :: r => f x y r
  | _ => none
def qz_pa (st : List Value) (f : Value → List Value → Option qz_R) : Option qz_R := match st with
  | .ref o :: r => f (.ref o) r
  | .null :: r => f .null r
  | _ => none
def qz_pr (st : List Value) (f : Nat → List Value → Option qz_R) : Option qz_R := match st with
  | .ref o :: r => f o r
  | _ => none
/-- fields: an int's, a cell's -/
def qz_gi (h : qz_H) (o ci k : Nat) (f : Int32 → Option qz_R) : Option qz_R := match h o with
  | .inr (cj, fs) => cond (Nat.beq cj ci) (match qz_at fs k with
    | some (.int x) => f x
    | _ => none) none
  | _ => none
def qz_ga (h : qz_H) (o ci k : Nat) (f : Nat → Option qz_R) : Option qz_R := match h o with
  | .inr (cj, fs) => cond (Nat.beq cj ci) (match qz_at fs k with
    | some (.ref x) => f x
    | _ => none) none
  | _ => none
def qz_pf (w : qz_W) (o ci k : Nat) (v : Value) (f : qz_W → Option qz_R) : Option qz_R := match w.1 o with
  | .inr (cj, fs) => cond (Nat.beq cj ci) (f (va_up w.1 o (.inr (cj, fs.set k v)), w.2)) none
  | _ => none
def qz_ck (h : qz_H) (o ci : Nat) (f : Option qz_R) : Option qz_R := match h o with
  | .inr (cj, _) => cond (Nat.beq cj ci) f none
  | _ => none
/-- arrays; '.float' and '.double' mark int and byte arrays that were there before and are only read -/
def qz_ia (h : qz_H) (o : Nat) (j : Int32) (f : Int32 → Option qz_R) : Option qz_R := match h o with
  | .inl (.int, n, .inl g) => if j < 0 ∨ n ≤ j.toNatClampNeg then none else f (g j.toNatClampNeg)
  | .inl (.float, n, .inl g) => if j < 0 ∨ n ≤ j.toNatClampNeg then none else f (g j.toNatClampNeg)
  | _ => none
def qz_ba (h : qz_H) (o : Nat) (j : Int32) (f : Int32 → Option qz_R) : Option qz_R := match h o with
  | .inl (.byte, n, .inl g) => if j < 0 ∨ n ≤ j.toNatClampNeg then none else f (g j.toNatClampNeg)
  | .inl (.double, n, .inl g) => if j < 0 ∨ n ≤ j.toNatClampNeg then none else f (g j.toNatClampNeg)
  | _ => none
def qz_ja (h : qz_H) (o : Nat) (j : Int32) (f : Int64 → Option qz_R) : Option qz_R := match h o with
  | .inl (.long, n, .inr (.inl g)) => if j < 0 ∨ n ≤ j.toNatClampNeg then none else f (g j.toNatClampNeg)
  | _ => none
def qz_aa (h : qz_H) (o : Nat) (j : Int32) (f : Nat → Option qz_R) : Option qz_R := match h o with
  | .inl (.object _, n, .inr (.inr (.inr (.inr g)))) => if j < 0 ∨ n ≤ j.toNatClampNeg then none else match g j.toNatClampNeg with
    | some q => f q
    | none => none
  | _ => none
def qz_is (w : qz_W) (o : Nat) (j x : Int32) (f : qz_W → Option qz_R) : Option qz_R := match w.1 o with
  | .inl (.int, n, .inl g) => if j < 0 ∨ n ≤ j.toNatClampNeg then none else f (va_up w.1 o (.inl (.int, n, .inl (upd g j.toNatClampNeg x))), w.2)
  | _ => none
def qz_bs (w : qz_W) (o : Nat) (j x : Int32) (f : qz_W → Option qz_R) : Option qz_R := match w.1 o with
  | .inl (.byte, n, .inl g) => if j < 0 ∨ n ≤ j.toNatClampNeg then none else f (va_up w.1 o (.inl (.byte, n, .inl (upd g j.toNatClampNeg (vp_nar .byte x)))), w.2)
  | _ => none
def qz_js (w : qz_W) (o : Nat) (j : Int32) (x : Int64) (f : qz_W → Option qz_R) : Option qz_R := match w.1 o with
  | .inl (.long, n, .inr (.inl g)) => if j < 0 ∨ n ≤ j.toNatClampNeg then none else f (va_up w.1 o (.inl (.long, n, .inr (.inl (vp_updL g j.toNatClampNeg x)))), w.2)
  | _ => none
def qz_as (w : qz_W) (o : Nat) (j : Int32) (v : Nat) (f : qz_W → Option qz_R) : Option qz_R := match w.1 o with
  | .inl (.object C, n, .inr (.inr (.inr (.inr g)))) => if j < 0 ∨ n ≤ j.toNatClampNeg then none else match w.1 v with
    | .inr (ci, _) => if qz_at qz_cn ci = some C then f (va_up w.1 o (.inl (.object C, n, .inr (.inr (.inr (.inr (va_up g j.toNatClampNeg (some v))))))), w.2) else none
    | _ => none
  | _ => none
def qz_len (h : qz_H) (o : Nat) (f : Int32 → Option qz_R) : Option qz_R := match h o with
  | .inl (_, n, _) => f (nI n)
  | _ => none
/-- a call's arguments off the stack -/
def qz_sp : Nat → List Value → List Value → (List Value → List Value → Option qz_R) → Option qz_R
  | 0, st, as, f => f as st
  | _ + 1, [], _, _ => none
  | b + 1, v :: st, as, f => qz_sp b st (v :: as) f
def qz_sl : List Value → Nat → qz_L
  | [], n => List.replicate n none
  | .long x :: r, n => some (.long x) :: none :: qz_sl r n
  | .double x :: r, n => some (.double x) :: none :: qz_sl r n
  | v :: r, n => some v :: qz_sl r n
def qz_cat : List Value → Nat
  | [] => 0
  | v :: r => v.category + qz_cat r
def qz_r0 (o : Option qz_R) (f : qz_W → Option qz_R) : Option qz_R := match o with
  | some (none, w) => f w
  | _ => none
def qz_r1 (o : Option qz_R) (f : Int32 → qz_W → Option qz_R) : Option qz_R := match o with
  | some (some (.int x), w) => f x w
  | _ => none
def qz_r2 (o : Option qz_R) (f : Int64 → qz_W → Option qz_R) : Option qz_R := match o with
  | some (some (.long x), w) => f x w
  | _ => none
def qz_r3 (o : Option qz_R) (f0 : qz_W → Option qz_R) (f : Nat → qz_W → Option qz_R) : Option qz_R := match o with
  | some (some .null, w) => f0 w
  | some (some (.ref q), w) => f q w
  | _ => none
def qz_z (x : Int32) : Bool := Nat.ble x.toBitVec.toNat 1
def qz_sw (x : Int32) (f : Nat → Option qz_R) (d : Nat) : Nat → List Nat → Option qz_R
  | _, [] => f d
  | j, t :: ts => if x = nI j then f t else qz_sw x f d (j + 1) ts
def qz_bra (c : Jvm.ClassFile.Cond) (x y : Int32) (f g : Option qz_R) : Option qz_R := match c with
  | .eq => if x = y then f else g
  | .ne => if x = y then g else f
  | .lt => if x < y then f else g
  | .ge => if y ≤ x then f else g
  | .gt => if y < x then f else g
  | .le => if x ≤ y then f else g

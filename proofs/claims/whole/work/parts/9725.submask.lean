/-! parts of sets -/
def ckS (S x : Nat) : Bool := !decide (x &&& S = x) || (List.range 128).all (fun P => !decide (P &&& S = P) || (!decide (P < x) || decide (P ≤ (x - 1) &&& S)))
theorem ckS_ok : ∀ S, S < 128 → ∀ x, x < 128 → ckS S x = true := by decide +kernel
theorem sub_next {S x P : Nat} (hS : S < 128) (hx : x < 128) (hxs : x &&& S = x) (hP : P &&& S = P) (hlt : P < x) : P ≤ (x - 1) &&& S := by
  have h := ckS_ok S hS x hx
  unfold ckS at h
  rw [decide_eq_true hxs, Bool.not_true, Bool.false_or, List.all_eq_true] at h
  have := h P (List.mem_range.mpr (by omega))
  rw [decide_eq_true hP, decide_eq_true hlt, Bool.not_true, Bool.false_or, Bool.false_or, decide_eq_true_eq] at this
  exact this
theorem sub_xor0 : ∀ S, S < 128 → ∀ P, P < 128 → P &&& S = P → S ^^^ P = S - P ∧ P ≤ S := by decide +kernel
theorem sub_bits {P S : Nat} (h : P &&& S = P) {i : Nat} (hi : P.testBit i = true) : S.testBit i = true := by
  have : (P &&& S).testBit i = true := by rw [h]; exact hi
  rw [Nat.testBit_and, Bool.and_eq_true] at this
  exact this.2
theorem sub_and (x S : Nat) : (x &&& S) &&& S = x &&& S := by rw [Nat.and_assoc, Nat.and_self]
theorem sub_dj {P S : Nat} (h : P &&& S = P) : dj P (S ^^^ P) ∧ P ||| (S ^^^ P) = S ∧ (S ^^^ P) &&& S = S ^^^ P := by
  refine ⟨fun i hi => ?_, ?_, ?_⟩
  · rw [Nat.testBit_xor, hi, sub_bits h hi]; rfl
  · apply Nat.eq_of_testBit_eq
    intro i
    rw [Nat.testBit_or, Nat.testBit_xor]
    cases hp : P.testBit i
    · simp
    · rw [sub_bits h hp]; rfl
  · apply Nat.eq_of_testBit_eq
    intro i
    rw [Nat.testBit_and, Nat.testBit_xor]
    cases hp : P.testBit i
    · cases S.testBit i <;> rfl
    · rw [sub_bits h hp]; rfl
theorem or_sub {a b : Nat} (hd : dj a b) : a &&& (a ||| b) = a ∧ (a ||| b) ^^^ a = b := by
  constructor
  · apply Nat.eq_of_testBit_eq
    intro i
    rw [Nat.testBit_and, Nat.testBit_or]
    cases a.testBit i <;> simp
  · apply Nat.eq_of_testBit_eq
    intro i
    rw [Nat.testBit_xor, Nat.testBit_or]
    cases ha : a.testBit i
    · simp
    · rw [hd i ha]; rfl

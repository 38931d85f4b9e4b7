/-! bits of numbers as the programs ask for them -/
theorem b_one : ∀ m, m < 32 → ∀ i, i < 32 → bt (nI 1 <<< (nI m &&& 31)) i = decide (i = m) := by decide +kernel
theorem b_low : ∀ n, n < 32 → ∀ i, i < 32 → bt ((nI 1 <<< (nI n &&& 31)) - nI 1) i = decide (i < n) := by decide +kernel
theorem b_n1 : ∀ i, i < 32 → bt (nI 1) i = decide (i = 0) := by decide +kernel
theorem b_n0 (i : Nat) : bt (nI 0) i = false := b_0 i
theorem b_not (x : Int32) {i : Nat} (h : i < 32) : bt (x ^^^ (-1)) i = !bt x i := by
  rw [b_xor, b_m1 i h]
  cases bt x i <;> rfl
/-- the bit x of v, as a number -/
theorem b_sel (v : Int32) {x : Nat} (hx : x < 32) : (v >>> (nI x &&& 31)) &&& nI 1 = if bt v x then nI 1 else nI 0 := by
  apply b_ext
  intro i hi
  rw [b_and, b_n1 i hi]
  by_cases h0 : i = 0
  · subst h0
    rw [b_sshr x hx v (by omega), if_pos (by omega)]
    cases h : bt v x
    · simp [h, b_n0]
    · simp [h, b_n1]
  · cases h : bt v x
    · simp [h0, b_n0]
    · simp [h0, b_n1 i hi]
theorem b_selz (v : Int32) {x : Nat} (hx : x < 32) : ((v >>> (nI x &&& 31)) &&& nI 1 = 0) ↔ bt v x = false := by
  rw [b_sel v hx]
  cases bt v x
  · simp; rfl
  · simp; decide
theorem b_sel1 (v : Int32) {x : Nat} (hx : x < 32) : ((v >>> (nI x &&& 31)) &&& nI 1 = nI 1) ↔ bt v x = true := by
  rw [b_sel v hx]
  cases bt v x
  · simp; decide
  · simp
/-- zero is no bit -/
theorem b_zero {v : Int32} : v = 0 ↔ ∀ i, i < 32 → bt v i = false := by
  constructor
  · rintro rfl i _
    exact b_0 i
  · intro h
    apply b_ext
    intro i hi
    rw [h i hi, b_0]
/-- bits of a number -/
theorem bt_nat {n i : Nat} (h : n < 2 ^ 32) : bt (nI n) i = n.testBit i := by
  unfold bt
  show (BitVec.ofNat 32 n).getLsbD i = _
  rw [BitVec.getLsbD_ofNat]
  by_cases hi : i < 32
  · simp [hi]
  · have : n.testBit i = false := Nat.testBit_lt_two_pow (Nat.lt_of_lt_of_le h (Nat.pow_le_pow_right (by decide) (by omega)))
    simp [hi, this]
/-- a number with no bit from k on is small -/
theorem bt_small {v : Int32} {k : Nat} (hk : k ≤ 31) (h : ∀ i, k ≤ i → i < 32 → bt v i = false) : ∃ n, n < 2 ^ k ∧ v = nI n := by
  refine ⟨v.toBitVec.toNat, ?_, ?_⟩
  · apply Nat.lt_pow_two_of_testBit
    intro i hi
    by_cases h32 : i < 32
    · exact h i hi h32
    · exact Nat.testBit_lt_two_pow (Nat.lt_of_lt_of_le v.toBitVec.isLt (Nat.pow_le_pow_right (by decide) (by omega)))
  · apply Int32.toBitVec_inj.mp
    show _ = BitVec.ofNat 32 v.toBitVec.toNat
    simp
theorem bt_hi {n k i : Nat} (h : n < 2 ^ k) (hk : k ≤ 32) (hi : k ≤ i) : bt (nI n) i = false := by
  rw [bt_nat (Nat.lt_of_lt_of_le h (Nat.pow_le_pow_right (by decide) hk))]
  exact Nat.testBit_lt_two_pow (Nat.lt_of_lt_of_le h (Nat.pow_le_pow_right (by decide) hi))

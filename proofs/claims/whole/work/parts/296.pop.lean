/-! Integer.bitCount counts bits -/
theorem and_blk (p : Nat) (k q r m t : Nat) (hp : p = 2 ^ k) (hr : r < p) (ht : t < p) : (p * q + r) &&& (p * m + t) = p * (q &&& m) + (r &&& t) := by
  subst hp
  apply Nat.eq_of_testBit_eq
  intro i
  have hrt : r &&& t < 2 ^ k := Nat.lt_of_le_of_lt Nat.and_le_left hr
  rw [Nat.testBit_and, Nat.testBit_two_pow_mul_add _ hr, Nat.testBit_two_pow_mul_add _ ht, Nat.testBit_two_pow_mul_add _ hrt]
  by_cases h : i < k
  · simp [h, Nat.testBit_and]
  · simp [h, Nat.testBit_and]
def mk5 : Nat → Nat
  | 0 => 0
  | k + 1 => 4 * mk5 k + 1
def mk3 : Nat → Nat
  | 0 => 0
  | k + 1 => 16 * mk3 k + 3
def mkf : Nat → Nat
  | 0 => 0
  | k + 1 => 256 * mkf k + 15
def pd (r : Nat) : Nat := r - r / 2
def pc2 : Nat → Nat → Nat
  | 0, _ => 0
  | k + 1, n => 4 * pc2 k (n / 4) + pd (n % 4)
theorem pd_le : ∀ r, r < 4 → pd r ≤ 2 := by decide
theorem pc2_ok : ∀ (k n : Nat), n < 4 ^ k → ((n / 2) &&& mk5 k) ≤ n ∧ n - ((n / 2) &&& mk5 k) = pc2 k n
  | 0, n, h => by
    have : n = 0 := by simpa using h
    subst this
    exact ⟨by simp [mk5], by simp [mk5, pc2]⟩
  | k + 1, n, h => by
    have hq : n / 4 < 4 ^ k := by rw [Nat.pow_succ] at h; omega
    obtain ⟨h1, h2⟩ := pc2_ok k (n / 4) hq
    have e : (n / 2) &&& mk5 (k + 1) = 4 * ((n / 4 / 2) &&& mk5 k) + n % 4 / 2 := by
      rw [show n / 2 = 4 * (n / 4 / 2) + (2 * (n / 4 % 2) + n % 4 / 2) by omega]
      rw [show mk5 (k + 1) = 4 * mk5 k + 1 from rfl]
      rw [and_blk 4 2 _ _ _ _ rfl (by omega) (by omega)]
      congr 1
      rcases (show n / 4 % 2 = 0 ∨ n / 4 % 2 = 1 by omega) with h0 | h0 <;> rcases (show n % 4 / 2 = 0 ∨ n % 4 / 2 = 1 by omega) with h3 | h3 <;> rw [h0, h3] <;> rfl
    rw [e]
    rw [show pc2 (k + 1) n = 4 * pc2 k (n / 4) + (n % 4 - n % 4 / 2) from rfl]
    rw [← h2]
    omega
def pc4 : Nat → Nat → Nat
  | 0, _ => 0
  | k + 1, n => 16 * pc4 k (n / 16) + (pd (n % 4) + pd (n / 4 % 4))
theorem pc4_ok : ∀ (k n : Nat), (pc2 (2 * k) n &&& mk3 k) + ((pc2 (2 * k) n / 4) &&& mk3 k) = pc4 k n
  | 0, n => by simp [mk3, pc4]
  | k + 1, n => by
    have ih := pc4_ok k (n / 16)
    have e : pc2 (2 * (k + 1)) n = 16 * pc2 (2 * k) (n / 16) + (4 * pd (n / 4 % 4) + pd (n % 4)) := by
      rw [show 2 * (k + 1) = 2 * k + 1 + 1 by omega, show pc2 (2 * k + 1 + 1) n = 4 * (4 * pc2 (2 * k) (n / 4 / 4) + pd (n / 4 % 4)) + pd (n % 4) from rfl]
      rw [show n / 4 / 4 = n / 16 by omega]
      omega
    have h1 := pd_le (n % 4) (by omega)
    have h2 := pd_le (n / 4 % 4) (by omega)
    rw [e, show mk3 (k + 1) = 16 * mk3 k + 3 from rfl, show pc4 (k + 1) n = 16 * pc4 k (n / 16) + (pd (n % 4) + pd (n / 4 % 4)) from rfl, ← ih]
    clear ih e
    generalize pd (n / 4 % 4) = a at *
    generalize pd (n % 4) = b at *
    generalize pc2 (2 * k) (n / 16) = c at *
    have e2 : (16 * c + (4 * a + b)) / 4 = 16 * (c / 4) + (4 * (c % 4) + a) := by omega
    rw [e2]
    rw [and_blk 16 4 _ _ _ _ rfl (by omega) (by omega), and_blk 16 4 _ _ _ _ rfl (by omega) (by omega)]
    have hm : ∀ c, c < 4 → ∀ a, a < 4 → (4 * c + a) &&& 3 = a := by decide
    rw [hm a (by omega) b (by omega), hm (c % 4) (by omega) a (by omega)]
    omega
theorem pc4_lt : ∀ (k n : Nat), pc4 k n / 16 = pc4 (k - 1) (n / 16) ∧ pc4 k n % 16 ≤ 4
  | 0, n => by simp [pc4]
  | k + 1, n => by
    have h1 := pd_le (n % 4) (by omega)
    have h2 := pd_le (n / 4 % 4) (by omega)
    rw [show pc4 (k + 1) n = 16 * pc4 k (n / 16) + (pd (n % 4) + pd (n / 4 % 4)) from rfl, Nat.add_sub_cancel]
    omega
def pc8 : Nat → Nat → Nat
  | 0, _ => 0
  | k + 1, n => 256 * pc8 k (n / 256) + (pd (n % 4) + pd (n / 4 % 4) + (pd (n / 16 % 4) + pd (n / 64 % 4)))
theorem pc8_ok : ∀ (k n : Nat), ((pc4 (2 * k) n + pc4 (2 * k) n / 16) &&& mkf k) = pc8 k n
  | 0, n => by simp [mkf, pc8]
  | k + 1, n => by
    have ih := pc8_ok k (n / 256)
    have e : pc4 (2 * (k + 1)) n = 256 * pc4 (2 * k) (n / 256) + (16 * (pd (n / 16 % 4) + pd (n / 64 % 4)) + (pd (n % 4) + pd (n / 4 % 4))) := by
      rw [show 2 * (k + 1) = 2 * k + 1 + 1 by omega]
      rw [show pc4 (2 * k + 1 + 1) n = 16 * (16 * pc4 (2 * k) (n / 16 / 16) + (pd (n / 16 % 4) + pd (n / 16 / 4 % 4))) + (pd (n % 4) + pd (n / 4 % 4)) from rfl]
      rw [show n / 16 / 16 = n / 256 by omega, show n / 16 / 4 = n / 64 by omega]
      omega
    have h1 := pd_le (n % 4) (by omega)
    have h2 := pd_le (n / 4 % 4) (by omega)
    have h3 := pd_le (n / 16 % 4) (by omega)
    have h4 := pd_le (n / 64 % 4) (by omega)
    have h5 := (pc4_lt (2 * k) (n / 256)).2
    rw [e]
    rw [show mkf (k + 1) = 256 * mkf k + 15 from rfl, show pc8 (k + 1) n = 256 * pc8 k (n / 256) + (pd (n % 4) + pd (n / 4 % 4) + (pd (n / 16 % 4) + pd (n / 64 % 4))) from rfl, ← ih]
    have k1 : pd (n / 16 % 4) + pd (n / 64 % 4) ≤ 4 := by omega
    have k2 : pd (n % 4) + pd (n / 4 % 4) ≤ 4 := by omega
    clear ih e h1 h2 h3 h4
    generalize pd (n / 16 % 4) + pd (n / 64 % 4) = a at *
    generalize pd (n % 4) + pd (n / 4 % 4) = b at *
    generalize pc4 (2 * k) (n / 256) = c at *
    have e2 : (256 * c + (16 * a + b)) + (256 * c + (16 * a + b)) / 16 = 256 * (c + c / 16) + (16 * (a + c % 16) + (a + b)) := by omega
    rw [e2, and_blk 256 8 _ _ _ _ rfl (by omega) (by omega)]
    have hm : ∀ a, a < 9 → ∀ b, b < 9 → (16 * a + b) &&& 15 = b := by decide
    rw [hm (a + c % 16) (by omega) (a + b) (by omega)]
    omega
/-- the bits of n, below 2k -/
theorem ct_pd (n : Nat) : fb_ct (fun i => n.testBit i) 2 = pd (n % 4) := by
  have h : n.testBit 0 = (n % 4).testBit 0 ∧ n.testBit 1 = (n % 4).testBit 1 := by
    rw [show (4 : Nat) = 2 ^ 2 from rfl, Nat.testBit_mod_two_pow, Nat.testBit_mod_two_pow]
    simp
  show (0 + (if n.testBit 0 then 1 else 0)) + (if n.testBit 1 then 1 else 0) = _
  rw [h.1, h.2]
  exact (by decide : ∀ r, r < 4 → (0 + (if r.testBit 0 then 1 else 0)) + (if r.testBit 1 then 1 else 0) = pd r) (n % 4) (by omega)
theorem ct_next (n k : Nat) : fb_ct (fun i => n.testBit i) (2 + k) = pd (n % 4) + fb_ct (fun i => (n / 4).testBit i) k := by
  rw [fb_ct_split, ct_pd]
  congr 1
  apply fb_ct_cong
  intro j _
  rw [show (4 : Nat) = 2 ^ 2 from rfl, Nat.testBit_div_two_pow]
  rw [Nat.add_comm]
theorem ct_8 (n k : Nat) : fb_ct (fun i => n.testBit i) (8 + k) = pd (n % 4) + pd (n / 4 % 4) + (pd (n / 16 % 4) + pd (n / 64 % 4)) + fb_ct (fun i => (n / 256).testBit i) k := by
  rw [show 8 + k = 2 + (2 + (2 + (2 + k))) by omega, ct_next, ct_next, ct_next, ct_next, show n / 4 / 4 = n / 16 by omega, show n / 16 / 4 = n / 64 by omega, show n / 64 / 4 = n / 256 by omega]
  omega
theorem pop_nat (n : Nat) (h : n < 2 ^ 32) : ((pc8 4 n + pc8 4 n / 256) + (pc8 4 n + pc8 4 n / 256) / 65536) &&& 63 = fb_ct (fun i => n.testBit i) 32 := by
  have e : fb_ct (fun i => n.testBit i) 32 = (pd (n % 4) + pd (n / 4 % 4) + (pd (n / 16 % 4) + pd (n / 64 % 4))) + (pd (n / 256 % 4) + pd (n / 256 / 4 % 4) + (pd (n / 256 / 16 % 4) + pd (n / 256 / 64 % 4))) + (pd (n / 65536 % 4) + pd (n / 65536 / 4 % 4) + (pd (n / 65536 / 16 % 4) + pd (n / 65536 / 64 % 4))) + (pd (n / 16777216 % 4) + pd (n / 16777216 / 4 % 4) + (pd (n / 16777216 / 16 % 4) + pd (n / 16777216 / 64 % 4))) := by
    rw [show 32 = 8 + (8 + (8 + (8 + 0))) by omega, ct_8, ct_8, ct_8, ct_8, show n / 256 / 256 = n / 65536 by omega, show n / 65536 / 256 = n / 16777216 by omega]
    show _ + (_ + (_ + (_ + 0))) = _
    omega
  rw [e, show (63 : Nat) = 2 ^ 6 - 1 from rfl, Nat.and_two_pow_sub_one_eq_mod]
  simp only [pc8]
  rw [show n / 256 / 256 = n / 65536 by omega, show n / 65536 / 256 = n / 16777216 by omega]
  have b : ∀ m, pd (m % 4) ≤ 2 := fun m => pd_le _ (by omega)
  have b1 := b n
  have b2 := b (n / 4)
  have b3 := b (n / 16)
  have b4 := b (n / 64)
  have b5 := b (n / 256)
  have b6 := b (n / 256 / 4)
  have b7 := b (n / 256 / 16)
  have b8 := b (n / 256 / 64)
  have b9 := b (n / 65536)
  have c1 := b (n / 65536 / 4)
  have c2 := b (n / 65536 / 16)
  have c3 := b (n / 65536 / 64)
  have c4 := b (n / 16777216)
  have c5 := b (n / 16777216 / 4)
  have c6 := b (n / 16777216 / 16)
  have c7 := b (n / 16777216 / 64)
  have d0 : pd (n % 4) + pd (n / 4 % 4) + (pd (n / 16 % 4) + pd (n / 64 % 4)) ≤ 8 := by omega
  have d1 : pd (n / 256 % 4) + pd (n / 256 / 4 % 4) + (pd (n / 256 / 16 % 4) + pd (n / 256 / 64 % 4)) ≤ 8 := by omega
  have d2 : pd (n / 65536 % 4) + pd (n / 65536 / 4 % 4) + (pd (n / 65536 / 16 % 4) + pd (n / 65536 / 64 % 4)) ≤ 8 := by omega
  have d3 : pd (n / 16777216 % 4) + pd (n / 16777216 / 4 % 4) + (pd (n / 16777216 / 16 % 4) + pd (n / 16777216 / 64 % 4)) ≤ 8 := by omega
  clear e b b1 b2 b3 b4 b5 b6 b7 b8 b9 c1 c2 c3 c4 c5 c6 c7
  generalize pd (n % 4) + pd (n / 4 % 4) + (pd (n / 16 % 4) + pd (n / 64 % 4)) = x0 at *
  generalize pd (n / 256 % 4) + pd (n / 256 / 4 % 4) + (pd (n / 256 / 16 % 4) + pd (n / 256 / 64 % 4)) = x1 at *
  generalize pd (n / 65536 % 4) + pd (n / 65536 / 4 % 4) + (pd (n / 65536 / 16 % 4) + pd (n / 65536 / 64 % 4)) = x2 at *
  generalize pd (n / 16777216 % 4) + pd (n / 16777216 / 4 % 4) + (pd (n / 16777216 / 16 % 4) + pd (n / 16777216 / 64 % 4)) = x3 at *
  clear h
  have e1 : (256 * (256 * (256 * (256 * 0 + x3) + x2) + x1) + x0) / 256 = x1 + 256 * x2 + 65536 * x3 := by omega
  rw [e1]
  have e2 : (256 * (256 * (256 * (256 * 0 + x3) + x2) + x1) + x0 + (x1 + 256 * x2 + 65536 * x3)) / 65536 = x2 + x3 + 256 * x3 := by omega
  rw [e2]
  omega
theorem pop_run (w : qz_W) (v : Int32) : rn 62 0 [some (.int v)] [] w = some (some (.int (nI (fb_ct (fun i => bt v i) 32))), w) := by
  obtain ⟨n, hn, rfl⟩ : ∃ n, n < 2 ^ 32 ∧ v = nI n := ⟨v.toBitVec.toNat, v.toBitVec.isLt, Int32.toBitVec_inj.mp (by show _ = BitVec.ofNat 32 _; simp)⟩
  have hb : (fun i => bt (nI n) i) = (fun i => n.testBit i) := by
    funext i
    exact bt_nat hn
  have h5 : mk5 16 = 1431655765 := by decide
  have h3 : mk3 8 = 858993459 := by decide
  have hf : mkf 4 = 252645135 := by decide
  obtain ⟨g1, g2⟩ := pc2_ok 16 n (by omega)
  have g3 := pc4_ok 8 n
  have g4 := pc8_ok 4 n
  rw [h5] at g1 g2
  rw [h3, show 2 * 8 = 16 from rfl] at g3
  rw [hf, show 2 * 4 = 8 from rfl] at g4
  have sh : ∀ (m : Nat) (k : Nat), m < 2 ^ 32 → k < 32 → ((nI m).toUInt32 >>> ((nI k).toUInt32 &&& Int32.toUInt32 31)).toInt32 = nI (m / 2 ^ k) := fun m k hm hk => pk_ushrN hm _ k (s_u k hk)
  have a1 : nI n - (((nI n).toUInt32 >>> ((nI 1).toUInt32 &&& Int32.toUInt32 31)).toInt32 &&& nI 1431655765) = nI (pc2 16 n) := by
    rw [sh n 1 hn (by decide), fa_and, pk_sub (by simpa using g1)]
    rw [show 2 ^ 1 = 2 from rfl, g2]
  have l1 : pc2 16 n < 2 ^ 32 := by omega
  have a2 : (nI (pc2 16 n) &&& nI 858993459) + (((nI (pc2 16 n)).toUInt32 >>> ((nI 2).toUInt32 &&& Int32.toUInt32 31)).toInt32 &&& nI 858993459) = nI (pc4 8 n) := by
    rw [sh _ 2 l1 (by decide), fa_and, fa_and, nI_add, show 2 ^ 2 = 4 from rfl, g3]
  have l2 : pc4 8 n < 2 ^ 32 := by
    rw [← g3]
    have q1 : pc2 16 n &&& 858993459 ≤ 858993459 := Nat.and_le_right
    have q2 : pc2 16 n / 4 &&& 858993459 ≤ 858993459 := Nat.and_le_right
    omega
  have a3 : (nI (pc4 8 n) + ((nI (pc4 8 n)).toUInt32 >>> ((nI 4).toUInt32 &&& Int32.toUInt32 31)).toInt32) &&& nI 252645135 = nI (pc8 4 n) := by
    rw [sh _ 4 l2 (by decide), nI_add, fa_and, show 2 ^ 4 = 16 from rfl, g4]
  have l3 : pc8 4 n ≤ 252645135 := by
    rw [← g4]
    exact Nat.and_le_right
  have a4 : nI (pc8 4 n) + ((nI (pc8 4 n)).toUInt32 >>> ((nI 8).toUInt32 &&& Int32.toUInt32 31)).toInt32 = nI (pc8 4 n + pc8 4 n / 256) := by
    rw [sh _ 8 (by omega) (by decide), nI_add, show 2 ^ 8 = 256 from rfl]
  have a5 : nI (pc8 4 n + pc8 4 n / 256) + ((nI (pc8 4 n + pc8 4 n / 256)).toUInt32 >>> ((nI 16).toUInt32 &&& Int32.toUInt32 31)).toInt32 = nI (pc8 4 n + pc8 4 n / 256 + (pc8 4 n + pc8 4 n / 256) / 65536) := by
    rw [sh _ 16 (by omega) (by decide), nI_add, show 2 ^ 16 = 65536 from rfl]
  rw [hb, ← pop_nat n hn, e_Integer_bitCount_0, a1, a2, a3, a4, a5, fa_and]

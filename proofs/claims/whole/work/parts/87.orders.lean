/-! the reference's orders by number, and the first of the least -/
def pkb (m r : Nat) : Nat := fa_first (fun k => m.testBit k && decide (fb_ct (fun b => m.testBit b) k = r)) 6
theorem pkb_ok : ∀ m, m < 64 → ∀ r, r < 6 → r < pc m → pkb m r < 6 ∧ m.testBit (pkb m r) = true ∧ fb_ct (fun b => m.testBit b) (pkb m r) = r := by decide +kernel
theorem pkb_rk : ∀ m, m < 64 → ∀ k, k < 6 → m.testBit k = true → pkb m (fb_ct (fun b => m.testBit b) k) = k ∧ fb_ct (fun b => m.testBit b) k < pc m := by decide +kernel
theorem pkb_lt : ∀ m, m < 64 → ∀ r, r < 6 → ∀ k, k < 6 → m.testBit k = true → r < fb_ct (fun b => m.testBit b) k → pkb m r < k := by decide +kernel
def img (n l : Nat) : Nat := fb_sm (fun j => if n.testBit j && l.testBit (fb_ct (fun b => n.testBit b) j) then 2 ^ j else 0) 6
theorem img_full : ∀ n, n < 64 → img n (2 ^ pc n - 1) = n ∧ pc (2 ^ pc n - 1) = pc n ∧ 2 ^ pc n - 1 < 64 := by decide +kernel
theorem img_le : ∀ n, n < 64 → ∀ l, l < 64 → img n l < 64 := by decide +kernel
def ckI (n l r : Nat) : Bool := !(decide (l < 2 ^ pc n) && decide (r < pc l)) || (decide (pkb l r < pc n) && (decide (img n (l - 2 ^ pkb l r) = img n l - 2 ^ pkb (img n l) r) && decide (pkb n (pkb l r) = pkb (img n l) r)))
theorem img_sub0 : ∀ n, n < 64 → ∀ l, l < 64 → ∀ r, r < 6 → ckI n l r = true := by decide +kernel
theorem img_sub {n : Nat} (hn : n < 64) {l : Nat} (hl : l < 64) (h : l < 2 ^ pc n) {r : Nat} (hr : r < 6) (hp : r < pc l) : pkb l r < pc n ∧ img n (l - 2 ^ pkb l r) = img n l - 2 ^ pkb (img n l) r ∧ pkb n (pkb l r) = pkb (img n l) r := by
  have := img_sub0 n hn l hl r hr
  unfold ckI at this
  rw [decide_eq_true h, decide_eq_true hp, Bool.true_and, Bool.not_true, Bool.false_or, Bool.and_eq_true, Bool.and_eq_true, decide_eq_true_eq, decide_eq_true_eq, decide_eq_true_eq] at this
  exact this
theorem img_pc : ∀ n, n < 64 → ∀ l, l < 64 → l < 2 ^ pc n → pc (img n l) = pc l := by decide +kernel
def odr : Nat → Nat → Nat → Nat → Nat
  | 0, _, _, _ => 0
  | t + 1, m, c, 0 => pkb m (c / fct t)
  | t + 1, m, c, i + 1 => odr t (m - 2 ^ pkb m (c / fct t)) (c % fct t) i
noncomputable def odv (P : Nat → shT) : Nat → Nat → Nat → Nat
  | 0, _, _ => 0
  | t + 1, m, c => fb_sm (wl P (pkb m (c / fct t)) (fun b => (m - 2 ^ pkb m (c / fct t)).testBit b)) 400 + odv P t (m - 2 ^ pkb m (c / fct t)) (c % fct t)
theorem fct_pos : ∀ n, 0 < fct n
  | 0 => by decide
  | n + 1 => Nat.mul_pos (fct_pos n) (Nat.succ_pos n)
theorem dvf {t c : Nat} (h : c < fct (t + 1)) : c / fct t < t + 1 := by
  rw [Nat.div_lt_iff_lt_mul (fct_pos t), Nat.mul_comm]
  exact h
theorem odr_ok : ∀ t m c, m < 64 → pc m = t → c < fct t → ∀ i, i < t → odr t m c i < 6 ∧ m.testBit (odr t m c i) = true
  | 0, m, c, _, _, _, i, hi => absurd hi (Nat.not_lt_zero i)
  | t + 1, m, c, hm, hp, hc, i, hi => by
    have h6 := pc_le m
    have hd := dvf hc
    obtain ⟨a1, a2, a3⟩ := pkb_ok m hm (c / fct t) (by omega) (by omega)
    cases i with
    | zero => exact ⟨a1, a2⟩
    | succ i =>
      have hs := (cl_bit m hm _ a1 a2).2
      have hps := pc_sub m hm _ a1 a2
      obtain ⟨b1, b2⟩ := odr_ok t (m - 2 ^ pkb m (c / fct t)) (c % fct t) (by omega) (by omega) (Nat.mod_lt _ (fct_pos t)) i (by omega)
      refine ⟨b1, ?_⟩
      have b2 : (m - 2 ^ pkb m (c / fct t)).testBit (odr t (m - 2 ^ pkb m (c / fct t)) (c % fct t) i) = true := b2
      have b1 : odr t (m - 2 ^ pkb m (c / fct t)) (c % fct t) i < 6 := b1
      rw [sub_bit m hm _ a1 a2 _ b1, Bool.and_eq_true] at b2
      exact b2.1
theorem lsb_sh (o : Nat → Nat) (t : Nat) (b : Nat) : ∀ d, d ≤ t → lsb o (t + 1) d b = lsb (fun i => o (i + 1)) t d b
  | 0, _ => rfl
  | d + 1, h => by
    show (lsb o (t + 1) d b || decide (b = o (t + 1 - 1 - d))) = (lsb (fun i => o (i + 1)) t d b || decide (b = o (t - 1 - d + 1)))
    rw [lsb_sh o t b d (by omega), show t + 1 - 1 - d = t - 1 - d + 1 by omega]
theorem lsb_odr : ∀ t m c, m < 64 → pc m = t → c < fct t → ∀ b, b < 6 → lsb (odr t m c) t t b = m.testBit b
  | 0, m, c, hm, hp, _, b, _ => by
    rw [(pc_0 m hm).mp hp, Nat.zero_testBit]
    rfl
  | t + 1, m, c, hm, hp, hc, b, hb => by
    have h6 := pc_le m
    have hd := dvf hc
    obtain ⟨a1, a2, a3⟩ := pkb_ok m hm (c / fct t) (by omega) (by omega)
    have hs := (cl_bit m hm _ a1 a2).2
    have hps := pc_sub m hm _ a1 a2
    have ih := lsb_odr t (m - 2 ^ pkb m (c / fct t)) (c % fct t) (by omega) (by omega) (Nat.mod_lt _ (fct_pos t)) b hb
    show (lsb (odr (t + 1) m c) (t + 1) t b || decide (b = odr (t + 1) m c (t + 1 - 1 - t))) = _
    rw [lsb_sh _ t b t (Nat.le_refl t), show t + 1 - 1 - t = 0 by omega]
    show (lsb (odr t (m - 2 ^ pkb m (c / fct t)) (c % fct t)) t t b || decide (b = pkb m (c / fct t))) = _
    rw [ih, sub_bit m hm _ a1 a2 b hb]
    by_cases e : b = pkb m (c / fct t)
    · rw [decide_eq_true e, e, a2]; rfl
    · rw [decide_eq_false e]; simp
theorem cov_c {P : Nat → shT} {L L' : Nat → Bool} {q : Nat} : ∀ m, (∀ b, b < m → L b = L' b) → cov P L q m = cov P L' q m
  | 0, _ => rfl
  | m + 1, h => by
    show (cov P L q m || (L m && pnt P m q)) = (cov P L' q m || (L' m && pnt P m q))
    rw [cov_c m (fun b hb => h b (by omega)), h m (by omega)]
theorem wl_c {P : Nat → shT} {k : Nat} {L L' : Nat → Bool} (h : ∀ b, b < 6 → L b = L' b) : wl P k L = wl P k L' := by
  funext q
  unfold wl
  rw [cov_c 6 h]
theorem lsum_sh (P : Nat → shT) (o : Nat → Nat) (t : Nat) : ∀ d, d ≤ t → lsum P o (t + 1) d = lsum P (fun i => o (i + 1)) t d
  | 0, _ => rfl
  | d + 1, h => by
    show lsum P o (t + 1) d + fb_sm (wl P (o (t + 1 - 1 - d)) (lsb o (t + 1) d)) 400 = lsum P (fun i => o (i + 1)) t d + fb_sm (wl P (o (t - 1 - d + 1)) (lsb (fun i => o (i + 1)) t d)) 400
    rw [lsum_sh P o t d (by omega), show t + 1 - 1 - d = t - 1 - d + 1 by omega, wl_c (fun b _ => lsb_sh o t b d (by omega))]
theorem lsum_odr (P : Nat → shT) : ∀ t m c, m < 64 → pc m = t → c < fct t → lsum P (odr t m c) t t = odv P t m c
  | 0, _, _, _, _, _ => rfl
  | t + 1, m, c, hm, hp, hc => by
    have h6 := pc_le m
    have hd := dvf hc
    obtain ⟨a1, a2, a3⟩ := pkb_ok m hm (c / fct t) (by omega) (by omega)
    have hs := (cl_bit m hm _ a1 a2).2
    have hps := pc_sub m hm _ a1 a2
    have ih := lsum_odr P t (m - 2 ^ pkb m (c / fct t)) (c % fct t) (by omega) (by omega) (Nat.mod_lt _ (fct_pos t))
    show lsum P (odr (t + 1) m c) (t + 1) t + fb_sm (wl P (odr (t + 1) m c (t + 1 - 1 - t)) (lsb (odr (t + 1) m c) (t + 1) t)) 400 = _
    rw [lsum_sh P _ t t (Nat.le_refl t), show t + 1 - 1 - t = 0 by omega]
    show lsum P (odr t (m - 2 ^ pkb m (c / fct t)) (c % fct t)) t t + fb_sm (wl P (pkb m (c / fct t)) (lsb (odr (t + 1) m c) (t + 1) t)) 400 = _
    rw [ih, wl_c (P := P) (k := pkb m (c / fct t)) (L := lsb (odr (t + 1) m c) (t + 1) t) (L' := fun b => (m - 2 ^ pkb m (c / fct t)).testBit b) (fun b hb => by
      rw [lsb_sh _ t b t (Nat.le_refl t)]
      exact lsb_odr t (m - 2 ^ pkb m (c / fct t)) (c % fct t) (by omega) (by omega) (Nat.mod_lt _ (fct_pos t)) b hb), Nat.add_comm]
    rfl
theorem mnf_min {g : Nat → Nat} {B : Nat → Bool} : ∀ n x, mnf g B n = some x → x.2 = g x.1 ∧ (∀ k, k < n → B k = true → x.2 ≤ g k) ∧ ∀ k, k < x.1 → B k = true → x.2 < g k
  | 0, x, h => by cases h
  | n + 1, x, h => by
    have h : (if B n then some (match mnf g B n with
        | none => (n, g n)
        | some x => if x.2 ≤ g n then x else (n, g n)) else mnf g B n) = some x := h
    cases hB : B n
    · rw [hB, if_neg (by decide)] at h
      obtain ⟨h1, h2, h3⟩ := mnf_min n x h
      refine ⟨h1, fun k hk hb => ?_, h3⟩
      have : k ≠ n := fun z => by rw [z, hB] at hb; cases hb
      exact h2 k (by omega) hb
    · rw [hB, if_pos rfl] at h
      have h := Option.some.inj h
      cases hm : mnf g B n with
      | none =>
        rw [hm] at h
        have h : (n, g n) = x := h
        subst h
        have no : ∀ k, k < n → ¬ B k = true := fun k hk hb => by
          obtain ⟨y, hy⟩ := mnf_ex (g := g) hb n hk
          rw [hm] at hy
          cases hy
        refine ⟨rfl, fun k hk hb => ?_, fun k hk hb => absurd hb (no k hk)⟩
        by_cases e : k = n
        · rw [e]; exact Nat.le_refl _
        · exact absurd hb (no k (by omega))
      | some y =>
        rw [hm] at h
        have h : (if y.2 ≤ g n then y else (n, g n)) = x := h
        obtain ⟨h1, h2, h3⟩ := mnf_min n y hm
        by_cases c : y.2 ≤ g n
        · rw [if_pos c] at h
          subst h
          refine ⟨h1, fun k hk hb => ?_, h3⟩
          by_cases e : k = n
          · rw [e]; exact c
          · exact h2 k (by omega) hb
        · rw [if_neg c] at h
          subst h
          refine ⟨rfl, fun k hk hb => ?_, fun k hk hb => ?_⟩
          · by_cases e : k = n
            · rw [e]; exact Nat.le_refl _
            · have := h2 k (by omega) hb
              show g n ≤ g k
              omega
          · have hk : k < n := hk
            have := h2 k hk hb
            show g n < g k
            omega
theorem seq_sh (P : Nat → shT) {n : Nat} (h : n ≠ 0) : ∀ i, seq P n (i + 1) = seq P (n - 2 ^ hds P n) i
  | 0 => by
    show (if n = 0 then 0 else n - 2 ^ hds P n) = n - 2 ^ hds P n
    rw [if_neg h]
  | i + 1 => by
    show (if seq P n (i + 1) = 0 then 0 else seq P n (i + 1) - 2 ^ hds P (seq P n (i + 1))) = (if seq P (n - 2 ^ hds P n) i = 0 then 0 else seq P (n - 2 ^ hds P n) i - 2 ^ hds P (seq P (n - 2 ^ hds P n) i))
    rw [seq_sh P h i]
/-- the first of the least orders is the one of the heads -/
theorem odr_best (P : Nat → shT) : ∀ t m, m < 64 → pc m = t → ∃ c, c < fct t ∧ odv P t m c = lvl P m ∧ (∀ d, d < fct t → lvl P m ≤ odv P t m d) ∧ (∀ d, d < c → lvl P m < odv P t m d) ∧ ∀ i, i < t → odr t m c i = hds P (seq P m i)
  | 0, m, hm, hp => by
    have h0 := (pc_0 m hm).mp hp
    subst h0
    exact ⟨0, by decide, rfl, fun d _ => Nat.le_refl _, fun d hd => absurd hd (Nat.not_lt_zero d), fun i hi => absurd hi (Nat.not_lt_zero i)⟩
  | t + 1, m, hm, hp => by
    have h6 := pc_le m
    have h0 : m ≠ 0 := fun z => by
      have := (pc_0 m hm).mpr z
      omega
    obtain ⟨k0, hk0, hb0⟩ := low_bit m hm h0
    obtain ⟨x, hx⟩ := mnf_ex (g := gah P (lvl P) m) (B := fun b => m.testBit b) hb0 6 hk0
    obtain ⟨x1, x2, x3⟩ := hds_in hx
    obtain ⟨y1, y2, y3⟩ := mnf_min 6 x hx
    have hl : lvl P m = x.2 := by
      obtain ⟨m', rfl⟩ : ∃ m', m = m' + 1 := ⟨m - 1, by omega⟩
      exact lvl_eq hm hx
    obtain ⟨r1, r2⟩ := pkb_rk m hm x.1 x2 x3
    have hs := (cl_bit m hm _ x2 x3).2
    have hps := pc_sub m hm _ x2 x3
    obtain ⟨c, c1, c2, c3, c4, c5⟩ := odr_best P t (m - 2 ^ x.1) (by omega) (by omega)
    have hF := fct_pos t
    have q1 : (fb_ct (fun b => m.testBit b) x.1 * fct t + c) / fct t = fb_ct (fun b => m.testBit b) x.1 := by
      rw [Nat.mul_comm, Nat.mul_add_div hF, Nat.div_eq_of_lt c1, Nat.add_zero]
    have q2 : (fb_ct (fun b => m.testBit b) x.1 * fct t + c) % fct t = c := by
      rw [Nat.mul_comm, Nat.mul_add_mod, Nat.mod_eq_of_lt c1]
    -- every order with a head
    have low : ∀ d, d < fct (t + 1) → gah P (lvl P) m (pkb m (d / fct t)) ≤ odv P (t + 1) m d := fun d hd => by
      have hdd := dvf hd
      obtain ⟨a1, a2, -⟩ := pkb_ok m hm (d / fct t) (by omega) (by omega)
      have hs' := (cl_bit m hm _ a1 a2).2
      have hps' := pc_sub m hm _ a1 a2
      obtain ⟨c', -, -, e3, -, -⟩ := odr_best P t (m - 2 ^ pkb m (d / fct t)) (by omega) (by omega)
      have := e3 (d % fct t) (Nat.mod_lt _ hF)
      show fb_sm (wl P (pkb m (d / fct t)) (fun b => (m - 2 ^ pkb m (d / fct t)).testBit b)) 400 + lvl P (m - 2 ^ pkb m (d / fct t)) ≤ fb_sm (wl P (pkb m (d / fct t)) (fun b => (m - 2 ^ pkb m (d / fct t)).testBit b)) 400 + odv P t (m - 2 ^ pkb m (d / fct t)) (d % fct t)
      omega
    refine ⟨fb_ct (fun b => m.testBit b) x.1 * fct t + c, ?_, ?_, fun d hd => ?_, fun d hd => ?_, fun i hi => ?_⟩
    · show _ < fct t * (t + 1)
      have : (fb_ct (fun b => m.testBit b) x.1 + 1) * fct t ≤ (t + 1) * fct t := Nat.mul_le_mul_right _ (by omega)
      rw [Nat.add_mul, Nat.one_mul] at this
      rw [Nat.mul_comm (fct t)]
      omega
    · show fb_sm (wl P (pkb m ((fb_ct (fun b => m.testBit b) x.1 * fct t + c) / fct t)) (fun b => (m - 2 ^ pkb m ((fb_ct (fun b => m.testBit b) x.1 * fct t + c) / fct t)).testBit b)) 400 + odv P t (m - 2 ^ pkb m ((fb_ct (fun b => m.testBit b) x.1 * fct t + c) / fct t)) ((fb_ct (fun b => m.testBit b) x.1 * fct t + c) % fct t) = _
      rw [q1, q2, r1, c2, hl, y1]
      rfl
    · have hdd := dvf hd
      obtain ⟨a1, a2, -⟩ := pkb_ok m hm (d / fct t) (by omega) (by omega)
      have := low d hd
      have := y2 _ a1 a2
      omega
    · have hd2 : d < fct (t + 1) := by
        show d < fct t * (t + 1)
        have : (fb_ct (fun b => m.testBit b) x.1 + 1) * fct t ≤ (t + 1) * fct t := Nat.mul_le_mul_right _ (by omega)
        rw [Nat.add_mul, Nat.one_mul] at this
        rw [Nat.mul_comm (fct t)]
        omega
      have hdd := dvf hd2
      obtain ⟨a1, a2, -⟩ := pkb_ok m hm (d / fct t) (by omega) (by omega)
      have hle : d / fct t ≤ fb_ct (fun b => m.testBit b) x.1 := by
        rw [← q1]
        exact Nat.div_le_div_right (by omega)
      by_cases e : d / fct t = fb_ct (fun b => m.testBit b) x.1
      · have hdm := Nat.div_add_mod d (fct t)
        rw [e, Nat.mul_comm] at hdm
        have := c4 (d % fct t) (by omega)
        show _ < fb_sm (wl P (pkb m (d / fct t)) (fun b => (m - 2 ^ pkb m (d / fct t)).testBit b)) 400 + odv P t (m - 2 ^ pkb m (d / fct t)) (d % fct t)
        rw [e, r1, hl, y1]
        show fb_sm (wl P x.1 (fun b => (m - 2 ^ x.1).testBit b)) 400 + lvl P (m - 2 ^ x.1) < _
        omega
      · have := low d hd2
        have := y3 (pkb m (d / fct t)) (pkb_lt m hm (d / fct t) (by omega) x.1 x2 x3 (by omega)) a2
        omega
    · cases i with
      | zero =>
        show pkb m ((fb_ct (fun b => m.testBit b) x.1 * fct t + c) / fct t) = hds P m
        rw [q1, r1, x1]
      | succ i =>
        show odr t (m - 2 ^ pkb m ((fb_ct (fun b => m.testBit b) x.1 * fct t + c) / fct t)) ((fb_ct (fun b => m.testBit b) x.1 * fct t + c) % fct t) i = _
        rw [q1, q2, r1, seq_sh P h0, x1]
        exact c5 i (by omega)
theorem odv_b {P : Nat → shT} {T : Nat → Bool} (ok : ∀ k, k < 6 → T k = true → okA (P k)) : ∀ t m c, m < 64 → pc m = t → c < fct t → (∀ b, b < 6 → m.testBit b = true → T b = true) → odv P t m c ≤ 39600 * t
  | 0, _, _, _, _, _, _ => Nat.le_refl _
  | t + 1, m, c, hm, hp, hc, hT => by
    have h6 := pc_le m
    have hd := dvf hc
    obtain ⟨a1, a2, a3⟩ := pkb_ok m hm (c / fct t) (by omega) (by omega)
    have hs := (cl_bit m hm _ a1 a2).2
    have hps := pc_sub m hm _ a1 a2
    have ih := odv_b ok t (m - 2 ^ pkb m (c / fct t)) (c % fct t) (by omega) (by omega) (Nat.mod_lt _ (fct_pos t)) (fun b hb hbb => by
      rw [sub_bit m hm _ a1 a2 b hb, Bool.and_eq_true] at hbb
      exact hT b hb hbb.1)
    have := wl_le (ok _ a1 (hT _ a1 a2)) (fun b => (m - 2 ^ pkb m (c / fct t)).testBit b)
    show fb_sm (wl P (pkb m (c / fct t)) (fun b => (m - 2 ^ pkb m (c / fct t)).testBit b)) 400 + odv P t (m - 2 ^ pkb m (c / fct t)) (c % fct t) ≤ _
    omega

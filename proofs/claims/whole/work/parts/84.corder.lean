theorem mnf_in {g : Nat → Nat} {B : Nat → Bool} : ∀ n x, mnf g B n = some x → x.1 < n ∧ B x.1 = true
  | 0, x, h => by cases h
  | n + 1, x, h => by
    have h : (if B n then some (match mnf g B n with
        | none => (n, g n)
        | some x => if x.2 ≤ g n then x else (n, g n)) else mnf g B n) = some x := h
    cases hB : B n
    · rw [hB, if_neg (by decide)] at h
      have := mnf_in n x h
      exact ⟨by omega, this.2⟩
    · rw [hB, if_pos rfl] at h
      have h := Option.some.inj h
      rw [← h]
      cases hm : mnf g B n with
      | none => exact ⟨Nat.lt_succ_self n, hB⟩
      | some y =>
        show (if y.2 ≤ g n then y else (n, g n)).1 < n + 1 ∧ B (if y.2 ≤ g n then y else (n, g n)).1 = true
        split
        · have := mnf_in n y hm
          exact ⟨by omega, this.2⟩
        · exact ⟨Nat.lt_succ_self n, hB⟩
def pc (m : Nat) : Nat := fb_ct (fun b => m.testBit b) 6
theorem pc_sub : ∀ m, m < 64 → ∀ k, k < 6 → m.testBit k = true → pc (m - 2 ^ k) + 1 = pc m := by decide +kernel
theorem pc_0 : ∀ m, m < 64 → (pc m = 0 ↔ m = 0) := by decide +kernel
theorem hds_in {P : Nat → shT} {m : Nat} {x : Nat × Nat} (hx : mnf (gah P (lvl P) m) (fun b => m.testBit b) 6 = some x) : hds P m = x.1 ∧ x.1 < 6 ∧ m.testBit x.1 = true := by
  refine ⟨?_, (mnf_in 6 x hx).1, (mnf_in 6 x hx).2⟩
  unfold hds
  rw [hx]
theorem hds_ok (P : Nat → shT) {m : Nat} (hm : m < 64) (h0 : m ≠ 0) : hds P m < 6 ∧ m.testBit (hds P m) = true := by
  obtain ⟨k0, hk0, hb0⟩ := low_bit m hm h0
  obtain ⟨x, hx⟩ := mnf_ex (g := gah P (lvl P) m) (B := fun b => m.testBit b) hb0 6 hk0
  obtain ⟨h1, h2, h3⟩ := hds_in hx
  rw [h1]
  exact ⟨h2, h3⟩
theorem seq_ok (P : Nat → shT) {n : Nat} (hn : n < 64) : ∀ j, j ≤ pc n → seq P n j ≤ n ∧ pc (seq P n j) + j = pc n ∧ ∀ b, b < 6 → (seq P n j).testBit b = true → n.testBit b = true
  | 0, _ => ⟨Nat.le_refl _, rfl, fun _ _ h => h⟩
  | j + 1, hj => by
    obtain ⟨h1, h2, h3⟩ := seq_ok P hn j (by omega)
    have h0 : seq P n j ≠ 0 := fun z => by
      have := (pc_0 0 (by decide)).mpr rfl
      rw [z] at h2
      omega
    obtain ⟨a1, a2⟩ := hds_ok P (show seq P n j < 64 by omega) h0
    have e : seq P n (j + 1) = seq P n j - 2 ^ hds P (seq P n j) := by
      show (if seq P n j = 0 then 0 else _) = _
      rw [if_neg h0]
    have hp := pc_sub _ (show seq P n j < 64 by omega) _ a1 a2
    rw [e]
    refine ⟨Nat.le_trans (Nat.sub_le _ _) h1, by omega, fun b hb hbb => ?_⟩
    rw [sub_bit _ (show seq P n j < 64 by omega) _ a1 a2 b hb, Bool.and_eq_true] at hbb
    exact h3 b hb hbb.1
theorem pc_le (n : Nat) : pc n ≤ 6 := fb_ct_le _ _
theorem C_leastOrder_run (X : qz_X) {s u : sT} {G : gsT} (h : Rel s G) {n : Nat} (hn : n < 64) (hnT : ∀ b, b < 6 → n.testBit b = G.2.1.1 b) (e0 : ∀ u, lsT s u G.2.1.2.1 n (n + 1) → rn 240 0 [some (.ref 3), none, none] [] (mk X u) = some (some (.int (nI n)), mk X u)) (hu : lsT s u G.2.1.2.1 n (n + 1)) {p : Nat} (hp : p < 2 ^ 31) : ∃ z : sT, rn 246 0 [some (.ref 3), some (.int (nI p)), none, none, none] [] (mk X u) = some (some (.int (if p < pc n then nI (hds G.2.1.2.1 (seq G.2.1.2.1 n p)) else -1)), mk X z) ∧ lsT s z G.2.1.2.1 n (n + 1) := by
  have h6 := pc_le n
  have loop : ∀ c, c ≤ p + 1 → c ≤ pc n → ∃ y : sT × Int32, (lsT s y.1 G.2.1.2.1 n (n + 1) ∧ (c ≠ 0 → y.2 = nI (hds G.2.1.2.1 (seq G.2.1.2.1 n (c - 1))))) ∧ rn 246 10 [some (.ref 3), some (.int (nI p)), some (.int (nI (seq G.2.1.2.1 n 0))), some (.int (-1)), some (.int (nI 0))] [] (mk X u) = rn 246 10 [some (.ref 3), some (.int (nI p)), some (.int (nI (seq G.2.1.2.1 n c))), some (.int y.2), some (.int (nI c))] [] (mk X y.1) := by
    intro c hc1 hc2
    exact it_up (fun k (y : sT × Int32) => rn 246 10 [some (.ref 3), some (.int (nI p)), some (.int (nI (seq G.2.1.2.1 n k))), some (.int y.2), some (.int (nI k))] [] (mk X y.1)) (fun k y => lsT s y.1 G.2.1.2.1 n (n + 1) ∧ (k ≠ 0 → y.2 = nI (hds G.2.1.2.1 (seq G.2.1.2.1 n (k - 1))))) (Nat.zero_le c) (by
      rintro k ⟨w, r⟩ _ hk ⟨hw, -⟩
      dsimp only at hw ⊢
      obtain ⟨s1, s2, s3⟩ := seq_ok G.2.1.2.1 hn k (by omega)
      have hne : seq G.2.1.2.1 n k ≠ 0 := fun z => by
        have := (pc_0 0 (by decide)).mpr rfl
        rw [z] at s2
        omega
      obtain ⟨z, x, ez, hx, hz, -⟩ := C_ahead_run X h hn hnT (m := seq G.2.1.2.1 n k) (M := n + 1) (by omega) hne (by omega) s3 hw
      obtain ⟨x1, x2, x3⟩ := hds_in hx
      have es : seq G.2.1.2.1 n (k + 1) = seq G.2.1.2.1 n k - 2 ^ x.1 := by
        show (if seq G.2.1.2.1 n k = 0 then 0 else _) = _
        rw [if_neg hne, x1]
      refine ⟨(z, nI x.1), ⟨hz, fun _ => by rw [Nat.add_sub_cancel, x1]⟩, ?_⟩
      rw [e_Pile_leastOrder_10, if_neg (nI_nlt (by omega) (by omega)), if_neg (nI_nlt (by omega) (by decide)), if_neg (fun z => hne (by rw [← nI_0, nI_eq (by omega) (by decide)] at z; exact z)), ck_N, ez, r1_s, (cl_bit _ (show seq G.2.1.2.1 n k < 64 by omega) _ x2 x3).1, nI_add, es]) (x := (u, -1)) ⟨hu, fun z => absurd rfl z⟩
  have start : rn 246 0 [some (.ref 3), some (.int (nI p)), none, none, none] [] (mk X u) = rn 246 10 [some (.ref 3), some (.int (nI p)), some (.int (nI (seq G.2.1.2.1 n 0))), some (.int (-1)), some (.int (nI 0))] [] (mk X u) := by
    rw [e_Pile_leastOrder_0, ck_N, e0 u hu, r1_s]
    rfl
  by_cases hpn : p < pc n
  · obtain ⟨⟨z, r⟩, ⟨hz, hr⟩, e⟩ := loop (p + 1) (Nat.le_refl _) (by omega)
    dsimp only at hz hr e
    refine ⟨z, ?_, hz⟩
    rw [start, e, e_Pile_leastOrder_10, if_pos (nI_lt (by omega) (by omega)), if_pos hpn, hr (by omega), Nat.add_sub_cancel]
  · obtain ⟨⟨z, r⟩, ⟨hz, hr⟩, e⟩ := loop (pc n) (by omega) (Nat.le_refl _)
    dsimp only at hz hr e
    obtain ⟨s1, s2, -⟩ := seq_ok G.2.1.2.1 hn (pc n) (Nat.le_refl _)
    have s0 : seq G.2.1.2.1 n (pc n) = 0 := (pc_0 _ (by omega)).mp (by omega)
    refine ⟨z, ?_, hz⟩
    rw [start, e, e_Pile_leastOrder_10, if_neg (nI_nlt (by omega) (by omega)), if_neg (nI_nlt (by omega) (by decide)), s0, if_pos nI_0, if_neg hpn]

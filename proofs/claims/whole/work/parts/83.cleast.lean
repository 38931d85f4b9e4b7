theorem told_n {T : Nat → Bool} {v : Int32} (hv : ∀ x, x < 32 → bt v x = (decide (x < 6) && T x)) : ∃ n, n < 64 ∧ v = nI n ∧ ∀ b, b < 6 → n.testBit b = T b := by
  obtain ⟨n, hn, rfl⟩ := bt_small (v := v) (k := 6) (by decide) (fun i h1 h2 => by rw [hv i h2, decide_eq_false (by omega)]; rfl)
  refine ⟨n, hn, rfl, fun b hb => ?_⟩
  rw [← bt_test (show n < 64 from hn), hv b (by omega), decide_eq_true hb, Bool.true_and]
theorem C_leastLeft_run (X : qz_X) {s : sT} {G : gsT} (h : Rel s G) : ∃ (n : Nat) (z : sT), n < 64 ∧ (∀ b, b < 6 → n.testBit b = G.2.1.1 b) ∧ rn 240 0 [some (.ref 3), none, none] [] (mk X s) = some (some (.int (nI n)), mk X s) ∧ rn 245 0 [some (.ref 3), none, none] [] (mk X s) = some (some (.int (nI (lvl G.2.1.2.1 n))), mk X z) ∧ lsT s z G.2.1.2.1 n (n + 1) := by
  obtain ⟨v, e0, hv⟩ := toldSet_run X s h.1 G.2.1.1 (fun k hk => (h.2.2.2.2.1.2.1 k hk).1)
  obtain ⟨n, hn, rfl, hnT⟩ := told_n hv
  obtain ⟨z, hz, e⟩ := it_up (fun m (u : sT) => rn 245 14 [some (.ref 3), some (.int (nI n)), some (.int (nI m))] [] (mk X u)) (fun m u => lsT s u G.2.1.2.1 n m) (show 1 ≤ n + 1 by omega) (by
    rintro m u h1 hm hu
    try dsimp only
    rw [e_Pile_leastLeft_14, if_neg (nI_nlt (by omega) (by omega)), nI_add]
    rcases Classical.em (∀ b, b < 6 → m.testBit b = true → n.testBit b = true) with hs | hs
    · obtain ⟨z, x, ez, -, hz, hzm⟩ := C_ahead_run X h hn hnT (m := m) (M := m) (by omega) (by omega) (Nat.le_refl _) hs hu
      refine ⟨z, ⟨hz.1, hz.2.1, fun j hj hsj => ?_⟩, ?_⟩
      · by_cases e : j = m
        · rw [e]; exact hzm
        · exact hz.2.2 j (by omega) hsj
      · rw [if_pos ((sub_set n hn m (by omega)).mpr hs), ck_N, ez, r1_s]
    · refine ⟨u, ⟨hu.1, hu.2.1, fun j hj hsj => ?_⟩, ?_⟩
      · by_cases e : j = m
        · rw [e] at hsj; exact absurd hsj hs
        · exact hu.2.2 j (by omega) hsj
      · rw [if_neg (fun z => hs ((sub_set n hn m (by omega)).mp z))]) (x := su s 6 0 (nI 0)) (by
    refine ⟨rfl, fun c hc => ?_, fun j hj _ => ?_⟩
    · funext j
      rw [su_1, if_neg (fun z => hc z.1)]
    · have : j = 0 := by omega
      subst this
      rw [su_1, if_pos ⟨rfl, rfl⟩]
      rfl)
  try dsimp only at e
  refine ⟨n, z, hn, hnT, e0, ?_, hz⟩
  rw [e_Pile_leastLeft_0, ck_N, e0, r1_s, g_N_least, w_N_least (by decide), e, e_Pile_leastLeft_14, if_pos (nI_lt (by omega) (by omega)), g_N_least, i_N_least hn, hz.2.2 n (by omega) (fun _ _ hb => hb)]
/-- the sets that leastOrder goes through, and the heads it takes -/
noncomputable def hds (P : Nat → shT) (m : Nat) : Nat := match mnf (gah P (lvl P) m) (fun b => m.testBit b) 6 with
  | none => 0
  | some x => x.1
noncomputable def seq (P : Nat → shT) (n : Nat) : Nat → Nat
  | 0 => n
  | k + 1 => if seq P n k = 0 then 0 else seq P n k - 2 ^ hds P (seq P n k)

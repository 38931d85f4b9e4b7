theorem skips_run (X : qz_X) (s : sT) {m r : Nat} (hm : m < 64) (hr : r < pc m) : ∃ k, k < 6 ∧ m.testBit k = true ∧ fb_ct (fun b => m.testBit b) k = r ∧ rn 250 11 [none, none, none, some (.int (nI m)), none, some (.int (nI r)), some (.int (nI 0))] [] (mk X s) = some (some (.int (nI k)), mk X s) := by
  obtain ⟨k, hk, hb, hc⟩ := fb_ct_kth (show r < fb_ct (fun b => m.testBit b) 6 from hr)
  have hb : m.testBit k = true := hb
  refine ⟨k, hk, hb, hc, ?_⟩
  have hrl : r < 6 := by have := pc_le m; omega
  obtain ⟨v, hv, e⟩ := it_up (fun i (v : Int32) => rn 250 11 [none, none, none, some (.int (nI m)), none, some (.int v), some (.int (nI i))] [] (mk X s)) (fun i v => v = nI (r - fb_ct (fun b => m.testBit b) i)) (Nat.zero_le k) (by
    rintro i v _ hi rfl
    try dsimp only
    refine ⟨_, rfl, ?_⟩
    have h1 : fb_ct (fun b => m.testBit b) (i + 1) ≤ r := by rw [← hc]; exact fb_ct_mono _ (by omega)
    have hs : fb_ct (fun b => m.testBit b) (i + 1) = fb_ct (fun b => m.testBit b) i + (if m.testBit i then 1 else 0) := rfl
    rw [e_M_skips_11, M_has_run _ _ (by omega), r1_s, told_int, bt_test hm]
    cases hbi : m.testBit i
    · rw [hbi, if_neg (by decide), Nat.add_zero] at hs
      rw [if_neg (by decide), M_has_run _ _ (by omega), r1_s, bt_test hm, hbi, e_M_unit_0, told_int, if_neg (by decide), r1_s, pk_sub (by omega), nI_add, hs, Nat.sub_zero]
      rfl
    · rw [hbi, if_pos rfl] at hs
      rw [if_pos rfl, if_neg (by rw [← nI_0]; exact nI_ge (show 0 < r - fb_ct (fun b => m.testBit b) i by omega) (by omega)), M_has_run _ _ (by omega), r1_s, bt_test hm, hbi, e_M_unit_0, told_int, if_pos rfl, r1_s, pk_sub (by omega), nI_add, hs, Nat.sub_sub]) (x := nI r) rfl
  try dsimp only at e
  rw [hc, Nat.sub_self] at hv
  refine Eq.trans e ?_
  rw [e_M_skips_11, M_has_run _ _ (by omega), r1_s, told_int, bt_test hm, hb, if_pos rfl, hv, if_pos (by decide)]

/-! the best sheet ahead of a set of later ones: the class -/
def mnf (g : Nat → Nat) (B : Nat → Bool) : Nat → Option (Nat × Nat)
  | 0 => none
  | k + 1 => if B k then some (match mnf g B k with
      | none => (k, g k)
      | some x => if x.2 ≤ g k then x else (k, g k)) else mnf g B k
def mI : Option (Nat × Nat) → Int32
  | none => -1
  | some x => nI x.1
theorem bt_test {m b : Nat} (hm : m < 64) : bt (nI m) b = m.testBit b := bt_nat (by omega)
theorem cl_bit : ∀ m, m < 64 → ∀ k, k < 6 → m.testBit k = true → nI m &&& ((nI 1 <<< (nI k &&& 31)) ^^^ (-1)) = nI (m - 2 ^ k) ∧ m - 2 ^ k < m := by decide +kernel
theorem sub_bit : ∀ m, m < 64 → ∀ k, k < 6 → m.testBit k = true → ∀ b, b < 6 → (m - 2 ^ k).testBit b = (m.testBit b && !decide (b = k)) := by decide +kernel
noncomputable def gah (P : Nat → shT) (f : Nat → Nat) (m k : Nat) : Nat := fb_sm (wl P k (fun b => (m - 2 ^ k).testBit b)) 400 + f (m - 2 ^ k)
theorem weighAhead_run (X : qz_X) {s : sT} {G : gsT} (h : Rel s G) {m : Nat} (hm : m < 64) (hT : ∀ b, b < 6 → m.testBit b = true → G.2.1.1 b = true) {f : Nat → Nat} (hf : ∀ k, k < 6 → m.testBit k = true → s.1 6 (m - 2 ^ k) = nI (f (m - 2 ^ k))) (hb : ∀ k, k < 6 → m.testBit k = true → gah G.2.1.2.1 f m k < 2 ^ 31) : ∃ st : sT, rn 244 0 [some (.ref 3), some (.int (nI m)), none, none, none, none] [] (mk X s) = some (some (.int (mI (mnf (gah G.2.1.2.1 f m) (fun b => m.testBit b) 6))), mk X st) ∧ st.2 = s.2 ∧ (∀ c, c ≠ 6 → st.1 c = s.1 c) ∧ (∀ j, j ≠ m → st.1 6 j = s.1 6 j) ∧ ∀ x, mnf (gah G.2.1.2.1 f m) (fun b => m.testBit b) 6 = some x → st.1 6 m = nI x.2 := by
  obtain ⟨⟨u, r⟩, ⟨u2, uc, uj, ux, rfl⟩, e⟩ := it_up (fun k (x : sT × Int32) => rn 244 4 [some (.ref 3), some (.int (nI m)), some (.int x.2), some (.int (nI k)), none, none] [] (mk X x.1)) (fun k x => x.1.2 = s.2 ∧ (∀ c, c ≠ 6 → x.1.1 c = s.1 c) ∧ (∀ j, j ≠ m → x.1.1 6 j = s.1 6 j) ∧ (∀ y, mnf (gah G.2.1.2.1 f m) (fun b => m.testBit b) k = some y → x.1.1 6 m = nI y.2 ∧ y.1 < 6 ∧ y.2 < 2 ^ 31) ∧ x.2 = mI (mnf (gah G.2.1.2.1 f m) (fun b => m.testBit b) k)) (Nat.zero_le 6) (by
    rintro k ⟨u, r⟩ _ hk ⟨u2, uc, uj, ux, hr⟩
    dsimp only at u2 uc uj ux hr ⊢
    subst hr
    have hm1 : mnf (gah G.2.1.2.1 f m) (fun b => m.testBit b) (k + 1) = if m.testBit k then some (match mnf (gah G.2.1.2.1 f m) (fun b => m.testBit b) k with
      | none => (k, gah G.2.1.2.1 f m k)
      | some x => if x.2 ≤ gah G.2.1.2.1 f m k then x else (k, gah G.2.1.2.1 f m k)) else mnf (gah G.2.1.2.1 f m) (fun b => m.testBit b) k := rfl
    rw [e_Pile_weighAhead_4, if_neg (nI_ge hk (by decide))]
    cases hbk : m.testBit k
    · rw [hbk, if_neg (by decide)] at hm1
      refine ⟨(u, mI (mnf (gah G.2.1.2.1 f m) (fun b => m.testBit b) k)), ⟨u2, uc, uj, by rw [hm1]; exact ux, by rw [hm1]⟩, ?_⟩
      rw [if_pos ((b_selz _ (by omega)).mpr (by rw [bt_test hm, hbk])), nI_add]
    · rw [hbk, if_pos rfl] at hm1
      obtain ⟨c1, c2⟩ := cl_bit m hm k hk hbk
      have fu : fr s u := ⟨by rw [u2], fun i j hij => by
        have : i ≠ 6 := fun z => by subst z; revert hij; simp [scr]
        rw [uc i this]⟩
      have hu := h.fr fu
      have htk : tk G (nI k) k := ⟨hk, rfl, hT k hk hbk⟩
      obtain ⟨-, ok, -, -⟩ := tk_P hu htk
      have hl := leftOf_run X hu htk (v2 := nI (m - 2 ^ k)) (L := fun b => (m - 2 ^ k).testBit b) (fun b hb => bt_test (by omega)) (fun b hb hbb => by
        have hbb : (m - 2 ^ k).testBit b = true := hbb
        rw [sub_bit m hm k hk hbk b hb, Bool.and_eq_true] at hbb
        exact hT b hb hbb.1)
      rw [lf_all ok] at hl
      have h6 : u.1 6 (m - 2 ^ k) = nI (f (m - 2 ^ k)) := by rw [uj _ (by omega)]; exact hf k hk hbk
      have hg := hb k hk hbk
      have hsum : nI (fb_sm (wl G.2.1.2.1 k (fun b => (m - 2 ^ k).testBit b)) 400) + nI (f (m - 2 ^ k)) = nI (gah G.2.1.2.1 f m k) := by rw [nI_add]; rfl
      have put : ∀ (z : Option (Nat × Nat)), z = some (k, gah G.2.1.2.1 f m k) → (su u 6 m (nI (gah G.2.1.2.1 f m k))).2 = s.2 ∧ (∀ c, c ≠ 6 → (su u 6 m (nI (gah G.2.1.2.1 f m k))).1 c = s.1 c) ∧ (∀ j, j ≠ m → (su u 6 m (nI (gah G.2.1.2.1 f m k))).1 6 j = s.1 6 j) ∧ (∀ y, z = some y → (su u 6 m (nI (gah G.2.1.2.1 f m k))).1 6 m = nI y.2 ∧ y.1 < 6 ∧ y.2 < 2 ^ 31) ∧ nI k = mI z := by
        rintro z rfl
        refine ⟨u2, fun c hc => ?_, fun j hj => ?_, fun y hy => ?_, rfl⟩
        · funext j
          rw [su_1, if_neg (fun z => hc z.1), uc c hc]
        · rw [su_1, if_neg (fun z => hj z.2), uj j hj]
        · have hy := (Option.some.inj hy).symm
          subst hy
          exact ⟨by rw [su_1, if_pos ⟨rfl, rfl⟩], hk, hg⟩
      rw [if_neg (fun z => by rw [b_selz _ (by omega), bt_test hm, hbk] at z; cases z), c1, ck_N, hl, r1_s, g_N_least, i_N_least (by omega), h6, hsum, nI_add]
      cases hz : mnf (gah G.2.1.2.1 f m) (fun b => m.testBit b) k with
      | none =>
        rw [hz] at hm1
        refine ⟨(su u 6 m (nI (gah G.2.1.2.1 f m k)), nI k), put _ hm1, ?_⟩
        rw [if_pos (show mI none = -1 from rfl), g_N_least, w_N_least (by omega)]
      | some y =>
        rw [hz] at hm1
        obtain ⟨y1, y2, y3⟩ := ux y hz
        rw [if_neg (show ¬ mI (some y) = -1 from nI_m1 (by omega)), g_N_least, i_N_least (by omega), y1]
        by_cases g : y.2 ≤ gah G.2.1.2.1 f m k
        · have hm2 : mnf (gah G.2.1.2.1 f m) (fun b => m.testBit b) (k + 1) = some y := by rw [hm1]; show some (if y.2 ≤ gah G.2.1.2.1 f m k then y else _) = _; rw [if_pos g]
          refine ⟨(u, mI (some y)), ⟨u2, uc, uj, fun w hw => ?_, by rw [hm2]⟩, ?_⟩
          · rw [hm2] at hw
            have hw := (Option.some.inj hw).symm
            subst hw
            exact ⟨y1, y2, y3⟩
          · rw [if_pos (nI_le g (by omega))]
        · have hm2 : mnf (gah G.2.1.2.1 f m) (fun b => m.testBit b) (k + 1) = some (k, gah G.2.1.2.1 f m k) := by rw [hm1]; show some (if y.2 ≤ gah G.2.1.2.1 f m k then y else _) = _; rw [if_neg g]
          refine ⟨(su u 6 m (nI (gah G.2.1.2.1 f m k)), nI k), put _ hm2, ?_⟩
          rw [if_neg (nI_ge (by omega) (by omega)), g_N_least, w_N_least (by omega)]) (x := (s, -1)) ⟨rfl, fun _ _ => rfl, fun _ _ => rfl, fun y hy => (by cases hy), rfl⟩
  dsimp only at u2 uc uj ux e
  refine ⟨u, ?_, u2, uc, uj, fun x hx => (ux x hx).1⟩
  rw [e_Pile_weighAhead_0, e, e_Pile_weighAhead_4, if_pos (nI_le (by decide) (by decide))]

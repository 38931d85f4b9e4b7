/-! bridges: the reference's lines; the kinds -/
section BR
variable {T : txT} {P q : Nat} {s t u : sT} {D : drT} {A : shT} {E : Nat → Bool}
theorem within_y (X : qz_X) {B : shT} (h1 : 1 ≤ B.1 0 ∧ B.1 0 ≤ 20) (h2 : 1 ≤ B.1 1 ∧ B.1 1 ≤ 20) (hM : isM (gN u) 6 B) {a b : Nat} (ha : a < B.1 0) (hb : b < B.1 1) : rn 94 0 [some (.ref 318), some (.int (nI 6)), some (.int (nI a)), some (.int (nI b))] [] (mk X u) = some (some (.int (nI 1)), mk X u) := by
  rw [e_M_isWithin_0, ck_M, M_wide_run X (by decide) hM, r1_s, pk_sub (by omega), isIn_yes _ (by omega) (by omega), r1_s, if_neg (by decide), ck_M, M_high_run X (by decide) hM, r1_s, pk_sub (by omega), isIn_yes _ (by omega) (by omega), r1_s, if_neg (by decide)]
theorem within_n (X : qz_X) {B : shT} (h1 : 1 ≤ B.1 0 ∧ B.1 0 ≤ 20) (h2 : 1 ≤ B.1 1 ∧ B.1 1 ≤ 20) (hM : isM (gN u) 6 B) {vx vy : Int32} (hn : ¬ inXY B vx vy) : rn 94 0 [some (.ref 318), some (.int (nI 6)), some (.int vx), some (.int vy)] [] (mk X u) = some (some (.int (nI 0)), mk X u) := by
  rw [e_M_isWithin_0, ck_M, M_wide_run X (by decide) hM, r1_s]
  rcases isIn_lt (mk X u) vx (n := B.1 0) (by omega) with ⟨⟨a, ha, ea⟩, e⟩ | ⟨_, e⟩
  · rw [e, r1_s, if_neg (by decide), ck_M, M_high_run X (by decide) hM, r1_s]
    rcases isIn_lt (mk X u) vy (n := B.1 1) (by omega) with ⟨⟨b, hb, eb⟩, e⟩ | ⟨_, e⟩
    · exact absurd ⟨a, b, ha, hb, ea, eb⟩ hn
    · rw [e, r1_s, if_pos (by decide)]
  · rw [e, r1_s, if_pos (by decide)]
theorem isM_sq (h12 : A.1 4 < 12) (hM : isM (gN u) 6 (brE A E)) {j0 : Nat} (hj : j0 < 400) : isM (gN (su u 324 (2400 + j0) (u.1 324 (2400 + j0) ||| (nI 1 <<< (nI (A.1 4) &&& 31))))) 6 (brE A (fun j => if j = j0 then true else E j)) := by
  obtain ⟨m1, m2, m3, m4, m5, m6⟩ := hM
  have e : ∀ i, i < 10 → i ≠ 3 → gN (su u 324 (2400 + j0) (u.1 324 (2400 + j0) ||| (nI 1 <<< (nI (A.1 4) &&& 31)))) i = gN u i := fun i hi h3 => funext fun j => by
    show (su u 324 _ _).1 _ j = _
    rw [su_1, if_neg]
    · rfl
    · rintro ⟨z, _⟩
      revert z
      rcases (show i = 0 ∨ i = 1 ∨ i = 2 ∨ i = 4 ∨ i = 5 ∨ i = 6 ∨ i = 7 ∨ i = 8 ∨ i = 9 by omega) with rfl | rfl | rfl | rfl | rfl | rfl | rfl | rfl | rfl <;> decide
  unfold isM
  rw [e 0 (by decide) (by decide), e 1 (by decide) (by decide), e 2 (by decide) (by decide), e 4 (by decide) (by decide), e 5 (by decide) (by decide), e 6 (by decide) (by decide), e 7 (by decide) (by decide), e 8 (by decide) (by decide), e 9 (by decide) (by decide)]
  refine ⟨m1, m2, m3, fun j hj' b hb => ?_, m5, m6⟩
  have old : bt (u.1 324 (2400 + j)) b = (decide (b < 12) && (if b = A.1 4 then E j else A.2.2.2.1 b j)) := m4 j hj' b hb
  show bt ((su u 324 (2400 + j0) _).1 324 (2400 + j)) b = (decide (b < 12) && (if b = A.1 4 then (if j = j0 then true else E j) else A.2.2.2.1 b j))
  rw [su_1]
  by_cases ej : j = j0
  · rw [if_pos ⟨rfl, by omega⟩, b_or, b_one _ (by omega) b hb, ← ej, old]
    by_cases eb : b = A.1 4
    · rw [if_pos eb, if_pos eb, if_pos rfl, decide_eq_true eb, Bool.or_true, decide_eq_true (by omega)]
      rfl
    · rw [if_neg eb, if_neg eb, decide_eq_false eb, Bool.or_false]
  · rw [if_neg (by omega), old]
    by_cases eb : b = A.1 4
    · rw [if_pos eb, if_pos eb, if_neg ej]
    · rw [if_neg eb, if_neg eb]
theorem isM_brE0 (ok : okA A) (hM : isM (gN u) 6 A) : isM (gN u) 6 (brE A (fun _ => false)) := by
  obtain ⟨m1, m2, m3, m4, m5, m6⟩ := hM
  refine ⟨m1, m2, m3, fun j hj b hb => ?_, m5, m6⟩
  rw [m4 j hj b hb]
  show _ = (decide (b < 12) && (if b = A.1 4 then false else A.2.2.2.1 b j))
  by_cases eb : b = A.1 4
  · rw [if_pos eb]
    cases c : A.2.2.2.1 b j
    · rfl
    · have := (ok.2.2.2.2.2.2.2.2.2.2.2.1 b j hj c).1
      omega
  · rw [if_neg eb]
theorem east_run (w : qz_W) {d : Nat} (hd : d < 4) : rn 100 0 [some (.int (nI d))] [] w = some (some (.int (qz_sx d)), w) := by
  rw [e_M_east_0]
  rcases (show d = 0 ∨ d = 1 ∨ d = 2 ∨ d = 3 by omega) with rfl | rfl | rfl | rfl
  · rw [if_neg (by decide), if_neg (by decide)]; rfl
  · rw [if_pos (by decide)]; rfl
  · rw [if_neg (by decide), if_neg (by decide)]; rfl
  · rw [if_neg (by decide), if_pos (by decide)]; rfl
theorem south_run (w : qz_W) {d : Nat} (hd : d < 4) : rn 101 0 [some (.int (nI d))] [] w = some (some (.int (qz_sy d)), w) := by
  rw [e_M_south_0]
  rcases (show d = 0 ∨ d = 1 ∨ d = 2 ∨ d = 3 by omega) with rfl | rfl | rfl | rfl
  · rw [if_neg (by decide), if_pos (by decide)]; rfl
  · rw [if_neg (by decide), if_neg (by decide)]; rfl
  · rw [if_pos (by decide)]; rfl
  · rw [if_neg (by decide), if_neg (by decide)]; rfl
/-- what laying leaves -/
def oLay (t u : sT) : Prop := u.2 = t.2 ∧ (∀ c, c ≠ 318 → c ≠ 324 → u.1 c = t.1 c) ∧ (∀ j, j ≠ 27 → j ≠ 28 → u.1 318 j = t.1 318 j) ∧ ∀ j, j < 2400 → u.1 324 j = t.1 324 j
theorem oLay.tr {v : sT} (h : oLay t u) (g : oLay u v) : oLay t v := ⟨g.1.trans h.1, fun c a b => (g.2.1 c a b).trans (h.2.1 c a b), fun j a b => (g.2.2.1 j a b).trans (h.2.2.1 j a b), fun j a => (g.2.2.2 j a).trans (h.2.2.2 j a)⟩
theorem oLay.rf (t : sT) : oLay t t := ⟨rfl, fun _ _ _ => rfl, fun _ _ _ => rfl, fun _ _ => rfl⟩
theorem oLay.fr (h : oLay t u) : frM t u := ⟨by rw [h.1], fun c j e => by
  by_cases e1 : c = 318
  · subst e1
    exact h.2.2.1 j (fun z => e (Or.inl ⟨rfl, by rw [z]; decide⟩)) (fun z => e (Or.inl ⟨rfl, by rw [z]; decide⟩))
  · by_cases e2 : c = 324
    · subst e2
      exact h.2.2.2 j (by
        rcases Nat.lt_or_ge j 2400 with g | g
        · exact g
        · exact absurd (by unfold inM; omega) e)
    · rw [h.2.1 c e1 e2]⟩
theorem oLay.po (h : oLay t u) (hp : mPo T P t) : mPo T P u := by
  obtain ⟨a1, a2, p, b1, b2, b3⟩ := hp
  exact ⟨fun j hj => by rw [h.2.1 333 (by decide) (by decide)]; exact a1 j hj, by rw [h.2.2.1 15 (by decide) (by decide)]; exact a2, p, b1, by rw [h.2.2.1 16 (by decide) (by decide)]; exact b2, b3⟩
theorem lays_M (X : qz_X) (ok : okA A) (h12 : A.1 4 < 12) (hM : isM (gN t) 6 (brE A E)) (x y : Int32) {d f0 l : Nat} (hd4 : d < 4) (hl : 1 ≤ l) (hl2 : f0 + l ≤ 100) : ∃ u : sT, rn 102 0 [some (.ref 318), some (.int (nI (A.1 4))), some (.int x), some (.int y), some (.int (nI d)), some (.int (nI f0)), some (.int (nI (f0 + l - 1))), none] [] (mk X t) = some (none, mk X u) ∧ oLay t u ∧ isM (gN u) 6 (brE A (lnO A x y d f0 E l)) ∧ u.1 318 27 = x + nI (f0 + l - 1) * qz_sx d ∧ u.1 318 28 = y + nI (f0 + l - 1) * qz_sy d := by
  have h1 := ok.1
  have h2 := ok.2.1
  obtain ⟨u, ⟨uo, ui, ue⟩, e⟩ := it_up (fun k (u : sT) => rn 102 4 [some (.ref 318), some (.int (nI (A.1 4))), some (.int x), some (.int y), some (.int (nI d)), none, some (.int (nI (f0 + l - 1))), some (.int (nI (f0 + k)))] [] (mk X u)) (fun k u => oLay t u ∧ isM (gN u) 6 (brE A (lnO A x y d f0 E k)) ∧ (1 ≤ k → u.1 318 27 = x + nI (f0 + k - 1) * qz_sx d ∧ u.1 318 28 = y + nI (f0 + k - 1) * qz_sy d)) (Nat.zero_le l) (by
    rintro k u _ hk ⟨uo, ui, ue⟩
    try dsimp only
    have hw : ∃ w : sT, w = su (su u 318 27 (x + nI (f0 + k) * qz_sx d)) 318 28 (y + nI (f0 + k) * qz_sy d) := ⟨_, rfl⟩
    obtain ⟨w, hw⟩ := hw
    have w27 : w.1 318 27 = x + nI (f0 + k) * qz_sx d := by rw [hw, su_1, if_neg (by omega), su_1, if_pos ⟨rfl, rfl⟩]
    have w28 : w.1 318 28 = y + nI (f0 + k) * qz_sy d := by rw [hw, su_1, if_pos ⟨rfl, rfl⟩]
    have wc : ∀ c, c ≠ 318 → w.1 c = u.1 c := fun c hc => funext fun j => by rw [hw, su_1, if_neg (fun z => hc z.1), su_1, if_neg (fun z => hc z.1)]
    have wo : oLay u w := ⟨by rw [hw]; rfl, fun c a _ => wc c a, fun j a b => by rw [hw, su_1, if_neg (fun z => b z.2), su_1, if_neg (fun z => a z.2)], fun j _ => by rw [wc 324 (by decide)]⟩
    have wi : isM (gN w) 6 (brE A (lnO A x y d f0 E k)) := isM_all (fun c p q => wc c (by omega)) ui
    rw [e_M_lays_4, if_neg (nI_nlt (by omega) (by omega)), east_run _ hd4, r1_s, p_M_endX, south_run _ hd4, r1_s, p_M_endY, ← hw, g_M_endX, w27, g_M_endY, w28, ck_M]
    have es : lnO A x y d f0 E (k + 1) = adE A (x + nI (f0 + k) * qz_sx d) (y + nI (f0 + k) * qz_sy d) (lnO A x y d f0 E k) := rfl
    rcases inB_cases ok (x + nI (f0 + k) * qz_sx d) (y + nI (f0 + k) * qz_sy d) with ⟨a, b, ha, hb, ea, eb, ee⟩ | ⟨hn, ee⟩
    · refine ⟨su w 324 (2400 + (20 * b + a)) (w.1 324 (2400 + (20 * b + a)) ||| (nI 1 <<< (nI (A.1 4) &&& 31))), ⟨(uo.tr wo).tr ⟨rfl, fun c a1 a2 => funext fun j => by rw [su_1, if_neg (fun z => a2 z.1)], fun j _ _ => by rw [su_1, if_neg (by omega)], fun j hj => by rw [su_1, if_neg (by omega)]⟩, ?_, fun _ => ⟨?_, ?_⟩⟩, ?_⟩
      · rw [es, ee]; exact isM_sq h12 wi (by omega)
      · rw [su_1, if_neg (by omega)]; exact w27
      · rw [su_1, if_neg (by omega)]; exact w28
      · rw [ea] at w27 ⊢
        rw [eb] at w28 ⊢
        rw [within_y X (B := brE A (lnO A x y d f0 E k)) h1 h2 wi ha hb, r1_s, if_neg (by decide), g_M_bridgeAt, g_M_endX, w27, g_M_endY, w28, M_at_run, r1_s, i_M_bridgeAt (by omega), w_M_bridgeAt (by omega), nI_add]
        rfl
    · refine ⟨w, ⟨uo.tr wo, by rw [es, ee]; exact wi, fun _ => ⟨w27, w28⟩⟩, ?_⟩
      rw [within_n X (B := brE A (lnO A x y d f0 E k)) h1 h2 wi hn, r1_s, if_pos (by decide), nI_add]
      rfl) (x := t) ⟨oLay.rf t, hM, fun z => absurd z (by decide)⟩
  try dsimp only at e
  refine ⟨u, ?_, uo, ui, ue hl⟩
  have e : rn 102 4 [some (.ref 318), some (.int (nI (A.1 4))), some (.int x), some (.int y), some (.int (nI d)), none, some (.int (nI (f0 + l - 1))), some (.int (nI f0))] [] (mk X t) = _ := e
  rw [e_M_lays_0, e, e_M_lays_4, if_pos (nI_lt (by omega) (by omega))]
end BR

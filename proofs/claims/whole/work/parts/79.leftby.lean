/-! what is left by an order: the reference -/
def cvn (P : Nat → shT) (o : Nat → Nat) (n q : Nat) : Nat → Bool
  | 0 => false
  | d + 1 => cvn P o n q d || pnt P (o (n - 1 - d)) q
def sbn (P : Nat → shT) (o : Nat → Nat) (n q : Nat) : Nat → Nat
  | 0 => 0
  | d + 1 => sbn P o n q d + (if lvs P (o (n - 1 - d)) q && !cvn P o n q d then (P (o (n - 1 - d))).2.2.1 q else 0)
theorem leftBy_q (X : qz_X) {u : sT} {G : gsT} (h : Rel u G) {o : Nat → Nat} {n : Nat} (hn : n ≤ 6) (h52 : u.1 318 52 = nI n) (ho : ∀ i, i < n → o i < 6 ∧ G.2.1.1 (o i) = true ∧ u.1 347 i = nI (o i)) (h5 : ∀ q, q < 400 → ∀ b, b < 32 → bt (u.1 349 q) b = (decide (b < 6) && (G.2.1.1 b && pnt G.2.1.2.1 b q))) (h6 : ∀ q, q < 400 → ∀ b, b < 32 → bt (u.1 350 q) b = (decide (b < 6) && (G.2.1.1 b && lvs G.2.1.2.1 b q))) {q : Nat} (hq : q < 400) (a : Nat) : rn 248 4 [some (.ref 318), some (.int (nI a)), some (.int (nI q)), none, none, none] [] (mk X u) = rn 248 4 [some (.ref 318), some (.int (nI (a + sbn G.2.1.2.1 o n q n))), some (.int (nI (q + 1))), none, none, none] [] (mk X u) := by
  have bp : ∀ i, i < n → bt (u.1 349 q) (o i) = pnt G.2.1.2.1 (o i) q := fun i hi => by
    obtain ⟨a1, a2, -⟩ := ho i hi
    rw [h5 q hq _ (by omega), decide_eq_true a1, a2]; rfl
  have bl : ∀ i, i < n → bt (u.1 350 q) (o i) = lvs G.2.1.2.1 (o i) q := fun i hi => by
    obtain ⟨a1, a2, -⟩ := ho i hi
    rw [h6 q hq _ (by omega), decide_eq_true a1, a2]; rfl
  have st : nI n - nI 1 = nI n + (-1) := by
    have : ∀ n, n ≤ 6 → nI n - nI 1 = nI n + (-1) := by decide
    exact this n hn
  rw [e_M_leftBy_4, if_neg (nI_ge hq (by decide)), g_M_toldMany, h52, st]
  by_cases h0 : u.1 350 q = 0
  · have hz : ∀ d, d ≤ n → sbn G.2.1.2.1 o n q d = 0 := by
      intro d
      induction d with
      | zero => intro _; rfl
      | succ d ih =>
        intro hd
        show sbn G.2.1.2.1 o n q d + (if lvs G.2.1.2.1 (o (n - 1 - d)) q && !cvn G.2.1.2.1 o n q d then (G.2.1.2.1 (o (n - 1 - d))).2.2.1 q else 0) = 0
        have := bl (n - 1 - d) (by omega)
        rw [h0, b_0] at this
        rw [ih (by omega), ← this]
        rfl
    rw [hz n (Nat.le_refl _), e_M_leftBy_21]
    by_cases h1 : n = 0
    · subst h1
      rw [if_pos (by decide), nI_add]
      rfl
    · obtain ⟨m, rfl⟩ : ∃ m, n = m + 1 := ⟨n - 1, by omega⟩
      rw [pk_m1, if_neg (nI_pos (by omega)), g_M_leaves, i_M_leaves hq, if_pos h0, nI_add]
      rfl
  · obtain ⟨⟨w, c⟩, ⟨rfl, rfl⟩, e⟩ := it_dn (fun i (x : Int32 × Bool) => rn 248 21 [some (.ref 318), some (.int x.1), some (.int (nI q)), some (.int (if x.2 then nI 1 else nI 0)), some (.int (nI i + (-1))), none] [] (mk X u)) (fun i x => x.1 = nI (a + sbn G.2.1.2.1 o n q (n - i)) ∧ x.2 = cvn G.2.1.2.1 o n q (n - i)) n (by
      rintro i ⟨w, c⟩ hi ⟨hw, hc⟩
      dsimp only at hw hc ⊢
      subst hw hc
      obtain ⟨a1, a2, a3⟩ := ho i hi
      obtain ⟨-, -, -, hM⟩ := tk_P h (show tk G (nI (o i)) (o i) from ⟨a1, rfl, a2⟩)
      have hwo : u.1 323 (400 * o i + q) = nI ((G.2.1.2.1 (o i)).2.2.1 q) := hM.2.2.1 q hq
      have e1 : n - i = (n - (i + 1)) + 1 := by omega
      have e2 : n - 1 - (n - (i + 1)) = i := by omega
      refine ⟨(nI (a + sbn G.2.1.2.1 o n q (n - i)), cvn G.2.1.2.1 o n q (n - i)), ⟨rfl, rfl⟩, ?_⟩
      have s1 : sbn G.2.1.2.1 o n q (n - i) = sbn G.2.1.2.1 o n q (n - (i + 1)) + (if lvs G.2.1.2.1 (o i) q && !cvn G.2.1.2.1 o n q (n - (i + 1)) then (G.2.1.2.1 (o i)).2.2.1 q else 0) := by
        rw [e1]
        show sbn G.2.1.2.1 o n q (n - (i + 1)) + (if lvs G.2.1.2.1 (o (n - 1 - (n - (i + 1)))) q && !cvn G.2.1.2.1 o n q (n - (i + 1)) then (G.2.1.2.1 (o (n - 1 - (n - (i + 1))))).2.2.1 q else 0) = _
        rw [e2]
      have s2 : cvn G.2.1.2.1 o n q (n - i) = (cvn G.2.1.2.1 o n q (n - (i + 1)) || pnt G.2.1.2.1 (o i) q) := by
        rw [e1]
        show (cvn G.2.1.2.1 o n q (n - (i + 1)) || pnt G.2.1.2.1 (o (n - 1 - (n - (i + 1)))) q) = _
        rw [e2]
      rw [s1, s2, pk_m1, e_M_leftBy_21, if_neg (nI_pos (by omega)), g_M_leaves, i_M_leaves hq, if_neg h0, g_M_turn, i_M_turn (by omega), a3, g_M_leaves, i_M_leaves hq, M_has_run _ _ (by omega), r1_s, told_int, bl i hi, told_int]
      cases lvs G.2.1.2.1 (o i) q
      · rw [if_neg (by decide), g_M_paints, i_M_paints hq, M_has_run _ _ (by omega), r1_s, told_int, bp i hi]
        cases pnt G.2.1.2.1 (o i) q
        · rw [if_neg (by decide), Bool.or_false]
          rfl
        · rw [if_pos rfl, Bool.or_true]
          rfl
      · rw [if_pos rfl]
        cases cvn G.2.1.2.1 o n q (n - (i + 1))
        · rw [if_neg (by decide), g_M_worth, pk_mul, nI_add, i_M_worth (by omega), hwo, g_M_paints, i_M_paints hq, M_has_run _ _ (by omega), r1_s, told_int, bp i hi, nI_add, Nat.add_assoc]
          cases pnt G.2.1.2.1 (o i) q
          · rfl
          · rfl
        · rw [if_pos rfl, g_M_paints, i_M_paints hq, M_has_run _ _ (by omega), r1_s, told_int, bp i hi]
          cases pnt G.2.1.2.1 (o i) q
          · rfl
          · rfl) (x := (nI a, false)) ⟨by rw [Nat.sub_self]; rfl, by rw [Nat.sub_self]; rfl⟩
    have e' : rn 248 21 [some (.ref 318), some (.int (nI a)), some (.int (nI q)), some (.int (nI 0)), some (.int (nI n + (-1))), none] [] (mk X u) = rn 248 21 [some (.ref 318), some (.int (nI (a + sbn G.2.1.2.1 o n q n))), some (.int (nI q)), some (.int (if cvn G.2.1.2.1 o n q n then nI 1 else nI 0)), some (.int (nI 0 + (-1))), none] [] (mk X u) := e
    rw [e', e_M_leftBy_21, if_pos (by decide), nI_add]
theorem leftBy_run (X : qz_X) {u : sT} {G : gsT} (h : Rel u G) {o : Nat → Nat} {n : Nat} (hn : n ≤ 6) (h52 : u.1 318 52 = nI n) (ho : ∀ i, i < n → o i < 6 ∧ G.2.1.1 (o i) = true ∧ u.1 347 i = nI (o i)) (h5 : ∀ q, q < 400 → ∀ b, b < 32 → bt (u.1 349 q) b = (decide (b < 6) && (G.2.1.1 b && pnt G.2.1.2.1 b q))) (h6 : ∀ q, q < 400 → ∀ b, b < 32 → bt (u.1 350 q) b = (decide (b < 6) && (G.2.1.1 b && lvs G.2.1.2.1 b q))) : rn 248 0 [some (.ref 318), none, none, none, none, none] [] (mk X u) = some (some (.int (nI (fb_sm (fun q => sbn G.2.1.2.1 o n q n) 400))), mk X u) := by
  obtain ⟨w, rfl, e⟩ := it_up (fun q (w : Int32) => rn 248 4 [some (.ref 318), some (.int w), some (.int (nI q)), none, none, none] [] (mk X u)) (fun q w => w = nI (fb_sm (fun q => sbn G.2.1.2.1 o n q n) q)) (Nat.zero_le 400) (by
    rintro q w _ hq rfl
    exact ⟨_, rfl, leftBy_q X h hn h52 ho h5 h6 hq _⟩) (x := nI 0) rfl
  try dsimp only at e
  rw [e_M_leftBy_0, e, e_M_leftBy_4, if_pos (nI_le (by decide) (by decide))]

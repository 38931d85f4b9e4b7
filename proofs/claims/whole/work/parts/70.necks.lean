/-! necks: counted by the class and by the reference -/
theorem tgn_eq {t a : Nat → Bool} {v : Nat} (hv : v < 400) (h : hB t a v = true) : tgn t a v + 1 + fb_ct (hB (tv t v) a) 400 = fb_ct (hB t a) 400 := by
  have c1 : fb_ct (hB t a) 400 = fb_ct (fun z => (((hB t a z && !decide (z = v)) && !hB (tv t v) a z) || decide (z = v)) || hB (tv t v) a z) 400 := fb_ct_cong (fun z hz => by
    by_cases e : z = v
    · rw [e, h]; simp
    · rw [decide_eq_false e]
      cases h1 : hB (tv t v) a z
      · simp
      · have : hB t a z = true := hB_iff.mpr (hng_up (fun q hq hh => (tv_iff.mp hh).1) (hB_iff.mp h1))
        rw [this]; simp)
  have hv0 : hB (tv t v) a v = false := hB_f (fun hh => by
    have := (tv_iff.mp (hng_t hh).2).2
    exact this rfl)
  have one : fb_ct (fun z => decide (z = v)) 400 = 1 := by
    have := fb_ct_upd (fun _ => false) true hv
    have z : fb_ct (fun _ => false) 400 = 0 := fb_ct_zero.mpr (fun _ _ => rfl)
    rw [z] at this
    have c : fb_ct (fun q => decide (q = v)) 400 = fb_ct (fun k => if k = v then true else (fun _ => false) k) 400 := fb_ct_cong (fun k _ => by
      by_cases h : k = v
      · rw [decide_eq_true h, if_pos h]
      · rw [decide_eq_false h, if_neg h])
    rw [c]
    simp at this ⊢
    omega
  rw [c1, fb_ct_or (fun z _ hh => by
    obtain ⟨h1, h2⟩ := hh
    rw [Bool.or_eq_true] at h1
    rcases h1 with h1 | h1
    · rw [h2] at h1; simp at h1
    · rw [decide_eq_true_eq] at h1
      rw [h1, hv0] at h2
      cases h2), fb_ct_or (fun z _ hh => by
    obtain ⟨h1, h2⟩ := hh
    rw [h2] at h1; simp at h1), one]
  rfl
theorem tgs_le (t a : Nat → Bool) (q : Nat) : tgs t a q ≤ 400 := by
  unfold tgs
  split
  · exact fb_ct_le _ _
  · omega
def gmx (f : Nat → Nat) : Nat → Nat
  | 0 => 0
  | n + 1 => if gmx f n < f n then f n else gmx f n
theorem gmx_le {f : Nat → Nat} {b : Nat} (h : ∀ q, f q ≤ b) : ∀ n, gmx f n ≤ b
  | 0 => Nat.zero_le _
  | n + 1 => by
    show (if gmx f n < f n then f n else gmx f n) ≤ b
    split
    · exact h n
    · exact gmx_le h n
def exq (d : Nat → Bool) (g : Nat → Nat) (q : Nat) : Nat := if d q then 0 else g q
theorem exq_le {d : Nat → Bool} {g : Nat → Nat} {b : Nat} (h : ∀ q, g q ≤ b) : ∀ q, exq d g q ≤ b := fun q => by
  unfold exq
  split
  · exact Nat.zero_le _
  · exact h q
theorem above_run (X : qz_X) {s : sT} {g : Nat → Nat} {d : Nat → Bool} {ex : Int32} (hex : ∀ q, q < 400 → (nI q = ex ↔ d q = true)) (hg : ∀ q, q < 400 → s.1 90 q = nI (g q)) (hgb : ∀ q, g q ≤ 400) {m : Nat} (hm : m < 2 ^ 31) : rn 161 0 [some (.ref 86), some (.int (nI m)), some (.int ex), none, none] [] (mk X s) = some (some (.int (nI (fb_ct (fun q => decide (m < exq d g q)) 400))), mk X s) := by
  obtain ⟨y, hy, eq⟩ := it_up (fun i (v : Int32) => rn 161 5 [some (.ref 86), some (.int (nI m)), some (.int ex), some (.int v), some (.int (nI i))] [] (mk X s)) (fun i v => v = nI (fb_ct (fun q => decide (m < exq d g q)) i)) (Nat.zero_le 400) (by
    rintro i v _ hi rfl
    refine ⟨_, rfl, ?_⟩
    try dsimp only
    rw [e_Hanging_tonguesAbove_5, if_neg (nI_ge hi (by decide)), nI_add, nI_add, fb_ct_succ]
    have hb := hgb i
    unfold exq
    cases hd : d i
    · rw [if_neg (fun z => by rw [hex i hi, hd] at z; cases z), g_H_tongue, i_H_tongue hi, hg i hi, if_neg (show ¬ (false = true) by decide)]
      by_cases h : m < g i
      · rw [if_neg (nI_ge h (by omega)), decide_eq_true h, if_pos rfl]
      · rw [if_pos (nI_le (by omega) (by omega)), decide_eq_false h, if_neg (by decide)]
        try rfl
    · rw [if_pos ((hex i hi).mpr hd), if_pos (show (true = true) from rfl), decide_eq_false (Nat.not_lt_zero m), if_neg (by decide)]
      try rfl) (x := nI 0) rfl
  try dsimp only at eq
  rw [e_Hanging_tonguesAbove_0, eq, e_Hanging_tonguesAbove_5, if_pos (nI_le (by decide) (by decide)), hy]
theorem greatest_run (X : qz_X) {s : sT} {g : Nat → Nat} {d : Nat → Bool} {ex : Int32} (hex : ∀ q, q < 400 → (nI q = ex ↔ d q = true)) (hg : ∀ q, q < 400 → s.1 90 q = nI (g q)) (hgb : ∀ q, g q ≤ 400) : rn 163 0 [some (.ref 86), some (.int ex), none, none] [] (mk X s) = some (some (.int (nI (gmx (exq d g) 400))), mk X s) := by
  obtain ⟨y, hy, eq⟩ := it_up (fun i (v : Int32) => rn 163 4 [some (.ref 86), some (.int ex), some (.int v), some (.int (nI i))] [] (mk X s)) (fun i v => v = nI (gmx (exq d g) i)) (Nat.zero_le 400) (by
    rintro i v _ hi rfl
    refine ⟨_, rfl, ?_⟩
    try dsimp only
    have hb := hgb i
    have hx := gmx_le (exq_le (d := d) hgb) i
    rw [e_Hanging_greatestTongue_4, if_neg (nI_ge hi (by decide)), nI_add]
    show _ = rn 163 4 [some (.ref 86), some (.int ex), some (.int (nI (if gmx (exq d g) i < exq d g i then exq d g i else gmx (exq d g) i))), some (.int (nI (i + 1)))] [] (mk X s)
    cases hd : d i
    · have e1 : exq d g i = g i := by unfold exq; rw [hd]; rfl
      rw [if_neg (fun z => by rw [hex i hi, hd] at z; cases z), g_H_tongue, i_H_tongue hi, hg i hi, e_Math_max_0, e1]
      by_cases h : gmx (exq d g) i < g i
      · rw [if_pos (nI_lt h (by omega)), if_pos h, r1_s]
      · rw [if_neg (nI_nlt (by omega) (by omega)), if_neg h, r1_s]
    · have e1 : exq d g i = 0 := by unfold exq; rw [hd]; rfl
      rw [if_pos ((hex i hi).mpr hd), e1, if_neg (Nat.not_lt_zero _)]) (x := nI 0) rfl
  try dsimp only at eq
  rw [e_Hanging_greatestTongue_0, eq, e_Hanging_greatestTongue_4, if_pos (nI_le (by decide) (by decide)), hy]
def abv (g : Nat → Nat) (v : Int32) (q : Nat) : Bool := decide (0 < g q) && !decide (nI (g q) ≤ v)
theorem necks_run (X : qz_X) {s : sT} {k : Nat} {A : shT} (hk : k < 7) (ok : okA A) (hM : isM (gN s) k A) {t a d : Nat → Bool} {root v : Int32} (ht : ∀ j, j < 400 → s.1 334 j = if t j then nI 1 else nI 0) (hr : (root = -1 ∧ ∀ q, q < 400 → a q = rim A q) ∨ ∃ r, r < 400 ∧ root = nI r ∧ ∀ q, q < 400 → a q = decide (q = r)) (hex : ∀ q, q < 400 → (nI q = root ↔ d q = true)) : ∃ st : sT, rn 165 0 [some (.ref 318), some (.int (nI k)), some (.int root), some (.int v), none, none, none] [] (mk X s) = some (none, mk X st) ∧ st.2 = s.2 ∧ (∀ c, c ∉ [318, 335, 336, 340] → st.1 c = s.1 c) ∧ (∀ j, j ≠ 39 → j ≠ 40 → j ≠ 41 → st.1 318 j = s.1 318 j) ∧ st.1 318 39 = nI (fb_ct (fun q => decide (0 < exq d (tgs t a) q)) 400) ∧ st.1 318 40 = nI (gmx (exq d (tgs t a)) 400) ∧ st.1 318 41 = nI (fb_ct (abv (exq d (tgs t a)) v) 400) := by
  obtain ⟨u0, e0, u2, uc, u335⟩ := M_hanging_run X hk ok hM (d := fun _ => false) (t' := t) (a := a) ht (fun q hq => neg1_lt hq) (fun q _ => by simp) hr
  have cle := fb_ct_le (hB t a) 400
  obtain ⟨u1, ⟨v2, vc, v340⟩, e1⟩ := it_up (fun i (u : sT) => rn 165 12 [some (.ref 318), some (.int (nI k)), some (.int root), some (.int v), some (.int (nI (fb_ct (hB t a) 400))), some (.int (nI i)), none] [] (mk X u)) (fun i u => u.2 = s.2 ∧ (∀ c, c ≠ 340 → u.1 c = u0.1 c) ∧ ∀ j, j < i → u.1 340 j = if hB t a j then nI 1 else nI 0) (Nat.zero_le 400) (by
    rintro i u _ hi ⟨a2, ac, a3⟩
    try dsimp only
    refine ⟨su u 340 i (if hB t a i then nI 1 else nI 0), ⟨a2, fun c hc => ?_, fun j hj => ?_⟩, ?_⟩
    · funext j
      rw [su_1, if_neg (fun z => hc z.1), ac c hc]
    · rw [su_1]
      by_cases e : j = i
      · rw [if_pos ⟨rfl, e⟩, e]
      · rw [if_neg (fun z => e z.2), a3 j (by omega)]
    · rw [e_M_necks_12, if_neg (nI_ge hi (by decide)), g_M_kept, g_M_hangs, i_M_hangs hi, ac 335 (by decide), u335 i hi, w_M_kept hi, nI_add]) (x := u0) ⟨u2, fun _ _ => rfl, fun j hj => absurd hj (Nat.not_lt_zero j)⟩
  try dsimp only at e1
  have hxb := exq_le (d := d) (g := tgs t a) (tgs_le t a)
  obtain ⟨st, ⟨w2, wc, wj, w340, w39, w40, w41⟩, e2⟩ := it_up (fun i (u : sT) => rn 165 58 [some (.ref 318), some (.int (nI k)), some (.int root), some (.int v), some (.int (nI (fb_ct (hB t a) 400))), some (.int (nI i)), none] [] (mk X u)) (fun i u => u.2 = s.2 ∧ (∀ c, c ∉ [318, 335, 336, 340] → u.1 c = s.1 c) ∧ (∀ j, j ≠ 39 → j ≠ 40 → j ≠ 41 → u.1 318 j = s.1 318 j) ∧ (∀ j, j < 400 → u.1 340 j = if hB t a j then nI 1 else nI 0) ∧ u.1 318 39 = nI (fb_ct (fun q => decide (0 < exq d (tgs t a) q)) i) ∧ u.1 318 40 = nI (gmx (exq d (tgs t a)) i) ∧ u.1 318 41 = nI (fb_ct (abv (exq d (tgs t a)) v) i)) (Nat.zero_le 400) (by
    rintro i u _ hi ⟨a2, ac, aj, a340, a39, a40, a41⟩
    try dsimp only
    have none : exq d (tgs t a) i = 0 → (u.1 318 39 = nI (fb_ct (fun q => decide (0 < exq d (tgs t a) q)) (i + 1)) ∧ u.1 318 40 = nI (gmx (exq d (tgs t a)) (i + 1)) ∧ u.1 318 41 = nI (fb_ct (abv (exq d (tgs t a)) v) (i + 1))) := by
      intro z
      refine ⟨?_, ?_, ?_⟩
      · rw [fb_ct_succ, z, decide_eq_false (Nat.lt_irrefl 0), if_neg (by decide), a39, Nat.add_zero]
      · show _ = nI (if gmx (exq d (tgs t a)) i < exq d (tgs t a) i then exq d (tgs t a) i else gmx (exq d (tgs t a)) i)
        rw [z, if_neg (Nat.not_lt_zero _), a40]
      · rw [fb_ct_succ]
        have : abv (exq d (tgs t a)) v i = false := by unfold abv; rw [z]; rfl
        rw [this, if_neg (by decide), a41, Nat.add_zero]
    rw [e_M_necks_58, if_neg (nI_ge hi (by decide)), g_M_kept, i_M_kept hi, a340 i hi, told_int, nI_add]
    cases hb : hB t a i
    · have z : exq d (tgs t a) i = 0 := by unfold exq tgs; rw [hb]; split <;> rfl
      exact ⟨u, ⟨a2, ac, aj, a340, none z⟩, by rw [if_neg (by decide)]⟩
    · rw [if_pos rfl]
      cases hd : d i
      · have hne : ¬ nI i = root := fun z => by rw [hex i hi, hd] at z; cases z
        have hx : exq d (tgs t a) i = tgn t a i := by unfold exq tgs; rw [hd, hb]; rfl
        have htn := tgn_eq hi hb
        have hMu : isM (gN u) k A := isM_of (fun c p q => ac c (by simp; omega)) hM
        obtain ⟨z, f0, f2, fc, -⟩ := M_hanging_run X hk ok hMu (d := fun q => decide (q = i)) (t' := tv t i) (a := a) (root := root) (wo := nI i) (t := t) (fun j hj => by rw [ac 334 (by decide)]; exact ht j hj) (fun q hq => by rw [nI_eq (by omega) (by omega), decide_eq_true_eq]) (fun q _ => rfl) hr
        have zc : ∀ c, c ∉ [318, 335, 336, 340] → z.1 c = s.1 c := fun c hc => by
          have hc2 := hc
          simp only [List.mem_cons, List.not_mem_nil, or_false, not_or] at hc2
          rw [fc c (by omega) (by omega), ac c hc]
        have z318 : z.1 318 = u.1 318 := fc 318 (by decide) (by decide)
        have z340 : z.1 340 = u.1 340 := fc 340 (by decide) (by decide)
        have hval : nI (fb_ct (hB t a) 400) - nI 1 - nI (fb_ct (hB (tv t i) a) 400) = nI (tgn t a i) := by
          rw [pk_sub (by omega), pk_sub (by omega)]
          congr 1
          omega
        have hq : rn 150 0 [some (.ref 318), some (.int (nI k)), some (.int root), some (.int (nI i)), some (.int (nI (fb_ct (hB t a) 400)))] [] (mk X u) = some (some (.int (nI (tgn t a i))), mk X z) := by
          rw [e_M_tongueOf_0, ck_M, f0, r1_s, hval]
        have htl : tgn t a i ≤ 400 := fb_ct_le _ _
        rw [if_neg hne, ck_M, hq, r1_s]
        by_cases h0 : tgn t a i = 0
        · refine ⟨z, ⟨by rw [f2, a2], zc, fun j j1 j2 j3 => by rw [z318, aj j j1 j2 j3], fun j hj => by rw [z340, a340 j hj], ?_⟩, by rw [if_pos (by rw [h0, nI_0])]⟩
          rw [z318]
          exact none (by rw [hx, h0])
        · rw [if_neg (fun z => h0 (by rw [← nI_0, nI_eq (by omega) (by decide)] at z; exact z)), g_M_neckMany, z318, a39, nI_add, p_M_neckMany, g_M_greatest, su_1, if_neg (by omega), z318, a40, e_Math_max_0]
          have s39 : nI (fb_ct (fun q => decide (0 < exq d (tgs t a) q)) i + 1) = nI (fb_ct (fun q => decide (0 < exq d (tgs t a) q)) (i + 1)) := by
            rw [fb_ct_succ, hx, decide_eq_true (by omega), if_pos rfl]
          have gb := gmx_le hxb i
          have s40 : ∀ W : qz_W, (if nI (gmx (exq d (tgs t a)) i) < nI (tgn t a i) then some (some (Value.int (nI (tgn t a i))), W) else some (some (Value.int (nI (gmx (exq d (tgs t a)) i))), W) : Option qz_R) = some (some (.int (nI (gmx (exq d (tgs t a)) (i + 1)))), W) := by
            intro W
            show _ = some (some (Value.int (nI (if gmx (exq d (tgs t a)) i < exq d (tgs t a) i then exq d (tgs t a) i else gmx (exq d (tgs t a)) i))), W)
            rw [hx]
            by_cases h : gmx (exq d (tgs t a)) i < tgn t a i
            · rw [if_pos (nI_lt h (by omega)), if_pos h]
            · rw [if_neg (nI_nlt (by omega) (by omega)), if_neg h]
          have fin : ∀ y : Nat, y = fb_ct (abv (exq d (tgs t a)) v) (i + 1) → (fun u : sT => u.2 = s.2 ∧ (∀ c, c ∉ [318, 335, 336, 340] → u.1 c = s.1 c) ∧ (∀ j, j ≠ 39 → j ≠ 40 → j ≠ 41 → u.1 318 j = s.1 318 j) ∧ (∀ j, j < 400 → u.1 340 j = if hB t a j then nI 1 else nI 0) ∧ u.1 318 39 = nI (fb_ct (fun q => decide (0 < exq d (tgs t a) q)) (i + 1)) ∧ u.1 318 40 = nI (gmx (exq d (tgs t a)) (i + 1)) ∧ u.1 318 41 = nI (fb_ct (abv (exq d (tgs t a)) v) (i + 1))) (su (su (su z 318 39 (nI (fb_ct (fun q => decide (0 < exq d (tgs t a) q)) (i + 1)))) 318 40 (nI (gmx (exq d (tgs t a)) (i + 1)))) 318 41 (nI y)) := by
            intro y hy
            have r : ∀ c j, ¬ (c = 318 ∧ (j = 39 ∨ j = 40 ∨ j = 41)) → (su (su (su z 318 39 (nI (fb_ct (fun q => decide (0 < exq d (tgs t a) q)) (i + 1)))) 318 40 (nI (gmx (exq d (tgs t a)) (i + 1)))) 318 41 (nI y)).1 c j = z.1 c j := fun c j h => by
              rw [su_1, if_neg (by omega), su_1, if_neg (by omega), su_1, if_neg (by omega)]
            refine ⟨by rw [← a2]; exact f2, fun c hc => ?_, fun j j1 j2 j3 => ?_, fun j hj => ?_, ?_, ?_, ?_⟩
            · have hc2 := hc
              simp only [List.mem_cons, List.not_mem_nil, or_false, not_or] at hc2
              funext j
              rw [r c j (by omega), zc c hc]
            · rw [r 318 j (by omega), z318, aj j j1 j2 j3]
            · rw [r 340 j (by omega), z340, a340 j hj]
            · rw [su_1, if_neg (by omega), su_1, if_neg (by omega), su_1, if_pos ⟨rfl, rfl⟩]
            · rw [su_1, if_neg (by omega), su_1, if_pos ⟨rfl, rfl⟩]
            · rw [su_1, if_pos ⟨rfl, rfl⟩, hy]
          have r41 : (su (su z 318 39 (nI (fb_ct (fun q => decide (0 < exq d (tgs t a) q)) (i + 1)))) 318 40 (nI (gmx (exq d (tgs t a)) (i + 1)))).1 318 41 = nI (fb_ct (abv (exq d (tgs t a)) v) i) := by
            rw [su_1, if_neg (by omega), su_1, if_neg (by omega), z318, a41]
          rw [s40, r1_s, s39, p_M_greatest, g_M_aboveMany, r41]
          by_cases hv : nI (tgn t a i) ≤ v
          · refine ⟨_, fin (fb_ct (abv (exq d (tgs t a)) v) i) ?_, ?_⟩
            · rw [fb_ct_succ]
              have : abv (exq d (tgs t a)) v i = false := by unfold abv; rw [hx, decide_eq_true hv]; simp
              rw [this, if_neg (by decide), Nat.add_zero]
            · rw [if_pos hv, e_M_unit_0, if_pos (by decide), r1_s, nI_add, p_M_aboveMany]
              rfl
          · refine ⟨_, fin (fb_ct (abv (exq d (tgs t a)) v) i + 1) ?_, ?_⟩
            · rw [fb_ct_succ]
              have : abv (exq d (tgs t a)) v i = true := by unfold abv; rw [hx, decide_eq_false hv, decide_eq_true (show 0 < tgn t a i by omega)]; rfl
              rw [this, if_pos rfl]
            · rw [if_neg hv, e_M_unit_0, if_neg (by decide), r1_s, nI_add, p_M_aboveMany]
      · have z : exq d (tgs t a) i = 0 := by unfold exq; rw [hd]; rfl
        exact ⟨u, ⟨a2, ac, aj, a340, none z⟩, by rw [if_pos ((hex i hi).mpr hd)]⟩) (x := su (su (su u1 318 39 (nI 0)) 318 40 (nI 0)) 318 41 (nI 0)) (by
    have r : ∀ c j, ¬ (c = 318 ∧ (j = 39 ∨ j = 40 ∨ j = 41)) → (su (su (su u1 318 39 (nI 0)) 318 40 (nI 0)) 318 41 (nI 0)).1 c j = u1.1 c j := fun c j h => by
      rw [su_1, if_neg (by omega), su_1, if_neg (by omega), su_1, if_neg (by omega)]
    refine ⟨v2, fun c hc => ?_, fun j j1 j2 j3 => ?_, fun j hj => ?_, ?_, ?_, ?_⟩
    · have hc2 := hc
      simp only [List.mem_cons, List.not_mem_nil, or_false, not_or] at hc2
      funext j
      rw [r c j (by omega), vc c (by omega), uc c (by omega) (by omega)]
    · rw [r 318 j (by omega), vc 318 (by decide), uc 318 (by decide) (by decide)]
    · rw [r 340 j (by omega), v340 j hj]
    · rw [su_1, if_neg (by omega), su_1, if_neg (by omega), su_1, if_pos ⟨rfl, rfl⟩]; rfl
    · rw [su_1, if_neg (by omega), su_1, if_pos ⟨rfl, rfl⟩]; rfl
    · rw [su_1, if_pos ⟨rfl, rfl⟩]; rfl)
  try dsimp only at e2
  refine ⟨st, ?_, w2, wc, wj, w39, w40, w41⟩
  rw [e_M_necks_0, ck_M, e0, r1_s, e1, e_M_necks_12, if_pos (nI_le (by decide) (by decide)), p_M_neckMany, p_M_greatest, p_M_aboveMany, e2, e_M_necks_58, if_pos (nI_le (by decide) (by decide))]

/-! joining: prices, beginnings, merging -/
theorem setPrices_run (X : qz_X) {s : sT} {q : Nat} {A : shT} (hq : isS q) (ok : okA A) (hC : isC s q A) (bw : Bool) : ∃ z : sT, rn 189 0 [some (.ref 103), some (.ref q), some (.int (bI bw)), none, none, none, none] [] (mk X s) = some (none, mk X z) ∧ z.2 = s.2 ∧ (∀ c, c ∉ [105, 106] → z.1 c = s.1 c) ∧ pcS z A bw := by
  have o1 := ok.1
  have o2 := ok.2.1
  have sg := isS_gap q hq
  have hCc : ∀ u : sT, (∀ c, c ∉ [105, 106] → u.1 c = s.1 c) → isC u q A := fun u hu => isC_cong (fun i hi => hu _ (by simp; omega)) hC
  obtain ⟨u, ⟨u2, uc, ut⟩, e1⟩ := it_up (fun y (u : sT) => rn 189 19 [some (.ref 103), some (.ref q), some (.int (bI bw)), some (.int (nI y)), none, none, none] [] (mk X u)) (fun y u => u.2 = s.2 ∧ (∀ c, c ∉ [105] → u.1 c = s.1 c) ∧ ∀ v, v < 401 → u.1 105 v = if v = 400 then nI 0 else if ins A v && prg y 0 v then nI (prJ A bw v) else -1) (Nat.zero_le (A.1 1)) (by
    rintro y u _ hy ⟨u2, uc, ut⟩
    try dsimp only
    obtain ⟨z, ⟨z2, zc, zt⟩, ez⟩ := it_up (fun x (u : sT) => rn 189 30 [some (.ref 103), some (.ref q), some (.int (bI bw)), some (.int (nI y)), some (.int (nI x)), none, none] [] (mk X u)) (fun x u => u.2 = s.2 ∧ (∀ c, c ∉ [105] → u.1 c = s.1 c) ∧ ∀ v, v < 401 → u.1 105 v = if v = 400 then nI 0 else if ins A v && prg y x v then nI (prJ A bw v) else -1) (Nat.zero_le (A.1 0)) (by
      rintro x u _ hx ⟨u2, uc, ut⟩
      try dsimp only
      have hCu : isC u q A := hCc u (fun c hc => uc c (by simp only [List.mem_cons, List.not_mem_nil, or_false, not_or] at hc ⊢; omega))
      have hq4 : 20 * y + x < 400 := by omega
      have hin : ins A (20 * y + x) = true := ins_iff.mpr ⟨by omega, by omega⟩
      have nx : ∀ w : Int32, w = nI (prJ A bw (20 * y + x)) → ∃ z : sT, (z.2 = s.2 ∧ (∀ c, c ∉ [105] → z.1 c = s.1 c) ∧ ∀ v, v < 401 → z.1 105 v = if v = 400 then nI 0 else if ins A v && prg y (x + 1) v then nI (prJ A bw v) else -1) ∧ rn 189 30 [some (.ref 103), some (.ref q), some (.int (bI bw)), some (.int (nI y)), some (.int (nI (x + 1))), none, none] [] (mk X (su u 105 (20 * y + x) w)) = rn 189 30 [some (.ref 103), some (.ref q), some (.int (bI bw)), some (.int (nI y)), some (.int (nI (x + 1))), none, none] [] (mk X z) := by
        rintro w rfl
        refine ⟨su u 105 (20 * y + x) (nI (prJ A bw (20 * y + x))), ⟨u2, fun c hc => ?_, fun v hv => ?_⟩, rfl⟩
        · have hc2 := hc
          simp only [List.mem_cons, List.not_mem_nil, or_false] at hc2
          funext j
          rw [su_1, if_neg (fun e => hc2 e.1), uc c hc]
        · rw [su_1]
          by_cases e : v = 20 * y + x
          · have hp1 : prg y (x + 1) v = true := by
              unfold prg
              rw [decide_eq_true (show v / 20 = y by omega), decide_eq_true (show v % 20 < x + 1 by omega)]
              simp
            rw [if_pos ⟨rfl, e⟩, if_neg (by omega), hp1, e, hin, Bool.true_and, if_pos rfl]
          · rw [if_neg (fun z => e z.2), ut v hv]
            have hp1 : prg y (x + 1) v = prg y x v := by
              unfold prg
              by_cases h1 : v / 20 < y
              · rw [decide_eq_true h1]; rfl
              · by_cases h2 : v / 20 = y
                · rw [decide_eq_true h2]
                  by_cases h3 : v % 20 < x
                  · rw [decide_eq_true h3, decide_eq_true (show v % 20 < x + 1 by omega)]
                  · rw [decide_eq_false h3, decide_eq_false (show ¬ v % 20 < x + 1 by omega)]
                · rw [decide_eq_false h2]; simp
            rw [hp1]
      have hth : bt (u.1 (q + 1) y) x = A.2.1 (20 * y + x) := by
        rw [hCu.2.1 y (by omega) x (by omega), decide_eq_true (show x < 20 by omega), Bool.true_and]
      have hwo : u.1 (q + 2) (20 * y + x) = nI (A.2.2.1 (20 * y + x)) := hCu.2.2.1 _ hq4
      have pv : prJ A bw (20 * y + x) = if A.2.1 (20 * y + x) then (if bw then A.2.2.1 (20 * y + x) else 1) else 0 := by
        unfold prJ
        rw [if_neg (by omega)]
      rw [e_Joining_setPrices_30, g_S_wide hq, hCu.1.1, if_neg (nI_ge hx (by omega)), nI_add]
      cases bw
      · rw [if_pos (by decide), g_J_price, g_S_through hq, i_S_through hq (by omega), ydx]
        cases ht : A.2.1 (20 * y + x)
        · rw [if_pos ((b_selz _ (by omega)).mpr (by rw [hth, ht])), w_J_price (by omega)]
          exact nx _ (by rw [pv, ht]; rfl)
        · rw [if_neg (fun z => by rw [b_selz _ (by omega), hth, ht] at z; cases z), w_J_price (by omega)]
          exact nx _ (by rw [pv, ht]; rfl)
      · rw [if_neg (by decide), g_S_worth hq, ydx, i_S_worth hq (by omega), hwo, g_J_price, g_S_through hq, i_S_through hq (by omega)]
        cases ht : A.2.1 (20 * y + x)
        · rw [if_pos ((b_selz _ (by omega)).mpr (by rw [hth, ht])), w_J_price (by omega)]
          exact nx _ (by rw [pv, ht]; rfl)
        · rw [if_neg (fun z => by rw [b_selz _ (by omega), hth, ht] at z; cases z), w_J_price (by omega)]
          exact nx _ (by rw [pv, ht]; rfl)) (x := u) ⟨u2, uc, ut⟩
    try dsimp only at ez
    have hCu : isC u q A := hCc u (fun c hc => uc c (by simp only [List.mem_cons, List.not_mem_nil, or_false, not_or] at hc ⊢; omega))
    have hCz : isC z q A := hCc z (fun c hc => zc c (by simp only [List.mem_cons, List.not_mem_nil, or_false, not_or] at hc ⊢; omega))
    refine ⟨z, ⟨z2, zc, fun v hv => ?_⟩, ?_⟩
    · rw [zt v hv]
      have : (ins A v && prg y (A.1 0) v) = (ins A v && prg (y + 1) 0 v) := by
        cases hi : ins A v
        · rfl
        · have hi2 := ins_iff.mp hi
          unfold prg
          by_cases h1 : v / 20 < y
          · rw [decide_eq_true h1, decide_eq_true (show v / 20 < y + 1 by omega)]; rfl
          · by_cases h2 : v / 20 = y
            · rw [decide_eq_false h1, decide_eq_true h2, decide_eq_true hi2.1, decide_eq_true (show v / 20 < y + 1 by omega)]; rfl
            · rw [decide_eq_false h1, decide_eq_false h2, decide_eq_false (show ¬ v / 20 < y + 1 by omega)]; simp
      rw [this]
    · rw [e_Joining_setPrices_19, g_S_high hq, hCu.1.2.1, if_neg (nI_ge hy (by omega)), ez, e_Joining_setPrices_30, g_S_wide hq, hCz.1.1, if_pos (nI_le (Nat.le_refl _) (by omega)), nI_add]) (x := su (sa s 105 (fun j => if j < 401 then -1 else s.1 105 j)) 105 400 (nI 0)) ⟨rfl, fun c hc => by
      simp only [List.mem_cons, List.not_mem_nil, or_false] at hc
      funext j
      rw [su_1, if_neg (fun e => hc e.1), sa_1, if_neg hc], fun v hv => by
      have hp0 : prg 0 0 v = false := by unfold prg; simp
      rw [su_1]
      by_cases e : v = 400
      · rw [if_pos ⟨rfl, e⟩, if_pos e]
      · rw [if_neg (fun z => e z.2), sa_1, if_pos rfl, if_pos hv, if_neg e, hp0, Bool.and_false, if_neg (by decide)]⟩
  try dsimp only at e1
  obtain ⟨z, ⟨z2, zc, zr⟩, e2⟩ := it_up (fun y (z : sT) => rn 189 106 [some (.ref 103), some (.ref q), none, some (.int (nI y)), none, none, none] [] (mk X z)) (fun y z => z.2 = s.2 ∧ (∀ c, c ≠ 106 → z.1 c = u.1 c) ∧ ∀ y', y' < y → ∀ x, x < 32 → bt (z.1 106 y') x = (decide (x < 20) && rim A (20 * y' + x))) (Nat.zero_le 20) (by
    rintro y z _ hy ⟨z2, zc, zr⟩
    try dsimp only
    have hCz : isC z q A := hCc z (fun c hc => by
      simp only [List.mem_cons, List.not_mem_nil, or_false, not_or] at hc
      rw [zc c hc.2, uc c (by simp; omega)])
    obtain ⟨r, er, br⟩ := rimRow_run X hq ok hCz hy
    refine ⟨su z 106 y r, ⟨z2, fun c hc => ?_, fun y' hy' x hx => ?_⟩, ?_⟩
    · funext j
      rw [su_1, if_neg (fun e => hc e.1), zc c hc]
    · rw [su_1]
      by_cases e : y' = y
      · rw [if_pos ⟨rfl, e⟩, e, br x hx]
      · rw [if_neg (fun z => e z.2), zr y' (by omega) x hx]
    · rw [e_Joining_setPrices_106, if_neg (nI_ge hy (by decide)), g_J_rim, ck_S hq, er, r1_s, w_J_rim hy, nI_add]) (x := u) ⟨u2, fun _ _ => rfl, fun y' hy' => absurd hy' (Nat.not_lt_zero y')⟩
  try dsimp only at e2
  have hCu : isC u q A := hCc u (fun c hc => uc c (by simp only [List.mem_cons, List.not_mem_nil, or_false, not_or] at hc ⊢; omega))
  refine ⟨z, ?_, z2, fun c hc => ?_, ⟨zr, fun v hv => ?_⟩⟩
  · rw [e_Joining_setPrices_0, g_J_price, fill_run X s 105 401 (-1) rfl (by decide) (by decide), r0_s, g_J_price, w_J_price (by decide), e1, e_Joining_setPrices_19, g_S_high hq, hCu.1.2.1, if_pos (nI_le (Nat.le_refl _) (by omega)), e2, e_Joining_setPrices_106, if_pos (nI_le (by decide) (by decide))]
  · simp only [List.mem_cons, List.not_mem_nil, or_false, not_or] at hc
    rw [zc c hc.2, uc c (by simp; omega)]
  · rw [zc 105 (by decide), ut v hv]
    have : (ins A v && prg (A.1 1) 0 v) = ins A v := by
      cases hi : ins A v
      · rfl
      · have hi2 := ins_iff.mp hi
        unfold prg
        rw [decide_eq_true hi2.2]; rfl
    rw [this]
noncomputable def bgF (t : Nat → Bool) (S v : Nat) : Nat := if v = 400 then 1000000 else if t v && decide (S = 2 ^ pnq t v) then 0 else 1000000
theorem begin_run (X : qz_X) {s : sT} {A : shT} {t : Nat → Bool} (hP : Pcs s t) (h7 : np t 400 ≤ 7) {S : Nat} (hS : S < 128) : ∃ z : sT, rn 190 0 [some (.ref 103), some (.int (nI S)), some (.ref 96), none, none, none] [] (mk X s) = some (none, mk X z) ∧ jcF S s z ∧ cvS z A S (bgF t S) := by
  have h97 : ∀ j, j < 400 → s.1 97 j = if t j then nI (pnq t j) else -1 := fun j hj => by rw [hP.2.1 j hj, pO_at hj]
  obtain ⟨u, ⟨hu, ut⟩, e⟩ := it_up (fun v (u : sT) => rn 190 9 [some (.ref 103), some (.int (nI S)), some (.ref 96), some (.int (nI (S * 401))), some (.int (nI v)), none] [] (mk X u)) (fun v u => jcF S s u ∧ ∀ w, w < v → u.1 104 (S * 401 + w) = nI (bgF t S w)) (Nat.zero_le 400) (by
    rintro v u _ hv ⟨hu, ut⟩
    try dsimp only
    have nx : ∀ x : Int32, x = nI (bgF t S v) → ∃ z : sT, (jcF S s z ∧ ∀ w, w < v + 1 → z.1 104 (S * 401 + w) = nI (bgF t S w)) ∧ rn 190 9 [some (.ref 103), some (.int (nI S)), some (.ref 96), some (.int (nI (S * 401))), some (.int (nI (v + 1))), none] [] (mk X (su u 104 (S * 401 + v) x)) = rn 190 9 [some (.ref 103), some (.int (nI S)), some (.ref 96), some (.int (nI (S * 401))), some (.int (nI (v + 1))), none] [] (mk X z) := by
      rintro x rfl
      refine ⟨su u 104 (S * 401 + v) (nI (bgF t S v)), ⟨hu.tr (jcF_su (by omega)), fun w hw => ?_⟩, rfl⟩
      rw [su_1]
      by_cases e : w = v
      · rw [if_pos ⟨rfl, by rw [e]⟩, e]
      · rw [if_neg (fun z => e (by omega)), ut w (by omega)]
    rw [e_Joining_begin_9, if_neg (nI_ge hv (by decide)), g_P_partOf, i_P_partOf hv, hu.2.1 97 (by decide), h97 v hv, g_J_cost, nI_add, nI_add]
    cases ht : t v
    · rw [if_neg (show ¬ (false = true) by decide), if_pos rfl, w_J_cost (by omega)]
      exact nx _ (by unfold bgF; rw [if_neg (by omega), ht]; rfl)
    · have hl := pnq_lt hv ht
      have hp : 2 ^ pnq t v < 2 ^ 7 := Nat.pow_lt_pow_right (by decide) (by omega)
      rw [if_pos (show true = true from rfl), if_neg (nI_m1 (by omega)), pk_shlN (n := 1) _ (pnq t v) (s_l _ (by omega)) (by rw [Nat.one_mul]; omega), Nat.one_mul]
      by_cases e : S = 2 ^ pnq t v
      · rw [if_pos (by rw [e]), w_J_cost (by omega)]
        exact nx _ (by unfold bgF; rw [if_neg (by omega), ht, decide_eq_true e]; rfl)
      · rw [if_neg (fun z => e ((nI_eq (by omega) (by omega)).mp z)), w_J_cost (by omega)]
        exact nx _ (by unfold bgF; rw [if_neg (by omega), ht, decide_eq_false e]; rfl)) (x := s) ⟨jcF.rf S s, fun w hw => absurd hw (Nat.not_lt_zero w)⟩
  try dsimp only at e
  refine ⟨su u 104 (S * 401 + 400) (nI 1000000), ?_, hu.tr (jcF_su (by decide)), fun v hv => ?_⟩
  · rw [e_Joining_begin_0, pk_mul, e, e_Joining_begin_9, if_pos (nI_le (by decide) (by decide)), g_J_cost, nI_add, w_J_cost (by omega)]
  · rw [su_1]
    rcases hv with rfl | ⟨hv, -⟩
    · rw [if_pos ⟨rfl, rfl⟩]; rfl
    · rw [if_neg (by omega), ut v hv]
def mgF (A : shT) (bw : Bool) (f g h : Nat → Nat) (v : Nat) : Nat := if g v + h v - prJ A bw v < f v then g v + h v - prJ A bw v else f v
def mgI (A : shT) (bw : Bool) (f g h : Nat → Nat) (v w : Nat) : Nat := if w < v then mgF A bw f g h w else f w
theorem mgI_i {A : shT} {bw : Bool} {f g h : Nat → Nat} {v w : Nat} (c : w < v) : mgI A bw f g h v w = mgF A bw f g h w := if_pos c
theorem mgI_o {A : shT} {bw : Bool} {f g h : Nat → Nat} {v w : Nat} (c : ¬ w < v) : mgI A bw f g h v w = f w := if_neg c
theorem merge_run (X : qz_X) {s : sT} {A : shT} (ok : okA A) {bw : Bool} {S P : Nat} (hS : S < 128) (hP : P < S) (hQ : S ^^^ P < S) (hp : pcS s A bw) {f g h : Nat → Nat} (hf : cvS s A S f) (hg : cvS s A P g) (hh : cvS s A (S ^^^ P) h) (bf : ∀ w, ndJ A w → f w ≤ 1000000) (bg : ∀ w, ndJ A w → g w ≤ 1000000 ∧ prJ A bw w ≤ g w) (bh : ∀ w, ndJ A w → h w ≤ 1000000) : ∃ z : sT, rn 191 0 [some (.ref 103), some (.int (nI S)), some (.int (nI P)), none, none, none, none, none] [] (mk X s) = some (none, mk X z) ∧ jcF S s z ∧ cvS z A S (mgF A bw f g h) := by
  obtain ⟨u, ⟨hu, ut⟩, e⟩ := it_up (fun v (u : sT) => rn 191 25 [some (.ref 103), none, none, some (.int (nI (S * 401))), some (.int (nI (P * 401))), some (.int (nI ((S ^^^ P) * 401))), some (.int (nI v)), none] [] (mk X u)) (fun v u => jcF S s u ∧ cvS u A S (mgI A bw f g h v)) (Nat.zero_le 401) (by
    rintro v u _ hv ⟨hu, ut⟩
    try dsimp only
    have hpu := pcS_f hu hp
    rw [e_Joining_merge_25, if_neg (nI_ge hv (by decide)), g_J_price, i_J_price hv, nI_add]
    rcases Classical.em (ndJ A v) with hn | hn
    · have hpv : u.1 105 v = nI (prJ A bw v) := by
        rw [hpu.2 v hv]
        rcases hn with rfl | ⟨h1, h2⟩
        · unfold prJ; rw [if_pos rfl, if_pos rfl]
        · rw [if_neg (by omega), if_pos h2]
      have pl := prJ_le ok bw (show v ≤ 400 by omega)
      obtain ⟨b1, b2⟩ := bg v hn
      have b3 := bh v hn
      have b4 := bf v hn
      have vg : u.1 104 (P * 401 + v) = nI (g v) := by rw [hu.2.2 _ (by omega)]; exact hg v hn
      have vh : u.1 104 ((S ^^^ P) * 401 + v) = nI (h v) := by rw [hu.2.2 _ (by omega)]; exact hh v hn
      have vf : u.1 104 (S * 401 + v) = nI (f v) := by
        have := ut v hn
        rw [this, mgI_o (Nat.lt_irrefl v)]
      refine ⟨su u 104 (S * 401 + v) (nI (mgF A bw f g h v)), ⟨hu.tr (jcF_su hv), fun w hw => ?_⟩, ?_⟩
      · rw [su_1]
        by_cases e : w = v
        · rw [if_pos ⟨rfl, by rw [e]⟩, mgI_i (by omega), e]
        · rw [if_neg (fun z => e (by omega)), ut w hw]
          by_cases c : w < v
          · rw [mgI_i c, mgI_i (by omega)]
          · rw [mgI_o c, mgI_o (by omega)]
      · rw [hpv, if_neg (nI_m1 (by omega)), g_J_cost, nI_add, i_J_cost (by omega), vg, g_J_cost, nI_add, i_J_cost (by omega), vh, g_J_price, i_J_price hv, hpv, g_J_cost, g_J_cost, nI_add, i_J_cost (by omega), vf, nI_add, pk_sub (by omega), min_run _ (by omega) (by omega), r1_s, w_J_cost (by omega)]
        rfl
    · have hpv : u.1 105 v = -1 := by
        rw [hpu.2 v hv, if_neg (fun e => hn (Or.inl e)), if_neg (fun e => hn (Or.inr ⟨by have : v ≠ 400 := fun z => hn (Or.inl z); omega, e⟩))]
      rw [hpv, if_pos rfl]
      refine ⟨u, ⟨hu, fun w hw => ?_⟩, rfl⟩
      have : w ≠ v := fun e => hn (by rw [← e]; exact hw)
      rw [ut w hw]
      by_cases c : w < v
      · rw [mgI_i c, mgI_i (by omega)]
      · rw [mgI_o c, mgI_o (by omega)]) (x := s) ⟨jcF.rf S s, fun w hw => by rw [mgI_o (Nat.not_lt_zero w)]; exact hf w hw⟩
  try dsimp only at e
  refine ⟨u, ?_, hu, fun w hw => by rw [ut w hw, mgI_i (ndJ_lt hw)]⟩
  rw [e_Joining_merge_0, pk_mul, pk_mul, fb_xorI, pk_mul, e, e_Joining_merge_25, if_pos (nI_le (by decide) (by decide))]
/-- what the tables hold of the sets below S -/
def CpS (A : shT) (bw : Bool) (t : Nat → Bool) (M : Nat) (C : Nat → Nat → Nat) (S : Nat) : Prop := (∀ a b v, a ≠ 0 → b ≠ 0 → dj a b → a ||| b < S → ndJ A v → C (a ||| b) v + prJ A bw v ≤ C a v + C b v) ∧ (∀ a p v, a ≠ 0 → a < S → nbJ A p v → C a v ≤ C a p + prJ A bw v) ∧ (∀ a q, a ≠ 0 → a < S → q < 400 → t q = true → a = 2 ^ pnq t q → C a q = 0) ∧ (∀ a v, a ≠ 0 → a < S → ndJ A v → C a v ≤ 1000000 ∧ prJ A bw v ≤ C a v) ∧ ∀ J R, Jp M (ins A) (rim A) (prJ A bw) J R → (∀ q, q < 400 → t q = true → J (2 ^ pnq t q) q = 0) → ∀ a, a ≠ 0 → a < S → (∀ v, v < 400 → ins A v = true → Pq M (prJ A bw) J R a v (C a v)) ∧ R a ≤ C a 400
theorem fal0 {A : shT} {q : Nat} (hq : q < 400) (h : fal A (nI 0) q = true) : ins A q = true ∧ A.2.1 q = false := by
  unfold fal at h
  rw [Bool.and_eq_true] at h
  have h1 := h.1
  unfold tin at h1
  rw [Bool.and_eq_true, Bool.or_eq_true] at h1
  refine ⟨h1.1, ?_⟩
  rcases h1.2 with g | g
  · cases hh : A.2.1 q
    · rfl
    · rw [hh] at g; cases g
  · unfold brs at g
    rw [List.any_eq_true] at g
    obtain ⟨b, -, hb⟩ := g
    rw [b_n0, Bool.false_and] at hb
    cases hb

/-! which set of bridges: both -/
noncomputable def hgB (A : shT) (T : Nat) : Bool := decide (fb_ct (fal A (nI T)) 400 = 0)
noncomputable def twB (A : shT) (T : Nat) : Nat → Bool
  | 0 => true
  | b + 1 => twB A T b && (!T.testBit b || hgB A (T ^^^ 2 ^ b))
theorem twB_no {A : shT} {T j : Nat} (h : twB A T j = false) : ∀ d, twB A T (j + d) = false
  | 0 => h
  | d + 1 => by
    show (twB A T (j + d) && _) = false
    rw [twB_no h d]; rfl
theorem twB_out {A : shT} {T j : Nat} (h : ∀ b, j ≤ b → T.testBit b = false) : ∀ d, twB A T (j + d) = twB A T j
  | 0 => rfl
  | d + 1 => by
    show (twB A T (j + d) && (!T.testBit (j + d) || hgB A (T ^^^ 2 ^ (j + d)))) = _
    rw [twB_out h d, h _ (by omega)]
    simp
def popN (T : Nat) : Nat := fb_ct (fun i => T.testBit i) 32
theorem popN_le (T : Nat) : popN T ≤ 32 := fb_ct_le _ _
noncomputable def goodB (A : shT) (tw : Bool) (T : Nat) : Bool := hgB A T && (!tw || twB A T 12)
noncomputable def betB (A : shT) (cv : Nat → Bool) (T b : Nat) : Bool := decide (SEEN A cv (nI T) < SEEN A cv (nI b)) || (decide (SEEN A cv (nI T) = SEEN A cv (nI b)) && decide (popN T < popN b))
noncomputable def bstB (A : shT) (cv : Nat → Bool) (tw : Bool) : Nat → Option Nat
  | 0 => none
  | T + 1 => if goodB A tw T && (match bstB A cv tw T with
      | none => true
      | some b => betB A cv T b) then some T else bstB A cv tw T
theorem bstB_lt {A : shT} {cv : Nat → Bool} {tw : Bool} : ∀ n b, bstB A cv tw n = some b → b < n
  | 0, b, h => by cases h
  | n + 1, b, h => by
    have h : (if goodB A tw n && (match bstB A cv tw n with
      | none => true
      | some b => betB A cv n b) then some n else bstB A cv tw n) = some b := h
    by_cases hc : (goodB A tw n && (match bstB A cv tw n with
      | none => true
      | some b => betB A cv n b)) = true
    · rw [if_pos hc] at h
      have := Option.some.inj h
      omega
    · rw [if_neg hc] at h
      have := bstB_lt n b h
      omega
theorem bst_none {A : shT} {cv : Nat → Bool} {tw : Bool} {T : Nat} (h : bstB A cv tw T = none) : bstB A cv tw (T + 1) = if goodB A tw T then some T else none := by
  show (if goodB A tw T && (match bstB A cv tw T with
      | none => true
      | some b => betB A cv T b) then some T else bstB A cv tw T) = _
  rw [h]
  cases goodB A tw T <;> rfl
theorem bst_some {A : shT} {cv : Nat → Bool} {tw : Bool} {T b : Nat} (h : bstB A cv tw T = some b) : bstB A cv tw (T + 1) = if goodB A tw T && betB A cv T b then some T else some b := by
  show (if goodB A tw T && (match bstB A cv tw T with
      | none => true
      | some b => betB A cv T b) then some T else bstB A cv tw T) = _
  rw [h]
theorem lt_tb {x y i : Nat} (hx : x.testBit i = false) (hy : y.testBit i = true) (h : ∀ j, i < j → x.testBit j = y.testBit j) : x < y := by
  have e : x / 2 ^ (i + 1) = y / 2 ^ (i + 1) := by
    apply Nat.eq_of_testBit_eq
    intro j
    rw [Nat.testBit_div_two_pow, Nat.testBit_div_two_pow]
    exact h _ (by omega)
  rw [Nat.testBit_eq_decide_div_mod_eq] at hx hy
  have hx' := of_decide_eq_false hx
  have hy' := of_decide_eq_true hy
  have e1 : x / 2 ^ i / 2 = y / 2 ^ i / 2 := by
    rw [Nat.div_div_eq_div_mul, Nat.div_div_eq_div_mul, ← Nat.pow_succ]
    exact e
  rcases Nat.lt_or_ge x y with g | g
  · exact g
  · have := Nat.div_le_div_right (c := 2 ^ i) g
    omega
def oI : Option Nat → Int32
  | none => -1
  | some b => nI b
theorem fal_SEEN_le {A : shT} (ok : okA A) (cv : Nat → Bool) (v : Int32) : SEEN A cv v ≤ 39600 := sqs_le ok (sqn A cv v)
/-- the state of the choosing: what was found of sets so far -/
def chI (A : shT) (s u : sT) : Prop := u.2 = s.2 ∧ (∀ c, c ∉ [87, 88, 89, 109] → u.1 c = s.1 c) ∧ ∀ T, T < 4096 → u.1 109 T = nI 0 ∨ u.1 109 T = nI (if hgB A T then 1 else 2)
theorem isC_ch {s u : sT} {q : Nat} {A A' : shT} (hq : isS q) (h : chI A' s u) (hC : isC s q A) : isC u q A := by
  have h1 := isS_gap q hq
  have h2 := isS_lt q hq
  refine isC_cong (fun i hi => h.2.1 _ ?_) hC
  simp only [List.mem_cons, List.not_mem_nil, or_false, not_or]
  omega
theorem allHangs_run (X : qz_X) {s u : sT} {q : Nat} {A : shT} (hq : isS q) (ok : okA A) (hC : isC s q A) (hu : chI A s u) {T : Nat} (hT : T < 4096) : ∃ z : sT, rn 209 0 [some (.ref 107), some (.int (nI T)), some (.ref q), some (.ref 86)] [] (mk X u) = some (some (.int (bI (hgB A T))), mk X z) ∧ chI A s z := by
  have hCu := isC_ch hq hu hC
  have hu2 := hu
  obtain ⟨u2, uc, ut⟩ := hu2
  have done : ∀ z : sT, z.1 109 T = nI (if hgB A T then 1 else 2) → (if z.1 109 T = nI 1 then some (some (Value.int (nI 1)), mk X z) else some (some (Value.int (nI 0)), mk X z)) = some (some (.int (bI (hgB A T))), mk X z) := by
    intro z hz
    rw [hz]
    cases hgB A T
    · rw [if_neg (by decide)]; rfl
    · rw [if_pos (by decide)]; rfl
  rw [e_Choosing_allHangs_0, g_O_state, i_O_state hT]
  by_cases h0 : u.1 109 T = 0
  · obtain ⟨t1, a1, a2, a3, a4⟩ := C_fall_run X hq ok hCu (nI T)
    have hle := fb_ct_le (fal A (nI T)) 400
    have fin : ∀ v : Int32, v = nI (if hgB A T then 1 else 2) → chI A s (su t1 109 T v) ∧ (su t1 109 T v).1 109 T = nI (if hgB A T then 1 else 2) := by
      rintro v rfl
      refine ⟨⟨by rw [su_2, a3, u2], fun c hc => ?_, fun T' hT' => ?_⟩, by rw [su_1, if_pos ⟨rfl, rfl⟩]⟩
      · have hc2 := hc
        simp only [List.mem_cons, List.not_mem_nil, or_false, not_or] at hc2
        funext j
        rw [su_1, if_neg (fun z => hc2.2.2.2 z.1), a4 c (by simp; omega), uc c hc]
      · rw [su_1]
        by_cases e : T' = T
        · rw [if_pos ⟨rfl, e⟩, e]; exact Or.inr rfl
        · rw [if_neg (fun z => e z.2), a4 109 (by decide)]; exact ut T' hT'
    rw [if_pos h0, ck_H, a1, r0_s, g_O_state, ck_H, a2, r1_s]
    cases hg : hgB A T
    · have hne : ¬ fb_ct (fal A (nI T)) 400 = 0 := of_decide_eq_false hg
      obtain ⟨f1, f2⟩ := fin (nI 2) (by rw [hg]; rfl)
      refine ⟨su t1 109 T (nI 2), ?_, f1⟩
      rw [if_neg (nI_ne0 (by omega) (by omega)), w_O_state hT, g_O_state, i_O_state hT, done _ f2, hg]
    · have he : fb_ct (fal A (nI T)) 400 = 0 := of_decide_eq_true hg
      obtain ⟨f1, f2⟩ := fin (nI 1) (by rw [hg]; rfl)
      refine ⟨su t1 109 T (nI 1), ?_, f1⟩
      rw [he, if_pos nI_0, w_O_state hT, g_O_state, i_O_state hT, done _ f2, hg]
  · refine ⟨u, ?_, hu⟩
    rw [if_neg h0, g_O_state, i_O_state hT]
    rcases ut T hT with h | h
    · exact absurd (by rw [h, nI_0]) h0
    · exact done u h
theorem holds_run (X : qz_X) {s u : sT} {q : Nat} {A : shT} (hq : isS q) (ok : okA A) (hC : isC s q A) (hu : chI A s u) {T : Nat} (hT : T < 2 ^ A.1 4) (tw : Bool) : ∃ z : sT, rn 210 0 [some (.ref 107), some (.int (nI T)), some (.ref q), some (.ref 86), some (.int (bI tw)), none] [] (mk X u) = some (some (.int (bI (goodB A tw T))), mk X z) ∧ chI A s z := by
  have o5 := ok.2.2.2.2.1
  have hp := pow_12 o5
  obtain ⟨z0, e0, hz0⟩ := allHangs_run X hq ok hC hu (T := T) (by omega)
  rw [e_Choosing_holds_0, ck_O, e0, r1_s]
  unfold goodB
  cases hg : hgB A T
  · exact ⟨z0, by rw [if_pos (by decide)]; rfl, hz0⟩
  · rw [if_neg (by decide)]
    cases tw
    · exact ⟨z0, by rw [e_Choosing_holds_15, if_pos (by decide)]; rfl, hz0⟩
    · have hout : twB A T 12 = twB A T (A.1 4) := by
        have := twB_out (A := A) (T := T) (j := A.1 4) (fun b hb => Nat.testBit_lt_two_pow (Nat.lt_of_lt_of_le hT (Nat.pow_le_pow_right (by decide) hb))) (12 - A.1 4)
        rw [show A.1 4 + (12 - A.1 4) = 12 by omega] at this
        exact this
      have hnum : ∀ z : sT, chI A s z → z.1 (q + 3) 0 = nI (A.1 4) := fun z hz => (isC_ch hq hz hC).1.2.2.2.2.1
      rcases it_ex (fun b (z : sT) => rn 210 15 [some (.ref 107), some (.int (nI T)), some (.ref q), some (.ref 86), some (.int (bI true)), some (.int (nI b))] [] (mk X z)) (fun b z => chI A s z ∧ twB A T b = true) (fun o => ∃ z : sT, o = some (some (.int (nI 0)), mk X z) ∧ chI A s z ∧ twB A T (A.1 4) = false) (Nat.zero_le (A.1 4)) (by
        rintro b z _ hb ⟨hz, htw⟩
        try dsimp only
        have hts : twB A T (b + 1) = (!T.testBit b || hgB A (T ^^^ 2 ^ b)) := by
          show (twB A T b && _) = _
          rw [htw, Bool.true_and]
        rw [e_Choosing_holds_15, if_neg (by decide), g_S_bridges hq, g_B_number hq, hnum z hz, if_neg (nI_ge hb (by omega)), nI_add]
        cases hbb : T.testBit b
        · rw [if_pos ((b_selz _ (by omega)).mpr (by rw [bt_nat (by omega), hbb]))]
          exact Or.inl ⟨z, ⟨hz, by rw [hts, hbb]; rfl⟩, rfl⟩
        · have hx : T ^^^ 2 ^ b < 2 ^ A.1 4 := Nat.xor_lt_two_pow hT (Nat.pow_lt_pow_right (by decide) hb)
          have e1 : nI T ^^^ (nI 1 <<< (nI b &&& 31)) = nI (T ^^^ 2 ^ b) := by
            rw [pk_shlN (n := 1) _ b (s_l b (by omega)) (by rw [Nat.one_mul]; exact Nat.pow_lt_pow_right (by decide) (by omega)), Nat.one_mul, fb_xorI]
          obtain ⟨z1, ez1, hz1⟩ := allHangs_run X hq ok hC hz (T := T ^^^ 2 ^ b) (by omega)
          rw [if_neg (fun z => by rw [b_selz _ (by omega), bt_nat (by omega), hbb] at z; cases z), ck_O, e1, ez1, r1_s]
          cases hg2 : hgB A (T ^^^ 2 ^ b)
          · refine Or.inr ⟨z1, by rw [if_pos (by decide)], hz1, ?_⟩
            have := twB_no (A := A) (T := T) (j := b + 1) (by rw [hts, hbb, hg2]; rfl) (A.1 4 - (b + 1))
            rw [show b + 1 + (A.1 4 - (b + 1)) = A.1 4 by omega] at this
            exact this
          · rw [if_neg (by decide)]
            exact Or.inl ⟨z1, ⟨hz1, by rw [hts, hbb, hg2]; rfl⟩, rfl⟩) (x := z0) ⟨hz0, rfl⟩ with ⟨z, ⟨hz, htw⟩, e⟩ | ⟨z, e, hz, htw⟩
      · try dsimp only at e
        refine ⟨z, ?_, hz⟩
        rw [e, e_Choosing_holds_15, if_neg (by decide), g_S_bridges hq, g_B_number hq, hnum z hz, if_pos (nI_le (Nat.le_refl _) (by omega)), hout, htw]
        rfl
      · try dsimp only at e
        refine ⟨z, ?_, hz⟩
        rw [e, hout, htw]
        rfl
theorem isBetter_run (X : qz_X) {s : sT} {A : shT} (ok : okA A) {cv : Nat → Bool} (h107 : s.1 107 2 = nI (2 ^ A.1 4 - 1)) (h108 : ∀ T, T < 2 ^ A.1 4 → s.1 108 T = nI (sqs A (mtb A cv (A.1 4) T))) {T b : Nat} (hT : T < 2 ^ A.1 4) (hb : b < 2 ^ A.1 4) : rn 208 0 [some (.ref 107), some (.int (nI T)), some (.int (nI b)), none, none] [] (mk X s) = some (some (.int (bI (betB A cv T b))), mk X s) := by
  have o5 := ok.2.2.2.2.1
  have hp := pow_12 o5
  have l1 := fal_SEEN_le ok cv (nI T)
  have l2 := fal_SEEN_le ok cv (nI b)
  have p1 := popN_le T
  have p2 := popN_le b
  have hpop : ∀ n, n < 4096 → fb_ct (fun i => bt (nI n) i) 32 = popN n := fun n hn => fb_ct_cong (fun i _ => bt_nat (by omega))
  rw [e_Choosing_isBetter_0, ck_O, seenBy_run X ok h107 h108 hT, r1_s, ck_O, seenBy_run X ok h107 h108 hb, r1_s]
  unfold betB
  by_cases h1 : SEEN A cv (nI T) < SEEN A cv (nI b)
  · rw [if_pos (nI_lt h1 (by omega)), decide_eq_true h1]
    rfl
  · rw [if_neg (nI_nlt (by omega) (by omega)), decide_eq_false h1]
    by_cases h2 : SEEN A cv (nI T) = SEEN A cv (nI b)
    · rw [if_pos (by rw [h2]), decide_eq_true h2, pop_run, r1_s, pop_run, r1_s, hpop T (by omega), hpop b (by omega)]
      by_cases h3 : popN T < popN b
      · rw [if_neg (nI_ge h3 (by omega)), decide_eq_true h3]; rfl
      · rw [if_pos (nI_le (by omega) (by omega)), decide_eq_false h3]; rfl
    · rw [if_neg (fun z => h2 ((nI_eq (by omega) (by omega)).mp z)), decide_eq_false h2]
      rfl
theorem choose0 (v0 : Nat) (v1 : Nat) (nv : Value) (hnv : nv = .null ∨ ∃ p, nv = .ref p) (v3 : Nat) (v4 : Int32) (w : qz_W) : rn 211 0 [some (.ref v0), some (.ref v1), some nv, some (.ref v3), some (.int v4), none, none] [] w = qz_ga w.1 v1 8 9 (fun q1 => qz_gi w.1 q1 0 0 (fun x2 => qz_pf w v0 1 2 (.int (((nI 1) <<< (x2 &&& 31)) - (nI 1))) (fun w3 => qz_ck w3.1 v0 1 (qz_r0 (rn 206 0 [some (.ref v0), some (.ref v1), some nv, none, none] [] w3) (fun w4 => qz_ga w4.1 v0 1 1 (fun q5 => qz_r0 (rn 31 0 [some (.ref q5), some (.int (nI 0)), none, none] [] w4) (fun w6 => rn 211 35 [some (.ref v0), some (.ref v1), none, some (.ref v3), some (.int v4), some (.int (-1)), some (.int (nI 0))] [] w6))))))) := by
  rcases hnv with rfl | ⟨p, rfl⟩
  · rw [e_Choosing_chooseN_0]
  · rw [e_Choosing_chooseR_0]
theorem one_n : ∀ t, t < 13 → (nI 1 <<< (nI t &&& 31)) - nI 1 = nI (2 ^ t - 1) := by decide
theorem choose_run (X : qz_X) {s : sT} {q : Nat} {A : shT} (hq : isS q) (ok : okA A) (hC : isC s q A) {nv : Value} {cv : Nat → Bool} (hn : nxt s nv cv) (tw : Bool) : ∃ z : sT, rn 211 0 [some (.ref 107), some (.ref q), some nv, some (.ref 86), some (.int (bI tw)), none, none] [] (mk X s) = some (some (.int (oI (bstB A cv tw (2 ^ A.1 4)))), mk X z) ∧ z.2 = s.2 ∧ (∀ c, c ∉ [87, 88, 89, 107, 108, 109] → z.1 c = s.1 c) ∧ z.1 107 2 = nI (2 ^ A.1 4 - 1) ∧ ∀ T, T < 2 ^ A.1 4 → z.1 108 T = nI (sqs A (mtb A cv (A.1 4) T)) := by
  have o5 := ok.2.2.2.2.1
  have hp := pow_12 o5
  have hp0 := Nat.two_pow_pos (A.1 4)
  have sg := isS_gap q hq
  have slt := isS_lt q hq
  have hnv : nv = .null ∨ ∃ p, nv = .ref p := by
    rcases hn with ⟨h, -⟩ | ⟨p, -, h, -⟩
    · exact Or.inl h
    · exact Or.inr ⟨p, h⟩
  have c1 : ∀ c, c ≠ 107 → (su s 107 2 (nI (2 ^ A.1 4 - 1))).1 c = s.1 c := fun c hc => by
    funext j
    rw [su_1, if_neg (fun z => hc z.1)]
  have hC1 : isC (su s 107 2 (nI (2 ^ A.1 4 - 1))) q A := isC_cong (fun i hi => c1 _ (by omega)) hC
  have hn1 : nxt (su s 107 2 (nI (2 ^ A.1 4 - 1))) nv cv := nxt_cong (fun p A2 hp h2 => isC_cong (fun i hi => c1 _ (by have := isS_gap p hp; have := isS_lt p hp; omega)) h2) hn
  obtain ⟨u, e1, u2, uc, ut⟩ := weigh_run X hq ok hC1 hn1 (by rw [su_1, if_pos ⟨rfl, rfl⟩])
  have u107 : u.1 107 2 = nI (2 ^ A.1 4 - 1) := by rw [uc 107 (by decide), su_1, if_pos ⟨rfl, rfl⟩]
  have hC2 : isC (sa u 109 (fun j => if j < 4096 then nI 0 else u.1 109 j)) q A := isC_cong (fun i hi => by rw [sa_1, if_neg (by omega), uc _ (by omega)]) hC1
  have hz0 : chI A (sa u 109 (fun j => if j < 4096 then nI 0 else u.1 109 j)) (sa u 109 (fun j => if j < 4096 then nI 0 else u.1 109 j)) := ⟨rfl, fun _ _ => rfl, fun T hT => Or.inl (by rw [sa_1, if_pos rfl, if_pos hT])⟩
  have c107 : ∀ z, chI A (sa u 109 (fun j => if j < 4096 then nI 0 else u.1 109 j)) z → z.1 107 2 = nI (2 ^ A.1 4 - 1) := fun z hz => by rw [hz.2.1 107 (by decide), sa_1, if_neg (by decide)]; exact u107
  have c108 : ∀ z, chI A (sa u 109 (fun j => if j < 4096 then nI 0 else u.1 109 j)) z → ∀ T, T < 2 ^ A.1 4 → z.1 108 T = nI (sqs A (mtb A cv (A.1 4) T)) := fun z hz T hT => by rw [hz.2.1 108 (by decide), sa_1, if_neg (by decide)]; exact ut T hT
  obtain ⟨⟨z, r⟩, ⟨hz, hr⟩, e2⟩ := it_up (fun T (x : sT × Int32) => rn 211 35 [some (.ref 107), some (.ref q), none, some (.ref 86), some (.int (bI tw)), some (.int x.2), some (.int (nI T))] [] (mk X x.1)) (fun T x => chI A (sa u 109 (fun j => if j < 4096 then nI 0 else u.1 109 j)) x.1 ∧ x.2 = oI (bstB A cv tw T)) (Nat.zero_le (2 ^ A.1 4)) (by
    rintro T ⟨z, r⟩ _ hT ⟨hz, hr⟩
    dsimp only at hz hr ⊢
    subst hr
    rw [e_Choosing_chooseN_35, g_O_all, c107 z hz, if_neg (nI_nlt (by omega) (by omega)), nI_add]
    obtain ⟨z1, ez1, hz1⟩ := holds_run X hq ok hC2 hz hT tw
    cases hb : bstB A cv tw T with
    | none =>
      have hs := bst_none hb
      rw [if_pos (show oI none = -1 from rfl), ck_O, ez1, r1_s]
      cases hg : goodB A tw T
      · rw [hg, if_neg (by decide)] at hs
        rw [if_pos (by decide)]
        exact ⟨(z1, oI none), ⟨hz1, by rw [hs]⟩, rfl⟩
      · rw [hg, if_pos rfl] at hs
        rw [if_neg (by decide)]
        exact ⟨(z1, nI T), ⟨hz1, by rw [hs]; rfl⟩, rfl⟩
    | some b =>
      have hs := bst_some hb
      have hbT := bstB_lt T b hb
      rw [if_neg (show ¬ oI (some b) = -1 from nI_m1 (by omega)), ck_O]
      rw [show oI (some b) = nI b from rfl, isBetter_run X ok (c107 z hz) (c108 z hz) hT (show b < 2 ^ A.1 4 by omega), r1_s]
      by_cases hbt : betB A cv T b = true
      · rw [hbt, Bool.and_true] at hs
        rw [hbt, if_neg (show ¬ bI true = 0 by decide), ck_O, ez1, r1_s]
        cases hg : goodB A tw T
        · rw [hg, if_neg (by decide)] at hs
          rw [if_pos (by decide)]
          exact ⟨(z1, nI b), ⟨hz1, by rw [hs]; rfl⟩, rfl⟩
        · rw [hg, if_pos rfl] at hs
          rw [if_neg (by decide)]
          exact ⟨(z1, nI T), ⟨hz1, by rw [hs]; rfl⟩, rfl⟩
      · have hbt : betB A cv T b = false := by
          cases hh : betB A cv T b
          · rfl
          · exact absurd hh hbt
        rw [hbt, Bool.and_false, if_neg (by decide)] at hs
        rw [hbt, if_pos (show bI false = 0 by decide)]
        exact ⟨(z, nI b), ⟨hz, by rw [hs]; rfl⟩, rfl⟩) (x := (sa u 109 (fun j => if j < 4096 then nI 0 else u.1 109 j), -1)) ⟨hz0, rfl⟩
  dsimp only at hz hr e2
  refine ⟨z, ?_, by rw [hz.1, sa_2, u2, su_2], fun c hc => ?_, c107 z hz, c108 z hz⟩
  · rw [choose0 _ _ _ hnv, g_S_bridges hq, g_B_number hq, hC.1.2.2.2.2.1, one_n _ (by omega), p_O_all, ck_O, e1, r0_s, g_O_state, fill_run X u 109 4096 (nI 0) rfl (by decide) (by decide), r0_s, e2, e_Choosing_chooseN_35, g_O_all, c107 z hz, if_pos (nI_lt (by omega) (by omega)), hr]
  · simp only [List.mem_cons, List.not_mem_nil, or_false, not_or] at hc
    rw [hz.2.1 c (by simp; omega), sa_1, if_neg (by omega), uc c (by omega), c1 c (by omega)]
/-! the reference -/
theorem bits_loop (w : qz_W) : ∀ k n a, n < 2 ^ k → k ≤ 31 → rn 199 4 [none, some (.int (nI a)), some (.int (nI n))] [] w = some (some (.int (nI (a + fb_ct (fun i => n.testBit i) k))), w)
  | 0, n, a, h, _ => by
    have : n = 0 := by simpa using h
    subst this
    rw [e_M_bits_4, if_pos (by decide)]
    rfl
  | k + 1, n, a, h, hk => by
    have hn : n < 2 ^ 31 := Nat.lt_of_lt_of_le h (Nat.pow_le_pow_right (by decide) hk)
    rw [e_M_bits_4]
    by_cases h0 : n = 0
    · subst h0
      rw [if_pos (by decide), fb_ct_zero.mpr (fun i _ => Nat.zero_testBit i)]
      rfl
    · rw [if_neg (nI_nle (by omega) hn)]
      have e1 : nI n &&& nI 1 = nI (n % 2) := fa_mask n 1
      have e2 : nI n >>> (nI 1 &&& 31) = nI (n / 2) := by
        rw [pk_shrN hn _ 1 (s_l 1 (by decide))]
      rw [e1, e2, nI_add, bits_loop w k (n / 2) (a + n % 2) (by rw [Nat.pow_succ] at h; omega) (by omega), show k + 1 = 1 + k by omega, fb_ct_split]
      have e3 : fb_ct (fun i => n.testBit i) 1 = n % 2 := by
        show 0 + (if n.testBit 0 then 1 else 0) = n % 2
        rw [Nat.testBit_zero]
        rcases (show n % 2 = 0 ∨ n % 2 = 1 by omega) with g | g <;> rw [g] <;> rfl
      have e4 : fb_ct (fun i => n.testBit (1 + i)) k = fb_ct (fun i => (n / 2).testBit i) k := fb_ct_cong (fun i _ => by rw [Nat.add_comm, Nat.testBit_succ])
      rw [e3, e4, Nat.add_assoc]
theorem M_bits_run (w : qz_W) {n : Nat} (h : n < 2 ^ 31) : rn 199 0 [some (.int (nI n)), none, none] [] w = some (some (.int (nI (popN n))), w) := by
  rw [e_M_bits_0, bits_loop w 31 n 0 h (Nat.le_refl _), Nat.zero_add]
  have : popN n = fb_ct (fun i => n.testBit i) 31 := by
    show fb_ct (fun i => n.testBit i) 31 + (if n.testBit 31 then 1 else 0) = _
    rw [Nat.testBit_lt_two_pow h]
    rfl
  rw [this]
theorem M_all_run (X : qz_X) {s : sT} {k : Nat} {A : shT} (hk : k < 7) (ok : okA A) (hM : isM (gN s) k A) : rn 213 0 [some (.ref 318), some (.int (nI k))] [] (mk X s) = some (some (.int (nI (2 ^ A.1 4 - 1))), mk X s) := by
  have o5 := ok.2.2.2.2.1
  rw [e_M_all_0, g_M_about, pk_mul, nI_add, i_M_about (by omega), ab_at hM (by decide), one_n _ (by omega)]
theorem M_twice_run (X : qz_X) {s : sT} {A : shT} {T : Nat} (hT : T < 4096) (h342 : ∀ T', T' ≤ T → s.1 342 T' = bI (hgB A T')) : rn 214 0 [some (.ref 318), some (.int (nI T)), none, none] [] (mk X s) = some (some (.int (bI (twB A T 12))), mk X s) := by
  obtain ⟨v, rfl, e⟩ := it_up (fun b (v : Int32) => rn 214 4 [some (.ref 318), some (.int (nI T)), some (.int v), some (.int (nI b))] [] (mk X s)) (fun b v => v = bI (twB A T b)) (Nat.zero_le 12) (by
    rintro b v _ hb rfl
    try dsimp only
    refine ⟨_, rfl, ?_⟩
    have hs : twB A T (b + 1) = (twB A T b && (!T.testBit b || hgB A (T ^^^ 2 ^ b))) := rfl
    rw [e_M_isTwice_4, if_neg (nI_ge hb (by decide)), nI_add, hs]
    cases twB A T b
    · rw [if_pos (by decide)]; rfl
    · rw [if_neg (by decide), M_has_run _ _ (by omega), r1_s, told_int, bt_nat (by omega), Bool.true_and]
      cases hbb : T.testBit b
      · rw [if_neg (by decide)]; rfl
      · have e1 : nI T &&& ((nI 1 <<< (nI b &&& 31)) ^^^ (-1)) = nI (T ^^^ 2 ^ b) := by
          apply b_ext
          intro i hi
          rw [b_and, b_not _ hi, b_one b (by omega) i hi, bt_nat (by omega), bt_nat (Nat.lt_of_lt_of_le (Nat.xor_lt_two_pow (show T < 2 ^ 12 from hT) (Nat.pow_lt_pow_right (by decide) hb)) (by decide)), flip_bit]
          by_cases e : i = b
          · rw [e, hbb, decide_eq_true rfl]; rfl
          · rw [decide_eq_false e]; simp
        have hle : T ^^^ 2 ^ b ≤ T := by
          have h1 : T ^^^ 2 ^ b < T := lt_tb (i := b) (by rw [flip_bit, decide_eq_true rfl, hbb]; rfl) hbb (fun j hj => by rw [flip_bit, decide_eq_false (by omega), Bool.xor_false])
          omega
        rw [if_pos rfl, g_M_doesHang, e1, i_M_doesHang (by omega), h342 _ hle]
        show (if (if hgB A (T ^^^ 2 ^ b) then nI 1 else nI 0 : Int32) = nI 1 then _ else _) = _
        rw [told_one]
        cases hgB A (T ^^^ 2 ^ b) <;> rfl) (x := nI 1) rfl
  try dsimp only at e
  rw [e_M_isTwice_0, e, e_M_isTwice_4, if_pos (by decide)]
  cases twB A T 12 <;> rfl
theorem M_choice_loop (X : qz_X) {s : sT} {G : gsT} (h : Rel s G) {k : Nat} (hk : tk G (nI k) k) (tw : Bool) (v3 : Int32) : ∃ z : sT, rn 215 28 [some (.ref 318), some (.int (nI k)), some (.int (bI tw)), some (.int v3), some (.int (-1)), some (.int (nI 0)), some (.int (nI 0)), none] [] (mk X s) = (match bstB (G.2.1.2.1 k) (covG G k) tw (2 ^ (G.2.1.2.1 k).1 4) with
    | none => some (some (.int (-1)), mk X z)
    | some b => if v3 = 0 then some (some (.int (nI b)), mk X z) else if v3 = nI 1 then some (some (.int (nI (SEEN (G.2.1.2.1 k) (covG G k) (nI b)))), mk X z) else some (some (.int (nI (popN b))), mk X z)) ∧ fr s z := by
  obtain ⟨hS, ok, hC, hM⟩ := tk_P h hk
  have hk6 := hk.1
  have o5 := ok.2.2.2.2.1
  have hp := pow_12 o5
  have hp0 := Nat.two_pow_pos ((G.2.1.2.1 k).1 4)
  obtain ⟨A, hA⟩ : ∃ A, G.2.1.2.1 k = A := ⟨_, rfl⟩
  rw [hA] at ok hM o5 hp hp0 ⊢
  have hMu : ∀ u : sT, (∀ c, c ∉ [334, 335, 336, 342] → u.1 c = s.1 c) → isM (gN u) k A := fun u hu => isM_of (fun c p q => hu c (by simp; omega)) hM
  have fru : ∀ u : sT, u.2 = s.2 → (∀ c, c ∉ [334, 335, 336, 342] → u.1 c = s.1 c) → fr s u := fun u a b => fr_of [334, 335, 336, 342] (by rw [a]) b (by decide)
  obtain ⟨⟨z, rb, rl⟩, ⟨z2, zc, zh, hrb, hrl⟩, e⟩ := it_up (fun T (x : sT × Int32 × Int32) => rn 215 28 [some (.ref 318), some (.int (nI k)), some (.int (bI tw)), some (.int v3), some (.int x.2.1), some (.int x.2.2), some (.int (nI T)), none] [] (mk X x.1)) (fun T x => x.1.2 = s.2 ∧ (∀ c, c ∉ [334, 335, 336, 342] → x.1.1 c = s.1 c) ∧ (∀ T', T' < T → x.1.1 342 T' = bI (hgB A T')) ∧ x.2.1 = oI (bstB A (covG G k) tw T) ∧ ∀ b, bstB A (covG G k) tw T = some b → x.2.2 = nI (SEEN A (covG G k) (nI b))) (Nat.zero_le (2 ^ A.1 4)) (by
    rintro T ⟨y, rb, rl⟩ _ hT ⟨y2, yc, yh, hrb, hrl⟩
    dsimp only at y2 yc yh hrb hrl ⊢
    subst hrb
    have hs : bstB A (covG G k) tw (T + 1) = if goodB A tw T && (match bstB A (covG G k) tw T with
      | none => true
      | some b => betB A (covG G k) T b) then some T else bstB A (covG G k) tw T := rfl
    obtain ⟨u, e1, u2, uc⟩ := M_allHang_run X (show k < 7 by omega) ok (hMu y yc) (nI T)
    have hgd : bI (decide (fb_ct (fal A (nI T)) 400 = 0)) = bI (hgB A T) := rfl
    rw [hgd] at e1
    have w2 : (su u 342 T (bI (hgB A T))).2 = s.2 := by rw [su_2, u2, y2]
    have wc : ∀ c, c ∉ [334, 335, 336, 342] → (su u 342 T (bI (hgB A T))).1 c = s.1 c := fun c hc => by
      have hc2 := hc
      simp only [List.mem_cons, List.not_mem_nil, or_false, not_or] at hc2
      funext j
      rw [su_1, if_neg (fun z => hc2.2.2.2 z.1), uc c (by simp; omega), yc c hc]
    have wh : ∀ T', T' ≤ T → (su u 342 T (bI (hgB A T))).1 342 T' = bI (hgB A T') := fun T' hT' => by
      rw [su_1]
      by_cases e : T' = T
      · rw [if_pos ⟨rfl, e⟩, e]
      · rw [if_neg (fun z => e z.2), uc 342 (by decide)]
        exact yh T' (by omega)
    have hu1 : rn 104 0 [some (.int (bI (hgB A T)))] [] (mk X u) = some (some (.int (bI (hgB A T))), mk X u) := M_unit_run _ _
    have h342 : (su u 342 T (bI (hgB A T))).1 342 T = bI (hgB A T) := wh T (Nat.le_refl T)
    -- what is taken
    have take : rn 215 81 [some (.ref 318), some (.int (nI k)), some (.int (bI tw)), some (.int v3), some (.int (oI (bstB A (covG G k) tw T))), some (.int rl), some (.int (nI T)), none] [] (mk X (su u 342 T (bI (hgB A T)))) = (if (match bstB A (covG G k) tw T with
      | none => true
      | some b => betB A (covG G k) T b) then rn 215 28 [some (.ref 318), some (.int (nI k)), some (.int (bI tw)), some (.int v3), some (.int (nI T)), some (.int (nI (SEEN A (covG G k) (nI T)))), some (.int (nI (T + 1))), none] [] (mk X (su u 342 T (bI (hgB A T)))) else rn 215 28 [some (.ref 318), some (.int (nI k)), some (.int (bI tw)), some (.int v3), some (.int (oI (bstB A (covG G k) tw T))), some (.int rl), some (.int (nI (T + 1))), none] [] (mk X (su u 342 T (bI (hgB A T))))) := by
      have hR := h.fr (fru _ w2 wc)
      have es := M_seen_run X (show k < 7 by omega) ok (hMu _ wc) (cv := covG G k) (fun x y hx hy => cut_run X hR hk6 x y hx hy) (nI T)
      have l1 := fal_SEEN_le ok (covG G k) (nI T)
      rw [e_M_choice_81, ck_M, es, r1_s, nI_add]
      cases hb : bstB A (covG G k) tw T with
      | none => rw [if_pos (show oI none = -1 from rfl)]; rfl
      | some b =>
        have hbT := bstB_lt T b hb
        have l2 := fal_SEEN_le ok (covG G k) (nI b)
        have p1 := popN_le T
        have p2 := popN_le b
        rw [if_neg (show ¬ oI (some b) = -1 from nI_m1 (by omega)), hrl b hb]
        show _ = if betB A (covG G k) T b then _ else _
        unfold betB
        by_cases h1 : SEEN A (covG G k) (nI b) < SEEN A (covG G k) (nI T)
        · rw [if_pos (nI_lt h1 (by omega)), decide_eq_false (by omega), decide_eq_false (by omega)]
          rfl
        · rw [if_neg (nI_nlt (by omega) (by omega))]
          by_cases h2 : SEEN A (covG G k) (nI T) = SEEN A (covG G k) (nI b)
          · rw [if_pos (by rw [h2]), M_bits_run _ (by omega), r1_s, show oI (some b) = nI b from rfl, M_bits_run _ (by omega), r1_s, decide_eq_false (show ¬ SEEN A (covG G k) (nI T) < SEEN A (covG G k) (nI b) by omega), decide_eq_true h2]
            by_cases h3 : popN T < popN b
            · rw [if_pos (nI_lt h3 (by omega)), decide_eq_true h3]; rfl
            · rw [if_neg (nI_nlt (by omega) (by omega)), decide_eq_false h3]; rfl
          · rw [if_neg (fun z => h2 ((nI_eq (by omega) (by omega)).mp z)), decide_eq_true (show SEEN A (covG G k) (nI T) < SEEN A (covG G k) (nI b) by omega)]
            rfl
    have skip : goodB A tw T = false → ∃ y' : sT × Int32 × Int32, (y'.1.2 = s.2 ∧ (∀ c, c ∉ [334, 335, 336, 342] → y'.1.1 c = s.1 c) ∧ (∀ T', T' < T + 1 → y'.1.1 342 T' = bI (hgB A T')) ∧ y'.2.1 = oI (bstB A (covG G k) tw (T + 1)) ∧ ∀ b, bstB A (covG G k) tw (T + 1) = some b → y'.2.2 = nI (SEEN A (covG G k) (nI b))) ∧ rn 215 28 [some (.ref 318), some (.int (nI k)), some (.int (bI tw)), some (.int v3), some (.int (oI (bstB A (covG G k) tw T))), some (.int rl), some (.int (nI (T + 1))), none] [] (mk X (su u 342 T (bI (hgB A T)))) = rn 215 28 [some (.ref 318), some (.int (nI k)), some (.int (bI tw)), some (.int v3), some (.int y'.2.1), some (.int y'.2.2), some (.int (nI (T + 1))), none] [] (mk X y'.1) := by
      intro hg
      rw [hg, Bool.false_and, if_neg (by decide)] at hs
      exact ⟨(su u 342 T (bI (hgB A T)), oI (bstB A (covG G k) tw T), rl), ⟨w2, wc, fun T' hT' => wh T' (by omega), by rw [hs], fun b hb => hrl b (by rw [← hs]; exact hb)⟩, rfl⟩
    rw [e_M_choice_28, ck_M, M_all_run X (show k < 7 by omega) ok (hMu y yc), r1_s, if_neg (nI_nlt (by omega) (by omega)), g_M_doesHang, ck_M, e1, r1_s, hu1, r1_s, w_M_doesHang (by omega), g_M_doesHang, i_M_doesHang (by omega), h342]
    show ∃ y', _ ∧ (if (if hgB A T then nI 1 else nI 0 : Int32) = 0 then _ else _) = _
    rw [told_int, nI_add]
    cases hg : hgB A T
    · rw [hg] at skip
      rw [if_neg (by decide)]
      exact skip (by unfold goodB; rw [hg]; rfl)
    · rw [hg] at skip take w2 wc wh
      rw [if_pos rfl]
      have tk2 : goodB A tw T = true → ∃ y' : sT × Int32 × Int32, (y'.1.2 = s.2 ∧ (∀ c, c ∉ [334, 335, 336, 342] → y'.1.1 c = s.1 c) ∧ (∀ T', T' < T + 1 → y'.1.1 342 T' = bI (hgB A T')) ∧ y'.2.1 = oI (bstB A (covG G k) tw (T + 1)) ∧ ∀ b, bstB A (covG G k) tw (T + 1) = some b → y'.2.2 = nI (SEEN A (covG G k) (nI b))) ∧ rn 215 81 [some (.ref 318), some (.int (nI k)), some (.int (bI tw)), some (.int v3), some (.int (oI (bstB A (covG G k) tw T))), some (.int rl), some (.int (nI T)), none] [] (mk X (su u 342 T (bI true))) = rn 215 28 [some (.ref 318), some (.int (nI k)), some (.int (bI tw)), some (.int v3), some (.int y'.2.1), some (.int y'.2.2), some (.int (nI (T + 1))), none] [] (mk X y'.1) := by
        intro hgd
        rw [hgd, Bool.true_and] at hs
        rw [take]
        by_cases hm : (match bstB A (covG G k) tw T with
          | none => true
          | some b => betB A (covG G k) T b) = true
        · rw [if_pos hm] at hs ⊢
          exact ⟨(su u 342 T (bI true), nI T, nI (SEEN A (covG G k) (nI T))), ⟨w2, wc, fun T' hT' => wh T' (by omega), by rw [hs]; rfl, fun b hb => by rw [hs] at hb; rw [← Option.some.inj hb]⟩, rfl⟩
        · rw [if_neg hm] at hs ⊢
          exact ⟨(su u 342 T (bI true), oI (bstB A (covG G k) tw T), rl), ⟨w2, wc, fun T' hT' => wh T' (by omega), by rw [hs], fun b hb => hrl b (by rw [← hs]; exact hb)⟩, rfl⟩
      cases tw
      · rw [if_pos (by decide)]
        exact tk2 (by unfold goodB; rw [hg]; rfl)
      · have hgt : goodB A true T = twB A T 12 := by unfold goodB; rw [hg]; rfl
        rw [if_neg (by decide), ck_M, M_twice_run X (by omega) wh, r1_s]
        show ∃ y', _ ∧ (if (if twB A T 12 then nI 1 else nI 0 : Int32) = 0 then _ else _) = _
        rw [told_int]
        cases htw : twB A T 12
        · rw [if_neg (by decide)]
          exact skip (by rw [hgt, htw])
        · rw [if_pos rfl]
          exact tk2 (by rw [hgt, htw])) (x := (s, -1, nI 0)) ⟨rfl, fun _ _ => rfl, fun T' hT' => absurd hT' (Nat.not_lt_zero T'), rfl, fun b hb => by cases hb⟩
  dsimp only at z2 zc hrb hrl e
  refine ⟨z, ?_, fru z z2 zc⟩
  rw [e, e_M_choice_28, ck_M, M_all_run X (show k < 7 by omega) ok (hMu z zc), r1_s, if_pos (nI_lt (by omega) (by omega)), hrb]
  cases hb : bstB A (covG G k) tw (2 ^ A.1 4) with
  | none => rw [if_pos (show oI none = -1 from rfl)]
  | some b =>
    have hbT := bstB_lt _ b hb
    rw [if_neg (show ¬ oI (some b) = -1 from nI_m1 (by omega)), hrl b hb, show oI (some b) = nI b from rfl, M_bits_run _ (by omega), r1_s]
theorem sim_choice (X : qz_X) (s : sT) (G : gsT) (h : Rel s G) (v : Int32) (tw : Bool) (v3 : Int32) : Sim X s 212 215 [some (.ref 0), some (.int v), some (.int (bI tw)), some (.int v3), none, none] [some (.ref 318), some (.int v), some (.int (bI tw)), some (.int v3), none, none, none, none] := by
  rcases tk_or G v with ⟨k, hk⟩ | hn
  · obtain ⟨hS, ok, hC, hM⟩ := tk_P h hk
    have hk6 := hk.1
    have o5 := ok.2.2.2.2.1
    have hp := pow_12 o5
    have hv : v = nI k := hk.2.1
    subst hv
    rcases Classical.em (∃ j, j ≤ 2 ∧ v3 = nI j) with ⟨j, hj, rfl⟩ | hj
    · obtain ⟨nv, en, hnx⟩ := next_run X h hk6
      obtain ⟨z, ez, z2, zc, z107, z108⟩ := choose_run X hS ok hC hnx tw
      have f1 : fr s z := fr_of [87, 88, 89, 107, 108, 109] (by rw [z2]) zc (by decide)
      obtain ⟨w, ew, f2⟩ := M_choice_loop X (h.fr f1) hk tw (nI j)
      have hnv : nv = .null ∨ ∃ p, nv = .ref p := by
        rcases hnx with ⟨h, -⟩ | ⟨p, -, h, -⟩
        · exact Or.inl h
        · exact Or.inr ⟨p, h⟩
      have hc : rn 212 0 [some (.ref 0), some (.int (nI k)), some (.int (bI tw)), some (.int (nI j)), none, none] [] (mk X s) = (if oI (bstB (G.2.1.2.1 k) (covG G k) tw (2 ^ (G.2.1.2.1 k).1 4)) = (-1) then some (some (.int (oI (bstB (G.2.1.2.1 k) (covG G k) tw (2 ^ (G.2.1.2.1 k).1 4)))), mk X z) else (if nI j = 0 then some (some (.int (oI (bstB (G.2.1.2.1 k) (covG G k) tw (2 ^ (G.2.1.2.1 k).1 4)))), mk X z) else (if nI j = (nI 1) then qz_r1 (rn 207 0 [some (.ref 107), some (.int (oI (bstB (G.2.1.2.1 k) (covG G k) tw (2 ^ (G.2.1.2.1 k).1 4))))] [] (mk X z)) (fun x13 w12 => some (some (.int x13), w12)) else qz_r1 (rn 62 0 [some (.int (oI (bstB (G.2.1.2.1 k) (covG G k) tw (2 ^ (G.2.1.2.1 k).1 4))))] [] (mk X z)) (fun x10 w9 => some (some (.int x10), w9))))) := by
        rw [e_C_choice_0, ck_C, C_told_yes X h hk, r3_r, if_neg (nI_pos (by omega)), if_pos (nI_le hj (by decide)), g_C_choosing, ck_C, nI_add, en]
        rcases hnv with rfl | ⟨p, rfl⟩
        · rw [r3_n, g_C_hanging, ck_O, ez, r1_s, g_C_choosing, ck_O]
        · rw [r3_r, g_C_hanging, ck_O, ez, r1_s, g_C_choosing, ck_O]
      have hm : rn 215 0 [some (.ref 318), some (.int (nI k)), some (.int (bI tw)), some (.int (nI j)), none, none, none, none] [] (mk X z) = rn 215 28 [some (.ref 318), some (.int (nI k)), some (.int (bI tw)), some (.int (nI j)), some (.int (-1)), some (.int (nI 0)), some (.int (nI 0)), none] [] (mk X z) := by
        rw [e_M_choice_0, ck_M, M_sheet_yes X (h.fr f1) hk, r1_s, if_neg (by decide), isIn_yes _ hj (by decide), r1_s, if_neg (by decide)]
      cases hb : bstB (G.2.1.2.1 k) (covG G k) tw (2 ^ (G.2.1.2.1 k).1 4) with
      | none =>
        rw [hb] at hc ew
        refine sim_q (r := .int (-1)) h (s1 := z) (s2 := w) ?_ f1 (hm.trans ew) f2
        rw [hc, if_pos (show oI none = -1 from rfl)]
        rfl
      | some b =>
        have hbT := bstB_lt _ b hb
        rw [hb] at hc ew
        rw [show oI (some b) = nI b from rfl, if_neg (nI_m1 (by omega)), seenBy_run X ok z107 z108 hbT, r1_s, pop_run, r1_s, show fb_ct (fun i => bt (nI b) i) 32 = popN b from fb_ct_cong (fun i _ => bt_nat (by omega))] at hc
        have ew : _ = if nI j = 0 then some (some (Value.int (nI b)), mk X w) else if nI j = nI 1 then some (some (.int (nI (SEEN (G.2.1.2.1 k) (covG G k) (nI b)))), mk X w) else some (some (.int (nI (popN b))), mk X w) := ew
        by_cases j0 : nI j = 0
        · rw [if_pos j0] at hc ew
          exact sim_q h hc f1 (hm.trans ew) f2
        · rw [if_neg j0] at hc ew
          by_cases j1 : nI j = nI 1
          · rw [if_pos j1] at hc ew
            exact sim_q h hc f1 (hm.trans ew) f2
          · rw [if_neg j1] at hc ew
            exact sim_q h hc f1 (hm.trans ew) f2
    · refine sim_q (r := .int (-1)) h (s1 := s) (s2 := s) ?_ (fr.rf s) ?_ (fr.rf s)
      · rw [e_C_choice_0, ck_C, C_told_yes X h hk, r3_r]
        by_cases h0 : v3 < 0
        · rw [if_pos h0]
        · rw [if_neg h0, if_neg]
          intro z
          obtain ⟨m, hm, rfl⟩ := nI_of h0
          exact hj ⟨m, (nI_leI hm (by decide)).mp z, rfl⟩
      · rw [e_M_choice_0, ck_M, M_sheet_yes X h hk, r1_s, if_neg (by decide), isIn_no _ (by decide) (fun j h e => hj ⟨j, h, e⟩), r1_s, if_pos nI_0]
  · refine sim_q (r := .int (-1)) h (s1 := s) (s2 := s) ?_ (fr.rf s) ?_ (fr.rf s)
    · rw [e_C_choice_0, ck_C, C_told_no X h hn, r3_n]
    · rw [e_M_choice_0, ck_M, M_sheet_no X h hn, r1_s, if_pos nI_0]

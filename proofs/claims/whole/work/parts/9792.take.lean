/-! the class: splitting, and what is taken of the text -/
theorem tsplit_run (X : qz_X) {T : txT} (hT : okT T) {s : sT} (hs : ∀ j, j < T.1 → s.1 1 j = nI (T.2 j)) : ∃ u : sT, rn 28 0 [some (.ref 79), some (.ref 1), some (.int (nI T.1)), none, none] [] (mk X s) = some (none, mk X u) ∧ u.2 = s.2 ∧ (∀ c, ¬ (79 ≤ c ∧ c ≤ 84) → u.1 c = s.1 c) ∧ tkC T u := by
  have hn := hT.1
  rw [e_Tokens_split_0, g_K_text, mk_cp (o := 1) (q := 80) (n := 1200) (n2 := 1200) rfl (by decide) (by decide) rfl (by decide) (by decide) hn hn, p_K_number]
  have s0 : ∃ v : sT, v = su (sa s 80 (fun j => if j < T.1 then s.1 1 j else s.1 80 j)) 79 5 (nI 0) := ⟨_, rfl⟩
  obtain ⟨v, hv⟩ := s0
  rw [← hv]
  have v2 : v.2 = s.2 := by rw [hv]; rfl
  have vc : ∀ c, ¬ (79 ≤ c ∧ c ≤ 84) → v.1 c = s.1 c := fun c hc => by
    funext j
    rw [hv, su_1, if_neg (by omega), sa_1, if_neg (by omega)]
  have vt : ∀ j, j < T.1 → v.1 80 j = nI (T.2 j) := fun j hj => by
    rw [hv, su_1, if_neg (by omega), sa_1, if_pos rfl, if_pos hj]; exact hs j hj
  have v5 : v.1 79 5 = nI 0 := by rw [hv, su_1, if_pos ⟨rfl, rfl⟩]
  clear hv
  have key : ∀ d p E m (u : sT), p + d = T.1 → E ≤ T.1 → okt T m → sk T (max p E) = stn T m → u.2 = s.2 → (∀ c, ¬ (79 ≤ c ∧ c ≤ 84) → u.1 c = s.1 c) → (∀ j, j < T.1 → u.1 80 j = nI (T.2 j)) → u.1 79 5 = nI m → (∀ a, a < m → tkA T u a) → ∃ z : sT, rn 28 21 [some (.ref 79), none, some (.int (nI T.1)), some (.int (nI E)), some (.int (nI p))] [] (mk X u) = some (none, mk X z) ∧ z.2 = s.2 ∧ (∀ c, ¬ (79 ≤ c ∧ c ≤ 84) → z.1 c = s.1 c) ∧ tkC T z := by
    intro d
    induction d with
    | zero =>
      intro p E m u hp hE hm hsk u2 uc ut u5 ua
      have hm2 := okt_le m hm
      have hm3 := stn_le (T := T) m
      rw [show max p E = T.1 by omega, sk_e (Nat.le_refl _)] at hsk
      refine ⟨sk4 u m (nI 0) (nI T.1) (nI 0) (-1), ?_, u2, fun c hc => ?_, fun j hj => ?_, fun a ha => ?_⟩
      · rw [e_Tokens_split_21, if_pos (by rw [nI_leI (by omega) (by omega)]; omega), g_K_kind, g_K_number, u5, w_K_kind (by omega), g_K_start, g_K_number, su_1, if_neg (by omega), u5, w_K_start (by omega), g_K_size, g_K_number, su_1, if_neg (by omega), su_1, if_neg (by omega), u5, w_K_size (by omega), g_K_value, g_K_number, su_1, if_neg (by omega), su_1, if_neg (by omega), su_1, if_neg (by omega), u5, w_K_value (by omega)]
        rfl
      · funext j
        rw [sk4_o (by omega), uc c hc]
      · rw [sk4_o (by omega)]; exact ut j hj
      · by_cases e : a = m
        · subst e
          have k0 : kd T T.1 = 0 := if_neg (by omega)
          refine sk4_tk hsk.symm (by rw [k0]) rfl (by rw [ln_0 (Nat.le_refl _)]) ?_
          unfold vl
          rw [k0]
          rfl
        · have ham : a < m := by
            rcases Nat.lt_or_ge m a with h | h
            · exfalso
              rcases ha with h0 | h0
              · omega
              · have := stn_mono (T := T) m (a - 1 - m)
                rw [show m + (a - 1 - m) = a - 1 by omega] at this
                omega
            · omega
          exact tk_cong (fun c _ => sk4_o (by omega)) (ua a ham)
    | succ d ih =>
      intro p E m u hp hE hm hsk u2 uc ut u5 ua
      have hpn : p < T.1 := by omega
      have hb := hT.2 p hpn
      have hm2 := okt_le m hm
      have hm3 := stn_le (T := T) m
      rw [e_Tokens_split_21, if_neg (by rw [nI_leI (by omega) (by omega)]; omega)]
      by_cases hpE : p < E
      · rw [if_pos (nI_lt hpE (by omega)), nI_add]
        exact ih (p + 1) E m u (by omega) hE hm (by rw [show max (p + 1) E = max p E by omega]; exact hsk) u2 uc ut u5 ua
      · rw [if_neg (nI_nlt (by omega) (by omega)), g_K_text, i_K_text (by omega), ut p hpn]
        rw [show max p E = p by omega, sk_s hpn] at hsk
        by_cases h32 : T.2 p = 32
        · rw [if_pos (by rw [h32]), nI_add]
          rw [show blb (T.2 p) = true by rw [h32]; rfl, if_pos rfl] at hsk
          exact ih (p + 1) E m u (by omega) hE hm (by rw [show max (p + 1) E = p + 1 by omega]; exact hsk) u2 uc ut u5 ua
        · rw [if_neg (fun z => h32 ((nI_eq (by omega) (by decide)).mp z)), g_K_text, i_K_text (by omega), ut p hpn]
          by_cases h10 : T.2 p = 10
          · rw [if_pos (by rw [h10]), nI_add]
            rw [show blb (T.2 p) = true by rw [h10]; rfl, if_pos rfl] at hsk
            exact ih (p + 1) E m u (by omega) hE hm (by rw [show max (p + 1) E = p + 1 by omega]; exact hsk) u2 uc ut u5 ua
          · have hl := ln_pos hpn
            rw [show blb (T.2 p) = false by unfold blb; rw [beq_eq_false_iff_ne.mpr h32, beq_eq_false_iff_ne.mpr h10]; rfl, if_neg (by decide)] at hsk
            rw [if_neg (fun z => h10 ((nI_eq (by omega) (by decide)).mp z)), ck_K, lengthAt_run X hT ut hpn, r1_s, ck_K, nI_add, pk_sub (by omega), show p + ln T p - p = ln T p by omega, addToken_run X hT ut hpn (by omega) u5, r0_s, nI_add]
            refine ih (p + 1) (p + ln T p) (m + 1) _ (by omega) (by omega) (okt_s (by omega)) ?_ u2 (fun c hc => ?_) (fun j hj => ?_) ?_ (fun a ha => ?_)
            · rw [show max (p + 1) (p + ln T p) = p + ln T p by omega]
              show _ = sk T (stn T m + ln T (stn T m))
              rw [← hsk]
            · funext j
              rw [su_1, if_neg (by omega), sk4_o (by omega), uc c hc]
            · rw [su_1, if_neg (by omega), sk4_o (by omega)]; exact ut j hj
            · rw [su_1, if_pos ⟨rfl, rfl⟩]
            · refine tk_cong (s := sk4 u m (nI (kd T p)) (nI p) (nI (ln T p)) (vl T p)) (fun c hc => ?_) ?_
              · rw [su_1, if_neg (by
                  rintro ⟨rfl, _⟩
                  revert hc
                  decide)]
              · by_cases e : a = m
                · subst e
                  exact sk4_tk hsk.symm rfl rfl rfl rfl
                · exact tk_cong (fun c _ => sk4_o (by omega)) (ua a (by omega))
  exact key T.1 0 0 0 v (by omega) (Nat.zero_le _) (Or.inl rfl) rfl v2 vc vt v5 (fun a ha => absurd ha (Nat.not_lt_zero a))
/-! what the text holds at P -/
def nx (T : txT) (P : Nat) : Nat := sk T (P + ln T P)
def nv (T : txT) (P : Nat) : Nat := nm T P (ln T P)
def dv (T : txT) (P : Nat) : Nat := kw T P - 16
def qv (T : txT) (P : Nat) : Nat → Nat
  | 0 => 0
  | l + 1 => 2 ^ l * (if T.2 (P + l) = 116 then 1 else 0) + qv T P l
def tK (T : txT) (k P : Nat) : Bool := decide (kd T P = 1 ∧ kw T P = k)
def tS (T : txT) (c P : Nat) : Bool := decide (kd T P = 3 ∧ T.2 P = c)
def tN (T : txT) (lo hi P : Nat) : Bool := decide (kd T P = 2 ∧ ln T P ≤ 4 ∧ lo ≤ nv T P ∧ nv T P ≤ hi)
def tD (T : txT) (P : Nat) : Bool := decide (kd T P = 1 ∧ 16 ≤ kw T P ∧ kw T P < 20)
def tQ (T : txT) (lo hi P : Nat) : Bool := decide (kd T P = 1 ∧ lo ≤ ln T P ∧ ln T P ≤ hi ∧ ∀ i, i < ln T P → T.2 (P + i) = 115 ∨ T.2 (P + i) = 116)
def cPo (T : txT) (P : Nat) (s : sT) : Prop := tkC T s ∧ ∃ a, okt T a ∧ stn T a = P ∧ s.1 78 2 = nI a
def up2 (s : sT) : sT := su s 78 2 (s.1 78 2 + nI 1)
theorem cPo_cong {T : txT} {P : Nat} {s u : sT} (h : cPo T P s) (h1 : ∀ c, 80 ≤ c → c ≤ 84 → u.1 c = s.1 c) (h2 : u.1 78 2 = s.1 78 2) : cPo T P u := by
  obtain ⟨⟨a1, a2⟩, a, b1, b2, b3⟩ := h
  refine ⟨⟨fun j hj => by rw [h1 80 (by decide) (by decide)]; exact a1 j hj, fun a ha => tk_cong (fun c hc => ?_) (a2 a ha)⟩, a, b1, b2, h2.trans b3⟩
  simp only [List.mem_cons, List.not_mem_nil, or_false] at hc
  rw [h1 c (by omega) (by omega)]
theorem cPo_up {T : txT} {P : Nat} {s : sT} (h : cPo T P s) (hP : P < T.1) : cPo T (nx T P) (up2 s) := by
  obtain ⟨⟨a1, a2⟩, a, b1, b2, b3⟩ := h
  refine ⟨⟨fun j hj => ?_, fun a ha => tk_cong (fun c hc => ?_) (a2 a ha)⟩, a + 1, okt_s (by omega), ?_, ?_⟩
  · unfold up2
    rw [su_1, if_neg (by omega)]; exact a1 j hj
  · simp only [List.mem_cons, List.not_mem_nil, or_false] at hc
    unfold up2
    rw [su_1, if_neg (by omega)]
  · show sk T (stn T a + ln T (stn T a)) = _
    rw [b2]; rfl
  · unfold up2
    rw [su_1, if_pos ⟨rfl, rfl⟩, b3, nI_add]
/-- reading the token here -/
theorem cPo_rd {T : txT} (hT : okT T) {P : Nat} {s : sT} (h : cPo T P s) : P ≤ T.1 ∧ ∃ a, a < 1201 ∧ s.1 78 2 = nI a ∧ s.1 81 a = nI (kd T P) ∧ s.1 82 a = nI P ∧ s.1 83 a = nI (ln T P) ∧ s.1 84 a = vl T P := by
  obtain ⟨⟨a1, a2⟩, a, b1, b2, b3⟩ := h
  obtain ⟨c1, c2, c3, c4⟩ := a2 a b1
  have h1 := okt_le a b1
  have h2 := stn_le (T := T) a
  have h3 := hT.1
  rw [b2] at c1 c2 c3 c4
  exact ⟨by omega, a, by omega, b3, c1, c2, c3, c4⟩
theorem kd4 (T : txT) (P : Nat) : kd T P < 4 := by
  unfold kd
  by_cases h : P < T.1
  · rw [if_pos h]; rcases kdb_in (T.2 P) with e | e | e <;> omega
  · rw [if_neg h]; decide
theorem kw20 (T : txT) (P : Nat) : kw T P ≤ 20 := (kwF_bd (kwM T P) 20 0).2.1
theorem kwI_eq {T : txT} {P k : Nat} (hk : k < 20) : kwI T P = nI k ↔ kw T P = k := by
  have := kw20 T P
  unfold kwI
  by_cases h : kw T P < 20
  · rw [if_pos h, nI_eq (by omega) (by omega)]
  · rw [if_neg h]
    exact ⟨fun e => absurd e.symm (nI_m1 (by omega)), fun e => by omega⟩
section TAKE
variable {T : txT} {P : Nat} {s : sT}
theorem C_key (X : qz_X) (hT : okT T) (h : cPo T P s) {k : Nat} (hk : k < 20) : rn 29 0 [some (.ref 78), some (.int (nI k))] [] (mk X s) = some (some (.int (bI (tK T k P))), mk X (if tK T k P then up2 s else s)) := by
  obtain ⟨hP, a, ha, r1, r2, r3, r4, r5⟩ := cPo_rd hT h
  have k4 := kd4 T P
  rw [e_Teller_takeKeyword_0, g_L_tokens, g_K_kind, g_L_at, r1, i_K_kind ha, r2]
  unfold tK
  by_cases h1 : kd T P = 1
  · have hv : vl T P = kwI T P := by unfold vl; rw [if_pos h1]
    rw [if_pos (by rw [h1]), g_L_tokens, g_K_value, g_L_at, r1, i_K_value ha, r5, hv]
    by_cases h2 : kw T P = k
    · rw [if_pos ((kwI_eq hk).mpr h2), g_L_at, p_L_at, decide_eq_true ⟨h1, h2⟩]
      rfl
    · rw [if_neg (fun e => h2 ((kwI_eq hk).mp e)), decide_eq_false (fun e => h2 e.2)]
      rfl
  · rw [if_neg (fun e => h1 ((nI_eq (by omega) (by decide)).mp e)), decide_eq_false (fun e => h1 e.1)]
    rfl
theorem C_sign (X : qz_X) (hT : okT T) (h : cPo T P s) {k : Nat} (hk : k < 256) : rn 34 0 [some (.ref 78), some (.int (nI k))] [] (mk X s) = some (some (.int (bI (tS T k P))), mk X (if tS T k P then up2 s else s)) := by
  obtain ⟨hP, a, ha, r1, r2, r3, r4, r5⟩ := cPo_rd hT h
  have k4 := kd4 T P
  rw [e_Teller_takeSign_0, g_L_tokens, g_K_kind, g_L_at, r1, i_K_kind ha, r2]
  unfold tS
  by_cases h1 : kd T P = 3
  · have hv : vl T P = nI (T.2 P) := by unfold vl; rw [h1]; rfl
    have hb := hT.2 P (kd_lt.mp (by omega))
    rw [if_pos (by rw [h1]), g_L_tokens, g_K_value, g_L_at, r1, i_K_value ha, r5, hv]
    by_cases h2 : T.2 P = k
    · rw [if_pos (by rw [h2]), g_L_at, p_L_at, decide_eq_true ⟨h1, h2⟩]
      rfl
    · rw [if_neg (fun e => h2 ((nI_eq (by omega) (by omega)).mp e)), decide_eq_false (fun e => h2 e.2)]
      rfl
  · rw [if_neg (fun e => h1 ((nI_eq (by omega) (by decide)).mp e)), decide_eq_false (fun e => h1 e.1)]
    rfl
theorem nv_lt (hk : kd T P = 2) (h4 : ln T P ≤ 4) : nv T P < 10000 := by
  have h1 := nm_lt (T := T) (P := P) (ln T P) (ln_en hk (Or.inr rfl)).2.2
  have h2 : 10 ^ ln T P ≤ 10 ^ 4 := Nat.pow_le_pow_right (by decide) h4
  unfold nv
  omega
theorem C_num (X : qz_X) (hT : okT T) (h : cPo T P s) {lo hi : Nat} (hl : lo < 2 ^ 31) (hh : hi < 2 ^ 31) : rn 30 0 [some (.ref 78), some (.int (nI lo)), some (.int (nI hi)), none] [] (mk X s) = some (some (.int (bI (tN T lo hi P))), mk X (if tN T lo hi P then up2 (su s 78 3 (nI (nv T P))) else s)) := by
  obtain ⟨hP, a, ha, r1, r2, r3, r4, r5⟩ := cPo_rd hT h
  have k4 := kd4 T P
  rw [e_Teller_takeNumber_0, g_L_tokens, g_K_value, g_L_at, r1, i_K_value ha, r5, g_L_tokens, g_K_kind, g_L_at, r1, i_K_kind ha, r2]
  unfold tN
  by_cases h1 : kd T P = 2
  · rw [if_pos (by rw [h1])]
    by_cases h4 : ln T P ≤ 4
    · have hv : vl T P = nI (nv T P) := by unfold vl; rw [if_neg (by omega), if_pos h1, if_pos h4]; rfl
      have hn := nv_lt h1 h4
      rw [hv]
      by_cases h2 : nv T P < lo
      · rw [if_pos (nI_lt h2 hl), decide_eq_false (fun e => by omega)]
        rfl
      · rw [if_neg (nI_nlt (by omega) (by omega))]
        by_cases h3 : nv T P ≤ hi
        · rw [if_pos (nI_le h3 hh), p_L_number, g_L_at, p_L_at, decide_eq_true ⟨h1, h4, by omega, h3⟩]
          rfl
        · rw [if_neg (nI_ge (by omega) (by omega)), decide_eq_false (fun e => h3 e.2.2.2)]
          rfl
    · have hv : vl T P = -1 := by unfold vl; rw [if_neg (by omega), if_pos h1, if_neg h4]
      rw [hv, if_pos (by rw [Int32.lt_iff_toInt_lt, nI_toInt hl]; show (-1 : Int) < _; omega), decide_eq_false (fun e => h4 e.2.1)]
      rfl
  · rw [if_neg (fun e => h1 ((nI_eq (by omega) (by decide)).mp e)), decide_eq_false (fun e => h1 e.1)]
    rfl
theorem C_side (X : qz_X) (hT : okT T) (h : cPo T P s) : rn 50 0 [some (.ref 78)] [] (mk X s) = some (some (.int (bI (tD T P))), mk X (if tD T P then up2 (su s 78 3 (nI (dv T P))) else s)) := by
  obtain ⟨hP, a, ha, r1, r2, r3, r4, r5⟩ := cPo_rd hT h
  have k4 := kd4 T P
  have k20 := kw20 T P
  rw [e_Teller_takeSide_0, g_L_tokens, g_K_kind, g_L_at, r1, i_K_kind ha, r2]
  unfold tD
  by_cases h1 : kd T P = 1
  · have hv : vl T P = kwI T P := by unfold vl; rw [if_pos h1]
    rw [if_pos (by rw [h1]), g_L_tokens, g_K_value, g_L_at, r1, i_K_value ha, r5, hv]
    unfold kwI
    by_cases h2 : kw T P < 20
    · rw [if_pos h2]
      by_cases h3 : 16 ≤ kw T P
      · rw [if_pos (nI_le h3 (by omega)), g_L_tokens, g_K_value, g_L_at, r1, i_K_value ha, r5, hv, p_L_number, g_L_at, p_L_at, decide_eq_true ⟨h1, h3, h2⟩]
        unfold kwI
        rw [if_pos h2, pk_sub h3]
        rfl
      · rw [if_neg (nI_ge (by omega) (by decide)), decide_eq_false (fun e => h3 e.2.1)]
        rfl
    · rw [if_neg h2, if_neg (by decide), decide_eq_false (fun e => h2 e.2.2)]
      rfl
  · rw [if_neg (fun e => h1 ((nI_eq (by omega) (by decide)).mp e)), decide_eq_false (fun e => h1 e.1)]
    rfl
theorem qv_lt (T : txT) (P : Nat) : ∀ l, qv T P l < 2 ^ l
  | 0 => by show 0 < 2 ^ 0; decide
  | l + 1 => by
    have := qv_lt T P l
    show 2 ^ l * _ + qv T P l < _
    rw [Nat.pow_succ]
    by_cases h : T.2 (P + l) = 116
    · rw [if_pos h]; omega
    · rw [if_neg h]; omega
theorem qv_bit (T : txT) (P : Nat) : ∀ l i, (qv T P l).testBit i = decide (i < l ∧ T.2 (P + i) = 116)
  | 0, i => by
    rw [decide_eq_false (fun e => absurd e.1 (Nat.not_lt_zero i))]
    show (0 : Nat).testBit i = false
    exact Nat.zero_testBit i
  | l + 1, i => by
    have ih := qv_bit T P l i
    show (2 ^ l * _ + qv T P l).testBit i = _
    rw [Nat.testBit_two_pow_mul_add _ (qv_lt T P l)]
    by_cases h : i < l
    · rw [if_pos h, ih, Bool.eq_iff_iff, decide_eq_true_iff, decide_eq_true_iff]
      exact ⟨fun e => ⟨by omega, e.2⟩, fun e => ⟨h, e.2⟩⟩
    · rw [if_neg h]
      by_cases h2 : T.2 (P + l) = 116
      · rw [if_pos h2]
        by_cases e : i = l
        · subst e
          rw [Nat.sub_self, decide_eq_true ⟨Nat.lt_succ_self i, h2⟩]
          rfl
        · rw [decide_eq_false (fun z => e (by omega)), show (1 : Nat) = 2 ^ 0 from rfl, Nat.testBit_two_pow, decide_eq_false (by omega)]
      · rw [if_neg h2, Nat.zero_testBit, decide_eq_false]
        intro z
        have : i = l := by omega
        rw [this] at z
        exact h2 z.2
theorem one_2 : ∀ l, l < 31 → nI 1 <<< (nI l &&& 31) = nI (2 ^ l) := by decide +kernel
theorem qv_s {l : Nat} (hl : l < 31) (h : T.2 (P + l) = 116) : nI (qv T P l) ||| (nI 1 <<< (nI l &&& 31)) = nI (qv T P (l + 1)) := by
  rw [one_2 l hl, fa_or, Nat.or_comm]
  show _ = nI (2 ^ l * (if T.2 (P + l) = 116 then 1 else 0) + qv T P l)
  rw [if_pos h, Nat.two_pow_add_eq_or_of_lt (qv_lt T P l), Nat.mul_one]
theorem qv_n {l : Nat} (h : ¬ T.2 (P + l) = 116) : qv T P (l + 1) = qv T P l := by
  show 2 ^ l * (if T.2 (P + l) = 116 then 1 else 0) + qv T P l = _
  rw [if_neg h, Nat.mul_zero, Nat.zero_add]
theorem C_squares (X : qz_X) (hT : okT T) (h : cPo T P s) {lo hi : Nat} (hl : lo < 2 ^ 31) (hh : hi ≤ 20) : rn 36 0 [some (.ref 78), some (.int (nI lo)), some (.int (nI hi)), none, none, none, none] [] (mk X s) = some (some (.int (bI (tQ T lo hi P))), mk X (if tQ T lo hi P then up2 (su (su s 78 6 (nI (qv T P (ln T P)))) 78 7 (nI (ln T P))) else s)) := by
  obtain ⟨hP, a, ha, r1, r2, r3, r4, r5⟩ := cPo_rd hT h
  have k4 := kd4 T P
  have hn := hT.1
  have hle := ln_le hP
  have ht := h.1.1
  rw [e_Teller_takeSquares_0, g_L_tokens, g_K_size, g_L_at, r1, i_K_size ha, r4, g_L_tokens, g_K_kind, g_L_at, r1, i_K_kind ha, r2]
  by_cases h1 : kd T P = 1
  · rw [if_pos (by rw [h1])]
    by_cases h2 : ln T P < lo
    · have e : tQ T lo hi P = false := decide_eq_false (fun e => by omega)
      rw [if_pos (nI_lt h2 hl), e]
      rfl
    · rw [if_neg (nI_nlt (by omega) (by omega))]
      by_cases h3 : ln T P ≤ hi
      · rw [if_pos (nI_le h3 (by omega))]
        have key : ∀ d i, i + d = ln T P → (∀ j, j < i → T.2 (P + j) = 115 ∨ T.2 (P + j) = 116) → rn 36 47 [some (.ref 78), none, none, some (.int (nI (ln T P))), some (.int (nI (qv T P i))), some (.int (nI i)), none] [] (mk X s) = some (some (.int (bI (tQ T lo hi P))), mk X (if tQ T lo hi P then up2 (su (su s 78 6 (nI (qv T P (ln T P)))) 78 7 (nI (ln T P))) else s)) := by
          intro d
          induction d with
          | zero =>
            intro i hi' hj
            have e : tQ T lo hi P = true := decide_eq_true ⟨h1, by omega, h3, fun j hj2 => hj j (by omega)⟩
            rw [e_Teller_takeSquares_47, if_pos (by rw [nI_leI (by omega) (by omega)]; omega), p_L_squares, p_L_squaresLong, g_L_at, p_L_at, e, show i = ln T P by omega]
            rfl
          | succ d ih =>
            intro i hi' hj
            rw [e_Teller_takeSquares_47, if_neg (by rw [nI_leI (by omega) (by omega)]; omega), g_L_tokens, g_K_text, g_L_tokens, g_K_start, g_L_at, r1, i_K_start ha, r3, nI_add, i_K_text (by omega), ht _ (by omega)]
            have hb := hT.2 (P + i) (by omega)
            by_cases h5 : T.2 (P + i) = 115
            · rw [if_pos (by rw [h5]), if_neg (by rw [h5]; decide), fa_or, Nat.or_zero, nI_add]
              have := ih (i + 1) (by omega) (fun j hj2 => by
                by_cases e : j = i
                · rw [e]; exact Or.inl h5
                · exact hj j (by omega))
              rw [qv_n (by omega)] at this
              exact this
            · rw [if_neg (fun z => h5 ((nI_eq (by omega) (by decide)).mp z))]
              by_cases h6 : T.2 (P + i) = 116
              · rw [if_pos (by rw [h6]), if_pos (by rw [h6]), qv_s (by omega) h6, nI_add]
                exact ih (i + 1) (by omega) (fun j hj2 => by
                  by_cases e : j = i
                  · rw [e]; exact Or.inr h6
                  · exact hj j (by omega))
              · have e : tQ T lo hi P = false := decide_eq_false (fun e => by
                  have := e.2.2.2 i (by omega)
                  omega)
                rw [if_neg (fun z => h6 ((nI_eq (by omega) (by decide)).mp z)), e]
                rfl
        exact key (ln T P) 0 (by omega) (fun j hj => absurd hj (Nat.not_lt_zero j))
      · have e : tQ T lo hi P = false := decide_eq_false (fun e => h3 e.2.2.1)
        rw [if_neg (nI_ge (by omega) (by omega)), e]
        rfl
  · have e : tQ T lo hi P = false := decide_eq_false (fun e => h1 e.1)
    rw [if_neg (fun e => h1 ((nI_eq (by omega) (by decide)).mp e)), e]
    rfl
end TAKE

/-! names of shapes; the draft -/
def gp (B : Nat) (f : Nat → Nat) : Nat → Nat
  | 0 => 0
  | l + 1 => B * gp B f l + f l
theorem gp_pkw (f : Nat → Nat) : ∀ l, gp 256 f l = pkw f l
  | 0 => rfl
  | l + 1 => by show 256 * gp 256 f l + f l = 256 * pkw f l + f l; rw [gp_pkw f l]
theorem gp_inj {B : Nat} {f g : Nat → Nat} : ∀ l m, (∀ i, i < l → 1 ≤ f i ∧ f i < B) → (∀ i, i < m → 1 ≤ g i ∧ g i < B) → gp B f l = gp B g m → l = m ∧ ∀ i, i < l → f i = g i
  | 0, 0, _, _, _ => ⟨rfl, fun i h => absurd h (Nat.not_lt_zero i)⟩
  | 0, m + 1, _, h2, e => by
    have := h2 m (by omega)
    have e : 0 = B * gp B g m + g m := e
    omega
  | l + 1, 0, h1, _, e => by
    have := h1 l (by omega)
    have e : B * gp B f l + f l = 0 := e
    omega
  | l + 1, m + 1, h1, h2, e => by
    have x1 := h1 l (by omega)
    have x2 := h2 m (by omega)
    have e : B * gp B f l + f l = B * gp B g m + g m := e
    have e1 : f l = g m := by
      have := congrArg (· % B) e
      simp only [Nat.mul_add_mod] at this
      rwa [Nat.mod_eq_of_lt x1.2, Nat.mod_eq_of_lt x2.2] at this
    have e2 : gp B f l = gp B g m := by
      have : B * gp B f l = B * gp B g m := by omega
      exact Nat.eq_of_mul_eq_mul_left (by omega) this
    obtain ⟨r1, r2⟩ := gp_inj l m (fun i hi => h1 i (by omega)) (fun i hi => h2 i (by omega)) e2
    subst r1
    refine ⟨rfl, fun i hi => ?_⟩
    by_cases h : i = l
    · rw [h]; exact e1
    · exact r2 i (by omega)
theorem gp_cong {B : Nat} {f g : Nat → Nat} : ∀ l, (∀ i, i < l → f i = g i) → gp B f l = gp B g l
  | 0, _ => rfl
  | l + 1, h => by show B * gp B f l + f l = B * gp B g l + g l; rw [gp_cong l (fun i hi => h i (by omega)), h l (by omega)]
theorem gp_lt {B : Nat} {f : Nat → Nat} : ∀ l, (∀ i, i < l → f i < B) → gp B f l < B ^ l
  | 0, _ => Nat.lt_succ_self 0
  | l + 1, h => by
    have h1 := gp_lt l (fun i hi => h i (by omega))
    have h2 := h l (by omega)
    show B * gp B f l + f l < B ^ (l + 1)
    rw [Nat.pow_succ, Nat.mul_comm (B ^ l)]
    have : B * (gp B f l + 1) ≤ B * B ^ l := Nat.mul_le_mul_left B h1
    rw [Nat.mul_add] at this
    omega
abbrev okn (T : txT) (P : Nat) : Prop := kd T P = 1 ∧ ln T P ≤ 8 ∧ kw T P = 20
def p27 (T : txT) (P : Nat) : Nat := gp 27 (fun i => T.2 (P + i) - 96) (ln T P)
section NM
variable {T : txT} {P Q : Nat}
theorem okn_let (h : okn T P) : ∀ i, i < ln T P → 97 ≤ T.2 (P + i) ∧ T.2 (P + i) ≤ 122 := fun i hi => kdb_1.mp ((ln_en h.1 (Or.inl rfl)).2.2 i hi)
theorem okn_wdv (h : okn T P) : wdv T P = gp 256 (fun i => T.2 (P + i)) (ln T P) := by
  unfold wdv wdl
  rw [if_pos h.1, if_pos h.2.1, gp_pkw]
  rfl
theorem p27_iff (h : okn T P) (g : okn T Q) : p27 T P = p27 T Q ↔ wdv T P = wdv T Q := by
  have l1 := okn_let h
  have l2 := okn_let g
  rw [okn_wdv h, okn_wdv g]
  constructor
  · intro e
    obtain ⟨r1, r2⟩ := gp_inj (ln T P) (ln T Q) (fun i hi => by have := l1 i hi; omega) (fun i hi => by have := l2 i hi; omega) e
    rw [r1]
    exact gp_cong _ (fun i hi => by
      have h1 := l1 i (by omega)
      have h2 := l2 i hi
      have := r2 i (by omega)
      omega)
  · intro e
    obtain ⟨r1, r2⟩ := gp_inj (ln T P) (ln T Q) (fun i hi => by have := l1 i hi; omega) (fun i hi => by have := l2 i hi; omega) e
    unfold p27
    rw [r1]
    exact gp_cong _ (fun i hi => by rw [r2 i (by omega)])
theorem p27_bd (h : okn T P) : 1 ≤ p27 T P ∧ p27 T P < 2 ^ 63 := by
  have l1 := okn_let h
  have hl := ln_pos (ln_en h.1 (Or.inl rfl)).1
  constructor
  · unfold p27
    rw [show ln T P = (ln T P - 1) + 1 by omega]
    have := l1 (ln T P - 1) (by omega)
    show 1 ≤ 27 * _ + (T.2 (P + (ln T P - 1)) - 96)
    omega
  · have h1 := gp_lt (B := 27) (f := fun i => T.2 (P + i) - 96) (ln T P) (fun i hi => by have := l1 i hi; show T.2 (P + i) - 96 < 27; omega)
    have h2 : 27 ^ ln T P ≤ 27 ^ 8 := Nat.pow_le_pow_right (by decide) h.2.1
    unfold p27
    omega
end NM
theorem fa_at {p : Nat → Bool} {m i : Nat} (h : ∀ j, j < i → p j = false) (hi : i < m) (hp : p i = true) : fa_first p m = i := by
  have h1 := fa_first_le p m
  rcases Nat.lt_trichotomy (fa_first p m) i with g | g | g
  · have := fa_first_yes p m (by omega)
    rw [h _ g] at this
    cases this
  · exact g
  · have := fa_first_no p m i g
    rw [hp] at this
    cases this
theorem fa_none {p : Nat → Bool} {m : Nat} (h : ∀ j, j < m → p j = false) : fa_first p m = m := by
  have h1 := fa_first_le p m
  rcases Nat.lt_or_ge (fa_first p m) m with g | g
  · have := fa_first_yes p m g
    rw [h _ g] at this
    cases this
  · omega
theorem C_name (X : qz_X) {T : txT} (hT : okT T) {P : Nat} {s : sT} (h : cPo T P s) : rn 38 0 [some (.ref 78), none, none, none] [] (mk X s) = some (some (.long (lN (if okn T P then p27 T P else 0))), mk X s) := by
  obtain ⟨hP, a, ha, r1, r2, r3, r4, r5⟩ := cPo_rd hT h
  have k4 := kd4 T P
  have k20 := kw20 T P
  have hn := hT.1
  have hle := ln_le hP
  have ht := h.1.1
  rw [e_Teller_nameHere_0, g_L_tokens, g_K_kind, g_L_at, r1, i_K_kind ha, r2]
  by_cases h1 : kd T P = 1
  · rw [if_pos (by rw [h1]), g_L_tokens, g_K_size, g_L_at, r1, i_K_size ha, r4]
    by_cases h8 : ln T P ≤ 8
    · have hv : vl T P = kwI T P := by unfold vl; rw [if_pos h1]
      rw [if_neg (nI_nlt h8 (by decide)), g_L_tokens, g_K_value, g_L_at, r1, i_K_value ha, r5, hv]
      by_cases hk : kw T P = 20
      · have hok : okn T P := ⟨h1, h8, hk⟩
        have l1 := okn_let hok
        rw [if_pos (by unfold kwI; rw [if_neg (by omega)]), if_pos hok]
        have key : ∀ d i, i + d = ln T P → rn 38 55 [some (.ref 78), some (.long (lN (gp 27 (fun i => T.2 (P + i) - 96) i))), none, some (.int (nI i))] [] (mk X s) = some (some (.long (lN (p27 T P))), mk X s) := by
          intro d
          induction d with
          | zero =>
            intro i hi
            rw [e_Teller_nameHere_55, g_L_tokens, g_K_size, g_L_at, r1, i_K_size ha, r4, if_pos (nI_le (by omega) (by omega)), show i = ln T P by omega]
            rfl
          | succ d ih =>
            intro i hi
            have lb := l1 i (by omega)
            rw [e_Teller_nameHere_55, g_L_tokens, g_K_size, g_L_at, r1, i_K_size ha, r4, if_neg (nI_ge (by omega) (by omega)), g_L_tokens, g_K_text, g_L_tokens, g_K_start, g_L_at, r1, i_K_start ha, r3, nI_add, i_K_text (by omega), ht _ (by omega), nI_l (by omega), lN_mul, lN_add, lN_sub (by omega), lN_add, nI_add]
            have := ih (i + 1) (by omega)
            rw [show gp 27 (fun i => T.2 (P + i) - 96) (i + 1) = gp 27 (fun i => T.2 (P + i) - 96) i * 27 + T.2 (P + i) - 97 + 1 by
              show 27 * gp 27 (fun i => T.2 (P + i) - 96) i + (T.2 (P + i) - 96) = _
              omega] at this
            exact this
        exact key (ln T P) 0 (by omega)
      · rw [if_neg (by unfold kwI; rw [if_pos (by omega)]; exact nI_m1 (by omega)), if_neg (fun z => hk z.2.2)]
    · rw [if_pos (nI_lt (by omega) (by omega)), if_neg (fun z => h8 z.2.1)]
  · rw [if_neg (fun e => h1 ((nI_eq (by omega) (by decide)).mp e)), if_neg (fun z => h1 z.1)]
theorem C_named (X : qz_X) {s : sT} {q m x : Nat} {nn : Nat → Nat} (hq : isS q) (hm : m ≤ 8) (h10 : s.1 q 10 = nI m) (hn : ∀ i, i < m → s.2.1 85 i = lN (nn i) ∧ nn i < 2 ^ 63) (hx : x < 2 ^ 63) : rn 39 0 [some (.ref 78), some (.long (lN x)), none, some (.ref q), none] [] (mk X s) = some (some (.int (if fa_first (fun k => decide (nn k = x)) m < m then nI (fa_first (fun k => decide (nn k = x)) m) else -1)), mk X s) := by
  rw [e_Teller_shapeNamed_0]
  have key : ∀ d i, i + d = m → (∀ j, j < i → decide (nn j = x) = false) → rn 39 3 [some (.ref 78), some (.long (lN x)), none, some (.ref q), some (.int (nI i))] [] (mk X s) = some (some (.int (if fa_first (fun k => decide (nn k = x)) m < m then nI (fa_first (fun k => decide (nn k = x)) m) else -1)), mk X s) := by
    intro d
    induction d with
    | zero =>
      intro i hi h
      rw [e_Teller_shapeNamed_3, g_S_shapeNumber hq, h10, if_pos (nI_le (by omega) (by omega)), fa_none (fun j hj => h j (by omega)), if_neg (Nat.lt_irrefl _)]
    | succ d ih =>
      intro i hi h
      obtain ⟨n1, n2⟩ := hn i (by omega)
      rw [e_Teller_shapeNamed_3, g_S_shapeNumber hq, h10, if_neg (nI_ge (by omega) (by omega)), g_L_names, i_L_names (by omega), n1]
      by_cases e : nn i = x
      · rw [if_pos ((lg_cmp_eq _ _).mpr (by rw [e])), fa_at (p := fun k => decide (nn k = x)) h (show i < m by omega) (decide_eq_true e), if_pos (by omega)]
      · rw [if_neg (fun z => e ((pk_lEQ n2 hx).mp ((lg_cmp_eq _ _).mp z))), nI_add]
        exact ih (i + 1) (by omega) (fun j hj => by
          by_cases e2 : j = i
          · rw [e2]; exact decide_eq_false e
          · exact h j (by omega))
  exact key m 0 (by omega) (fun j hj => absurd hj (Nat.not_lt_zero j))
theorem M_draft_run (X : qz_X) {t : sT} {A : shT} (hM : isM (gN t) 6 A) {j : Nat} (hj : j < 9) : rn 80 0 [some (.ref 318), some (.int (nI j))] [] (mk X t) = some (some (.int (nI (A.1 j))), mk X t) := by
  have ha : t.1 320 (96 + j) = nI (A.1 j) := ab_at hM hj
  rw [e_M_draft_0, g_M_about, nI_add, i_M_about (by omega), ha]
theorem M_named (X : qz_X) {t : sT} {A : shT} {m x : Nat} {nn : Nat → Nat} (hM : isM (gN t) 6 A) (h3 : A.1 3 = m) (hm : m ≤ 8) (hn : ∀ i, i < m → t.2.1 331 (48 + i) = lN (nn i) ∧ nn i < 2 ^ 63) (hx : x < 2 ^ 63) : rn 89 0 [some (.ref 318), some (.long (lN x)), none, none] [] (mk X t) = some (some (.int (if fa_first (fun k => decide (nn k = x)) m < m then nI (48 + fa_first (fun k => decide (nn k = x)) m) else -1)), mk X t) := by
  rw [e_M_named_0]
  have key : ∀ d i, i + d = m → (∀ j, j < i → decide (nn j = x) = false) → rn 89 2 [some (.ref 318), some (.long (lN x)), none, some (.int (nI i))] [] (mk X t) = some (some (.int (if fa_first (fun k => decide (nn k = x)) m < m then nI (48 + fa_first (fun k => decide (nn k = x)) m) else -1)), mk X t) := by
    intro d
    induction d with
    | zero =>
      intro i hi h
      rw [e_M_named_2, ck_M, M_draft_run X hM (by decide), r1_s, h3, if_pos (nI_le (by omega) (by omega)), fa_none (fun j hj => h j (by omega)), if_neg (Nat.lt_irrefl _)]
    | succ d ih =>
      intro i hi h
      obtain ⟨n1, n2⟩ := hn i (by omega)
      rw [e_M_named_2, ck_M, M_draft_run X hM (by decide), r1_s, h3, if_neg (nI_ge (by omega) (by omega)), g_M_shapeName, nI_add, i_M_shapeName (by omega), n1]
      by_cases e : nn i = x
      · rw [if_pos ((lg_cmp_eq _ _).mpr (by rw [e])), fa_at (p := fun k => decide (nn k = x)) h (show i < m by omega) (decide_eq_true e), if_pos (by omega)]
      · rw [if_neg (fun z => e ((pk_lEQ n2 hx).mp ((lg_cmp_eq _ _).mp z))), nI_add]
        exact ih (i + 1) (by omega) (fun j hj => by
          by_cases e2 : j = i
          · rw [e2]; exact decide_eq_false e
          · exact h j (by omega))
  exact key m 0 (by omega) (fun j hj => absurd hj (Nat.not_lt_zero j))
theorem kept_run (w : qz_W) {T : txT} {P : Nat} (hP : P ≤ T.1) : rn 88 0 [some (.long (lN (wdv T P))), none] [] w = some (some (.int (bI (decide (kd T P = 1 ∧ kw T P < 20)))), w) := by
  have k20 := kw20 T P
  have hq : ∀ k, k < 20 → ∀ v : Int64, v = lN (qz_gd 0 KC k) → ((lg_cmp (lN (wdv T P)) v = 0) ↔ (kd T P = 1 ∧ kw T P = k)) := fun k hk v hv => by
    rw [hv, lg_cmp_eq, pk_lEQ (wdv_lt hP) (KC_bd k hk).2.2.2.2.1, kw_iff hP hk]
  have st : ∀ (k : Nat) (hk : k < 20) (v : Int64) (hv : v = lN (qz_gd 0 KC k)) (r : Option qz_R), (¬ (kd T P = 1 ∧ kw T P = k) → r = some (some (.int (bI (decide (kd T P = 1 ∧ kw T P < 20)))), w)) → (if lg_cmp (lN (wdv T P)) v = 0 then some (some (.int (nI 1)), w) else r) = some (some (.int (bI (decide (kd T P = 1 ∧ kw T P < 20)))), w) := fun k hk v hv r hr => by
    by_cases e : kd T P = 1 ∧ kw T P = k
    · rw [if_pos ((hq k hk v hv).mpr e), decide_eq_true ⟨e.1, by omega⟩]; rfl
    · rw [if_neg (fun z => e ((hq k hk v hv).mp z)), hr e]
  rw [e_M_isKept_0]
  refine st 0 (by decide) _ rfl _ fun n0 => ?_
  refine st 1 (by decide) _ rfl _ fun n1 => ?_
  refine st 2 (by decide) _ rfl _ fun n2 => ?_
  refine st 3 (by decide) _ rfl _ fun n3 => ?_
  refine st 4 (by decide) _ rfl _ fun n4 => ?_
  refine st 5 (by decide) _ rfl _ fun n5 => ?_
  refine st 6 (by decide) _ rfl _ fun n6 => ?_
  refine st 7 (by decide) _ rfl _ fun n7 => ?_
  refine st 8 (by decide) _ rfl _ fun n8 => ?_
  refine st 9 (by decide) _ rfl _ fun n9 => ?_
  refine st 10 (by decide) _ rfl _ fun n10 => ?_
  have hb : rn 86 0 [some (.long (lN (wdv T P))), none] [] w = some (some (.int (bI (decide (kd T P = 1 ∧ 11 ≤ kw T P ∧ kw T P < 16)))), w) := by
    have sb' : ∀ (k : Nat) (hk : 11 ≤ k) (hk2 : k < 16) (v : Int64) (hv : v = lN (qz_gd 0 KC k)) (r : Option qz_R), (¬ (kd T P = 1 ∧ kw T P = k) → r = some (some (.int (bI (decide (kd T P = 1 ∧ 11 ≤ kw T P ∧ kw T P < 16)))), w)) → (if lg_cmp (lN (wdv T P)) v = 0 then some (some (.int (nI 1)), w) else r) = some (some (.int (bI (decide (kd T P = 1 ∧ 11 ≤ kw T P ∧ kw T P < 16)))), w) := fun k hk hk2 v hv r hr => by
      by_cases e : kd T P = 1 ∧ kw T P = k
      · rw [if_pos ((hq k (by omega) v hv).mpr e), decide_eq_true ⟨e.1, by omega, by omega⟩]; rfl
      · rw [if_neg (fun z => e ((hq k (by omega) v hv).mp z)), hr e]
    rw [e_M_isBridgeWord_0]
    refine sb' 11 (by decide) (by decide) _ rfl _ fun m1 => ?_
    refine sb' 12 (by decide) (by decide) _ rfl _ fun m2 => ?_
    refine sb' 13 (by decide) (by decide) _ rfl _ fun m3 => ?_
    refine sb' 14 (by decide) (by decide) _ rfl _ fun m4 => ?_
    refine sb' 15 (by decide) (by decide) _ rfl _ fun m5 => ?_
    rw [decide_eq_false (fun z => by
      rcases (show kw T P = 11 ∨ kw T P = 12 ∨ kw T P = 13 ∨ kw T P = 14 ∨ kw T P = 15 by omega) with e | e | e | e | e
      · exact m1 ⟨z.1, e⟩
      · exact m2 ⟨z.1, e⟩
      · exact m3 ⟨z.1, e⟩
      · exact m4 ⟨z.1, e⟩
      · exact m5 ⟨z.1, e⟩)]
    rfl
  rw [hb, r1_s]
  by_cases e : kd T P = 1 ∧ 11 ≤ kw T P ∧ kw T P < 16
  · rw [decide_eq_true e, if_neg (by decide), decide_eq_true ⟨e.1, by omega⟩]
    rfl
  · rw [decide_eq_false e, if_pos (by decide), sideOf_run w hP, r1_s]
    by_cases e2 : kd T P = 1 ∧ 16 ≤ kw T P ∧ kw T P < 20
    · have : tD T P = true := decide_eq_true e2
      rw [this, decide_eq_true ⟨e2.1, e2.2.2⟩, if_pos rfl, if_neg (nI_m1 (show dv T P < 2 ^ 31 by unfold dv; omega))]
      rfl
    · have : tD T P = false := decide_eq_false e2
      rw [this, decide_eq_false (fun z => by
        have h20 : kw T P < 20 := z.2
        have h1 : kd T P = 1 := z.1
        rcases Nat.lt_or_ge (kw T P) 11 with g | g
        · rcases (show kw T P = 0 ∨ kw T P = 1 ∨ kw T P = 2 ∨ kw T P = 3 ∨ kw T P = 4 ∨ kw T P = 5 ∨ kw T P = 6 ∨ kw T P = 7 ∨ kw T P = 8 ∨ kw T P = 9 ∨ kw T P = 10 by omega) with g | g | g | g | g | g | g | g | g | g | g
          · exact n0 ⟨h1, g⟩
          · exact n1 ⟨h1, g⟩
          · exact n2 ⟨h1, g⟩
          · exact n3 ⟨h1, g⟩
          · exact n4 ⟨h1, g⟩
          · exact n5 ⟨h1, g⟩
          · exact n6 ⟨h1, g⟩
          · exact n7 ⟨h1, g⟩
          · exact n8 ⟨h1, g⟩
          · exact n9 ⟨h1, g⟩
          · exact n10 ⟨h1, g⟩
        · rcases Nat.lt_or_ge (kw T P) 16 with g2 | g2
          · exact e ⟨h1, g, g2⟩
          · exact e2 ⟨h1, g2, h20⟩), show (if false = true then nI (dv T P) else -1 : Int32) = -1 from rfl, if_pos rfl]
      rfl

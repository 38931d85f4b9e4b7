/-! the class's tokens: keywords, numbers, splitting -/
def bykw (p : Nat) : Nat := [112, 108, 97, 116, 101, 32, 114, 111, 119, 32, 115, 104, 97, 112, 101, 32, 112, 117, 116, 32, 116, 117, 114, 110, 101, 100, 32, 104, 111, 108, 100, 32, 119, 111, 114, 116, 104, 32, 116, 111, 32, 98, 114, 117, 115, 104, 32, 119, 101, 97, 114, 32, 98, 114, 105, 100, 103, 101, 32, 115, 116, 114, 97, 105, 103, 104, 116, 32, 98, 114, 111, 97, 100, 32, 99, 111, 114, 110, 101, 114, 32, 116, 111, 108, 100, 32, 104, 105, 100, 100, 101, 110, 32, 110, 111, 114, 116, 104, 32, 101, 97, 115, 116, 32, 115, 111, 117, 116, 104, 32, 119, 101, 115, 116, 32].getD p 0
theorem bykw_ok : ∀ p, p < 115 → ((qz_by.getD p 0 &&& nI 255).toUInt32 % 65536).toInt32 = nI (bykw p) ∧ nI (bykw p) = ((nI (bykw p)).toUInt32 % 65536).toInt32 ∧ bykw p < 128 := by decide +kernel
theorem char22_run (X : qz_X) (s : sT) {p : Nat} (hp : p < 115) : rn 22 0 [some (.ref 1000004), some (.int (nI p))] [] (mk X s) = some (some (.int (nI (bykw p))), mk X s) := by
  obtain ⟨h1, h2, h3⟩ := bykw_ok p hp
  rw [e_StringLatin1_charAt_0]
  show (if nI p < 0 ∨ nI 115 ≤ nI p then none else qz_ba (mk X s).1 1000004 (nI p) _) = _
  rw [if_neg (by
    rintro (h | h)
    · exact nI_pos (by omega) h
    · exact nI_ge hp (by decide) h)]
  show (if nI p < 0 ∨ 115 ≤ (nI p).toNatClampNeg then none else _) = _
  rw [if_neg (nI_in hp (by decide)), nI_clamp (by omega)]
  try dsimp only
  rw [h1, if_pos h2]
theorem charAt_run (X : qz_X) (s : sT) {p : Nat} (hp : p < 115) : rn 23 0 [some (.ref 1000003), some (.int (nI p))] [] (mk X s) = some (some (.int (nI (bykw p))), mk X s) := by
  obtain ⟨h1, h2, h3⟩ := bykw_ok p hp
  rw [e_String_charAt_0]
  show qz_r1 (rn 21 0 [some (.ref 1000003)] [] (mk X s)) _ = _
  rw [e_String_isLatin1_0, if_neg (by decide)]
  show qz_r1 (if (0 : Int32) = 0 then some (some (.int (nI 1)), mk X s) else some (some (.int (nI 0)), mk X s)) _ = _
  rw [if_pos rfl, r1_s, if_neg (by decide)]
  show qz_r1 (rn 22 0 [some (.ref 1000004), some (.int (nI p))] [] (mk X s)) _ = _
  rw [char22_run X s hp, r1_s, if_pos h2]
theorem length_run (X : qz_X) (s : sT) : rn 20 0 [some (.ref 1000003)] [] (mk X s) = some (some (.int (nI 115)), mk X s) := by
  rw [e_String_length_0]
  show qz_r1 (rn 19 0 [some (.ref 1000003)] [] (mk X s)) _ = _
  rw [e_String_coder_0, if_neg (by decide)]
  show qz_r1 (if (0 : Int32) = (0 : Int32).toInt8.toInt32 then some (some (.int 0), mk X s) else none) _ = _
  rw [if_pos (by decide), r1_s]
  rfl
theorem ck_kw (X : qz_X) (s : sT) (f : Option qz_R) : qz_ck (mk X s).1 1000003 13 f = f := rfl
theorem pkw_eq {f g : Nat → Nat} : ∀ l, (∀ i, i < l → f i < 256 ∧ g i < 256) → (pkw f l = pkw g l ↔ ∀ i, i < l → f i = g i)
  | 0, _ => ⟨fun _ i h => absurd h (Nat.not_lt_zero i), fun _ => rfl⟩
  | l + 1, h => by
    have ih := pkw_eq l (fun i hi => h i (by omega))
    obtain ⟨h1, h2⟩ := h l (Nat.lt_succ_self l)
    show 256 * pkw f l + f l = 256 * pkw g l + g l ↔ _
    constructor
    · intro e i hi
      by_cases e2 : i = l
      · subst e2; omega
      · exact ih.mp (by omega) i (by omega)
    · intro e
      rw [ih.mpr (fun i hi => e i (by omega)), e l (Nat.lt_succ_self l)]
theorem KC_ok : ∀ k, k < 20 → pkw (fun i => bykw (qz_gd 0 KB k + i)) (qz_gd 0 KL k) = qz_gd 0 KC k ∧ qz_gd 0 KB k + qz_gd 0 KL k < 115 ∧ 2 ≤ qz_gd 0 KL k ∧ qz_gd 0 KL k ≤ 8 := by decide +kernel
/-- at p: the keyword's number, where it begins, whether a blank -/
def kwn (p : Nat) : Nat := fa_cnt (fun i => bykw i == 32) p
theorem kwn_ok : ∀ p, p < 115 → (bykw p = 32 → kwn p < 20 ∧ p = qz_gd 0 KB (kwn p) + qz_gd 0 KL (kwn p) ∧ kwn (p + 1) = kwn p + 1 ∧ qz_gd 115 KB (kwn p + 1) = p + 1) ∧ (¬ bykw p = 32 → kwn (p + 1) = kwn p) := by decide +kernel
theorem isKeyword_run (X : qz_X) {T : txT} (hT : okT T) {s : sT} (ht : ∀ j, j < T.1 → s.1 80 j = nI (T.2 j)) {P b l : Nat} (hP : P + l ≤ T.1) (hb : b + l ≤ 115) : rn 24 0 [some (.ref 79), some (.int (nI P)), some (.int (nI b)), some (.int (nI l)), none] [] (mk X s) = some (some (.int (bI (decide (∀ i, i < l → T.2 (P + i) = bykw (b + i))))), mk X s) := by
  have hn := hT.1
  rw [e_Tokens_isKeyword_0]
  have key : ∀ d i, i + d = l → (∀ j, j < i → T.2 (P + j) = bykw (b + j)) → rn 24 3 [some (.ref 79), some (.int (nI P)), some (.int (nI b)), some (.int (nI l)), some (.int (nI i))] [] (mk X s) = some (some (.int (bI (decide (∀ i, i < l → T.2 (P + i) = bykw (b + i))))), mk X s) := by
    intro d
    induction d with
    | zero =>
      intro i hi h
      rw [e_Tokens_isKeyword_3, if_pos (by rw [nI_leI (by omega) (by omega)]; omega), decide_eq_true (fun j hj => h j (by omega))]
      rfl
    | succ d ih =>
      intro i hi h
      have h2 := (bykw_ok (b + i) (by omega)).2.2
      have h3 := hT.2 (P + i) (by omega)
      rw [e_Tokens_isKeyword_3, if_neg (by rw [nI_leI (by omega) (by omega)]; omega), g_K_text, nI_add, nI_add, i_K_text (by omega), ck_kw, charAt_run X s (by omega), r1_s, ht _ (by omega)]
      by_cases e : T.2 (P + i) = bykw (b + i)
      · rw [if_pos (by rw [e]), nI_add, ih (i + 1) (by omega) (fun j hj => by
          by_cases e2 : j = i
          · rw [e2]; exact e
          · exact h j (by omega))]
      · rw [if_neg (fun z => e ((nI_eq (by omega) (by omega)).mp z)), decide_eq_false (fun z => e (z i (by omega)))]
        rfl
  exact key l 0 (by omega) (fun j hj => absurd hj (Nat.not_lt_zero j))
theorem kwF_step {M : Nat → Bool} {k : Nat} (h : k < 20) : kwF M (20 - k) k = cond (M k) k (kwF M (20 - (k + 1)) (k + 1)) := by
  rw [show 20 - k = (20 - (k + 1)) + 1 by omega]
  rfl
theorem kwF_bd (M : Nat → Bool) : ∀ d k, k ≤ kwF M d k ∧ kwF M d k ≤ k + d ∧ (kwF M d k < k + d → M (kwF M d k) = true) ∧ ∀ j, k ≤ j → j < kwF M d k → M j = false
  | 0, k => ⟨Nat.le_refl _, Nat.le_refl _, fun h => absurd h (Nat.lt_irrefl _), fun j h1 h2 => absurd h2 (Nat.not_lt.mpr h1)⟩
  | d + 1, k => by
    obtain ⟨h1, h2, h3, h4⟩ := kwF_bd M d (k + 1)
    unfold kwF
    cases e : M k
    · refine ⟨by show k ≤ kwF M d (k + 1); omega, by show kwF M d (k + 1) ≤ _; omega, fun h => h3 (by have h : kwF M d (k + 1) < k + (d + 1) := h; omega), fun j hj hk => ?_⟩
      by_cases e2 : j = k
      · rw [e2]; exact e
      · exact h4 j (by omega) hk
    · exact ⟨Nat.le_refl _, by show k ≤ _; omega, fun _ => e, fun j hj hk => by have hk : j < k := hk; omega⟩
theorem keywordAt_run (X : qz_X) {T : txT} (hT : okT T) {s : sT} (ht : ∀ j, j < T.1 → s.1 80 j = nI (T.2 j)) {P : Nat} (hP : P < T.1) : rn 25 0 [some (.ref 79), some (.int (nI P)), some (.int (nI (ln T P))), none, none, none] [] (mk X s) = some (some (.int (kwI T P)), mk X s) := by
  have hn := hT.1
  have hl := ln_pos hP
  have hw := (kwF_bd (kwM T P) 20 0).2.1
  rw [e_Tokens_keywordAt_0]
  have key : ∀ d p, p + d = 115 → kw T P = kwF (kwM T P) (20 - kwn p) (kwn p) → rn 25 8 [some (.ref 79), some (.int (nI P)), some (.int (nI (ln T P))), some (.int (nI (kwn p))), some (.int (nI (qz_gd 115 KB (kwn p)))), some (.int (nI p))] [] (mk X s) = some (some (.int (kwI T P)), mk X s) := by
    intro d
    induction d with
    | zero =>
      intro p hp h
      have hp : p = 115 := by omega
      subst hp
      have hk : kwn 115 = 20 := by decide +kernel
      rw [hk] at h
      have h20 : kw T P = 20 := h
      rw [e_Tokens_keywordAt_8, ck_kw, length_run, r1_s, if_pos (nI_le (Nat.le_refl _) (by decide)), kwI, if_neg (by omega)]
    | succ d ih =>
      intro p hp h
      have hp2 : p < 115 := by omega
      have hb := (bykw_ok p hp2).2.2
      obtain ⟨k1, k2⟩ := kwn_ok p hp2
      rw [e_Tokens_keywordAt_8, ck_kw, length_run, r1_s, if_neg (nI_ge hp2 (by decide)), ck_kw, charAt_run X s hp2, r1_s]
      by_cases h32 : bykw p = 32
      · obtain ⟨a1, a2, a3, a4⟩ := k1 h32
        obtain ⟨c1, c2, c3, c4⟩ := KC_ok (kwn p) a1
        have hgd : qz_gd 115 KB (kwn p) = qz_gd 0 KB (kwn p) := (show ∀ k, k < 20 → qz_gd 115 KB k = qz_gd 0 KB k by decide) _ a1
        rw [kwF_step a1] at h
        have nx : ∀ (hM : kwM T P (kwn p) = false), rn 25 8 [some (.ref 79), some (.int (nI P)), some (.int (nI (ln T P))), some (.int (nI (kwn p) + nI 1)), some (.int (nI p + nI 1)), some (.int (nI p + nI 1))] [] (mk X s) = some (some (.int (kwI T P)), mk X s) := fun hM => by
          rw [hM] at h
          have := ih (p + 1) (by omega) (by rw [a3]; exact h)
          rw [a3, a4] at this
          rw [nI_add, nI_add]
          exact this
        rw [if_pos (by rw [h32]), hgd, pk_sub (by omega), show p - qz_gd 0 KB (kwn p) = qz_gd 0 KL (kwn p) by omega]
        by_cases hL : qz_gd 0 KL (kwn p) = ln T P
        · rw [if_pos (by rw [hL]), ck_K, isKeyword_run X hT ht hl.2 (by omega), r1_s]
          have hq : kwM T P (kwn p) = decide (∀ i, i < ln T P → T.2 (P + i) = bykw (qz_gd 0 KB (kwn p) + i)) := by
            have := pkw_eq (f := fun i => T.2 (P + i)) (g := fun i => bykw (qz_gd 0 KB (kwn p) + i)) (ln T P) (fun i hi => ⟨hT.2 _ (by omega), Nat.lt_trans (bykw_ok _ (by omega)).2.2 (by decide)⟩)
            unfold kwM
            rw [hL, beq_self_eq_true, Bool.true_and, ← c1, hL, Bool.eq_iff_iff, decide_eq_true_iff, beq_iff_eq]
            exact this
          rw [← hq]
          cases hM : kwM T P (kwn p)
          · rw [if_pos (by decide)]
            exact nx hM
          · rw [hM] at h
            have h : kw T P = kwn p := h
            rw [if_neg (by decide), kwI, h, if_pos a1]
        · rw [if_neg (fun z => hL ((nI_eq (by omega) (by omega)).mp z))]
          refine nx ?_
          unfold kwM
          rw [show (ln T P == qz_gd 0 KL (kwn p)) = false from by rw [beq_eq_false_iff_ne]; exact fun z => hL z.symm]
          rfl
      · rw [if_neg (fun z => h32 ((nI_eq (by omega) (by decide)).mp z)), nI_add]
        have := ih (p + 1) (by omega) (by rw [k2 h32]; exact h)
        rw [k2 h32] at this
        exact this
  exact key 115 0 (by omega) rfl
theorem nm_lt {T : txT} {P : Nat} : ∀ l, (∀ i, i < l → kdb (T.2 (P + i)) = 2) → nm T P l < 10 ^ l
  | 0, _ => Nat.lt_succ_self 0
  | l + 1, h => by
    have ih := nm_lt l (fun i hi => h i (by omega))
    have hd := h l (Nat.lt_succ_self l)
    have hb : T.2 (P + l) ≤ 57 := by
      unfold kdb at hd
      by_cases h1 : 97 ≤ T.2 (P + l) ∧ T.2 (P + l) ≤ 122
      · rw [if_pos h1] at hd; omega
      · rw [if_neg h1] at hd
        by_cases h2 : 48 ≤ T.2 (P + l) ∧ T.2 (P + l) ≤ 57
        · exact h2.2
        · rw [if_neg h2] at hd; omega
    show 10 * nm T P l + (T.2 (P + l) - 48) < 10 ^ (l + 1)
    rw [Nat.pow_succ]
    omega
theorem kdb_2 {b : Nat} : kdb b = 2 ↔ 48 ≤ b ∧ b ≤ 57 := by
  unfold kdb
  by_cases h1 : 97 ≤ b ∧ b ≤ 122
  · rw [if_pos h1]; omega
  · rw [if_neg h1]
    by_cases h2 : 48 ≤ b ∧ b ≤ 57
    · rw [if_pos h2]; omega
    · rw [if_neg h2]; omega
theorem kdb_1 {b : Nat} : kdb b = 1 ↔ 97 ≤ b ∧ b ≤ 122 := by
  unfold kdb
  by_cases h1 : 97 ≤ b ∧ b ≤ 122
  · rw [if_pos h1]; omega
  · rw [if_neg h1]
    by_cases h2 : 48 ≤ b ∧ b ≤ 57
    · rw [if_pos h2]; omega
    · rw [if_neg h2]; omega
theorem numberAt_run (X : qz_X) {T : txT} (hT : okT T) {s : sT} (ht : ∀ j, j < T.1 → s.1 80 j = nI (T.2 j)) {P : Nat} (hk : kd T P = 2) : rn 26 0 [some (.ref 79), some (.int (nI P)), some (.int (nI (ln T P))), none, none] [] (mk X s) = some (some (.int (if ln T P ≤ 4 then nI (nm T P (ln T P)) else -1)), mk X s) := by
  have hn := hT.1
  obtain ⟨hP, he, hd⟩ := ln_en hk (Or.inr rfl)
  have hl := ln_pos hP
  rw [e_Tokens_numberAt_0]
  by_cases h4 : ln T P ≤ 4
  · rw [if_pos (nI_le h4 (by decide)), if_pos h4]
    have key : ∀ d i, i + d = ln T P → rn 26 12 [some (.ref 79), some (.int (nI P)), some (.int (nI (ln T P))), some (.int (nI (nm T P i))), some (.int (nI (P + i)))] [] (mk X s) = some (some (.int (nI (nm T P (ln T P)))), mk X s) := by
      intro d
      induction d with
      | zero =>
        intro i hi
        rw [e_Tokens_numberAt_12, nI_add, if_pos (by rw [nI_leI (by omega) (by omega)]; omega), show i = ln T P by omega]
      | succ d ih =>
        intro i hi
        have h1 := kdb_2.mp (hd i (by omega))
        rw [e_Tokens_numberAt_12, nI_add, if_neg (by rw [nI_leI (by omega) (by omega)]; omega), g_K_text, i_K_text (by omega), ht _ (by omega), pk_mul, nI_add, pk_sub (by omega), nI_add]
        have := ih (i + 1) (by omega)
        rw [show nm T P (i + 1) = nm T P i * 10 + T.2 (P + i) - 48 by show 10 * nm T P i + (T.2 (P + i) - 48) = _; omega] at this
        exact this
    exact key (ln T P) 0 (by omega)
  · rw [if_neg (nI_ge (by omega) (by omega)), if_neg h4]
theorem tk_cong {T : txT} {s u : sT} {a : Nat} (h : ∀ c, c ∈ [81, 82, 83, 84] → u.1 c a = s.1 c a) (hs : tkA T s a) : tkA T u a := by
  obtain ⟨h1, h2, h3, h4⟩ := hs
  exact ⟨(h 81 (by decide)).trans h1, (h 82 (by decide)).trans h2, (h 83 (by decide)).trans h3, (h 84 (by decide)).trans h4⟩
def sk4 (s : sT) (a : Nat) (x1 x2 x3 x4 : Int32) : sT := su (su (su (su s 81 a x1) 82 a x2) 83 a x3) 84 a x4
theorem sk4_o {s : sT} {a : Nat} {x1 x2 x3 x4 : Int32} {c j : Nat} (h : ¬ (81 ≤ c ∧ c ≤ 84 ∧ j = a)) : (sk4 s a x1 x2 x3 x4).1 c j = s.1 c j := by
  unfold sk4
  rw [su_1, if_neg (by omega), su_1, if_neg (by omega), su_1, if_neg (by omega), su_1, if_neg (by omega)]
theorem sk4_tk {T : txT} {s : sT} {a P : Nat} (hP : stn T a = P) {x1 x2 x3 x4 : Int32} (h1 : x1 = nI (kd T P)) (h2 : x2 = nI P) (h3 : x3 = nI (ln T P)) (h4 : x4 = vl T P) : tkA T (sk4 s a x1 x2 x3 x4) a := by
  unfold tkA sk4
  rw [hP]
  refine ⟨?_, ?_, ?_, ?_⟩
  · rw [su_1, if_neg (by omega), su_1, if_neg (by omega), su_1, if_neg (by omega), su_1, if_pos ⟨rfl, rfl⟩]; exact h1
  · rw [su_1, if_neg (by omega), su_1, if_neg (by omega), su_1, if_pos ⟨rfl, rfl⟩]; exact h2
  · rw [su_1, if_neg (by omega), su_1, if_pos ⟨rfl, rfl⟩]; exact h3
  · rw [su_1, if_pos ⟨rfl, rfl⟩]; exact h4
theorem addToken_run (X : qz_X) {T : txT} (hT : okT T) {s : sT} (ht : ∀ j, j < T.1 → s.1 80 j = nI (T.2 j)) {P a : Nat} (hP : P < T.1) (ha : a ≤ 1200) (hs : s.1 79 5 = nI a) : rn 27 0 [some (.ref 79), some (.int (nI P)), some (.int (nI (ln T P)))] [] (mk X s) = some (none, mk X (su (sk4 s a (nI (kd T P)) (nI P) (nI (ln T P)) (vl T P)) 79 5 (nI (a + 1)))) := by
  have hn := hT.1
  have hb := hT.2 P hP
  let s3 : sT := su (su (su s 81 a (nI (kd T P))) 82 a (nI P)) 83 a (nI (ln T P))
  have ht3 : ∀ j, j < T.1 → s3.1 80 j = nI (T.2 j) := fun j hj => by
    show (su (su (su s 81 a _) 82 a _) 83 a _).1 80 j = _
    rw [su_1, if_neg (by omega), su_1, if_neg (by omega), su_1, if_neg (by omega)]; exact ht j hj
  have hk3 : s3.1 81 a = nI (kd T P) := by
    show (su (su (su s 81 a _) 82 a _) 83 a _).1 81 a = _
    rw [su_1, if_neg (by omega), su_1, if_neg (by omega), su_1, if_pos ⟨rfl, rfl⟩]
  have hn3 : s3.1 79 5 = nI a := by
    show (su (su (su s 81 a _) 82 a _) 83 a _).1 79 5 = _
    rw [su_1, if_neg (by omega), su_1, if_neg (by omega), su_1, if_neg (by omega)]; exact hs
  have hk4 : kdb (T.2 P) < 4 := by rcases kdb_in (T.2 P) with e | e | e <;> omega
  have kP := kd_y hP
  have hsu : ∀ x, (su s3 84 a x).1 79 5 = nI a := fun x => by rw [su_1, if_neg (by omega)]; exact hn3
  rw [e_Tokens_addToken_0, g_K_kind, g_K_number, g_K_text, i_K_text (by omega), ht P hP, kindOf_run _ hb, r1_s, hs, w_K_kind (by omega), g_K_start, g_K_number, su_1, if_neg (by omega), hs, w_K_start (by omega), g_K_size, g_K_number, su_1, if_neg (by omega), su_1, if_neg (by omega), hs, w_K_size (by omega), ← kP]
  show qz_ga (mk X s3).1 79 10 1 _ = _
  rw [g_K_kind, g_K_number, hn3, i_K_kind (by omega), hk3]
  by_cases h1 : kd T P = 1
  · rw [if_pos (by rw [h1]), g_K_value, g_K_number, hn3, ck_K, keywordAt_run X hT ht3 hP, r1_s, w_K_value (by omega), g_K_number, hsu, p_K_number, nI_add]
    rw [show vl T P = kwI T P by unfold vl; rw [if_pos h1]]
    rfl
  · rw [if_neg (fun z => h1 ((nI_eq (by omega) (by decide)).mp z)), g_K_value, g_K_number, hn3, g_K_kind, g_K_number, hn3, i_K_kind (by omega), hk3]
    by_cases h2 : kd T P = 2
    · rw [if_pos (by rw [h2]), ck_K, numberAt_run X hT ht3 h2, r1_s, w_K_value (by omega), g_K_number, hsu, p_K_number, nI_add]
      rw [show vl T P = (if ln T P ≤ 4 then nI (nm T P (ln T P)) else -1) by unfold vl; rw [if_neg h1, if_pos h2]]
      rfl
    · have h3 : kd T P = 3 := by rw [kP] at h1 h2 ⊢; rcases kdb_in (T.2 P) with e | e | e <;> omega
      rw [if_neg (fun z => h2 ((nI_eq (by omega) (by decide)).mp z)), g_K_text, i_K_text (by omega), ht3 P hP, w_K_value (by omega), g_K_number, hsu, p_K_number, nI_add]
      rw [show vl T P = nI (T.2 P) by unfold vl; rw [if_neg h1, if_neg h2, if_pos h3]]
      rfl

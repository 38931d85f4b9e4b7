/-! the reference: what is taken of the text -/
def sb (b : Nat) : Int32 := (nI b).toInt8.toInt32
theorem sb_bl : ∀ b, b < 256 → (sb b = nI 32 ↔ b = 32) ∧ (sb b = nI 10 ↔ b = 10) := by decide +kernel
theorem sb_eq {c : Nat} (hc : c = 44 ∨ c = 59) : ∀ b, b < 256 → (sb b = nI c ↔ b = c) := by
  rcases hc with rfl | rfl <;> decide +kernel
theorem sb_1 : ∀ b, b < 256 → (kdb b = 1 → ¬ sb b < nI 97 ∧ ¬ nI 122 < sb b ∧ sb b = nI b) ∧ (¬ kdb b = 1 → sb b < nI 97 ∨ (¬ sb b < nI 97 ∧ nI 122 < sb b)) := by decide +kernel
theorem sb_2 : ∀ b, b < 256 → (kdb b = 2 → ¬ sb b < nI 48 ∧ ¬ nI 57 < sb b ∧ sb b = nI b) ∧ (¬ kdb b = 2 → sb b < nI 48 ∨ (¬ sb b < nI 48 ∧ nI 57 < sb b)) := by decide +kernel
def mPo (T : txT) (P : Nat) (t : sT) : Prop := (∀ j, j < T.1 → t.1 333 j = sb (T.2 j)) ∧ t.1 318 15 = nI T.1 ∧ ∃ p, p ≤ T.1 ∧ t.1 318 16 = nI p ∧ sk T p = P
def oM (L : List Nat) (t u : sT) : Prop := u.2 = t.2 ∧ ∀ c j, ¬ (c = 318 ∧ j ∈ L) → u.1 c j = t.1 c j
theorem oM.tr {L : List Nat} {t u v : sT} (h : oM L t u) (g : oM L u v) : oM L t v := ⟨g.1.trans h.1, fun c j e => (g.2 c j e).trans (h.2 c j e)⟩
theorem oM.rf {L : List Nat} (t : sT) : oM L t t := ⟨rfl, fun _ _ _ => rfl⟩
theorem oM.mo {L K : List Nat} {t u : sT} (h : oM L t u) (hs : ∀ j, j ∈ L → j ∈ K) : oM K t u := ⟨h.1, fun c j e => h.2 c j (fun z => e ⟨z.1, hs j z.2⟩)⟩
theorem oM_su {L : List Nat} {t : sT} {j : Nat} {x : Int32} (h : j ∈ L) : oM L t (su t 318 j x) := ⟨rfl, fun c i e => by
  rw [su_1, if_neg]
  rintro ⟨rfl, rfl⟩
  exact e ⟨rfl, h⟩⟩
theorem mPo_o {L : List Nat} {T : txT} {P : Nat} {t u : sT} (h : mPo T P t) (o : oM L t u) (h15 : 15 ∉ L) (h16 : u.1 318 16 = t.1 318 16) : mPo T P u := by
  obtain ⟨a1, a2, p, b1, b2, b3⟩ := h
  exact ⟨fun j hj => by rw [o.2 333 j (by omega)]; exact a1 j hj, by rw [o.2 318 15 (fun e => h15 e.2)]; exact a2, p, b1, h16.trans b2, b3⟩
theorem mPo_at {L : List Nat} {T : txT} {P p : Nat} {t u : sT} (h : mPo T P t) (o : oM L t u) (h15 : 15 ∉ L) (hp : p ≤ T.1) (h16 : u.1 318 16 = nI p) : mPo T (sk T p) u := by
  obtain ⟨a1, a2, _, b1, b2, b3⟩ := h
  exact ⟨fun j hj => by rw [o.2 333 j (by omega)]; exact a1 j hj, by rw [o.2 318 15 (fun e => h15 e.2)]; exact a2, p, hp, h16, rfl⟩
theorem su_su (t : sT) (c k : Nat) (x y : Int32) : su (su t c k x) c k y = su t c k y := by
  refine Prod.ext ?_ rfl
  funext i j
  by_cases e : i = c ∧ j = k
  · rw [su_1, if_pos e, su_1, if_pos e]
  · rw [su_1, if_neg e, su_1, if_neg e, su_1, if_neg e]
section MT
variable {T : txT} {P : Nat} {t : sT}
theorem blanks_run (X : qz_X) (hT : okT T) : ∀ (d p : Nat) (t : sT), p + d = T.1 → (∀ j, j < T.1 → t.1 333 j = sb (T.2 j)) → t.1 318 15 = nI T.1 → t.1 318 16 = nI p → rn 75 0 [some (.ref 318)] [] (mk X t) = some (none, mk X (su t 318 16 (nI (sk T p))))
  | 0, p, t, hp, h1, h2, h3 => by
    have hn := hT.1
    rw [e_M_blanks_0, g_M_at, g_M_size, h2, h3, if_pos (by rw [nI_leI (by omega) (by omega)]; omega), sk_e (by omega), su_same h3]
  | d + 1, p, t, hp, h1, h2, h3 => by
    have hn := hT.1
    have hpn : p < T.1 := by omega
    have hb := hT.2 p hpn
    have hg : rn 75 0 [some (.ref 318)] [] (mk X (su t 318 16 (nI (p + 1)))) = some (none, mk X (su t 318 16 (nI (sk T (p + 1))))) := by
      rw [blanks_run X hT d (p + 1) (su t 318 16 (nI (p + 1))) (by omega) (fun j hj => by rw [su_1, if_neg (by omega)]; exact h1 j hj) (by rw [su_1, if_neg (by omega)]; exact h2) (by rw [su_1, if_pos ⟨rfl, rfl⟩]), su_su]
    rw [e_M_blanks_0, g_M_at, g_M_size, h2, h3, if_neg (by rw [nI_leI (by omega) (by omega)]; omega), g_M_text, g_M_at, h3, i_M_text (by omega), h1 p hpn, sk_s hpn]
    by_cases h32 : T.2 p = 32
    · rw [if_pos ((sb_bl _ hb).1.mpr h32), g_M_at, h3, p_M_at, nI_add, hg, show blb (T.2 p) = true by rw [h32]; rfl, if_pos rfl]
    · rw [if_neg (fun z => h32 ((sb_bl _ hb).1.mp z)), g_M_text, g_M_at, h3, i_M_text (by omega), h1 p hpn]
      by_cases h10 : T.2 p = 10
      · rw [if_pos ((sb_bl _ hb).2.mpr h10), g_M_at, h3, p_M_at, nI_add, hg, show blb (T.2 p) = true by rw [h10]; rfl, if_pos rfl]
      · rw [if_neg (fun z => h10 ((sb_bl _ hb).2.mp z)), show blb (T.2 p) = false by unfold blb; rw [beq_eq_false_iff_ne.mpr h32, beq_eq_false_iff_ne.mpr h10]; rfl, if_neg (by decide), su_same h3]
theorem M_blank (X : qz_X) (hT : okT T) (h : mPo T P t) : rn 75 0 [some (.ref 318)] [] (mk X t) = some (none, mk X (su t 318 16 (nI P))) := by
  obtain ⟨a1, a2, p, b1, b2, b3⟩ := h
  rw [blanks_run X hT (T.1 - p) p t (by omega) a1 a2 b2, b3]
theorem mPo_le (h : mPo T P t) : P ≤ T.1 ∧ sk T P = P := by
  obtain ⟨a1, a2, p, b1, b2, b3⟩ := h
  rw [← b3]
  exact ⟨sk_le b1, sk_sk b1⟩
def wdl (T : txT) (P : Nat) : Nat := if kd T P = 1 then ln T P else 0
def wdf (T : txT) (P i : Nat) : Nat := T.2 (P + i)
def wdv (T : txT) (P : Nat) : Nat := if wdl T P ≤ 8 then pkw (wdf T P) (wdl T P) else 0
theorem wdl_ok (hP : P ≤ T.1) : P + wdl T P ≤ T.1 ∧ (∀ i, i < wdl T P → kdb (T.2 (P + i)) = 1) ∧ (P + wdl T P < T.1 → ¬ kdb (T.2 (P + wdl T P)) = 1) := by
  unfold wdl
  by_cases h : kd T P = 1
  · rw [if_pos h]
    obtain ⟨h1, h2, h3⟩ := ln_en h (Or.inl rfl)
    refine ⟨ln_le hP, h3, fun hh => ?_⟩
    rw [h2] at hh ⊢
    exact en_out hP hh
  · rw [if_neg h]
    refine ⟨hP, fun i hi => absurd hi (Nat.not_lt_zero i), fun hh => ?_⟩
    rw [Nat.add_zero] at hh ⊢
    rwa [kd_y hh] at h
theorem pkw_bd {f : Nat → Nat} : ∀ l, (∀ i, i < l → 97 ≤ f i ∧ f i ≤ 122) → pkw f (l) < 256 ^ l ∧ (1 ≤ l → 97 * 256 ^ (l - 1) ≤ pkw f l ∧ pkw f l < 123 * 256 ^ (l - 1))
  | 0, _ => ⟨Nat.lt_succ_self 0, fun h => absurd h (by decide)⟩
  | 1, h => by
    have := h 0 (by decide)
    refine ⟨by show 256 * 0 + f 0 < 256; omega, fun _ => ⟨by show 97 * 1 ≤ 256 * 0 + f 0; omega, by show 256 * 0 + f 0 < 123 * 1; omega⟩⟩
  | l + 2, h => by
    obtain ⟨h1, h2⟩ := pkw_bd (l + 1) (fun i hi => h i (by omega))
    obtain ⟨h3, h4⟩ := h2 (by omega)
    have h5 := h (l + 1) (by omega)
    rw [show l + 1 - 1 = l from rfl] at h3 h4
    have e : pkw f (l + 2) = 256 * pkw f (l + 1) + f (l + 1) := rfl
    rw [e, show l + 2 - 1 = l + 1 from rfl]
    have p1 : 256 ^ (l + 2) = 256 ^ (l + 1) * 256 := Nat.pow_succ _ _
    have p2 : 256 ^ (l + 1) = 256 ^ l * 256 := Nat.pow_succ _ _
    refine ⟨by omega, fun _ => ⟨by omega, by omega⟩⟩
theorem lN_sh {a b : Nat} (hb : b < 256) : (lN a <<< ((nI 8).toInt64 &&& 63)) ||| (lN b) = lN (256 * a + b) := by
  apply Int64.toBitVec_inj.mp
  rw [Int64.toBitVec_or, Int64.toBitVec_shiftLeft]
  have e : (((nI 8).toInt64 &&& 63).toBitVec.smod 64) = 8#64 := by decide +kernel
  rw [e]
  show (BitVec.ofNat 64 a <<< (8#64)) ||| BitVec.ofNat 64 b = BitVec.ofNat 64 (256 * a + b)
  apply BitVec.eq_of_toNat_eq
  rw [BitVec.toNat_or]
  show ((BitVec.ofNat 64 a) <<< (8 : Nat)).toNat ||| _ = _
  rw [BitVec.toNat_shiftLeft, BitVec.toNat_ofNat, BitVec.toNat_ofNat, BitVec.toNat_ofNat, Nat.shiftLeft_eq]
  have h1 : (a % 2 ^ 64 * 2 ^ 8) % 2 ^ 64 = 2 ^ 8 * (a % 2 ^ 56) := by omega
  rw [h1, Nat.mod_eq_of_lt (show b < 2 ^ 64 by omega), ← Nat.two_pow_add_eq_or_of_lt (show b < 2 ^ 8 from hb)]
  omega
def W20 (T : txT) (P : Nat) (t : sT) : sT := su (su t 318 16 (nI P)) 318 20 (nI (P + wdl T P))
theorem word_run (X : qz_X) (hT : okT T) (h : mPo T P t) : rn 76 0 [some (.ref 318), none, none] [] (mk X t) = some (some (.long (lN (wdv T P))), mk X (W20 T P t)) := by
  have hn := hT.1
  obtain ⟨hP, _⟩ := mPo_le h
  obtain ⟨w1, w2, w3⟩ := wdl_ok hP
  obtain ⟨a1, a2, _, _, _, _⟩ := id h
  rw [e_M_word_0, ck_M, M_blank X hT h, r0_s, g_M_at, su_1, if_pos ⟨rfl, rfl⟩, p_M_wordEnd]
  have key : ∀ d i (u : sT), i + d = wdl T P → u = su (su t 318 16 (nI P)) 318 20 (nI (P + i)) → rn 76 14 [some (.ref 318), some (.long (lN (if i ≤ 8 then pkw (wdf T P) i else 0))), none] [] (mk X u) = some (some (.long (lN (wdv T P))), mk X (W20 T P t)) := by
    intro d
    induction d with
    | zero =>
      intro i u hi hu
      have u20 : u.1 318 20 = nI (P + i) := by rw [hu, su_1, if_pos ⟨rfl, rfl⟩]
      have u16 : u.1 318 16 = nI P := by rw [hu, su_1, if_neg (by omega), su_1, if_pos ⟨rfl, rfl⟩]
      have u15 : u.1 318 15 = nI T.1 := by rw [hu, su_1, if_neg (by omega), su_1, if_neg (by omega)]; exact a2
      have hi : i = wdl T P := by omega
      have hend : ∀ v, (if nI (P + i) - nI P ≤ nI 8 then some (some (.long (lN (if i ≤ 8 then pkw (wdf T P) i else 0))), v) else some (some (.long (lN 0)), v) : Option qz_R) = some (some (.long (lN (wdv T P))), v) := fun v => by
        rw [pk_sub (by omega), show P + i - P = i by omega]
        unfold wdv
        rw [← hi]
        by_cases h8 : i ≤ 8
        · rw [if_pos (nI_le h8 (by decide)), if_pos h8]
        · rw [if_neg (nI_ge (by omega) (by omega)), if_neg h8]
      have hW : u = W20 T P t := by rw [hu, hi]; rfl
      rw [e_M_word_14, g_M_wordEnd, g_M_size, u20, u15]
      by_cases hE : T.1 ≤ P + i
      · rw [if_pos (nI_le hE (by omega)), g_M_wordEnd, g_M_at, u20, u16, hend, hW]
      · have hk := w3 (by omega)
        rw [← hi] at hk
        have hb := hT.2 (P + i) (by omega)
        have u333 : u.1 333 (P + i) = sb (T.2 (P + i)) := by rw [hu, su_1, if_neg (by omega), su_1, if_neg (by omega)]; exact a1 _ (by omega)
        rw [if_neg (nI_ge (by omega) (by omega)), g_M_text, g_M_wordEnd, u20, i_M_text (by omega), u333]
        rcases (sb_1 _ hb).2 hk with z | ⟨z1, z2⟩
        · rw [if_pos z, g_M_wordEnd, g_M_at, u20, u16, hend, hW]
        · rw [if_neg z1, g_M_text, g_M_wordEnd, u20, i_M_text (by omega), u333, if_pos z2, g_M_wordEnd, g_M_at, u20, u16, hend, hW]
    | succ d ih =>
      intro i u hi hu
      have u20 : u.1 318 20 = nI (P + i) := by rw [hu, su_1, if_pos ⟨rfl, rfl⟩]
      have u16 : u.1 318 16 = nI P := by rw [hu, su_1, if_neg (by omega), su_1, if_pos ⟨rfl, rfl⟩]
      have u15 : u.1 318 15 = nI T.1 := by rw [hu, su_1, if_neg (by omega), su_1, if_neg (by omega)]; exact a2
      have hb := hT.2 (P + i) (by omega)
      have u333 : u.1 333 (P + i) = sb (T.2 (P + i)) := by rw [hu, su_1, if_neg (by omega), su_1, if_neg (by omega)]; exact a1 _ (by omega)
      obtain ⟨z1, z2, z3⟩ := (sb_1 _ hb).1 (w2 i (by omega))
      rw [e_M_word_14, g_M_wordEnd, g_M_size, u20, u15, if_neg (nI_ge (by omega) (by omega)), g_M_text, g_M_wordEnd, u20, i_M_text (by omega), u333, if_neg z1, g_M_text, g_M_wordEnd, u20, i_M_text (by omega), u333, if_neg z2, g_M_wordEnd, g_M_at, u20, u16, pk_sub (by omega), show P + i - P = i by omega]
      have ih' := ih (i + 1) (su u 318 20 (nI (P + (i + 1)))) (by omega) (by rw [hu, su_su])
      by_cases h8 : 8 ≤ i
      · rw [if_pos (nI_le h8 (by omega)), g_M_wordEnd, u20, p_M_wordEnd, nI_add]
        rw [if_neg (by omega)] at ih'
        exact ih'
      · rw [if_neg (nI_ge (by omega) (by decide)), g_M_text, g_M_wordEnd, u20, i_M_text (by omega), u333, g_M_wordEnd, u20, p_M_wordEnd, nI_add, if_pos (by omega), z3, show (nI (T.2 (P + i))).toInt64 = lN (T.2 (P + i)) from nI_l (by omega), lN_sh hb]
        rw [if_pos (by omega)] at ih'
        exact ih'
  exact key (wdl T P) 0 _ (by omega) rfl
theorem kdb1_b {b : Nat} (h : kdb b = 1) : 97 ≤ b ∧ b ≤ 122 := kdb_1.mp h
theorem wdv_lt (hP : P ≤ T.1) : wdv T P < 2 ^ 63 := by
  unfold wdv
  by_cases h8 : wdl T P ≤ 8
  · rw [if_pos h8]
    have hb := pkw_bd (f := wdf T P) (wdl T P) (fun i hi => kdb1_b ((wdl_ok hP).2.1 i hi))
    rcases Nat.eq_zero_or_pos (wdl T P) with e | e
    · rw [e]; show 0 < 2 ^ 63; decide
    · have h1 := (hb.2 e).2
      have h2 : 256 ^ (wdl T P - 1) ≤ 256 ^ 7 := Nat.pow_le_pow_right (by decide) (by omega)
      omega
  · rw [if_neg h8]; decide
theorem KC_bd : ∀ k, k < 20 → 256 ^ (qz_gd 0 KL k - 1) ≤ qz_gd 0 KC k ∧ qz_gd 0 KC k < 256 ^ qz_gd 0 KL k ∧ 1 ≤ qz_gd 0 KL k ∧ qz_gd 0 KL k ≤ 8 ∧ qz_gd 0 KC k < 2 ^ 63 ∧ 0 < qz_gd 0 KC k := by decide +kernel
theorem KC_ne : ∀ k, k < 20 → ∀ j, j < 20 → qz_gd 0 KC k = qz_gd 0 KC j → k = j := by decide +kernel
theorem kw_iff (hP : P ≤ T.1) {k : Nat} (hk : k < 20) : wdv T P = qz_gd 0 KC k ↔ kd T P = 1 ∧ kw T P = k := by
  obtain ⟨b1, b2, b3, b4, b5, b6⟩ := KC_bd k hk
  have hbd := kwF_bd (kwM T P) 20 0
  constructor
  · intro e
    unfold wdv at e
    by_cases h8 : wdl T P ≤ 8
    · rw [if_pos h8] at e
      by_cases h1 : kd T P = 1
      · have hw : wdl T P = ln T P := if_pos h1
        rw [hw] at e h8
        have hl := ln_pos (ln_en h1 (Or.inl rfl)).1
        obtain ⟨q1, q2⟩ := pkw_bd (f := wdf T P) (ln T P) (fun i hi => kdb1_b ((ln_en h1 (Or.inl rfl)).2.2 i hi))
        obtain ⟨q2, q3⟩ := q2 hl.1
        have hL : ln T P = qz_gd 0 KL k := by
          rcases Nat.lt_trichotomy (ln T P) (qz_gd 0 KL k) with g | g | g
          · have : 256 ^ ln T P ≤ 256 ^ (qz_gd 0 KL k - 1) := Nat.pow_le_pow_right (by decide) (by omega)
            omega
          · exact g
          · have : 256 ^ qz_gd 0 KL k ≤ 256 ^ (ln T P - 1) := Nat.pow_le_pow_right (by decide) (by omega)
            omega
        have hM : kwM T P k = true := by
          unfold kwM
          rw [Bool.and_eq_true, beq_iff_eq, beq_iff_eq]
          exact ⟨hL, e⟩
        refine ⟨h1, ?_⟩
        have hle : kw T P ≤ k := by
          rcases Nat.lt_or_ge k (kw T P) with g | g
          · have := hbd.2.2.2 k (Nat.zero_le _) g
            rw [hM] at this
            cases this
          · exact g
        have hM2 : kwM T P (kw T P) = true := hbd.2.2.1 (by show kw T P < _; omega)
        unfold kwM at hM2
        rw [Bool.and_eq_true, beq_iff_eq, beq_iff_eq] at hM2
        exact KC_ne _ (by omega) _ hk (hM2.2.symm.trans e)
      · rw [show wdl T P = 0 from if_neg h1] at e
        exfalso
        have e : 0 = qz_gd 0 KC k := e
        omega
    · rw [if_neg h8] at e
      omega
  · rintro ⟨h1, e⟩
    have hM2 : kwM T P (kw T P) = true := hbd.2.2.1 (by show kw T P < _; omega)
    unfold kwM at hM2
    rw [Bool.and_eq_true, beq_iff_eq, beq_iff_eq, e] at hM2
    have hw : wdl T P = ln T P := if_pos h1
    unfold wdv
    rw [hw, if_pos (by omega)]
    exact hM2.2
theorem W20_o (T : txT) (P : Nat) (t : sT) : oM [16, 20] t (W20 T P t) := (oM_su (by decide)).tr (oM_su (by decide))
theorem W20_16 (T : txT) (P : Nat) (t : sT) : (W20 T P t).1 318 16 = nI P := by unfold W20; rw [su_1, if_neg (by omega), su_1, if_pos ⟨rfl, rfl⟩]
theorem W20_20 (T : txT) (P : Nat) (t : sT) : (W20 T P t).1 318 20 = nI (P + wdl T P) := by unfold W20; rw [su_1, if_pos ⟨rfl, rfl⟩]
theorem W20_p (h : mPo T P t) : mPo T P (W20 T P t) := by
  have := mPo_at h (W20_o T P t) (by decide) (mPo_le h).1 (W20_16 T P t)
  rwa [(mPo_le h).2] at this
theorem W20_nx (h : mPo T P t) (hk : kd T P = 1) : mPo T (nx T P) (su (W20 T P t) 318 16 (nI (P + wdl T P))) := by
  have hw : wdl T P = ln T P := if_pos hk
  have := mPo_at (W20_p h) (oM_su (L := [16]) (j := 16) (x := nI (P + wdl T P)) (by decide)) (by decide) (wdl_ok (mPo_le h).1).1 (by rw [su_1, if_pos ⟨rfl, rfl⟩])
  rwa [hw] at this ⊢
theorem M_key (X : qz_X) (hT : okT T) (h : mPo T P t) {k : Nat} (hk : k < 20) {v : Int64} (hv : v = lN (qz_gd 0 KC k) := by rfl) : ∃ u : sT, rn 77 0 [some (.ref 318), some (.long v), none] [] (mk X t) = some (some (.int (bI (tK T k P))), mk X u) ∧ oM [16, 20] t u ∧ mPo T (if tK T k P then nx T P else P) u := by
  subst hv
  have hP := (mPo_le h).1
  have e1 : (lg_cmp (lN (wdv T P)) (lN (qz_gd 0 KC k)) = 0) ↔ (kd T P = 1 ∧ kw T P = k) := by rw [lg_cmp_eq, pk_lEQ (wdv_lt hP) (KC_bd k hk).2.2.2.2.1, kw_iff hP hk]
  unfold tK
  by_cases e : kd T P = 1 ∧ kw T P = k
  · refine ⟨su (W20 T P t) 318 16 (nI (P + wdl T P)), ?_, (W20_o T P t).tr (oM_su (by decide)), ?_⟩
    · rw [e_M_takes_0, ck_M, word_run X hT h, r2_s, if_pos (e1.mpr e), g_M_wordEnd, W20_20, p_M_at, decide_eq_true e]
      rfl
    · rw [decide_eq_true e]
      exact W20_nx h e.1
  · refine ⟨W20 T P t, ?_, W20_o T P t, ?_⟩
    · rw [e_M_takes_0, ck_M, word_run X hT h, r2_s, if_neg (fun z => e (e1.mp z)), decide_eq_false e]
      rfl
    · rw [decide_eq_false e]
      exact W20_p h
theorem M_sign (X : qz_X) (hT : okT T) (h : mPo T P t) {c : Nat} (hc : c = 44 ∨ c = 59) : ∃ u : sT, rn 79 0 [some (.ref 318), some (.int (nI c))] [] (mk X t) = some (some (.int (bI (tS T c P))), mk X u) ∧ oM [16] t u ∧ mPo T (if tS T c P then nx T P else P) u := by
  have hn := hT.1
  have hP := (mPo_le h).1
  have hc3 : kdb c = 3 := by rcases hc with rfl | rfl <;> decide
  have o1 : oM [16] t (su t 318 16 (nI P)) := oM_su (by decide)
  have h1 : mPo T P (su t 318 16 (nI P)) := by
    have := mPo_at h o1 (by decide) hP (by rw [su_1, if_pos ⟨rfl, rfl⟩])
    rwa [(mPo_le h).2] at this
  have r16 : (su t 318 16 (nI P)).1 318 16 = nI P := by rw [su_1, if_pos ⟨rfl, rfl⟩]
  unfold tS
  by_cases hE : P = T.1
  · refine ⟨_, ?_, o1, ?_⟩
    · rw [e_M_takesSign_0, ck_M, M_blank X hT h, r0_s, g_M_at, g_M_size, r16, h1.2.1, if_pos (by rw [hE]), decide_eq_false (fun e => by have := kd_lt.mp (show kd T P ≠ 0 by omega); omega)]
      rfl
    · rw [decide_eq_false (fun e => by have := kd_lt.mp (show kd T P ≠ 0 by omega); omega)]
      exact h1
  · have hPn : P < T.1 := by omega
    have hb := hT.2 P hPn
    have e0 : rn 79 0 [some (.ref 318), some (.int (nI c))] [] (mk X t) = if sb (T.2 P) = nI c then some (some (.int (nI 1)), mk X (su t 318 16 (nI (P + 1)))) else some (some (.int (nI 0)), mk X (su t 318 16 (nI P))) := by
      rw [e_M_takesSign_0, ck_M, M_blank X hT h, r0_s, g_M_at, g_M_size, r16, h1.2.1, if_neg (fun z => hE ((nI_eq (by omega) (by omega)).mp z)), g_M_text, g_M_at, r16, i_M_text (by omega), h1.1 P hPn, g_M_at, r16, p_M_at, nI_add, su_su]
    rw [e0]
    by_cases e : T.2 P = c
    · have hk : kd T P = 3 := by rw [kd_y hPn, e]; exact hc3
      have hl : ln T P = 1 := by unfold ln; rw [if_pos hPn, if_pos (by rw [e]; exact hc3)]
      refine ⟨su t 318 16 (nI (P + 1)), ?_, oM_su (by decide), ?_⟩
      · rw [if_pos ((sb_eq hc _ hb).mpr e), decide_eq_true ⟨hk, e⟩]
        rfl
      · rw [decide_eq_true ⟨hk, e⟩]
        have := mPo_at h (oM_su (L := [16]) (j := 16) (x := nI (P + 1)) (by decide)) (by decide) (show P + 1 ≤ T.1 by omega) (by rw [su_1, if_pos ⟨rfl, rfl⟩])
        unfold nx
        rw [hl]
        exact this
    · refine ⟨_, ?_, o1, ?_⟩
      · rw [if_neg (fun z => e ((sb_eq hc _ hb).mp z)), decide_eq_false (fun z => e z.2)]
        rfl
      · rw [decide_eq_false (fun z => e z.2)]
        exact h1
end MT

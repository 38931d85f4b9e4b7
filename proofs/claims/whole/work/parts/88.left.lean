/-! the reference's least left; left -/
theorem fct_6 : ∀ n, n < 7 → fct n ≤ 720 := by decide
theorem one_t : ∀ t, t < 7 → (nI 1 <<< (nI t &&& 31)) - nI 1 = nI (2 ^ t - 1) := by decide
theorem M_odr_run (X : qz_X) {u : sT} {n c t : Nat} (hn : n < 64) (ht : pc n = t) (hc : c < fct t) (h52 : u.1 318 52 = nI t) (ho : ∀ j, j < 6 → n.testBit j = true → u.1 351 (fb_ct (fun b => n.testBit b) j) = nI j) (v : Int32) : ∃ (z : sT) (l : Nat), (z.2 = u.2 ∧ (∀ c, c ≠ 347 → z.1 c = u.1 c) ∧ ∀ j, j < t → z.1 347 j = nI (odr t n c j)) ∧ rn 251 28 [some (.ref 318), some (.int v), some (.int (nI c)), some (.int (nI (2 ^ t - 1))), some (.int (nI 0)), none] [] (mk X u) = rn 251 28 [some (.ref 318), some (.int v), some (.int (nI c)), some (.int (nI l)), some (.int (nI t)), none] [] (mk X z) := by
  have h6 : t ≤ 6 := by rw [← ht]; exact pc_le n
  obtain ⟨i1, i2, i3⟩ := img_full n hn
  rw [ht] at i1 i2 i3
  have hcb : c < 2 ^ 31 := by have := fct_6 t (by omega); omega
  obtain ⟨⟨z, l⟩, ⟨z2, zc, -, -, zt, -⟩, e⟩ := it_up (fun i (x : sT × Nat) => rn 251 28 [some (.ref 318), some (.int v), some (.int (nI c)), some (.int (nI x.2)), some (.int (nI i)), none] [] (mk X x.1)) (fun i x => x.1.2 = u.2 ∧ (∀ c, c ≠ 347 → x.1.1 c = u.1 c) ∧ x.2 < 2 ^ t ∧ pc x.2 = t - i ∧ (∀ j, j < i → x.1.1 347 j = nI (odr t n c j)) ∧ ∀ j, odr t n c (i + j) = odr (t - i) (img n x.2) (c % fct (t - i)) j) (Nat.zero_le t) (by
    rintro i ⟨y, l⟩ _ hi ⟨y2, yc, hl, hp, yt, yo⟩
    dsimp only at y2 yc hl hp yt yo ⊢
    have hl64 : l < 64 := Nat.lt_of_lt_of_le hl (show 2 ^ t ≤ 2 ^ 6 from Nat.pow_le_pow_right (by decide) h6)
    have hF := fct_pos (t - 1 - i)
    have hFb := fct_6 (t - 1 - i) (by omega)
    have hr : c / fct (t - 1 - i) % (t - i) < pc l := by rw [hp]; exact Nat.mod_lt _ (by omega)
    obtain ⟨k, k1, k2, k3, ek⟩ := skips_run X y hl64 hr
    have hk : pkb l (c / fct (t - 1 - i) % (t - i)) = k := by rw [← k3]; exact (pkb_rk l hl64 k k1 k2).1
    have hl' : l < 2 ^ pc n := by rw [ht]; exact hl
    obtain ⟨g1, g2, g3⟩ := img_sub hn hl64 hl' (r := c / fct (t - 1 - i) % (t - i)) (by omega) hr
    rw [hk] at g1 g2 g3
    have hpl := img_pc n hn l hl64 hl'
    obtain ⟨n1, n2, n3⟩ := pkb_ok n hn k k1 g1
    have h351 : y.1 351 k = nI (pkb n k) := by
      have := ho (pkb n k) n1 n2
      rw [n3] at this
      rw [yc 351 (by decide)]
      exact this
    have y52 : y.1 318 52 = nI t := by rw [yc 318 (by decide)]; exact h52
    have hfs : fct (t - i) = fct (t - 1 - i) * (t - i) := by
      rw [show t - i = (t - 1 - i) + 1 by omega]
      rfl
    have hdiv : c % fct (t - i) / fct (t - 1 - i) = c / fct (t - 1 - i) % (t - i) := by rw [hfs, Nat.mod_mul_right_div_self]
    have hmm : c % fct (t - i) % fct (t - 1 - i) = c % fct (t - 1 - i) := Nat.mod_mod_of_dvd _ (by rw [hfs]; exact Nat.dvd_mul_right _ _)
    have ho1 : ∀ j, odr (t - i) (img n l) (c % fct (t - i)) j = odr ((t - 1 - i) + 1) (img n l) (c % fct (t - i)) j := fun j => by rw [show (t - 1 - i) + 1 = t - i by omega]
    obtain ⟨q1, q2⟩ := cl_bit l hl64 k k1 k2
    have hcF : c / fct (t - 1 - i) < 2 ^ 31 := Nat.lt_of_le_of_lt (Nat.div_le_self _ _) hcb
    refine ⟨(su y 347 i (nI (pkb n k)), l - 2 ^ k), ⟨y2, fun c' hc' => ?_, by omega, ?_, fun j hj => ?_, fun j => ?_⟩, ?_⟩
    · funext j
      rw [su_1, if_neg (fun z => hc' z.1), yc c' hc']
    · have := pc_sub l hl64 k k1 k2
      show pc (l - 2 ^ k) = t - (i + 1)
      omega
    · rw [su_1]
      by_cases e : j = i
      · rw [if_pos ⟨rfl, e⟩, e]
        have := yo 0
        rw [Nat.add_zero, ho1] at this
        have this : odr t n c i = pkb (img n l) (c % fct (t - i) / fct (t - 1 - i)) := this
        rw [this, hdiv, g3]
      · rw [if_neg (fun z => e z.2), yt j (by omega)]
    · have := yo (j + 1)
      rw [ho1] at this
      have this : odr t n c (i + (j + 1)) = odr (t - 1 - i) (img n l - 2 ^ pkb (img n l) (c % fct (t - i) / fct (t - 1 - i))) (c % fct (t - i) % fct (t - 1 - i)) j := this
      rw [show i + 1 + j = i + (j + 1) by omega, this, hdiv, hmm, ← g2, show t - (i + 1) = t - 1 - i by omega]
    · rw [e_M_leastLeft_28, g_M_toldMany, y52, if_neg (nI_ge hi (by omega)), g_M_toldMany, y52, ck_M, pk_sub (by omega), pk_sub (by omega), factorial_run X y (by omega), r1_s, g_M_toldMany, y52, ck_M, pk_sub (by omega), e_M_skips_0, if_neg (nI_ne0 hF (by omega)), if_neg (nI_ne0 (by omega) (by omega)), pk_div hcb hF (by omega), pk_rem hcF (by omega) (by omega), ek, r1_s, g_M_turn, g_M_toldOnes, i_M_toldOnes k1, h351, w_M_turn (by omega), q1, nI_add]) (x := (u, 2 ^ t - 1)) ⟨rfl, fun _ _ => rfl, by have := Nat.two_pow_pos t; show 2 ^ t - 1 < 2 ^ t; omega, by show pc (2 ^ t - 1) = t - 0; rw [i2]; rfl, fun j hj => absurd hj (Nat.not_lt_zero j), fun j => by
      show odr t n c (0 + j) = odr (t - 0) (img n (2 ^ t - 1)) (c % fct (t - 0)) j
      rw [i1, Nat.zero_add, Nat.sub_zero, Nat.mod_eq_of_lt hc]⟩
  exact ⟨z, l, ⟨z2, zc, zt⟩, e⟩
theorem M_leastLeft_run (X : qz_X) {s : sT} {G : gsT} (h : Rel s G) {n : Nat} (hn : n < 64) (hnT : ∀ b, b < 6 → n.testBit b = G.2.1.1 b) (h52 : s.1 318 52 = nI (pc n)) (h5 : ∀ q, q < 400 → ∀ b, b < 32 → bt (s.1 349 q) b = (decide (b < 6) && (G.2.1.1 b && pnt G.2.1.2.1 b q))) (h6 : ∀ q, q < 400 → ∀ b, b < 32 → bt (s.1 350 q) b = (decide (b < 6) && (G.2.1.1 b && lvs G.2.1.2.1 b q))) (ho : ∀ j, j < 6 → n.testBit j = true → s.1 351 (fb_ct (fun b => n.testBit b) j) = nI j) : ∃ z : sT, rn 251 0 [some (.ref 318), none, none, none, none, none] [] (mk X s) = some (some (.int (nI (lvl G.2.1.2.1 n))), mk X z) ∧ z.2 = s.2 ∧ (∀ c, c ∉ [347, 348] → z.1 c = s.1 c) ∧ ∀ i, i < pc n → z.1 348 i = nI (hds G.2.1.2.1 (seq G.2.1.2.1 n i)) := by
  obtain ⟨t, ht⟩ : ∃ t, pc n = t := ⟨_, rfl⟩
  rw [ht] at h52 ⊢
  have t6 : t ≤ 6 := by rw [← ht]; exact pc_le n
  have hok : ∀ k, k < 6 → G.2.1.1 k = true → okA (G.2.1.2.1 k) := fun k hk hTk => (tk_P h (show tk G (nI k) k from ⟨hk, rfl, hTk⟩)).2.1
  have hbd : ∀ c, c < fct t → odv G.2.1.2.1 t n c < 2 ^ 31 := fun c hc => by
    have := odv_b hok t n c hn ht hc (fun b hb hbb => by rw [← hnT b hb]; exact hbb)
    omega
  have hF := fct_6 t (by omega)
  have hFp := fct_pos t
  obtain ⟨c0, d1, d2, d3, d4, d5⟩ := odr_best G.2.1.2.1 t n hn ht
  have frm : ∀ u : sT, u.2 = s.2 → (∀ c, c ∉ [347, 348] → u.1 c = s.1 c) → Rel u G := fun u a b => h.fr (fr_of [347, 348] (by rw [a]) b (by decide))
  obtain ⟨⟨z, w⟩, ⟨z2, zc, -, hz⟩, e⟩ := it_up (fun c (x : sT × Int32) => rn 251 4 [some (.ref 318), some (.int x.2), some (.int (nI c)), none, none, none] [] (mk X x.1)) (fun c x => x.1.2 = s.2 ∧ (∀ c, c ∉ [347, 348] → x.1.1 c = s.1 c) ∧ (c = 0 → x.2 = -1) ∧ (c ≠ 0 → ∃ c1, c1 < c ∧ x.2 = nI (odv G.2.1.2.1 t n c1) ∧ (∀ d, d < c → odv G.2.1.2.1 t n c1 ≤ odv G.2.1.2.1 t n d) ∧ (∀ d, d < c1 → odv G.2.1.2.1 t n c1 < odv G.2.1.2.1 t n d) ∧ ∀ i, i < t → x.1.1 348 i = nI (odr t n c1 i))) (Nat.zero_le (fct t)) (by
    rintro c ⟨y, w⟩ _ hc ⟨y2, yc, y0, y1⟩
    dsimp only at y2 yc y0 y1 ⊢
    have y52 : y.1 318 52 = nI t := by rw [yc 318 (by decide)]; exact h52
    obtain ⟨q, l, ⟨q2, qc, qt⟩, eq⟩ := M_odr_run X hn ht hc y52 (fun j hj hb => by rw [yc 351 (by decide)]; exact ho j hj hb) w
    have q2s : q.2 = s.2 := by rw [q2, y2]
    have qcs : ∀ c, c ∉ [347, 348] → q.1 c = s.1 c := fun c hc => by
      have hc2 := hc
      simp only [List.mem_cons, List.not_mem_nil, or_false, not_or] at hc2
      rw [qc c hc2.1, yc c hc]
    have hR := frm q q2s qcs
    have q52 : q.1 318 52 = nI t := by rw [qcs 318 (by decide)]; exact h52
    have hod := odr_ok t n c hn ht hc
    have lb := leftBy_run X hR t6 q52 (o := odr t n c) (fun i hi => ⟨(hod i hi).1, by rw [← hnT _ (hod i hi).1]; exact (hod i hi).2, qt i hi⟩) (fun q hq b hb => by rw [qcs 349 (by decide)]; exact h5 q hq b hb) (fun q hq b hb => by rw [qcs 350 (by decide)]; exact h6 q hq b hb)
    rw [sbn_sum (fun i hi => (hod i hi).1) t (Nat.le_refl t), lsum_odr _ t n c hn ht hc] at lb
    have hb := hbd c hc
    -- copying the turn
    have cp : ∀ v : Int32, ∃ z : sT, (z.2 = s.2 ∧ (∀ c, c ∉ [347, 348] → z.1 c = s.1 c) ∧ ∀ i, i < t → z.1 348 i = nI (odr t n c i)) ∧ rn 251 120 [some (.ref 318), some (.int v), some (.int (nI c)), none, none, some (.int (nI 0))] [] (mk X q) = rn 251 4 [some (.ref 318), some (.int v), some (.int (nI (c + 1))), none, none, none] [] (mk X z) := by
      intro v
      obtain ⟨z, ⟨z2, zc, z7, zt⟩, ez⟩ := it_up (fun i (x : sT) => rn 251 120 [some (.ref 318), some (.int v), some (.int (nI c)), none, none, some (.int (nI i))] [] (mk X x)) (fun i x => x.2 = s.2 ∧ (∀ c, c ∉ [347, 348] → x.1 c = s.1 c) ∧ x.1 347 = q.1 347 ∧ ∀ j, j < i → x.1 348 j = nI (odr t n c j)) (Nat.zero_le t) (by
        rintro i x _ hi ⟨x2, xc, x7, xt⟩
        try dsimp only
        refine ⟨su x 348 i (nI (odr t n c i)), ⟨x2, fun c' hc' => ?_, ?_, fun j hj => ?_⟩, ?_⟩
        · have hc2 := hc'
          simp only [List.mem_cons, List.not_mem_nil, or_false, not_or] at hc2
          funext j
          rw [su_1, if_neg (fun z => hc2.2 z.1), xc c' hc']
        · funext j
          rw [su_1, if_neg (by omega), x7]
        · rw [su_1]
          by_cases e : j = i
          · rw [if_pos ⟨rfl, e⟩, e]
          · rw [if_neg (fun z => e z.2), xt j (by omega)]
        · rw [e_M_leastLeft_120, g_M_toldMany, xc 318 (by decide), h52, if_neg (nI_ge hi (by omega)), g_M_bestTurn, g_M_turn, i_M_turn (by omega), x7, qt i hi, w_M_bestTurn (by omega), nI_add]) (x := q) ⟨q2s, qcs, rfl, fun j hj => absurd hj (Nat.not_lt_zero j)⟩
      try dsimp only at ez
      refine ⟨z, ⟨z2, zc, zt⟩, ?_⟩
      rw [ez, e_M_leastLeft_120, g_M_toldMany, zc 318 (by decide), h52, if_pos (nI_le (Nat.le_refl t) (by omega)), nI_add]
    have hgo : rn 251 4 [some (.ref 318), some (.int w), some (.int (nI c)), none, none, none] [] (mk X y) = (if w = (-1) then rn 251 120 [some (.ref 318), some (.int (nI (odv G.2.1.2.1 t n c))), some (.int (nI c)), none, none, some (.int (nI 0))] [] (mk X q) else (if nI (odv G.2.1.2.1 t n c) < w then rn 251 120 [some (.ref 318), some (.int (nI (odv G.2.1.2.1 t n c))), some (.int (nI c)), none, none, some (.int (nI 0))] [] (mk X q) else rn 251 4 [some (.ref 318), some (.int w), some (.int (nI c + nI 1)), none, none, none] [] (mk X q))) := by
      rw [e_M_leastLeft_4, g_M_toldMany, y52, ck_M, factorial_run X y t6, r1_s, if_neg (nI_ge hc (by omega)), g_M_toldMany, y52, one_t t (by omega), eq, e_M_leastLeft_28, g_M_toldMany, q52, if_pos (nI_le (Nat.le_refl t) (by omega)), ck_M, lb, r1_s]
    rw [hgo]
    obtain ⟨z, ⟨z2, zc, zt⟩, ez⟩ := cp (nI (odv G.2.1.2.1 t n c))
    by_cases hc0 : c = 0
    · rw [if_pos (y0 hc0), ez]
      refine ⟨(z, nI (odv G.2.1.2.1 t n c)), ⟨z2, zc, fun z => absurd z (Nat.succ_ne_zero c), fun _ => ⟨c, Nat.lt_succ_self c, rfl, fun d hd => ?_, fun d hd => ?_, zt⟩⟩, rfl⟩
      · rw [show d = c by omega]; exact Nat.le_refl _
      · omega
    · obtain ⟨c1, k1, k2, k3, k4, k5⟩ := y1 hc0
      have hb1 := hbd c1 (by omega)
      rw [if_neg (by rw [k2]; exact nI_m1 hb1)]
      by_cases hlt : odv G.2.1.2.1 t n c < odv G.2.1.2.1 t n c1
      · rw [if_pos (by rw [k2]; exact nI_lt hlt hb1), ez]
        refine ⟨(z, nI (odv G.2.1.2.1 t n c)), ⟨z2, zc, fun z => absurd z (Nat.succ_ne_zero c), fun _ => ⟨c, Nat.lt_succ_self c, rfl, fun d hd => ?_, fun d hd => ?_, zt⟩⟩, rfl⟩
        · by_cases e : d = c
          · rw [e]; exact Nat.le_refl _
          · have := k3 d (by omega); omega
        · have := k3 d hd; omega
      · rw [if_neg (by rw [k2]; exact nI_nlt (by omega) hb), nI_add]
        refine ⟨(q, w), ⟨q2s, qcs, fun z => absurd z (Nat.succ_ne_zero c), fun _ => ⟨c1, by omega, k2, fun d hd => ?_, k4, fun i hi => ?_⟩⟩, rfl⟩
        · by_cases e : d = c
          · rw [e]; omega
          · exact k3 d (by omega)
        · rw [qc 348 (by decide)]; exact k5 i hi) (x := (s, -1)) ⟨rfl, fun _ _ => rfl, fun _ => rfl, fun z => absurd rfl z⟩
  dsimp only at z2 zc hz e
  obtain ⟨c1, k1, k2, k3, k4, k5⟩ := hz (by omega)
  have hcc : c1 = c0 := by
    rcases Nat.lt_trichotomy c1 c0 with g | g | g
    · have := d4 c1 g
      have := k3 c0 d1
      omega
    · exact g
    · have := k4 c0 g
      have := d3 c1 k1
      omega
  subst hcc
  refine ⟨z, ?_, z2, zc, fun i hi => by rw [k5 i hi, d5 i hi]⟩
  rw [e_M_leastLeft_0, e, e_M_leastLeft_4, g_M_toldMany, zc 318 (by decide), h52, ck_M, factorial_run X z t6, r1_s, if_pos (nI_le (Nat.le_refl _) (by omega)), k2, d2]
theorem lpb_6 {T : Nat → Bool} {f : Nat → Nat → Bool} {q b : Nat} : lpb T f 6 (fun _ => false) q b = (decide (b < 6) && (T b && f b q)) := by
  unfold lpb
  simp
theorem sim_left (X : qz_X) (s : sT) (G : gsT) (h : Rel s G) (v : Int32) : Sim X s 247 252 [some (.ref 0), some (.int v), none] [some (.ref 318), some (.int v), none] := by
  have hoo := h.2.2.2.2.1.1.1
  obtain ⟨n, z, hn, hnT, e0, e1, hz⟩ := C_leastLeft_run X h
  have e0' : ∀ u, lsT s u G.2.1.2.1 n (n + 1) → rn 240 0 [some (.ref 3), none, none] [] (mk X u) = some (some (.int (nI n)), mk X u) := fun u hu => by
    have fu : fr s u := fr_of [6] (by rw [hu.1]) (fun c hc => hu.2.1 c (fun z => hc (by rw [z]; decide))) (by decide)
    obtain ⟨n', -, hn', hnT', e0', -, -⟩ := C_leastLeft_run X (h.fr fu)
    have : n' = n := by
      apply Nat.eq_of_testBit_eq
      intro i
      by_cases hi : i < 6
      · rw [hnT i hi, hnT' i hi]
      · rw [Nat.testBit_lt_two_pow (Nat.lt_of_lt_of_le (show n' < 2 ^ 6 from hn') (Nat.pow_le_pow_right (by decide) (by omega))), Nat.testBit_lt_two_pow (Nat.lt_of_lt_of_le (show n < 2 ^ 6 from hn) (Nat.pow_le_pow_right (by decide) (by omega)))]
    rw [this] at e0'
    exact e0'
  have hct : fb_ct G.2.1.1 6 = pc n := fb_ct_cong (fun k hk => (hnT k hk).symm)
  have hcto : fb_ct (fun k => G.2.1.1 (G.2.1.2.2 k)) 6 = pc n := by rw [ct_perm hoo.1 hoo.2, hct]
  have p6 := pc_le n
  -- the reference, from a state with the same picture
  have ref : ∀ s1 : sT, Rel s1 G → ∃ u : sT, rn 237 0 [some (.ref 318), none, none, none, none] [] (mk X s1) = some (none, mk X u) ∧ fr s1 u ∧ Rel u G ∧ u.1 318 52 = nI (pc n) ∧ (∀ q, q < 400 → ∀ b, b < 32 → bt (u.1 349 q) b = (decide (b < 6) && (G.2.1.1 b && pnt G.2.1.2.1 b q))) ∧ (∀ q, q < 400 → ∀ b, b < 32 → bt (u.1 350 q) b = (decide (b < 6) && (G.2.1.1 b && lvs G.2.1.2.1 b q))) ∧ ∀ j, j < 6 → n.testBit j = true → u.1 351 (fb_ct (fun b => n.testBit b) j) = nI j := by
    intro s1 h1
    obtain ⟨u, e1, hu, ht⟩ := lays_run X h1
    have f1 : fr s1 u := fr_m [349, 350, 351] (by rw [hu.1]) hu.2.1 (by decide) (fun j hj => hu.2.2.1 j (fun e => by subst e; revert hj; decide))
    refine ⟨u, e1, f1, h1.fr f1, by rw [hu.2.2.2.1, hct], fun q hq b hb => by rw [hu.2.2.2.2.1 q hq b hb, lpb_6], fun q hq b hb => by rw [hu.2.2.2.2.2 q hq b hb, lpb_6], fun j hj hb => ?_⟩
    rw [fb_ct_cong (q := G.2.1.1) (fun k hk => hnT k (by omega))]
    exact ht j hj (by rw [← hnT j hj]; exact hb)
  have fz : ∀ u, lsT s u G.2.1.2.1 n (n + 1) → fr s u := fun u hu => fr_of [6] (by rw [hu.1]) (fun c hc => hu.2.1 c (fun z => hc (by rw [z]; decide))) (by decide)
  by_cases hn0 : n = 0
  · subst hn0
    obtain ⟨u, e2, f2, -, u52, -, -, -⟩ := ref s h
    refine sim_q (r := .int (-1)) h (s1 := s) (s2 := u) ?_ (fr.rf s) ?_ f2
    · rw [e_C_left_0, g_C_now, ck_N, e0, r1_s, if_pos nI_0]
    · rw [e_M_left_0, ck_M, e2, r0_s, g_M_toldMany, u52, if_pos (by decide)]
  · have hpn : pc n ≠ 0 := fun z => hn0 ((pc_0 n hn).mp z)
    have hnn : ¬ nI n = 0 := nI_ne0 (by omega) (by omega)
    have hpp : ¬ nI (pc n) = 0 := nI_ne0 (by omega) (by omega)
    by_cases hv0 : v = 0
    · subst hv0
      obtain ⟨u, e2, f2, hR, u52, u5, u6, -⟩ := ref s h
      obtain ⟨w, e3, w2, wc, wt⟩ := byOrder_run X (s := u) (T := G.2.1.1) (o := G.2.1.2.2) hoo hR.2.2.2.2.1.2.2.2 (fun k hk => (hR.2.2.2.2.1.2.1 k hk).2.1)
      have f3 : fr u w := fr_of [347] (by rw [w2]) wc (by decide)
      have w52 : w.1 318 52 = nI (pc n) := by rw [wc 318 (by decide)]; exact u52
      have lb := leftBy_run X (hR.fr f3) (o := sg G.2.1.1 G.2.1.2.2) p6 w52 (fun i hi => by
        have hi' : i < fb_ct (fun k => G.2.1.1 (G.2.1.2.2 k)) 6 := by rw [hcto]; exact hi
        obtain ⟨a1, a2⟩ := sg_ok hoo hi'
        refine ⟨a1, a2, ?_⟩
        obtain ⟨k, hk, hTk, hck⟩ := fb_ct_kth hi'
        have hTk : G.2.1.1 (G.2.1.2.2 k) = true := hTk
        have := sg_at hk hTk
        rw [hck] at this
        rw [this, ← hck]
        exact wt k hk hTk) (fun q hq b hb => by rw [wc 349 (by decide)]; exact u5 q hq b hb) (fun q hq b hb => by rw [wc 350 (by decide)]; exact u6 q hq b hb)
      rw [sbn_sum (fun i hi => (sg_ok hoo (by rw [hcto]; exact hi)).1) _ (Nat.le_refl _)] at lb
      have lo := leftOfOrder_run X h
      rw [hcto] at lo
      refine sim_q (r := .int (nI (lsum G.2.1.2.1 (sg G.2.1.1 G.2.1.2.2) (pc n) (pc n)))) h (s1 := s) (s2 := w) ?_ (fr.rf s) ?_ (f2.tr f3)
      · rw [e_C_left_0, g_C_now, ck_N, e0, r1_s, if_neg hnn, if_pos rfl, g_C_now, ck_N, lo, r1_s]
      · rw [e_M_left_0, ck_M, e2, r0_s, g_M_toldMany, u52, if_neg hpp, isIn_run, if_neg (by decide), if_neg (by decide), r1_s, if_neg (by decide), e_M_left_38, if_pos rfl, ck_M, e3, r0_s, ck_M, lb, r1_s]
    · have hcb : rn 247 0 [some (.ref 0), some (.int v), none] [] (mk X s) = (if v = (nI 1) then some (some (.int (nI (lvl G.2.1.2.1 n))), mk X z) else (if v < (nI 10) then some (some (.int (-1)), mk X z) else qz_r1 (rn 246 0 [some (.ref 3), some (.int (v - (nI 10))), none, none, none] [] (mk X z)) (fun x9 w8 => some (some (.int x9), w8)))) := by
        rw [e_C_left_0, g_C_now, ck_N, e0, r1_s, if_neg hnn, if_neg hv0, g_C_now, ck_N, e1, r1_s, g_C_now, ck_N]
      have fzz := fz z hz
      by_cases hv1 : v = nI 1
      · subst hv1
        obtain ⟨u, e2, f2, hR, u52, u5, u6, uo⟩ := ref z (h.fr fzz)
        obtain ⟨w, e3, w2, wc, -⟩ := M_leastLeft_run X hR hn hnT u52 u5 u6 uo
        have f3 : fr u w := fr_of [347, 348] (by rw [w2]) wc (by decide)
        refine sim_q (r := .int (nI (lvl G.2.1.2.1 n))) h (s1 := z) (s2 := w) ?_ fzz ?_ (f2.tr f3)
        · rw [hcb, if_pos rfl]
        · rw [e_M_left_0, ck_M, e2, r0_s, g_M_toldMany, u52, if_neg hpp, isIn_run, if_neg (by decide), if_neg (by decide), r1_s, if_neg (by decide), e_M_left_38, if_neg hv0, ck_M, e3, r1_s, if_pos rfl]
      · have h01 : rn 72 0 [some (.int v), some (.int (nI 0)), some (.int (nI 1))] [] = fun w => some (some (.int (nI 0)), w) := by
          funext w
          exact isIn_no w (by decide) (fun j hj e => by
            rcases (show j = 0 ∨ j = 1 by omega) with rfl | rfl
            · exact hv0 (by rw [e, nI_0])
            · exact hv1 e)
        rcases Classical.em (∃ p, p < pc n ∧ v = nI (10 + p)) with ⟨p, hp, rfl⟩ | hno
        · obtain ⟨z', e4, hz'⟩ := C_leastOrder_run X h hn hnT e0' hz (p := p) (by omega)
          have fz' := fz z' hz'
          obtain ⟨u, e2, f2, hR, u52, u5, u6, uo⟩ := ref z' (h.fr fz')
          obtain ⟨w, e3, w2, wc, wt⟩ := M_leastLeft_run X hR hn hnT u52 u5 u6 uo
          have f3 : fr u w := fr_of [347, 348] (by rw [w2]) wc (by decide)
          rw [if_pos hp] at e4
          have hsub : nI (10 + p) - nI 10 = nI p := by rw [pk_sub (by omega), Nat.add_sub_cancel_left]
          refine sim_q (r := .int (nI (hds G.2.1.2.1 (seq G.2.1.2.1 n p)))) h (s1 := z') (s2 := w) ?_ fz' ?_ (f2.tr f3)
          · rw [hcb, if_neg hv1, if_neg (nI_nlt (by omega) (by omega)), hsub, e4, r1_s]
          · rw [e_M_left_0, ck_M, e2, r0_s, g_M_toldMany, u52, if_neg hpp, h01]
            dsimp only
            rw [r1_s, if_pos nI_0, g_M_toldMany, u52, nI_add, isIn_run, if_neg (nI_nlt (by omega) (by omega)), if_neg (nI_nlt (by omega) (by omega)), r1_s, if_neg (by decide), e_M_left_38, if_neg hv0, ck_M, e3, r1_s, if_neg hv1, g_M_bestTurn, hsub, i_M_bestTurn (by omega), wt p hp]
        · have rno : ∀ s1 : sT, Rel s1 G → ∃ u : sT, rn 252 0 [some (.ref 318), some (.int v), none] [] (mk X s1) = some (some (.int (-1)), mk X u) ∧ fr s1 u := by
            intro s1 h1
            obtain ⟨u, e2, f2, hR, u52, -, -, -⟩ := ref s1 h1
            refine ⟨u, ?_, f2⟩
            rw [e_M_left_0, ck_M, e2, r0_s, g_M_toldMany, u52, if_neg hpp, h01]
            dsimp only
            rw [r1_s, if_pos nI_0, g_M_toldMany, u52, nI_add, isIn_run]
            by_cases a1 : v < nI 10
            · rw [if_pos a1, r1_s, if_pos nI_0]
            · rw [if_neg a1]
              by_cases a2 : nI (9 + pc n) < v
              · rw [if_pos a2, r1_s, if_pos nI_0]
              · exfalso
                have v0 : ¬ v < 0 := fun z => a1 (by
                  rw [fa_lt] at z ⊢
                  have : (nI 10).toInt = 10 := by decide
                  have : (0 : Int32).toInt = 0 := by decide
                  omega)
                obtain ⟨j, hj, rfl⟩ := nI_of v0
                rw [nI_ltI hj (by decide)] at a1
                rw [nI_ltI (by omega) hj] at a2
                exact hno ⟨j - 10, by omega, by rw [show 10 + (j - 10) = j by omega]⟩
          by_cases a1 : v < nI 10
          · obtain ⟨u, e2, f2⟩ := rno z (h.fr fzz)
            refine sim_q (r := .int (-1)) h (s1 := z) (s2 := u) ?_ fzz e2 f2
            rw [hcb, if_neg hv1, if_pos a1]
          · have v0 : ¬ v < 0 := fun z => a1 (by
              rw [fa_lt] at z ⊢
              have : (nI 10).toInt = 10 := by decide
              have : (0 : Int32).toInt = 0 := by decide
              omega)
            obtain ⟨j, hj, rfl⟩ := nI_of v0
            have a2 := a1
            rw [nI_ltI hj (by decide)] at a2
            obtain ⟨z', e4, hz'⟩ := C_leastOrder_run X h hn hnT e0' hz (p := j - 10) (by omega)
            have hp : ¬ j - 10 < pc n := fun z => hno ⟨j - 10, z, by rw [show 10 + (j - 10) = j by omega]⟩
            rw [if_neg hp] at e4
            have fz' := fz z' hz'
            obtain ⟨u, e2, f2⟩ := rno z' (h.fr fz')
            refine sim_q (r := .int (-1)) h (s1 := z') (s2 := u) ?_ fz' e2 f2
            rw [hcb, if_neg hv1, if_neg a1, pk_sub (by omega), e4, r1_s]

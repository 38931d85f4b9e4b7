/-! joining: the class; one set, all sets -/
theorem a_neS {a b : Nat} (hb : b ≠ 0) (hd : dj a b) : a < a ||| b := by
  have h1 : a ≤ a ||| b := Nat.left_le_or
  rcases Nat.lt_or_ge a (a ||| b) with g | g
  · exact g
  · exfalso
    apply hb
    have e : a ||| b = a := by omega
    apply Nat.eq_of_testBit_eq
    intro i
    rw [Nat.zero_testBit]
    cases hh : b.testBit i
    · rfl
    · have h3 := dj_symm hd i hh
      have : (a ||| b).testBit i = a.testBit i := by rw [e]
      rw [Nat.testBit_or, hh, h3] at this
      cases this
def mlI (A : shT) (bw : Bool) (t : Nat → Bool) (M : Nat) (C : Nat → Nat → Nat) (S : Nat) (f : Nat → Nat) (part : Nat) : Prop := (∀ v, ndJ A v → f v ≤ bgF t S v) ∧ (∀ v, ndJ A v → f v ≤ 1000000 ∧ prJ A bw v ≤ f v) ∧ (∀ P, P &&& S = P → P < S → part < P → S ^^^ P < P → ∀ v, ndJ A v → f v + prJ A bw v ≤ C P v + C (S ^^^ P) v) ∧ ∀ J R, Jp M (ins A) (rim A) (prJ A bw) J R → (∀ q, q < 400 → t q = true → J (2 ^ pnq t q) q = 0) → (∀ v, v < 400 → ins A v = true → Pq M (prJ A bw) J R S v (f v)) ∧ R S ≤ f 400
theorem oneset_run (X : qz_X) {s : sT} {A : shT} (ok : okA A) {bw : Bool} {t : Nat → Bool} (ht : ∀ q, q < 400 → t q = true → ins A q = true ∧ A.2.1 q = false) (hP : Pcs s t) (h7 : np t 400 ≤ 7) (hp : pcS s A bw) {M S : Nat} (hM : M ≤ 128) (h0 : S ≠ 0) (hS : S < M) {C : Nat → Nat → Nat} (hC : CpS A bw t M C S) (hv : ∀ a, a ≠ 0 → a < S → cvS s A a (C a)) : ∃ (z : sT) (a : Nat → Nat), qz_r0 (rn 190 0 [some (.ref 103), some (.int (nI S)), some (.ref 96), none, none, none] [] (mk X s)) (fun w2 => rn 194 51 [some (.ref 103), none, some (.ref 96), none, some (.int (nI S)), some (.int ((nI S - nI 1) &&& nI S))] [] w2) = rn 194 26 [some (.ref 103), none, some (.ref 96), none, some (.int (nI (S + 1))), none] [] (mk X z) ∧ jcF S s z ∧ cvS z A S a ∧ CpS A bw t M (fun x => if x = S then a else C x) (S + 1) := by
  obtain ⟨C1, C2, C3, C4, C5⟩ := id hC
  have e0 : prJ A bw 400 = 0 := by unfold prJ; rw [if_pos rfl]
  have bgl : ∀ v, bgF t S v ≤ 1000000 := fun v => by
    unfold bgF
    repeat' split
    all_goals omega
  obtain ⟨u, eu, hu, ub⟩ := begin_run X (A := A) hP h7 (show S < 128 by omega)
  rw [eu, r0_s, pk_sub (by omega), fa_and]
  have hsub : ∀ x, x &&& S ≤ x := fun x => Nat.and_le_left
  have start : mlI A bw t M C S (bgF t S) ((S - 1) &&& S) := by
    refine ⟨fun v _ => Nat.le_refl _, fun v hn => ⟨bgl v, ?_⟩, fun P h1 h2 h3 _ => ?_, fun J R hJ hb => ⟨fun v hv4 hi => ?_, ?_⟩⟩
    · have pl := prJ_le ok bw (show v ≤ 400 by have := ndJ_lt hn; omega)
      unfold bgF
      by_cases e : v = 400
      · rw [if_pos e]; omega
      · rw [if_neg e]
        by_cases g : (t v && decide (S = 2 ^ pnq t v)) = true
        · rw [if_pos g]
          rw [Bool.and_eq_true] at g
          have := (ht v (by have := ndJ_lt hn; omega) g.1).2
          unfold prJ
          rw [if_neg e, this, if_neg (by decide)]
          exact Nat.le_refl _
        · rw [if_neg g]; omega
    · have := sub_next (show S < 128 by omega) (show S < 128 by omega) (Nat.and_self S) h1 h2
      omega
    · have pl := prJ_le ok bw (show v ≤ 400 by omega)
      have jb := hJ.2.2.2.2.2.1 S v h0 hS hv4 hi
      unfold bgF
      rw [if_neg (by omega)]
      by_cases g : (t v && decide (S = 2 ^ pnq t v)) = true
      · rw [if_pos g]
        rw [Bool.and_eq_true, decide_eq_true_eq] at g
        have h5 := (ht v hv4 g.1).2
        have h6 := hb v hv4 g.1
        rw [← g.2] at h6
        refine ⟨?_, Or.inl (by omega)⟩
        unfold prJ
        rw [if_neg (by omega), h5, if_neg (by decide)]
        exact Nat.le_refl _
      · rw [if_neg g]
        exact ⟨by omega, Or.inl (by omega)⟩
    · have := hJ.2.2.2.2.2.2 S hS
      unfold bgF
      rw [if_pos rfl]
      omega
  obtain ⟨⟨w, f, part⟩, ⟨w1, w2, w3, w4, w5⟩, wq, ew⟩ := it_wh (fun x : sT × (Nat → Nat) × Nat => rn 194 51 [some (.ref 103), none, some (.ref 96), none, some (.int (nI S)), some (.int (nI x.2.2))] [] (mk X x.1)) (fun x => x.2.2 &&& S = x.2.2 ∧ x.2.2 < S ∧ jcF S s x.1 ∧ cvS x.1 A S x.2.1 ∧ mlI A bw t M C S x.2.1 x.2.2) (fun x => x.2.2 ≤ S ^^^ x.2.2) (fun x => x.2.2) (by
    rintro ⟨w, f, part⟩ ⟨w1, w2, w3, w4, w5⟩
    dsimp only at w1 w2 w3 w4 w5 ⊢
    by_cases hq : part ≤ S ^^^ part
    · exact Or.inl hq
    · right
      obtain ⟨x1, x2⟩ := sub_xor0 S (by omega) part (by omega) w1
      obtain ⟨d1, d2, d3⟩ := sub_dj w1
      have hp0 : part ≠ 0 := by omega
      have hq0 : S ^^^ part ≠ 0 := by omega
      obtain ⟨l1, l2, l3, l4⟩ := w5
      have hcv : ∀ a, a ≠ 0 → a < S → cvS w A a (C a) := fun a ha ha2 v hn => by
        rw [w3.2.2 _ (Or.inl (by have := ndJ_lt hn; omega))]
        exact hv a ha ha2 v hn
      obtain ⟨z, ez, z1, z2⟩ := merge_run X ok (show S < 128 by omega) w2 (show S ^^^ part < S by omega) (pcS_f w3 hp) w4 (hcv part hp0 w2) (hcv _ hq0 (by omega)) (fun v hn => (l2 v hn).1) (fun v hn => C4 part v hp0 w2 hn) (fun v hn => (C4 _ v hq0 (by omega) hn).1)
      have hlt : (part - 1) &&& S < part := by have := hsub (part - 1); omega
      have mle : ∀ v, mgF A bw f (C part) (C (S ^^^ part)) v ≤ f v := fun v => by
        unfold mgF
        split <;> omega
      have mle2 : ∀ v, mgF A bw f (C part) (C (S ^^^ part)) v ≤ C part v + C (S ^^^ part) v - prJ A bw v := fun v => by
        unfold mgF
        split <;> omega
      refine ⟨(z, mgF A bw f (C part) (C (S ^^^ part)), (part - 1) &&& S), ⟨sub_and _ _, by dsimp only; omega, w3.tr z1, z2, fun v hn => Nat.le_trans (mle v) (l1 v hn), fun v hn => ⟨Nat.le_trans (mle v) (l2 v hn).1, ?_⟩, fun P h1 h2 h3 h4 v hn => ?_, fun J R hJ hb => ⟨fun v hv4 hi => ?_, ?_⟩⟩, hlt, ?_⟩
      · have q1 := (C4 part v hp0 w2 hn).2
        have q2 := (C4 _ v hq0 (by omega) hn).2
        have q3 := (l2 v hn).2
        show prJ A bw v ≤ mgF A bw f (C part) (C (S ^^^ part)) v
        unfold mgF
        split <;> omega
      · dsimp only at h3
        by_cases e : P = part
        · subst e
          have := mle2 v
          have q1 := (C4 P v hp0 w2 hn).2
          dsimp only
          omega
        · have hgt : part < P := by
            rcases Nat.lt_or_ge part P with g | g
            · exact g
            · have := sub_next (show S < 128 by omega) (show part < 128 by omega) w1 h1 (show P < part by omega)
              omega
          have := l3 P h1 h2 hgt h4 v hn
          have := mle v
          dsimp only
          omega
      · obtain ⟨p1, p2⟩ := l4 J R hJ hb
        dsimp only
        unfold mgF
        split
        · have g1 := (C5 J R hJ hb part hp0 w2).1 v hv4 hi
          have g2 := (C5 J R hJ hb _ hq0 (by omega)).1 v hv4 hi
          have := Pq_merge hJ hp0 hq0 d1 (by rw [d2]; exact hS) hv4 hi g1 g2
          rw [d2] at this
          exact this
        · exact p1 v hv4 hi
      · obtain ⟨p1, p2⟩ := l4 J R hJ hb
        dsimp only
        unfold mgF
        split
        · have g1 := (C5 J R hJ hb part hp0 w2).2
          have g2 := (C5 J R hJ hb _ hq0 (by omega)).2
          have := R_or hJ d1 (by rw [d2]; exact hS)
          rw [d2] at this
          rw [e0]
          omega
        · exact p2
      · rw [e_Joining_join_51, fb_xorI, if_neg (fun z => hq ((nI_leI (by omega) (by omega)).mp z)), ck_J, ez, r0_s, pk_sub (by omega), fa_and]) (u, bgF t S, (S - 1) &&& S) ⟨sub_and _ _, by have := hsub (S - 1); dsimp only; omega, hu, ub, start⟩
  dsimp only at w1 w2 w3 w4 w5 wq ew
  obtain ⟨l1, l2, l3, l4⟩ := w5
  obtain ⟨x1, x2⟩ := sub_xor0 S (by omega) part (by omega) w1
  obtain ⟨z, a, ez, z1, z2, z3, z4, z5⟩ := relax_run X ok (show S < 128 by omega) (pcS_f w3 hp) w4 (fun v hn => (l2 v hn).1)
  refine ⟨z, a, ?_, w3.tr z1, z2, fun p q v hp0 hq0 hd hlt hn => ?_, fun x p v hx0 hx hpv => ?_, fun x q hx0 hx hq htq e => ?_, fun x v hx0 hx hn => ?_, fun J R hJ hb x hx0 hx => ?_⟩
  · refine Eq.trans ew ?_
    rw [e_Joining_join_51, fb_xorI, if_pos (nI_le wq (by omega)), ck_J, ez, r0_s, nI_add]
  · dsimp only
    by_cases e : p ||| q = S
    · have hpS := a_neS hq0 hd
      have hqS := a_neS hp0 (dj_symm hd)
      rw [Nat.or_comm] at hqS
      rw [if_pos e, if_neg (by omega), if_neg (by omega)]
      have hav := z3 v hn
      have fin : ∀ P Q, P ≠ 0 → Q ≠ 0 → dj P Q → P ||| Q = S → Q < P → a v + prJ A bw v ≤ C P v + C Q v := by
        intro P Q hP0 hQ0 hd e hlt
        obtain ⟨g1, g2⟩ := or_sub hd
        rw [e] at g1 g2
        have hPS := a_neS hQ0 hd
        obtain ⟨y1, y2⟩ := sub_xor0 S (by omega) P (by omega) g1
        have hgt : part < P := by omega
        have := l3 P g1 (by omega) hgt (by rw [g2]; exact hlt) v hn
        rw [g2] at this
        omega
      rcases Nat.lt_trichotomy p q with g | g | g
      · have := fin q p hq0 hp0 (dj_symm hd) (by rw [Nat.or_comm]; exact e) g
        omega
      · exfalso
        subst g
        rw [Nat.or_self] at hpS
        omega
      · exact fin p q hp0 hq0 hd e g
    · have h1 : p ≤ p ||| q := Nat.left_le_or
      have h2 : q ≤ p ||| q := Nat.right_le_or
      rw [if_neg e, if_neg (by omega), if_neg (by omega)]
      exact C1 p q v hp0 hq0 hd (by omega) hn
  · dsimp only
    by_cases e : x = S
    · rw [if_pos e]; exact z4 p v hpv
    · rw [if_neg e]; exact C2 x p v hx0 (by omega) hpv
  · dsimp only
    by_cases e2 : x = S
    · subst e2
      rw [if_pos rfl]
      have hn : ndJ A q := Or.inr ⟨hq, (ht q hq htq).1⟩
      have k1 := z3 q hn
      have k2 := l1 q hn
      have : bgF t x q = 0 := by
        unfold bgF
        rw [if_neg (by omega), htq, decide_eq_true e]
        rfl
      omega
    · rw [if_neg e2]; exact C3 x q hx0 (by omega) hq htq e
  · dsimp only
    by_cases e : x = S
    · rw [if_pos e]
      refine ⟨Nat.le_trans (z3 v hn) (l2 v hn).1, ?_⟩
      exact z5 (fun v c => prJ A bw v ≤ c) (fun p v c _ _ => by show prJ A bw v ≤ c + prJ A bw v; omega) (fun w hw => (l2 w hw).2) v hn
    · rw [if_neg e]; exact C4 x v hx0 (by omega) hn
  · dsimp only
    by_cases e : x = S
    · subst e
      rw [if_pos rfl]
      obtain ⟨p1, p2⟩ := l4 J R hJ hb
      have key := z5 (fun v c => (v = 400 → R x ≤ c) ∧ (v < 400 → ins A v = true → Pq M (prJ A bw) J R x v c)) (fun p v c hpv hc => by
        obtain ⟨c1, c2⟩ := hc
        refine ⟨fun hv4 => ?_, fun hv4 hi => ?_⟩
        · subst hv4
          rcases hpv with ⟨k1, -, -⟩ | ⟨-, k2, -⟩ | ⟨-, k2, k3⟩
          · have := k1.2.1; omega
          · omega
          · have := Pq_rim hJ hx0 hS k2 k3 (c2 k2 (rim_ins k3))
            omega
        · rcases hpv with ⟨k1, k2, k3⟩ | ⟨k1, k2, k3⟩ | ⟨k1, -, -⟩
          · exact Pq_step hJ hx0 hS k1 k2 k3 (c2 k1.1 k2)
          · exact Pq_frame hJ hS hv4 k3 (c1 k1)
          · omega) (fun w hw => ⟨fun e => by rw [e]; exact p2, fun h1 h2 => p1 w h1 h2⟩)
      exact ⟨fun v hv4 hi => (key v (Or.inr ⟨hv4, hi⟩)).2 hv4 hi, (key 400 (Or.inl rfl)).1 rfl⟩
    · rw [if_neg e]; exact C5 J R hJ hb x hx0 (by omega)
theorem one_7 : ∀ t, t < 8 → (nI 1 <<< (nI t &&& 31)) - nI 1 = nI (2 ^ t - 1) := by decide
theorem pow_7 {n : Nat} (h : n ≤ 7) : 2 ^ n ≤ 128 := show 2 ^ n ≤ 2 ^ 7 from Nat.pow_le_pow_right (by decide) h
theorem join_run (X : qz_X) {s : sT} {q : Nat} {A : shT} (hq : isS q) (ok : okA A) (hC : isC s q A) (bw : Bool) {t : Nat → Bool} (ht : ∀ q, q < 400 → t q = true → ins A q = true ∧ A.2.1 q = false) (hP : Pcs s t) {N : Nat} (hN : np t 400 = N) (h7 : N ≤ 7) : ∃ (z : sT) (C : Nat → Nat → Nat), rn 194 0 [some (.ref 103), some (.ref q), some (.ref 96), some (.int (bI bw)), none, none] [] (mk X s) = some (none, mk X z) ∧ z.2 = s.2 ∧ (∀ c, c ∉ [103, 104, 105, 106] → z.1 c = s.1 c) ∧ z.1 103 3 = nI (2 ^ N - 1) ∧ (∀ S, S ≠ 0 → S < 2 ^ N → z.1 104 (S * 401 + 400) = nI (C S 400)) ∧ CpS A bw t (2 ^ N) C (2 ^ N) := by
  have sg := isS_gap q hq
  have hp7 := pow_7 h7
  have hpos := Nat.two_pow_pos N
  have c1 : ∀ c, c ≠ 103 → (su s 103 3 (nI (2 ^ N - 1))).1 c = s.1 c := fun c hc => by
    funext j
    rw [su_1, if_neg (fun z => hc z.1)]
  have hC1 : isC (su s 103 3 (nI (2 ^ N - 1))) q A := isC_cong (fun i hi => c1 _ (by omega)) hC
  obtain ⟨u, eu, u2, uc, up⟩ := setPrices_run X hq ok hC1 bw
  have hPu : ∀ w : sT, (∀ c, c ∉ [104] → w.1 c = u.1 c) → Pcs w t ∧ pcS w A bw ∧ w.1 103 3 = nI (2 ^ N - 1) := fun w hw => by
    have k : ∀ c, c ∈ [96, 97, 98, 99] → w.1 c = s.1 c := fun c hc => by
      simp only [List.mem_cons, List.not_mem_nil, or_false] at hc
      rw [hw c (by simp; omega), uc c (by simp; omega), c1 c (by omega)]
    refine ⟨⟨by rw [k 96 (by decide)]; exact hP.1, ?_⟩, ⟨by rw [hw 106 (by decide)]; exact up.1, fun v hv => by rw [hw 105 (by decide)]; exact up.2 v hv⟩, by rw [hw 103 (by decide), uc 103 (by decide), su_1, if_pos ⟨rfl, rfl⟩]⟩
    have h2 := hP.2
    unfold pcs at h2 ⊢
    rw [k 97 (by decide), k 98 (by decide), k 99 (by decide)]
    exact h2
  obtain ⟨⟨z, C⟩, ⟨z2, zc, zv, zp⟩, e⟩ := it_up (fun S (x : sT × (Nat → Nat → Nat)) => rn 194 26 [some (.ref 103), none, some (.ref 96), none, some (.int (nI S)), none] [] (mk X x.1)) (fun S x => x.1.2 = s.2 ∧ (∀ c, c ∉ [104] → x.1.1 c = u.1 c) ∧ (∀ a, a ≠ 0 → a < S → cvS x.1 A a (x.2 a)) ∧ CpS A bw t (2 ^ N) x.2 S) (show 1 ≤ 2 ^ N by omega) (by
    rintro S ⟨w, C⟩ hS1 hS ⟨w2, wc, wv, wp⟩
    dsimp only at w2 wc wv wp ⊢
    obtain ⟨k1, k2, k3⟩ := hPu w wc
    obtain ⟨z, a, ez, z1, z2, z3⟩ := oneset_run X ok ht k1 (by omega) k2 hp7 (show S ≠ 0 by omega) hS wp wv
    refine ⟨(z, fun x => if x = S then a else C x), ⟨by rw [z1.1, w2], fun c hc => by rw [z1.2.1 c (by simpa using hc), wc c hc], fun x hx0 hx v hn => ?_, z3⟩, ?_⟩
    · dsimp only
      by_cases e : x = S
      · rw [if_pos e, e]; exact z2 v hn
      · rw [if_neg e, z1.2.2 _ (Or.inl (by have := ndJ_lt hn; omega))]
        exact wv x hx0 (by omega) v hn
    · rw [e_Joining_join_26, g_J_all, k3, if_neg (nI_nlt (by omega) (by omega)), ck_J, ez]) (x := (u, fun _ _ => 0)) ⟨by rw [u2, su_2], fun _ _ => rfl, fun a h0 h1 => by omega, fun a b v ha _ _ hlt _ => by
      have : a ≤ a ||| b := Nat.left_le_or
      omega, fun a _ _ h0 h1 => by omega, fun a _ h0 h1 => by omega, fun a _ h0 h1 => by omega, fun _ _ _ _ a h0 h1 => by omega⟩
  dsimp only at z2 zc zv zp e
  obtain ⟨k1, k2, k3⟩ := hPu z zc
  refine ⟨z, C, ?_, z2, fun c hc => ?_, k3, fun S h0 hS => zv S h0 hS 400 (Or.inl rfl), zp⟩
  · have h96 : s.1 96 0 = nI N := by rw [hP.1, hN]
    rw [e_Joining_join_0, g_P_number, h96, e_Math_min_0, if_neg (nI_nlt h7 (by decide)), r1_s, one_7 N (by omega), p_J_all, ck_J, eu, r0_s, e, e_Joining_join_26, g_J_all, k3, if_pos (nI_lt (by omega) (by omega))]
  · simp only [List.mem_cons, List.not_mem_nil, or_false, not_or] at hc
    rw [zc c (by simp; omega), uc c (by simp; omega), c1 c (by omega)]

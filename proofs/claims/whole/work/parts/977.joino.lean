/-! joining: the reference; the root of a set, all sets -/
def haR (u : sT) (A : shT) : Prop := ∀ q, q < 400 → u.1 335 q = if hB (tin A (nI 0)) (rim A) q then nI 1 else nI 0
noncomputable def rtq (A : shT) (q : Nat) : Bool := ins A q && (rx A q || hB (tin A (nI 0)) (rim A) q)
/-- the root's number of a set, as far as it has come -/
def rrF (s u : sT) (S : Nat) : Prop := u.2 = s.2 ∧ (∀ c, c ≠ 344 → u.1 c = s.1 c) ∧ ∀ j, j ≠ S → u.1 344 j = s.1 344 j
theorem rrF.tr {s u v : sT} {S : Nat} (h : rrF s u S) (g : rrF u v S) : rrF s v S := ⟨by rw [g.1, h.1], fun c hc => by rw [g.2.1 c hc, h.2.1 c hc], fun j hj => by rw [g.2.2 j hj, h.2.2 j hj]⟩
theorem rrF_su {s : sT} {S : Nat} {x : Int32} : rrF s (su s 344 S x) S := ⟨rfl, fun c hc => by
  funext j
  rw [su_1, if_neg (fun e => hc e.1)], fun j hj => by rw [su_1, if_neg (fun e => hj e.2)]⟩
theorem root1_run (X : qz_X) {s : sT} {m : Nat} {A : shT} (hm : m < 7) (ok : okA A) (hM : isM (gN s) m A) {bw : Bool} {S : Nat} (hS : S < 128) (hc : coM s A bw) (hh : haR s A) {g : Nat → Nat} (hg : mvS s S g) (hb : ∀ q, q < 400 → g q ≤ 1000000000) (h344 : s.1 344 S = nI 1000000000) : ∃ (z : sT) (r : Nat), rn 201 211 [some (.ref 318), some (.int (nI m)), none, some (.int (nI S)), some (.int (nI 0)), none, none, none, none] [] (mk X s) = rn 201 294 [some (.ref 318), some (.int (nI m)), none, some (.int (nI S)), some (.int ((nI S - nI 1) &&& nI S)), none, none, none, none] [] (mk X z) ∧ rrF s z S ∧ z.1 344 S = nI r ∧ r ≤ 1000000000 ∧ (∀ q, q < 400 → rtq A q = true → r ≤ g q) ∧ (r = 1000000000 ∨ ∃ q, q < 400 ∧ rtq A q = true ∧ r = g q) := by
  obtain ⟨⟨z, r⟩, ⟨z1, z2, z3, z4, z5⟩, e⟩ := it_up (fun q (x : sT × Nat) => rn 201 211 [some (.ref 318), some (.int (nI m)), none, some (.int (nI S)), some (.int (nI q)), none, none, none, none] [] (mk X x.1)) (fun q x => rrF s x.1 S ∧ x.1.1 344 S = nI x.2 ∧ x.2 ≤ 1000000000 ∧ (∀ p, p < q → rtq A p = true → x.2 ≤ g p) ∧ (x.2 = 1000000000 ∨ ∃ p, p < 400 ∧ rtq A p = true ∧ x.2 = g p)) (Nat.zero_le 400) (by
    rintro q ⟨u, r⟩ _ hq ⟨u1, u2, u3, u4, u5⟩
    dsimp only at u1 u2 u3 u4 u5 ⊢
    have hMu : isM (gN u) m A := isM_of (fun c p q => u1.2.1 c (by omega)) hM
    have hco : u.1 345 q = if ins A q then nI (prJ A bw q) else nI 1000000000 := by rw [u1.2.1 345 (by decide)]; exact hc q hq
    have hha : u.1 335 q = if hB (tin A (nI 0)) (rim A) q then nI 1 else nI 0 := by rw [u1.2.1 335 (by decide)]; exact hh q hq
    have hjo : u.1 343 (400 * S + q) = nI (g q) := by rw [u1.2.1 343 (by decide)]; exact hg q hq
    have gq := hb q hq
    have take : rtq A q = true → ∃ y : sT × Nat, (rrF s y.1 S ∧ y.1.1 344 S = nI y.2 ∧ y.2 ≤ 1000000000 ∧ (∀ p, p < q + 1 → rtq A p = true → y.2 ≤ g p) ∧ (y.2 = 1000000000 ∨ ∃ p, p < 400 ∧ rtq A p = true ∧ y.2 = g p)) ∧ rn 201 253 [some (.ref 318), some (.int (nI m)), none, some (.int (nI S)), some (.int (nI q)), none, none, none, none] [] (mk X u) = rn 201 211 [some (.ref 318), some (.int (nI m)), none, some (.int (nI S)), some (.int (nI (q + 1))), none, none, none, none] [] (mk X y.1) := by
      intro hr
      refine ⟨(su u 344 S (nI (if g q < r then g q else r)), if g q < r then g q else r), ⟨u1.tr rrF_su, by rw [su_1, if_pos ⟨rfl, rfl⟩], ?_, fun p hp hrp => ?_, ?_⟩, ?_⟩
      · dsimp only
        split <;> omega
      · dsimp only
        by_cases e : p = q
        · rw [e]; split <;> omega
        · have := u4 p (by omega) hrp
          split <;> omega
      · dsimp only
        by_cases hl : g q < r
        · rw [if_pos hl]; exact Or.inr ⟨q, hq, hr, rfl⟩
        · rw [if_neg hl]; exact u5
      · rw [e_M_joins_253, g_M_byRoot, g_M_byRoot, i_M_byRoot (by omega), u2, g_M_joined, pk_mul, nI_add, i_M_joined (by omega), hjo, min_run _ (by omega) (by omega), r1_s, w_M_byRoot (by omega), nI_add]
    have pass : rtq A q = false → ∃ y : sT × Nat, (rrF s y.1 S ∧ y.1.1 344 S = nI y.2 ∧ y.2 ≤ 1000000000 ∧ (∀ p, p < q + 1 → rtq A p = true → y.2 ≤ g p) ∧ (y.2 = 1000000000 ∨ ∃ p, p < 400 ∧ rtq A p = true ∧ y.2 = g p)) ∧ rn 201 211 [some (.ref 318), some (.int (nI m)), none, some (.int (nI S)), some (.int (nI (q + 1))), none, none, none, none] [] (mk X u) = rn 201 211 [some (.ref 318), some (.int (nI m)), none, some (.int (nI S)), some (.int (nI (q + 1))), none, none, none, none] [] (mk X y.1) := by
      intro hr
      refine ⟨(u, r), ⟨u1, u2, u3, fun p hp hrp => ?_, u5⟩, rfl⟩
      have : p ≠ q := fun e => by rw [e, hr] at hrp; cases hrp
      exact u4 p (by omega) hrp
    rw [e_M_joins_211, if_neg (nI_ge hq (by decide)), g_M_cost, i_M_cost hq, hco, nI_add]
    cases hi : ins A q
    · rw [if_neg (show ¬ (false = true) by decide), if_pos (nI_le (Nat.le_refl _) (by decide))]
      exact pass (by unfold rtq; rw [hi]; rfl)
    · have pl := prJ_le ok bw (show q ≤ 400 by omega)
      rw [if_pos (show true = true from rfl), if_neg (nI_ge (show prJ A bw q < 1000000000 by omega) (by decide)), ck_M, M_isRim_run X hm ok hMu hq, r1_s, told_int]
      cases hx : rx A q
      · rw [if_neg (show ¬ (false = true) by decide), g_M_hangs, i_M_hangs hq, hha, told_one]
        cases hhb : hB (tin A (nI 0)) (rim A) q
        · rw [if_neg (show ¬ (false = true) by decide)]
          exact pass (by unfold rtq; rw [hi, hx, hhb]; rfl)
        · rw [if_pos (show true = true from rfl)]
          exact take (by unfold rtq; rw [hi, hx, hhb]; rfl)
      · rw [if_pos (show true = true from rfl)]
        exact take (by unfold rtq; rw [hi, hx]; rfl)) (x := (s, 1000000000)) ⟨⟨rfl, fun _ _ => rfl, fun _ _ => rfl⟩, h344, Nat.le_refl _, fun p hp => absurd hp (Nat.not_lt_zero p), Or.inl rfl⟩
  dsimp only at z1 z2 z3 z4 z5 e
  refine ⟨z, r, ?_, z1, z2, z3, z4, z5⟩
  refine Eq.trans e ?_
  rw [e_M_joins_211, if_pos (nI_le (by decide) (by decide))]
theorem root2_run (X : qz_X) {S : Nat} (hS : S < 128) {R : Nat → Nat} (hRb : ∀ a, a < S → R a ≤ 1000000) (v1 : Int32) (Q : Nat → Prop) : ∀ n part (s : sT) (r : Nat), part < n → part &&& S = part → part < S → (∀ a, a < S → s.1 344 a = nI (R a)) → s.1 344 S = nI r → r ≤ 1000000000 → (∀ P, P &&& S = P → P < S → part < P → r ≤ R P + R (S ^^^ P)) → Q r → (∀ P, P ≠ 0 → P &&& S = P → P < S → Q (R P + R (S ^^^ P))) → ∃ (z : sT) (r' : Nat), rn 201 294 [some (.ref 318), some (.int v1), none, some (.int (nI S)), some (.int (nI part)), none, none, none, none] [] (mk X s) = rn 201 15 [some (.ref 318), some (.int v1), none, some (.int (nI (S + 1))), none, none, none, none, none] [] (mk X z) ∧ rrF s z S ∧ z.1 344 S = nI r' ∧ r' ≤ r ∧ (∀ P, P ≠ 0 → P &&& S = P → P < S → r' ≤ R P + R (S ^^^ P)) ∧ Q r'
  | 0, part, _, _, h, _, _, _, _, _, _, _, _ => absurd h (Nat.not_lt_zero part)
  | n + 1, part, s, r, hn, hsub, hlt, hR, hr, hrb, hcov, hQ, hQ2 => by
    rw [e_M_joins_294]
    by_cases h0 : part = 0
    · subst h0
      refine ⟨s, r, by rw [if_pos (by decide), nI_add], ⟨rfl, fun _ _ => rfl, fun _ _ => rfl⟩, hr, Nat.le_refl _, fun P hP0 h1 h2 => hcov P h1 h2 (by omega), hQ⟩
    · obtain ⟨x1, x2⟩ := sub_xor0 S hS part (by omega) hsub
      have b1 := hRb part hlt
      have b2 := hRb (S ^^^ part) (by omega)
      have hnx : (part - 1) &&& S < part := by have : (part - 1) &&& S ≤ part - 1 := Nat.and_le_left; omega
      rw [if_neg (nI_nle (by omega) (by omega)), g_M_byRoot, g_M_byRoot, i_M_byRoot (by omega), hr, g_M_byRoot, i_M_byRoot (by omega), hR part hlt, g_M_byRoot, not_and hS hsub, i_M_byRoot (by omega), hR _ (by omega), nI_add, min_run _ (by omega) (by omega), r1_s, w_M_byRoot (by omega), pk_sub (by omega), fa_and]
      obtain ⟨z, r', e, z1, z2, z3, z4, z5⟩ := root2_run X hS hRb v1 Q n ((part - 1) &&& S) (su s 344 S (nI (if R part + R (S ^^^ part) < r then R part + R (S ^^^ part) else r))) (if R part + R (S ^^^ part) < r then R part + R (S ^^^ part) else r) (by omega) (sub_and _ _) (by omega) (fun a ha => by rw [su_1, if_neg (by omega)]; exact hR a ha) (by rw [su_1, if_pos ⟨rfl, rfl⟩]) (by split <;> omega) (fun P h1 h2 h3 => by
        rcases Nat.lt_trichotomy P part with g | g | g
        · have := sub_next hS (show part < 128 by omega) hsub h1 g
          omega
        · subst g
          split <;> omega
        · have := hcov P h1 h2 g
          split <;> omega) (by
        split
        · exact hQ2 part h0 hsub hlt
        · exact hQ) hQ2
      refine ⟨z, r', e, rrF_su.tr z1, z2, ?_, z4, z5⟩
      have : (if R part + R (S ^^^ part) < r then R part + R (S ^^^ part) else r) ≤ r := by split <;> omega
      omega
/-- what the reference's tables hold of the sets below S -/
def JmS (A : shT) (bw : Bool) (t : Nat → Bool) (M : Nat) (J : Nat → Nat → Nat) (R : Nat → Nat) (S : Nat) : Prop := Jp S (ins A) (rim A) (prJ A bw) J R ∧ (∀ a q, a ≠ 0 → a < S → q < 400 → J a q ≤ 1000000000 ∧ (ins A q = true → prJ A bw q ≤ J a q) ∧ (ins A q = false → J a q = 1000000000)) ∧ (∀ q, q < 400 → t q = true → 2 ^ pnq t q < S → J (2 ^ pnq t q) q = 0) ∧ ∀ C, CpS A bw t M C M → ∀ a, a ≠ 0 → a < S → (∀ q, q < 400 → ins A q = true → C a q ≤ J a q) ∧ C a 400 ≤ R a
theorem hang_C {A : shT} {bw : Bool} {t : Nat → Bool} {M : Nat} {C : Nat → Nat → Nat} (hC : CpS A bw t M C M) {a : Nat} (h0 : a ≠ 0) (ha : a < M) {q : Nat} (h : rtq A q = true) (hq : q < 400) : C a 400 ≤ C a q := by
  have e0 : prJ A bw 400 = 0 := by unfold prJ; rw [if_pos rfl]
  have rimC : ∀ p, p < 400 → rim A p = true → C a 400 ≤ C a p := fun p hp hr => by
    have := hC.2.1 a p 400 h0 ha (Or.inr (Or.inr ⟨rfl, hp, hr⟩))
    omega
  unfold rtq at h
  rw [Bool.and_eq_true, Bool.or_eq_true] at h
  rcases h.2 with h1 | h1
  · exact rimC q hq (by unfold rim; rw [h.1, h1]; rfl)
  · have := hng_ind (t := tin A (nI 0)) (a := rim A) (S := fun q => q < 400 ∧ tin A (nI 0) q = true ∧ C a 400 ≤ C a q) (fun p hp ht hr => ⟨hp, ht, rimC p hp hr⟩) (fun p q hp hadj htq => by
      obtain ⟨k1, k2, k3⟩ := hp
      rw [tin0, Bool.and_eq_true] at k2 htq
      have h3 := hC.2.1 a q p h0 ha (Or.inl ⟨adj_symm hadj, htq.1, k2.1⟩)
      have h4 : prJ A bw p = 0 := by
        unfold prJ
        rw [if_neg (by omega)]
        have : A.2.1 p = false := by
          cases hh : A.2.1 p
          · rfl
          · rw [hh] at k2; cases k2.2
        rw [this]
        rfl
      refine ⟨hadj.2.1, by rw [tin0, htq.1, htq.2]; rfl, by omega⟩) (hB_iff.mp h1)
    exact this.2.2
theorem oneM_run (X : qz_X) {s : sT} {m : Nat} {A : shT} (hm : m < 7) (ok : okA A) (hM : isM (gN s) m A) {bw : Bool} {t : Nat → Bool} (ht : ∀ q, q < 400 → t q = true → ins A q = true ∧ A.2.1 q = false) (hP : PcsM s t) {N : Nat} (hN : np t 400 = N) (h7 : N ≤ 7) (hc : coM s A bw) (hh : haR s A) {S : Nat} (h0 : S ≠ 0) (hS : S < 2 ^ N) {J : Nat → Nat → Nat} {R : Nat → Nat} (hJ : JmS A bw t (2 ^ N) J R S) (hv : ∀ a, a ≠ 0 → a < S → mvS s a (J a)) (hR : ∀ a, a < S → s.1 344 a = nI (R a)) : ∃ (z : sT) (g : Nat → Nat) (r : Nat), rn 201 28 [some (.ref 318), some (.int (nI m)), none, some (.int (nI S)), some (.int (nI 0)), none, none, none, none] [] (mk X s) = rn 201 15 [some (.ref 318), some (.int (nI m)), none, some (.int (nI (S + 1))), none, none, none, none, none] [] (mk X z) ∧ z.2 = s.2 ∧ (∀ c, c ∉ [343, 344, 346] → z.1 c = s.1 c) ∧ (∀ a, a ≠ 0 → a < S + 1 → mvS z a (if a = S then g else J a)) ∧ (∀ a, a < S + 1 → z.1 344 a = nI (if a = S then r else R a)) ∧ JmS A bw t (2 ^ N) (fun a => if a = S then g else J a) (fun a => if a = S then r else R a) (S + 1) := by
  have hp7 := pow_7 h7
  have hS8 : S < 128 := by omega
  obtain ⟨Jq, Jb, Jz, Jc⟩ := id hJ
  obtain ⟨u, g0, e1, u1, u2, u3⟩ := inits_run X ok hP (by omega) h0 hS8 hc hv Jb (nI m)
  have hins : ∀ q, q < 400 → ins A q = false → g0 q = 1000000000 := fun q hq hi => by
    rcases (u3 q hq).2.2 with h | ⟨P, p1, p2, p3, p4, p5, p6⟩
    · rw [h]
      unfold bgR
      cases htq : t q
      · rfl
      · have := (ht q hq htq).1
        rw [hi] at this
        cases this
    · have := (Jb P q p1 p3 hq).2.2 hi
      omega
  have g0b : ∀ q, q < 400 → g0 q ≤ 1000000000 := fun q hq => Nat.le_trans (u3 q hq).1 (bgR_le t S q)
  have hcu : coM u A bw := fun p hp => by rw [u1.2.1 345 (by decide)]; exact hc p hp
  obtain ⟨w, g, e2, w1, w2, w3, w4, w5, w6⟩ := goesOn_run X ok hS8 hcu u2 g0b hins
  have gb : ∀ q, q < 400 → g q ≤ 1000000000 := fun q hq => Nat.le_trans (w3 q hq) (g0b q hq)
  have uw := u1.tr w1
  have hx : ∀ c, c ∉ [343, 346] → (su w 344 S (nI 1000000000)).1 c = if c = 344 then (su w 344 S (nI 1000000000)).1 344 else s.1 c := fun c hc => by
    by_cases e : c = 344
    · rw [if_pos e, e]
    · rw [if_neg e]
      funext j
      rw [su_1, if_neg (fun z => e z.1), uw.2.1 c hc]
  have hx2 : ∀ c, c ∉ [343, 344, 346] → (su w 344 S (nI 1000000000)).1 c = s.1 c := fun c hc => by
    simp only [List.mem_cons, List.not_mem_nil, or_false, not_or] at hc
    rw [hx c (by simp; omega), if_neg hc.2.1]
  have hMw : isM (gN (su w 344 S (nI 1000000000))) m A := isM_of (fun c p q => hx2 c (by simp; omega)) hM
  have hcw : coM (su w 344 S (nI 1000000000)) A bw := fun p hp => by rw [hx2 345 (by decide)]; exact hc p hp
  have hhw : haR (su w 344 S (nI 1000000000)) A := fun p hp => by rw [hx2 335 (by decide)]; exact hh p hp
  have hgw : mvS (su w 344 S (nI 1000000000)) S g := fun p hp => by rw [su_1, if_neg (by omega)]; exact w2 p hp
  obtain ⟨y, r0, e3, y1, y2, y3, y4, y5⟩ := root1_run X hm ok hMw hS8 hcw hhw hgw gb (by rw [su_1, if_pos ⟨rfl, rfl⟩])
  have hRy : ∀ a, a < S → y.1 344 a = nI (R a) := fun a ha => by
    rw [y1.2.2 a (by omega), su_1, if_neg (by omega), uw.2.1 344 (by decide)]
    exact hR a ha
  have hRb : ∀ a, a < S → R a ≤ 1000000 := fun a ha => by
    have := Jq.2.2.2.2.2.2 a ha
    omega
  have hlt : (S - 1) &&& S < S := by have : (S - 1) &&& S ≤ S - 1 := Nat.and_le_left; omega
  obtain ⟨z, r, e4, z1, z2, z3, z4, z5⟩ := root2_run X hS8 hRb (nI m) (fun r => r = 1000000000 ∨ (∃ q, q < 400 ∧ rtq A q = true ∧ r = g q) ∨ ∃ P, P ≠ 0 ∧ P &&& S = P ∧ P < S ∧ r = R P + R (S ^^^ P)) (S + 1) ((S - 1) &&& S) y r0 (by omega) (sub_and _ _) hlt hRy y2 y3 (fun P h1 h2 h3 => by
    have := sub_next hS8 hS8 (Nat.and_self S) h1 h2
    omega) (by
    rcases y5 with h | h
    · exact Or.inl h
    · exact Or.inr (Or.inl h)) (fun P p0 p1 p2 => Or.inr (Or.inr ⟨P, p0, p1, p2, rfl⟩))
  -- small numbers
  have gpr : ∀ q, q < 400 → ins A q = true → prJ A bw q ≤ g q := w6 (fun v c => prJ A bw v ≤ c) (fun p v c _ _ _ _ => by show prJ A bw v ≤ c + prJ A bw v; omega) (fun q hq hi => by
    have pl := prJ_le ok bw (show q ≤ 400 by omega)
    show prJ A bw q ≤ g0 q
    rcases (u3 q hq).2.2 with h | ⟨P, p1, p2, p3, p4, p5, p6⟩
    · rw [h]
      unfold bgR
      cases htq : t q
      · rw [Bool.false_and, if_neg (by decide)]; omega
      · have := (ht q hq htq).2
        have e : prJ A bw q = 0 := by
          unfold prJ
          rw [if_neg (by omega), this]
          rfl
        omega
    · obtain ⟨x1, x2⟩ := sub_xor0 S hS8 P (by omega) p2
      have k1 := (Jb P q p1 p3 hq).2.1 hi
      have k2 := (Jb (S ^^^ P) q (by omega) (by omega) hq).2.1 hi
      omega)
  have step99 : ∀ p v, adj p v → ins A p = true → ins A v = true → g v ≤ g p + 99 := fun p v ha hp hv2 => by
    have := w5 p v ha hp hv2
    have := prJ_le ok bw (show v ≤ 400 by have := ha.2.1; omega)
    omega
  have gsm : ∀ q, q < 400 → ins A q = true → g q ≤ 4000 * S := fun q hq hi => by
    by_cases hz : (S - 1) &&& S = 0
    · obtain ⟨i, hi7, e⟩ := low0 S hS8 h0 hz
      have hiN : i < N := by
        rcases Nat.lt_or_ge i N with k | k
        · exact k
        · have := Nat.pow_le_pow_right (show 0 < 2 by decide) k
          omega
      obtain ⟨f, hf, hF, hfc⟩ := fb_ct_kth (show i < fb_ct (isF t) 400 by rw [show fb_ct (isF t) 400 = N from hN]; exact hiN)
      have hF2 : t f = true ∧ rep t f = f := by
        have hF : isF t f = true := hF
        unfold isF at hF
        rw [Bool.and_eq_true, decide_eq_true_eq] at hF
        exact hF
      have hpn : pnq t f = i := by
        unfold pnq
        rw [hF2.2]
        exact hfc
      have hb0 : g0 f ≤ 0 := by
        have := (u3 f hf).1
        unfold bgR at this
        rw [hF2.1, hpn, decide_eq_true e] at this
        exact this
      have hif := (ht f hf hF2.1).1
      have := w3 f hf
      have := grid ok step99 hf hq hif hi
      omega
    · obtain ⟨x1, x2⟩ := sub_xor0 S hS8 ((S - 1) &&& S) (by omega) (sub_and _ _)
      have k1 := Jq.2.2.2.2.2.1 ((S - 1) &&& S) q hz hlt hq hi
      have k2 := Jq.2.2.2.2.2.1 (S ^^^ ((S - 1) &&& S)) q (by omega) (by omega) hq hi
      have k3 := (u3 q hq).2.1 ((S - 1) &&& S) (sub_and _ _) hlt (by omega) (by omega) (by omega)
      have := w3 q hq
      omega
  have j1 : ∀ a b, a ≠ 0 → b ≠ 0 → dj a b → a ||| b = S → ∀ q, q < 400 → ins A q = true → g q + prJ A bw q ≤ J a q + J b q := fun a b ha hb hd e q hq hi => by
    obtain ⟨s1, s2⟩ := or_sub hd
    rw [e] at s1 s2
    have haS := a_neS hb hd
    have hbS := a_neS ha (dj_symm hd)
    rw [Nat.or_comm] at hbS
    have k1 := Jq.2.2.2.2.2.1 a q ha (by omega) hq hi
    have k2 := Jq.2.2.2.2.2.1 b q hb (by omega) hq hi
    have k3 := (u3 q hq).2.1 a s1 (by omega) (by omega) (by omega) (by rw [s2]; omega)
    rw [s2] at k3
    have := w3 q hq
    omega
  refine ⟨z, g, r, ?_, ?_, fun c hc => ?_, fun a ha ha2 => ?_, fun a ha => ?_, ⟨?_, ?_, ?_, ?_, ?_, ?_, ?_⟩, fun a q ha ha2 hq => ?_, fun q hq htq hlt2 => ?_, fun C hC a ha ha2 => ?_⟩
  · refine Eq.trans e1 ?_
    rw [e_M_joins_28, if_pos (nI_le (by decide) (by decide)), ck_M, e2, r0_s, g_M_byRoot, w_M_byRoot (by omega), e3, pk_sub (by omega), fa_and, e4]
  · rw [z1.1, y1.1, su_2, uw.1]
  · simp only [List.mem_cons, List.not_mem_nil, or_false, not_or] at hc
    rw [z1.2.1 c hc.2.1, y1.2.1 c hc.2.1, hx2 c (by simp; omega)]
  · intro q hq
    rw [z1.2.1 343 (by decide), y1.2.1 343 (by decide), su_1, if_neg (by omega)]
    by_cases e : a = S
    · rw [if_pos e, e]; exact w2 q hq
    · rw [if_neg e, uw.2.2 _ (Or.inl (by omega))]
      exact hv a ha (by omega) q hq
  · by_cases e : a = S
    · rw [if_pos e, e]; exact z2
    · rw [if_neg e, z1.2.2 a e]; exact hRy a (by omega)
  · intro a b q ha hb hd hlt2 hq hi
    dsimp only
    by_cases e : a ||| b = S
    · have haS := a_neS hb hd
      have hbS := a_neS ha (dj_symm hd)
      rw [Nat.or_comm] at hbS
      rw [if_pos e, if_neg (by omega), if_neg (by omega)]
      exact j1 a b ha hb hd e q hq hi
    · have l1 : a ≤ a ||| b := Nat.left_le_or
      have l2 : b ≤ a ||| b := Nat.right_le_or
      rw [if_neg e, if_neg (by omega), if_neg (by omega)]
      exact Jq.1 a b q ha hb hd (by omega) hq hi
  · intro a p q ha hlt2 hadj hp hi
    dsimp only
    by_cases e : a = S
    · rw [if_pos e]; exact w5 p q hadj hp hi
    · rw [if_neg e]; exact Jq.2.1 a p q ha (by omega) hadj hp hi
  · intro a b ha hb hd hlt2
    dsimp only
    by_cases e : a ||| b = S
    · have haS := a_neS hb hd
      have hbS := a_neS ha (dj_symm hd)
      rw [Nat.or_comm] at hbS
      obtain ⟨s1, s2⟩ := or_sub hd
      rw [e] at s1 s2
      rw [if_pos e, if_neg (by omega), if_neg (by omega)]
      have := z4 a ha s1 (by omega)
      rw [s2] at this
      exact this
    · have l1 : a ≤ a ||| b := Nat.left_le_or
      have l2 : b ≤ a ||| b := Nat.right_le_or
      rw [if_neg e, if_neg (by omega), if_neg (by omega)]
      exact Jq.2.2.1 a b ha hb hd (by omega)
  · intro a q ha hlt2 hq hr
    dsimp only
    by_cases e : a = S
    · rw [if_pos e, if_pos e]
      have : rtq A q = true := by
        unfold rim at hr
        rw [Bool.and_eq_true] at hr
        unfold rtq
        rw [hr.1, hr.2]
        rfl
      have := y4 q hq this
      omega
    · rw [if_neg e, if_neg e]; exact Jq.2.2.2.1 a q ha (by omega) hq hr
  · dsimp only
    rw [if_neg (by omega)]
    exact Jq.2.2.2.2.1
  · intro a q ha hlt2 hq hi
    dsimp only
    by_cases e : a = S
    · rw [if_pos e, e]; exact gsm q hq hi
    · rw [if_neg e]; exact Jq.2.2.2.2.2.1 a q ha (by omega) hq hi
  · intro a hlt2
    dsimp only
    by_cases e : a = S
    · rw [if_pos e, e]
      obtain ⟨r1, hr1, hr2⟩ := rim_ex ok
      have hr3 : ins A r1 = true := rim_ins hr2
      have : rtq A r1 = true := by
        unfold rim at hr2
        rw [Bool.and_eq_true] at hr2
        unfold rtq
        rw [hr2.1, hr2.2]
        rfl
      have := y4 r1 hr1 this
      have := gsm r1 hr1 hr3
      omega
    · rw [if_neg e]; exact Jq.2.2.2.2.2.2 a (by omega)
  · dsimp only
    by_cases e : a = S
    · rw [if_pos e]; exact ⟨gb q hq, gpr q hq, w4 q hq⟩
    · rw [if_neg e]; exact Jb a q ha (by omega) hq
  · dsimp only
    by_cases e : 2 ^ pnq t q = S
    · rw [if_pos e]
      have h1 := (u3 q hq).1
      have h2 := w3 q hq
      have : bgR t S q = 0 := by
        unfold bgR
        rw [htq, decide_eq_true e.symm]
        rfl
      omega
    · rw [if_neg e]; exact Jz q hq htq (by omega)
  · dsimp only
    by_cases e : a = S
    · subst e
      rw [if_pos rfl, if_pos rfl]
      obtain ⟨c1, c2, c3, c4, c5⟩ := id hC
      have low : ∀ q, q < 400 → ins A q = true → C a q ≤ g q := w6 (fun v c => C a v ≤ c) (fun p v c hadj hp hv2 hc2 => by
        have := c2 a p v ha hS (Or.inl ⟨hadj, hp, hv2⟩)
        have hc2 : C a p ≤ c := hc2
        show C a v ≤ c + prJ A bw v
        omega) (fun q hq hi => by
        show C a q ≤ g0 q
        have hn : ndJ A q := Or.inr ⟨hq, hi⟩
        have k0 := (c4 a q ha hS hn).1
        rcases (u3 q hq).2.2 with h | ⟨P, p1, p2, p3, p4, p5, p6⟩
        · rw [h]
          unfold bgR
          by_cases hcd : (t q && decide (a = 2 ^ pnq t q)) = true
          · rw [if_pos hcd]
            rw [Bool.and_eq_true, decide_eq_true_eq] at hcd
            have := c3 a q ha hS hq hcd.1 hcd.2
            omega
          · rw [if_neg hcd]; omega
        · obtain ⟨x1, x2⟩ := sub_xor0 a hS8 P (by omega) p2
          obtain ⟨d1, d2, d3⟩ := sub_dj p2
          have hQ0 : a ^^^ P ≠ 0 := by omega
          have k1 := (Jc C hC P p1 p3).1 q hq hi
          have k2 := (Jc C hC (a ^^^ P) hQ0 (by omega)).1 q hq hi
          have k3 := c1 P (a ^^^ P) q p1 hQ0 d1 (by rw [d2]; exact hS) hn
          rw [d2] at k3
          omega)
      refine ⟨low, ?_⟩
      have k0 := (c4 a 400 ha hS (Or.inl rfl)).1
      rcases z5 with h | ⟨q, hq, hr, h⟩ | ⟨P, p1, p2, p3, p6⟩
      · omega
      · have h1 := hang_C hC ha hS hr hq
        have hiq : ins A q = true := by
          unfold rtq at hr
          rw [Bool.and_eq_true] at hr
          exact hr.1
        have := low q hq hiq
        omega
      · obtain ⟨x1, x2⟩ := sub_xor0 a hS8 P (by omega) p2
        obtain ⟨d1, d2, d3⟩ := sub_dj p2
        have hQ0 : a ^^^ P ≠ 0 := by omega
        have k1 := (Jc C hC P p1 p3).2
        have k2 := (Jc C hC (a ^^^ P) hQ0 (by omega)).2
        have k3 := c1 P (a ^^^ P) 400 p1 hQ0 d1 (by rw [d2]; exact hS) (Or.inl rfl)
        rw [d2] at k3
        omega
    · rw [if_neg e, if_neg e]; exact Jc C hC a ha (by omega)

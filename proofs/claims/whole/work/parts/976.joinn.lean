/-! joining: the reference; one set, all sets -/
noncomputable def bgR (t : Nat → Bool) (S q : Nat) : Nat := if t q && decide (S = 2 ^ pnq t q) then 0 else 1000000000
theorem single0 : ∀ S, S < 128 → ∀ i, i < 7 → ((popN S = 1 ∧ S.testBit i = true) ↔ S = 2 ^ i) := by decide +kernel
theorem low0 : ∀ S, S < 128 → S ≠ 0 → (S - 1) &&& S = 0 → ∃ i, i < 7 ∧ S = 2 ^ i := by decide +kernel
theorem not_and {S P : Nat} (hS : S < 128) (h : P &&& S = P) : nI S &&& (nI P ^^^ (-1)) = nI (S ^^^ P) := by
  have hx : S ^^^ P < 128 := Nat.xor_lt_two_pow (n := 7) hS (Nat.lt_of_le_of_lt (by rw [← h]; exact Nat.and_le_right) hS)
  have hP : P < 128 := Nat.lt_of_le_of_lt (by rw [← h]; exact Nat.and_le_right) hS
  apply b_ext
  intro i hi
  rw [b_and, b_not _ hi, bt_nat (by omega), bt_nat (by omega), bt_nat (by omega), Nat.testBit_xor]
  cases hp : P.testBit i
  · simp
  · rw [sub_bits h hp]; rfl
/-- what a square begins with: its base, or two parts that meet there -/
def inI (J : Nat → Nat → Nat) (pr : Nat → Nat) (t : Nat → Bool) (S q L part : Nat) : Prop := L ≤ bgR t S q ∧ (∀ P, P &&& S = P → P < S → part < P → J P q < 1000000000 → J (S ^^^ P) q < 1000000000 → L + pr q ≤ J P q + J (S ^^^ P) q) ∧ (L = bgR t S q ∨ ∃ P, P ≠ 0 ∧ P &&& S = P ∧ P < S ∧ J P q < 1000000000 ∧ J (S ^^^ P) q < 1000000000 ∧ L = J P q + J (S ^^^ P) q - pr q)
theorem bgR_le (t : Nat → Bool) (S q : Nat) : bgR t S q ≤ 1000000000 := by
  unfold bgR
  split <;> omega
theorem least_run (X : qz_X) {s : sT} {A : shT} (ok : okA A) {bw : Bool} {t : Nat → Bool} {S : Nat} (hS : S < 128) (hc : coM s A bw) {J : Nat → Nat → Nat} (hv : ∀ a, a ≠ 0 → a < S → mvS s a (J a)) (hb : ∀ a q, a ≠ 0 → a < S → q < 400 → J a q ≤ 1000000000 ∧ (ins A q = true → prJ A bw q ≤ J a q) ∧ (ins A q = false → J a q = 1000000000)) {q : Nat} (hq : q < 400) (v1 : Int32) : ∀ n part L, part < n → part &&& S = part → part < S → inI J (prJ A bw) t S q L part → ∃ L', inI J (prJ A bw) t S q L' 0 ∧ rn 201 85 [some (.ref 318), some (.int v1), none, some (.int (nI S)), some (.int (nI q)), some (.int (nI L)), some (.int (nI part)), none, none] [] (mk X s) = rn 201 28 [some (.ref 318), some (.int v1), none, some (.int (nI S)), some (.int (nI (q + 1))), none, none, none, none] [] (mk X (su s 343 (400 * S + q) (nI L')))
  | 0, part, L, h, _, _, _ => absurd h (Nat.not_lt_zero part)
  | n + 1, part, L, hn, hsub, hlt, hI => by
    have hL : L ≤ 1000000000 := Nat.le_trans hI.1 (bgR_le t S q)
    rw [e_M_joins_85]
    by_cases h0 : part = 0
    · subst h0
      refine ⟨L, hI, ?_⟩
      rw [if_pos (by decide), g_M_joined, pk_mul, nI_add, w_M_joined (by omega), nI_add]
    · obtain ⟨x1, x2⟩ := sub_xor0 S hS part (by omega) hsub
      have hQ0 : S ^^^ part ≠ 0 := by omega
      obtain ⟨p1, p2, p3⟩ := hb part q h0 hlt hq
      obtain ⟨q1, q2, q3⟩ := hb (S ^^^ part) q hQ0 (by omega) hq
      have hnx : (part - 1) &&& S < part := by have : (part - 1) &&& S ≤ part - 1 := Nat.and_le_left; omega
      have next : ∀ P, P &&& S = P → P < S → (part - 1) &&& S < P → P = part ∨ part < P := fun P h1 h2 h3 => by
        rcases Nat.lt_trichotomy P part with g | g | g
        · have := sub_next hS (show part < 128 by omega) hsub h1 g
          omega
        · exact Or.inl g
        · exact Or.inr g
      rw [if_neg (nI_nle (by omega) (by omega)), g_M_joined, pk_mul, nI_add, i_M_joined (by omega), hv part h0 hlt q hq, g_M_joined, not_and hS hsub, pk_mul, nI_add, i_M_joined (by omega), hv _ hQ0 (by omega) q hq, pk_sub (by omega), fa_and]
      by_cases f1 : J part q < 1000000000
      · rw [if_neg (nI_ge f1 (by decide))]
        by_cases f2 : J (S ^^^ part) q < 1000000000
        · have hi : ins A q = true := by
            cases hh : ins A q
            · have := p3 hh; omega
            · rfl
          have pl := prJ_le ok bw (show q ≤ 400 by omega)
          have hco : s.1 345 q = nI (prJ A bw q) := by rw [hc q hq, if_pos hi]
          have pp := p2 hi
          have pq := q2 hi
          rw [if_neg (nI_ge f2 (by decide)), g_M_cost, i_M_cost hq, hco, nI_add, pk_sub (by omega), min_run _ (by omega) (by omega), r1_s]
          refine least_run X ok hS hc hv hb hq v1 n _ _ (by omega) (sub_and _ _) (by omega) ⟨?_, fun P h1 h2 h3 g1 g2 => ?_, ?_⟩
          · have := hI.1
            split <;> omega
          · rcases next P h1 h2 h3 with e | g
            · subst e
              split <;> omega
            · have := hI.2.1 P h1 h2 g g1 g2
              split <;> omega
          · by_cases hl : J part q + J (S ^^^ part) q - prJ A bw q < L
            · rw [if_pos hl]
              exact Or.inr ⟨part, h0, hsub, hlt, f1, f2, rfl⟩
            · rw [if_neg hl]; exact hI.2.2
        · rw [if_pos (nI_le (by omega) (by omega))]
          refine least_run X ok hS hc hv hb hq v1 n _ _ (by omega) (sub_and _ _) (by omega) ⟨hI.1, fun P h1 h2 h3 g1 g2 => ?_, hI.2.2⟩
          rcases next P h1 h2 h3 with e | g
          · subst e; exact absurd g2 f2
          · exact hI.2.1 P h1 h2 g g1 g2
      · rw [if_pos (nI_le (by omega) (by omega))]
        refine least_run X ok hS hc hv hb hq v1 n _ _ (by omega) (sub_and _ _) (by omega) ⟨hI.1, fun P h1 h2 h3 g1 g2 => ?_, hI.2.2⟩
        rcases next P h1 h2 h3 with e | g
        · subst e; exact absurd g1 f1
        · exact hI.2.1 P h1 h2 g g1 g2
theorem inits_run (X : qz_X) {s : sT} {A : shT} (ok : okA A) {bw : Bool} {t : Nat → Bool} (hP : PcsM s t) (h7 : np t 400 ≤ 7) {S : Nat} (h0 : S ≠ 0) (hS : S < 128) (hc : coM s A bw) {J : Nat → Nat → Nat} (hv : ∀ a, a ≠ 0 → a < S → mvS s a (J a)) (hb : ∀ a q, a ≠ 0 → a < S → q < 400 → J a q ≤ 1000000000 ∧ (ins A q = true → prJ A bw q ≤ J a q) ∧ (ins A q = false → J a q = 1000000000)) (v1 : Int32) : ∃ (z : sT) (g : Nat → Nat), rn 201 28 [some (.ref 318), some (.int v1), none, some (.int (nI S)), some (.int (nI 0)), none, none, none, none] [] (mk X s) = rn 201 28 [some (.ref 318), some (.int v1), none, some (.int (nI S)), some (.int (nI 400)), none, none, none, none] [] (mk X z) ∧ mjF S s z ∧ mvS z S g ∧ ∀ q, q < 400 → inI J (prJ A bw) t S q (g q) 0 := by
  have h337 : ∀ j, j < 400 → s.1 337 j = if t j then nI (pnq t j) else -1 := fun j hj => by rw [hP.2.1 j hj, pO_at hj]
  obtain ⟨⟨z, g⟩, ⟨z1, z2, z3⟩, e⟩ := it_up (fun q (x : sT × (Nat → Nat)) => rn 201 28 [some (.ref 318), some (.int v1), none, some (.int (nI S)), some (.int (nI q)), none, none, none, none] [] (mk X x.1)) (fun q x => mjF S s x.1 ∧ (∀ p, p < q → x.1.1 343 (400 * S + p) = nI (x.2 p)) ∧ ∀ p, p < q → inI J (prJ A bw) t S p (x.2 p) 0) (Nat.zero_le 400) (by
    rintro q ⟨u, g⟩ _ hq ⟨u1, u2, u3⟩
    dsimp only at u1 u2 u3 ⊢
    have hcu : coM u A bw := fun p hp => by rw [u1.2.1 345 (by decide)]; exact hc p hp
    have hvu : ∀ a, a ≠ 0 → a < S → mvS u a (J a) := fun a ha ha2 p hp => by
      rw [u1.2.2 _ (Or.inl (by omega))]; exact hv a ha ha2 p hp
    have hin : ∀ L, L = bgR t S q → inI J (prJ A bw) t S q L ((S - 1) &&& S) := by
      rintro L rfl
      refine ⟨Nat.le_refl _, fun P h1 h2 h3 _ _ => ?_, Or.inl rfl⟩
      have := sub_next hS hS (Nat.and_self S) h1 h2
      omega
    have hlt : (S - 1) &&& S < S := by have : (S - 1) &&& S ≤ S - 1 := Nat.and_le_left; omega
    have go : ∀ L, L = bgR t S q → ∃ y : sT × (Nat → Nat), (mjF S s y.1 ∧ (∀ p, p < q + 1 → y.1.1 343 (400 * S + p) = nI (y.2 p)) ∧ ∀ p, p < q + 1 → inI J (prJ A bw) t S p (y.2 p) 0) ∧ rn 201 85 [some (.ref 318), some (.int v1), none, some (.int (nI S)), some (.int (nI q)), some (.int (nI L)), some (.int ((nI S - nI 1) &&& nI S)), none, none] [] (mk X u) = rn 201 28 [some (.ref 318), some (.int v1), none, some (.int (nI S)), some (.int (nI (q + 1))), none, none, none, none] [] (mk X y.1) := by
      intro L hL
      obtain ⟨L', l1, l2⟩ := least_run X ok hS hcu hvu hb hq v1 (S + 1) ((S - 1) &&& S) L (by omega) (sub_and _ _) hlt (hin L hL)
      refine ⟨(su u 343 (400 * S + q) (nI L'), upN g q L'), ⟨u1.tr (mjF_su hq), fun p hp => ?_, fun p hp => ?_⟩, ?_⟩
      · rw [su_1]
        dsimp only
        unfold upN
        by_cases e : p = q
        · rw [if_pos ⟨rfl, by rw [e]⟩, if_pos e]
        · rw [if_neg (fun z => e (by omega)), if_neg e, u2 p (by omega)]
      · dsimp only
        unfold upN
        by_cases e : p = q
        · rw [if_pos e, e]; exact l1
        · rw [if_neg e]; exact u3 p (by omega)
      · rw [pk_sub (by omega), fa_and, l2]
    have hpo : u.1 337 q = if t q then nI (pnq t q) else -1 := by rw [u1.2.1 337 (by decide)]; exact h337 q hq
    rw [e_M_joins_28, if_neg (nI_ge hq (by decide)), M_bits_run _ (by omega), r1_s]
    by_cases hpop : popN S = 1
    · rw [if_pos (by rw [hpop]), g_M_piece, i_M_piece hq, hpo]
      cases ht : t q
      · rw [if_neg (show ¬ (false = true) by decide), if_pos rfl]
        exact go 1000000000 (by unfold bgR; rw [ht]; rfl)
      · have hl := pnq_lt hq ht
        rw [if_pos (show true = true from rfl), if_neg (nI_m1 (by omega)), g_M_piece, i_M_piece hq, hpo, ht, if_pos (show true = true from rfl), M_has_run _ _ (by omega), r1_s, told_int, bt_nat (by omega)]
        have hs := single0 S hS (pnq t q) (by omega)
        cases hbt : S.testBit (pnq t q)
        · rw [if_neg (show ¬ (false = true) by decide)]
          refine go 1000000000 ?_
          unfold bgR
          rw [ht, decide_eq_false (fun e => by have := (hs.mpr e).2; rw [hbt] at this; cases this)]
          rfl
        · rw [if_pos (show true = true from rfl)]
          refine go 0 ?_
          unfold bgR
          rw [ht, decide_eq_true (hs.mp ⟨hpop, hbt⟩)]
          rfl
    · rw [if_neg (fun z => hpop ((nI_eq (by have := popN_le S; omega) (by decide)).mp z))]
      refine go 1000000000 ?_
      unfold bgR
      cases ht : t q
      · rfl
      · have hl := pnq_lt hq ht
        rw [decide_eq_false (fun e => hpop ((single0 S hS (pnq t q) (by omega)).mpr e).1)]
        rfl) (x := (s, fun _ => 0)) ⟨mjF.rf S s, fun p hp => absurd hp (Nat.not_lt_zero p), fun p hp => absurd hp (Nat.not_lt_zero p)⟩
  exact ⟨z, g, e, z1, z2, z3⟩
/-- from any square to any other of a sheet -/
theorem grid {A : shT} (ok : okA A) {h : Nat → Nat} (hs : ∀ p v, adj p v → ins A p = true → ins A v = true → h v ≤ h p + 99) {p q : Nat} (hp : p < 400) (hq : q < 400) (ip : ins A p = true) (iq : ins A q = true) : h q ≤ h p + 3960 := by
  have o1 := ok.1
  have o2 := ok.2.1
  obtain ⟨p1, p2⟩ := ins_iff.mp ip
  obtain ⟨q1, q2⟩ := ins_iff.mp iq
  have row : ∀ d x x' y, y < A.1 1 → x < A.1 0 → x' < A.1 0 → (x' = x + d ∨ x = x' + d) → h (20 * y + x') ≤ h (20 * y + x) + 99 * d := by
    intro d
    induction d with
    | zero =>
      intro x x' y _ _ _ h1
      have : x' = x := by omega
      rw [this]; omega
    | succ d ih =>
      intro x x' y hy hx hx' h1
      rcases h1 with h1 | h1
      · have := ih x (x + d) y hy hx (by omega) (Or.inl rfl)
        have h3 := hs (20 * y + (x + d)) (20 * y + x') (by rw [adj_iff]; omega) (ins_iff.mpr ⟨by omega, by omega⟩) (ins_iff.mpr ⟨by omega, by omega⟩)
        omega
      · have := ih x (x' + 1) y hy hx (by omega) (Or.inr (by omega))
        have h3 := hs (20 * y + (x' + 1)) (20 * y + x') (by rw [adj_iff]; omega) (ins_iff.mpr ⟨by omega, by omega⟩) (ins_iff.mpr ⟨by omega, by omega⟩)
        omega
  have col : ∀ d y y' x, x < A.1 0 → y < A.1 1 → y' < A.1 1 → (y' = y + d ∨ y = y' + d) → h (20 * y' + x) ≤ h (20 * y + x) + 99 * d := by
    intro d
    induction d with
    | zero =>
      intro y y' x _ _ _ h1
      have : y' = y := by omega
      rw [this]; omega
    | succ d ih =>
      intro y y' x hx hy hy' h1
      rcases h1 with h1 | h1
      · have := ih y (y + d) x hx hy (by omega) (Or.inl rfl)
        have h3 := hs (20 * (y + d) + x) (20 * y' + x) (by rw [adj_iff]; omega) (ins_iff.mpr ⟨by omega, by omega⟩) (ins_iff.mpr ⟨by omega, by omega⟩)
        omega
      · have := ih y (y' + 1) x hx hy (by omega) (Or.inr (by omega))
        have h3 := hs (20 * (y' + 1) + x) (20 * y' + x) (by rw [adj_iff]; omega) (ins_iff.mpr ⟨by omega, by omega⟩) (ins_iff.mpr ⟨by omega, by omega⟩)
        omega
  have a1 : ∃ d, d ≤ 20 ∧ (q % 20 = p % 20 + d ∨ p % 20 = q % 20 + d) := by
    rcases Nat.lt_or_ge (p % 20) (q % 20) with g | g
    · exact ⟨q % 20 - p % 20, by omega, by omega⟩
    · exact ⟨p % 20 - q % 20, by omega, by omega⟩
  have a2 : ∃ d, d ≤ 20 ∧ (q / 20 = p / 20 + d ∨ p / 20 = q / 20 + d) := by
    rcases Nat.lt_or_ge (p / 20) (q / 20) with g | g
    · exact ⟨q / 20 - p / 20, by omega, by omega⟩
    · exact ⟨p / 20 - q / 20, by omega, by omega⟩
  obtain ⟨d1, l1, e1⟩ := a1
  obtain ⟨d2, l2, e2⟩ := a2
  have r1 := row d1 (p % 20) (q % 20) (p / 20) p2 p1 q1 e1
  have r2 := col d2 (p / 20) (q / 20) (q % 20) q1 p2 q2 e2
  rw [show 20 * (p / 20) + p % 20 = p by omega] at r1
  rw [show 20 * (q / 20) + q % 20 = q by omega] at r2
  omega
theorem rim_ex {A : shT} (ok : okA A) : ∃ r, r < 400 ∧ rim A r = true := by
  have o1 := ok.1
  have o2 := ok.2.1
  have o6 := ok.2.2.2.2.2.2.1
  have bits : ∀ n, n < 16 → n ≠ 0 → ∃ i, i < 4 ∧ bt (nI n) i = true := by decide
  obtain ⟨i, hi, hbi⟩ := bits (A.1 6) (by omega) (by omega)
  have hbi : hb A i = true := hbi
  have key : ∀ r, r < 400 → r % 20 < A.1 0 → r / 20 < A.1 1 → rx A r = true → ∃ r, r < 400 ∧ rim A r = true := fun r h1 h2 h3 h4 => ⟨r, h1, by unfold rim; rw [ins_iff.mpr ⟨h2, h3⟩, h4]; rfl⟩
  rcases (show i = 0 ∨ i = 1 ∨ i = 2 ∨ i = 3 by omega) with rfl | rfl | rfl | rfl
  · refine key 0 (by omega) (by omega) (by omega) ?_
    unfold rx
    rw [hbi]
    simp
  · refine key (A.1 0 - 1) (by omega) (by omega) (by omega) ?_
    unfold rx
    rw [hbi, decide_eq_true (show (A.1 0 - 1) % 20 + 1 = A.1 0 by omega)]
    simp
  · refine key (20 * (A.1 1 - 1)) (by omega) (by omega) (by omega) ?_
    unfold rx
    rw [hbi, decide_eq_true (show 20 * (A.1 1 - 1) / 20 + 1 = A.1 1 by omega)]
    simp
  · refine key 0 (by omega) (by omega) (by omega) ?_
    unfold rx
    rw [hbi]
    simp

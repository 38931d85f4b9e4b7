/-! joining: the class; sweeps to rest, prices, merging, all sets -/
/-- a sweep as far as it has come: from a0 to a, m: something fell; D: the squares gone through -/
def swI (A : shT) (bw : Bool) (a0 a : Nat → Nat) (m : Bool) (D : Nat → Prop) : Prop := (∀ w, ndJ A w → a w ≤ a0 w) ∧ (m = false → (∀ w, ndJ A w → a w = a0 w) ∧ ∀ v, v < 400 → ins A v = true → D v → (∀ p, nbJ A p v → a0 v ≤ a0 p + prJ A bw v) ∧ (rim A v = true → a0 400 ≤ a0 v)) ∧ (∀ v, v < 400 → ins A v = true → D v → (∀ p, nbJ A p v → a v ≤ a0 p + prJ A bw v) ∧ (rim A v = true → a 400 ≤ a0 v)) ∧ ∀ Q : Nat → Nat → Prop, (∀ p v c, nbJ A p v → Q p c → Q v (c + prJ A bw v)) → (∀ w, ndJ A w → Q w (a0 w)) → ∀ w, ndJ A w → Q w (a w)
theorem rsA_c {A : shT} {bw : Bool} {a b : Nat → Nat} {v : Nat} (hv : v < 400) (hi : ins A v = true) (h : ∀ w, ndJ A w → a w = b w) : nrA A a v 4 = nrA A b v 4 := by
  have key : ∀ d, d ≤ 4 → nrA A a v d = nrA A b v d := by
    intro d
    induction d with
    | zero =>
      intro _
      show (if rim A v then a 400 else 1000000) = if rim A v then b 400 else 1000000
      rw [h 400 (Or.inl rfl)]
    | succ d ih =>
      intro hd
      show (if decide (nbs v d = 400) || !ins A (nbs v d) then nrA A a v d else if a (nbs v d) < nrA A a v d then a (nbs v d) else nrA A a v d) = if decide (nbs v d = 400) || !ins A (nbs v d) then nrA A b v d else if b (nbs v d) < nrA A b v d then b (nbs v d) else nrA A b v d
      rw [ih (by omega)]
      by_cases h4 : nbs v d = 400
      · rw [decide_eq_true h4, Bool.true_or, if_pos rfl, if_pos rfl]
      · cases hii : ins A (nbs v d)
        · rw [Bool.not_false, Bool.or_true, if_pos rfl, if_pos rfl]
        · have hle := nbs_le (q := v) (d := d) hv
          rw [h (nbs v d) (Or.inr ⟨by omega, hii⟩)]
  exact key 4 (Nat.le_refl 4)
theorem swI_step {A : shT} {bw : Bool} {a0 a : Nat → Nat} {m : Bool} {D : Nat → Prop} {v : Nat} (hv : v < 400) (hi : ins A v = true) (hb : ∀ w, ndJ A w → a0 w ≤ 1000000) (h : swI A bw a0 a m D) : swI A bw a0 (rsA A bw a v) (m || rsB A bw a v) (fun x => D x ∨ x = v) := by
  obtain ⟨h1, h2, h3, h4⟩ := h
  have hnv : ndJ A v := Or.inr ⟨hv, hi⟩
  refine ⟨fun w hw => Nat.le_trans rsA_le (h1 w hw), fun hm => ?_, fun x hx hxi hD => ?_, fun Q hs hq => ?_⟩
  · rw [Bool.or_eq_false_iff] at hm
    obtain ⟨g1, g2⟩ := h2 hm.1
    have hno := rsA_no hm.2
    refine ⟨fun w hw => by rw [hno]; exact g1 w hw, fun x hx hxi hD => ?_⟩
    rcases hD with hD | rfl
    · exact g2 x hx hxi hD
    · have hB := hm.2
      unfold rsB at hB
      rw [Bool.or_eq_false_iff] at hB
      have k1 := of_decide_eq_false hB.1
      have e1 : rs1 A bw a x = a := if_neg k1
      refine ⟨fun p hp => ?_, fun hr => ?_⟩
      · have := nrA_low (a := a) hp hx
        rw [← g1 x hnv, ← g1 p (nbJ_nd hp).1]
        omega
      · have k2 := hB.2
        rw [hr, Bool.true_and, e1] at k2
        have := of_decide_eq_false k2
        rw [← g1 x hnv, ← g1 400 (Or.inl rfl)]
        omega
  · rcases hD with hD | rfl
    · obtain ⟨g1, g2⟩ := h3 x hx hxi hD
      exact ⟨fun p hp => Nat.le_trans rsA_le (g1 p hp), fun hr => Nat.le_trans rsA_le (g2 hr)⟩
    · refine ⟨fun p hp => ?_, fun hr => ?_⟩
      · have := rsA_nb (bw := bw) (a := a) hx hp
        have := h1 p (nbJ_nd hp).1
        omega
      · have := rsA_400 (bw := bw) (a := a) hx hr
        have := h1 x hnv
        omega
  · exact rsA_q hv hi (fun w hw => Nat.le_trans (h1 w hw) (hb w hw)) hs (h4 Q hs hq)
theorem swI_D {A : shT} {bw : Bool} {a0 a : Nat → Nat} {m : Bool} {D D' : Nat → Prop} (hD : ∀ v, v < 400 → ins A v = true → D' v → D v) (h : swI A bw a0 a m D) : swI A bw a0 a m D' := by
  obtain ⟨h1, h2, h3, h4⟩ := h
  exact ⟨h1, fun hm => ⟨(h2 hm).1, fun v hv hi hd => (h2 hm).2 v hv hi (hD v hv hi hd)⟩, fun v hv hi hd => h3 v hv hi (hD v hv hi hd), h4⟩
theorem jsweep_run (X : qz_X) {s : sT} {A : shT} (ok : okA A) {bw : Bool} {S : Nat} (hS : S < 128) (hp : pcS s A bw) {a0 : Nat → Nat} (ha : cvS s A S a0) (hb : ∀ w, ndJ A w → a0 w ≤ 1000000) (v4 : Int32) : ∃ (z : sT) (a : Nat → Nat) (m : Bool), rn 193 28 [some (.ref 103), none, some (.int (nI (S * 401))), some (.int (nI 0)), some (.int v4), some (.int (nI 0))] [] (mk X s) = rn 193 11 [some (.ref 103), none, some (.int (nI (S * 401))), some (.int (bI m)), some (.int (v4 + nI 1)), none] [] (mk X z) ∧ jcF S s z ∧ cvS z A S a ∧ swI A bw a0 a m (fun _ => True) := by
  have body : ∀ (u : sT) (a : Nat → Nat) (m : Bool) (D : Nat → Prop) (v : Nat), v < 400 → jcF S s u → cvS u A S a → swI A bw a0 a m D → (u.1 105 v = -1 ∧ ins A v = false) ∨ (¬ u.1 105 v = -1 ∧ ∃ (z : sT) (ch : Bool) (a' : Nat → Nat), rn 192 0 [some (.ref 103), some (.int (nI (S * 401))), some (.int (nI v)), none, none, none, none] [] (mk X u) = some (some (.int (bI ch)), mk X z) ∧ jcF S s z ∧ cvS z A S a' ∧ swI A bw a0 a' (m || ch) (fun x => D x ∨ x = v)) := by
    intro u a m D v hv hu hua hsw
    have hpu := pcS_f hu hp
    cases hi : ins A v
    · left
      rw [hpu.2 v (by omega), if_neg (by omega), hi]
      exact ⟨rfl, rfl⟩
    · right
      have pl := prJ_le ok bw (show v ≤ 400 by omega)
      refine ⟨by rw [hpu.2 v (by omega), if_neg (by omega), hi, if_pos rfl]; exact nI_m1 (by omega), ?_⟩
      obtain ⟨z, ez, z1, z2⟩ := relaxSquare_run X ok hS hpu hua (fun w hw => Nat.le_trans (hsw.1 w hw) (hb w hw)) hv hi
      exact ⟨z, _, _, ez, hu.tr z1, z2, swI_step hv hi hb hsw⟩
  obtain ⟨⟨u, a, m⟩, ⟨hu, hua, hsw⟩, e1⟩ := it_up (fun v (x : sT × (Nat → Nat) × Bool) => rn 193 28 [some (.ref 103), none, some (.int (nI (S * 401))), some (.int (bI x.2.2)), some (.int v4), some (.int (nI v))] [] (mk X x.1)) (fun v x => jcF S s x.1 ∧ cvS x.1 A S x.2.1 ∧ swI A bw a0 x.2.1 x.2.2 (fun y => y < v)) (Nat.zero_le 400) (by
    rintro v ⟨u, a, m⟩ _ hv ⟨hu, hua, hsw⟩
    dsimp only at hu hua hsw ⊢
    rw [e_Joining_relax_28, if_neg (nI_ge hv (by decide)), g_J_price, i_J_price (by omega), nI_add]
    rcases body u a m _ v hv hu hua hsw with ⟨h1, h2⟩ | ⟨h1, z, ch, a', ez, z1, z2, z3⟩
    · rw [if_pos h1]
      refine ⟨(u, a, m), ⟨hu, hua, swI_D (fun x hx hxi hd => ?_) hsw⟩, rfl⟩
      have : x ≠ v := fun e => by rw [e, h2] at hxi; cases hxi
      omega
    · rw [if_neg h1, ck_J, ez, r1_s]
      cases ch
      · rw [if_pos (by decide)]
        rw [Bool.or_false] at z3
        exact ⟨(z, a', m), ⟨z1, z2, swI_D (fun x hx hxi hd => by omega) z3⟩, rfl⟩
      · rw [if_neg (by decide)]
        rw [Bool.or_true] at z3
        exact ⟨(z, a', true), ⟨z1, z2, swI_D (fun x hx hxi hd => by omega) z3⟩, rfl⟩) (x := (s, a0, false)) ⟨jcF.rf S s, ha, fun w _ => Nat.le_refl _, fun _ => ⟨fun w _ => rfl, fun v _ _ hd => absurd hd (Nat.not_lt_zero v)⟩, fun v _ _ hd => absurd hd (Nat.not_lt_zero v), fun Q _ hq => hq⟩
  dsimp only at hu hua hsw
  obtain ⟨⟨z, b, n⟩, ⟨hz, hzb, hsz⟩, e2⟩ := it_dn (fun i (x : sT × (Nat → Nat) × Bool) => rn 193 70 [some (.ref 103), none, some (.int (nI (S * 401))), some (.int (bI x.2.2)), some (.int v4), some (.int (nI i + (-1)))] [] (mk X x.1)) (fun i x => jcF S s x.1 ∧ cvS x.1 A S x.2.1 ∧ swI A bw a0 x.2.1 x.2.2 (fun _ => True)) 400 (by
    rintro v ⟨u, a, m⟩ hv ⟨hu, hua, hsw⟩
    dsimp only at hu hua hsw ⊢
    rw [pk_m1, e_Joining_relax_70, if_neg (nI_pos (by omega)), g_J_price, i_J_price (by omega)]
    rcases body u a m _ v hv hu hua hsw with ⟨h1, h2⟩ | ⟨h1, z, ch, a', ez, z1, z2, z3⟩
    · rw [if_pos h1]
      exact ⟨(u, a, m), ⟨hu, hua, hsw⟩, rfl⟩
    · rw [if_neg h1, ck_J, ez, r1_s]
      cases ch
      · rw [if_pos (by decide)]
        rw [Bool.or_false] at z3
        exact ⟨(z, a', m), ⟨z1, z2, swI_D (fun x hx hxi hd => Or.inl trivial) z3⟩, rfl⟩
      · rw [if_neg (by decide)]
        rw [Bool.or_true] at z3
        exact ⟨(z, a', true), ⟨z1, z2, swI_D (fun x hx hxi hd => Or.inl trivial) z3⟩, rfl⟩) (x := (u, a, m)) ⟨hu, hua, swI_D (fun x hx _ _ => hx) hsw⟩
  dsimp only at hz hzb hsz e1 e2
  refine ⟨z, b, n, ?_, hz, hzb, hsz⟩
  refine Eq.trans e1 ?_
  rw [e_Joining_relax_28, if_pos (nI_le (by decide) (by decide)), show (nI 399 : Int32) = nI 400 + (-1) by decide, e2, e_Joining_relax_70, if_pos (by decide)]
/-- relaxing comes to rest -/
theorem relax_run (X : qz_X) {s : sT} {A : shT} (ok : okA A) {bw : Bool} {S : Nat} (hS : S < 128) (hp : pcS s A bw) {f0 : Nat → Nat} (ha : cvS s A S f0) (hb : ∀ w, ndJ A w → f0 w ≤ 1000000) : ∃ (z : sT) (a : Nat → Nat), rn 193 0 [some (.ref 103), some (.int (nI S)), none, none, none, none] [] (mk X s) = some (none, mk X z) ∧ jcF S s z ∧ cvS z A S a ∧ (∀ w, ndJ A w → a w ≤ f0 w) ∧ (∀ p v, nbJ A p v → a v ≤ a p + prJ A bw v) ∧ ∀ Q : Nat → Nat → Prop, (∀ p v c, nbJ A p v → Q p c → Q v (c + prJ A bw v)) → (∀ w, ndJ A w → Q w (f0 w)) → ∀ w, ndJ A w → Q w (a w) := by
  have e0 : prJ A bw 400 = 0 := by unfold prJ; rw [if_pos rfl]
  rcases it_ex (fun k (x : sT × (Nat → Nat)) => rn 193 11 [some (.ref 103), none, some (.int (nI (S * 401))), some (.int (nI 1)), some (.int (nI k)), none] [] (mk X x.1)) (fun k x => jcF S s x.1 ∧ cvS x.1 A S x.2 ∧ (∀ w, ndJ A w → x.2 w ≤ f0 w) ∧ (∀ w, ndJ A w → x.2 w ≤ bfq (nbJ A) (prJ A bw) f0 k w) ∧ ∀ Q : Nat → Nat → Prop, (∀ p v c, nbJ A p v → Q p c → Q v (c + prJ A bw v)) → (∀ w, ndJ A w → Q w (f0 w)) → ∀ w, ndJ A w → Q w (x.2 w)) (fun o => ∃ (z : sT) (a : Nat → Nat), o = some (none, mk X z) ∧ jcF S s z ∧ cvS z A S a ∧ (∀ w, ndJ A w → a w ≤ f0 w) ∧ (∀ p v, nbJ A p v → a v ≤ a p + prJ A bw v) ∧ ∀ Q : Nat → Nat → Prop, (∀ p v c, nbJ A p v → Q p c → Q v (c + prJ A bw v)) → (∀ w, ndJ A w → Q w (f0 w)) → ∀ w, ndJ A w → Q w (a w)) (Nat.zero_le 402) (by
    rintro k ⟨u, a⟩ _ hk ⟨hu, hua, hle, hbf, hq⟩
    dsimp only at hu hua hle hbf hq ⊢
    obtain ⟨z, b, m, ez, z1, z2, z3, z4, z5, z6⟩ := jsweep_run X ok hS (pcS_f hu hp) hua (fun w hw => Nat.le_trans (hle w hw) (hb w hw)) (nI k)
    rw [e_Joining_relax_11, if_neg (nI_nlt (by omega) (by decide)), if_neg (by decide), ez, nI_add]
    have hq' : ∀ Q : Nat → Nat → Prop, (∀ p v c, nbJ A p v → Q p c → Q v (c + prJ A bw v)) → (∀ w, ndJ A w → Q w (f0 w)) → ∀ w, ndJ A w → Q w (b w) := fun Q hs h0 => z6 Q hs (hq Q hs h0)
    cases m
    · right
      obtain ⟨g1, g2⟩ := z4 rfl
      refine ⟨z, b, ?_, hu.tr z1, z2, fun w hw => Nat.le_trans (z3 w hw) (hle w hw), fun p v hpv => ?_, hq'⟩
      · rw [e_Joining_relax_11]
        by_cases h : k + 1 ≤ 401
        · rw [if_neg (nI_nlt h (by decide)), if_pos (by decide)]
        · rw [if_pos (nI_lt (by omega) (by omega))]
      · rw [g1 v (nbJ_nd hpv).2, g1 p (nbJ_nd hpv).1]
        rcases (nbJ_nd hpv).2 with rfl | ⟨hv, hi⟩
        · rcases hpv with ⟨k1, -, -⟩ | ⟨-, k2, -⟩ | ⟨-, k2, k3⟩
          · have := k1.2.1; omega
          · omega
          · have := (g2 p k2 (rim_ins k3) trivial).2 k3
            omega
        · exact (g2 v hv hi trivial).1 p hpv
    · left
      refine ⟨(z, b), ⟨hu.tr z1, z2, fun w hw => Nat.le_trans (z3 w hw) (hle w hw), fun w hw => ?_, hq'⟩, rfl⟩
      dsimp only
      rcases mfo_at (f := fun p => bfq (nbJ A) (prJ A bw) f0 k p + prJ A bw w) (b := fun p => dcd (nbJ A p w)) (x := bfq (nbJ A) (prJ A bw) f0 k w) 401 with e | ⟨p, hp4, hpb, e⟩
      · show b w ≤ mfo _ _ _ 401
        rw [e]
        exact Nat.le_trans (z3 w hw) (hbf w hw)
      · show b w ≤ mfo _ _ _ 401
        rw [e]
        have hpw := dcd_iff.mp hpb
        have hbp := hbf p (nbJ_nd hpw).1
        show b w ≤ bfq (nbJ A) (prJ A bw) f0 k p + prJ A bw w
        rcases hw with rfl | ⟨hv, hi⟩
        · rcases hpw with ⟨k1, -, -⟩ | ⟨-, k2, -⟩ | ⟨-, k2, k3⟩
          · have := k1.2.1; omega
          · omega
          · have := (z5 p k2 (rim_ins k3) trivial).2 k3
            omega
        · have := (z5 w hv hi trivial).1 p hpw
          omega) (x := (s, f0)) ⟨jcF.rf S s, ha, fun _ _ => Nat.le_refl _, fun _ _ => Nat.le_refl _, fun Q _ h0 => h0⟩ with ⟨⟨z, a⟩, ⟨h1, h2, h3, h4, h5⟩, e⟩ | ⟨z, a, e, h1, h2, h3, h4, h5⟩
  · dsimp only at h1 h2 h3 h4 h5 e
    refine ⟨z, a, ?_, h1, h2, h3, ?_, h5⟩
    · rw [e_Joining_relax_0, pk_mul]
      refine Eq.trans e ?_
      rw [e_Joining_relax_11, if_pos (by decide)]
    · -- it stands at the rest
      have fix : ∀ p v, nbJ A p v → bfq (nbJ A) (prJ A bw) f0 401 v ≤ bfq (nbJ A) (prJ A bw) f0 401 p + prJ A bw v := fun p v hpv => by
        rw [← bfq_rest (ndJ_lt (nbJ_nd hpv).2)]
        exact bfq_nb (ndJ_lt (nbJ_nd hpv).1) hpv
      have low := h5 (fun v c => bfq (nbJ A) (prJ A bw) f0 401 v ≤ c) (fun p v c hpv hc => by
        have := fix p v hpv
        have hc : bfq (nbJ A) (prJ A bw) f0 401 p ≤ c := hc
        show bfq (nbJ A) (prJ A bw) f0 401 v ≤ c + prJ A bw v
        omega) (fun w _ => bfq_mono (Nat.zero_le 401) w)
      intro p v hpv
      have a1 := h4 v (nbJ_nd hpv).2
      rw [bfq_rest (ndJ_lt (nbJ_nd hpv).2)] at a1
      have a2 : bfq (nbJ A) (prJ A bw) f0 401 p ≤ a p := low p (nbJ_nd hpv).1
      have a3 := fix p v hpv
      omega
  · refine ⟨z, a, ?_, h1, h2, h3, h4, h5⟩
    rw [e_Joining_relax_0, pk_mul]
    exact e

/-! one flood with a number; the pieces one after another -/
def pst (s st : sT) (P C : Nat) (V : Nat → Int32) (n : Nat) (H : Nat → Bool) (Q : Nat → Nat) (e : Nat) : Prop := st.2 = s.2 ∧ (∀ c, c ≠ P → c ≠ C → st.1 c = s.1 c) ∧ (∀ j, j < 400 → st.1 P j = if H j then nI n else V j) ∧ ∀ j, j < e → st.1 C j = nI (Q j)
theorem pst_add {s st : sT} {P C : Nat} {V : Nat → Int32} {n : Nat} {H : Nat → Bool} {Q : Nat → Nat} {e b : Nat} (hPC : P ≠ C) (h : pst s st P C V n H Q e) : pst s (su (su st P b (nI n)) C e (nI b)) P C V n (fun q => if q = b then true else H q) (fun i => if i = e then b else Q i) (e + 1) := by
  obtain ⟨h1, h2, h3, h4⟩ := h
  refine ⟨h1, fun c p q => ?_, fun j hj => ?_, fun j hj => ?_⟩
  · rw [← h2 c p q]
    funext j
    rw [su_1, if_neg (fun z => q z.1), su_1, if_neg (fun z => p z.1)]
  · rw [su_1, if_neg (fun z => hPC z.1), su_1]
    dsimp only
    by_cases h : j = b
    · subst h
      simp
    · simp only [h, and_false, if_false]
      exact h3 j hj
  · rw [su_1]
    dsimp only
    by_cases h : j = e
    · subst h
      rw [if_pos ⟨rfl, rfl⟩, if_pos rfl]
    · rw [if_neg (fun z => h z.2), if_neg h, su_1, if_neg (fun z => hPC z.1.symm)]
      exact h4 j (by omega)
theorem gat {s : sT} {P C n f : Nat} {V : Nat → Int32} {t D : Nat → Bool} (hPC : P ≠ C) (hn : n < 2 ^ 31) (hDt : ∀ q, D q = true → t q = true) (hDc : ∀ p q, D p = true → adj p q → t q = true → D q = true) (hV : ∀ q, q < 400 → (V q = -1 ↔ D q = false)) (hf : f < 400) (htf : t f = true) (hDf : D f = false) (O : sT → Nat → Nat → Option qz_R) (F : sT → Nat → Nat → Nat → Option qz_R) (hO : ∀ st e k, (∀ c, c ≠ P → c ≠ C → st.1 c = s.1 c) → st.2 = s.2 → k < e → e ≤ 400 → O st e k = F st e k 0) (hO2 : ∀ st e k, F st e k 4 = O st e (k + 1))
    (hF : ∀ st e k i p, (∀ c, c ≠ P → c ≠ C → st.1 c = s.1 c) → st.2 = s.2 → k < 400 → i < 4 → p < 400 → st.1 C k = nI p → (¬ nbs p i < 400 → F st e k i = F st e k (i + 1)) ∧ (nbs p i < 400 → (st.1 P (nbs p i) ≠ -1 ∨ t (nbs p i) = false → F st e k i = F st e k (i + 1)) ∧ (st.1 P (nbs p i) = -1 → t (nbs p i) = true → e < 400 → F st e k i = F (su (su st P (nbs p i) (nI n)) C e (nI (nbs p i))) (e + 1) k (i + 1))))
    {st0 : sT} (h0 : pst s st0 P C V n (fun q => decide (q = f)) (fun _ => f) 1) : ∃ st e, O st0 1 0 = O st e e ∧ e = fb_ct (cnB t f) 400 ∧ st.2 = s.2 ∧ (∀ c, c ≠ P → c ≠ C → st.1 c = s.1 c) ∧ ∀ j, j < 400 → st.1 P j = if cnB t f j then nI n else V j := by
  have outer : ∀ x : sT × ((Nat → Bool) × (Nat → Nat)) × Nat × Nat, (pst s x.1 P C V n x.2.1.1 x.2.1.2 x.2.2.1 ∧ gst t D x.2.1.1 f x.2.1.2 x.2.2.1 ∧ x.2.2.2 ≤ x.2.2.1 ∧ (∀ i, i < x.2.2.2 → ∀ q, adj (x.2.1.2 i) q → t q = true → x.2.1.1 q = true)) → x.2.2.1 ≤ x.2.2.2 ∨ ∃ y : sT × ((Nat → Bool) × (Nat → Nat)) × Nat × Nat, (pst s y.1 P C V n y.2.1.1 y.2.1.2 y.2.2.1 ∧ gst t D y.2.1.1 f y.2.1.2 y.2.2.1 ∧ y.2.2.2 ≤ y.2.2.1 ∧ (∀ i, i < y.2.2.2 → ∀ q, adj (y.2.1.2 i) q → t q = true → y.2.1.1 q = true)) ∧ 401 - y.2.2.2 < 401 - x.2.2.2 ∧ O x.1 x.2.2.1 x.2.2.2 = O y.1 y.2.2.1 y.2.2.2 := by
    rintro ⟨st, ⟨H, Q⟩, e, k⟩ ⟨hp, hg, hke, hcl⟩
    dsimp only at hp hg hke hcl ⊢
    by_cases hek : e ≤ k
    · exact Or.inl hek
    refine Or.inr ?_
    have he4 : e ≤ 400 := by rw [hg.1.1]; exact fb_ct_le H 400
    obtain ⟨hQk, hHk⟩ := hg.1.2.1 k (by omega)
    obtain ⟨⟨u, ⟨G, R⟩, e2⟩, ⟨gp, gg, ge, gQ, gH, gcl⟩, eq⟩ := it_up (fun i (x : sT × ((Nat → Bool) × (Nat → Nat)) × Nat) => F x.1 x.2.2 k i) (fun i x => pst s x.1 P C V n x.2.1.1 x.2.1.2 x.2.2 ∧ gst t D x.2.1.1 f x.2.1.2 x.2.2 ∧ e ≤ x.2.2 ∧ (∀ j, j < e → x.2.1.2 j = Q j) ∧ (∀ q, H q = true → x.2.1.1 q = true) ∧ (∀ d', d' < i → nbs (Q k) d' < 400 → t (nbs (Q k) d') = true → x.2.1.1 (nbs (Q k) d') = true)) (Nat.zero_le 4) (by
      rintro i ⟨u, ⟨G, R⟩, e2⟩ _ hi ⟨gp, gg, ge, gQ, gH, gcl⟩
      dsimp only at gp gg ge gQ gH gcl ⊢
      have hqk : u.1 C k = nI (Q k) := by rw [gp.2.2.2 k (by omega), gQ k (by omega)]
      obtain ⟨f1, f2⟩ := hF u e2 k i (Q k) gp.2.1 gp.1 (by omega) hi hQk hqk
      have hstay : (nbs (Q k) i < 400 → t (nbs (Q k) i) = true → G (nbs (Q k) i) = true) → ∀ d', d' < i + 1 → nbs (Q k) d' < 400 → t (nbs (Q k) d') = true → G (nbs (Q k) d') = true := by
        intro h d' hd' h1 h2
        by_cases hdi : d' = i
        · subst hdi
          exact h h1 h2
        · exact gcl d' (by omega) h1 h2
      by_cases hb4 : nbs (Q k) i < 400
      · obtain ⟨f3, f4⟩ := f2 hb4
        have hadj : adj (Q k) (nbs (Q k) i) := ⟨hQk, hb4, i, hi, rfl⟩
        have hD := gst_D hDt hDc gg hQk (gH _ hHk) hadj
        have hP := gp.2.2.1 _ hb4
        cases htb : t (nbs (Q k) i)
        · refine ⟨(u, (G, R), e2), ⟨gp, gg, ge, gQ, gH, hstay (fun _ h => by rw [htb] at h; cases h)⟩, f3 (Or.inr htb)⟩
        · cases hGb : G (nbs (Q k) i)
          · rw [hGb, if_neg (by decide)] at hP
            have hlt := qok_lt gg.1 hb4 hGb
            refine ⟨(su (su u P (nbs (Q k) i) (nI n)) C e2 (nI (nbs (Q k) i)), ((fun q => if q = nbs (Q k) i then true else G q), (fun j => if j = e2 then nbs (Q k) i else R j)), e2 + 1), ⟨pst_add hPC gp, gst_add hDc gg hQk (gH _ hHk) hadj htb hD hGb, by show e ≤ e2 + 1; omega, fun j hj => ?_, fun q hq => ?_, fun d' hd' h1 h2 => ?_⟩, f4 (by rw [hP]; exact (hV _ hb4).mpr hD) htb hlt⟩
            · show (if j = e2 then _ else R j) = Q j
              rw [if_neg (by omega)]
              exact gQ j hj
            · show (if q = _ then true else G q) = true
              rw [gH q hq, ite_self]
            · show (if nbs (Q k) d' = nbs (Q k) i then true else G (nbs (Q k) d')) = true
              by_cases hdb2 : nbs (Q k) d' = nbs (Q k) i
              · rw [if_pos hdb2]
              · rw [if_neg hdb2]
                by_cases hdi : d' = i
                · subst hdi; exact absurd rfl hdb2
                · exact gcl d' (by omega) h1 h2
          · rw [hGb, if_pos rfl] at hP
            refine ⟨(u, (G, R), e2), ⟨gp, gg, ge, gQ, gH, hstay (fun _ _ => hGb)⟩, f3 (Or.inl (by rw [hP]; exact nI_m1 hn))⟩
      · exact ⟨(u, (G, R), e2), ⟨gp, gg, ge, gQ, gH, hstay (fun h => absurd h hb4)⟩, f1 hb4⟩) (x := (st, (H, Q), e)) ⟨hp, hg, Nat.le_refl e, fun _ _ => rfl, fun _ h => h, fun d' hd' => absurd hd' (Nat.not_lt_zero _)⟩
    dsimp only at gp gg ge gQ gH gcl eq
    refine ⟨(u, (G, R), e2, k + 1), ⟨gp, gg, by show k + 1 ≤ e2; omega, fun i hi q hj hq => ?_⟩, by show 401 - (k + 1) < 401 - k; omega, ?_⟩
    · have hi : i < k + 1 := hi
      have hj2 : adj (R i) q := hj
      rw [gQ i (by omega)] at hj2
      by_cases hik : i = k
      · obtain ⟨-, hq4, d', hd', e5⟩ := hj2
        rw [hik] at e5
        have := gcl d' hd' (by rw [e5]; exact hq4) (by rw [e5]; exact hq)
        rw [e5] at this
        exact this
      · exact gH q (hcl i (by omega) q hj2 hq)
    · show O st e k = O u e2 (k + 1)
      rw [hO st e k hp.2.1 hp.1 (by omega) he4, eq, hO2]
  have hg0 : gst t D (fun q => decide (q = f)) f (fun _ => f) 1 := by
    refine ⟨⟨?_, fun i hi => ⟨hf, decide_eq_true rfl⟩, fun q hq h => ⟨0, by decide, (of_decide_eq_true h).symm⟩⟩, decide_eq_true rfl, fun q hq h => ?_, fun q hq h => ?_⟩
    · have := fb_ct_upd (fun _ => false) true hf
      have z : fb_ct (fun _ => false) 400 = 0 := fb_ct_zero.mpr (fun _ _ => rfl)
      rw [z] at this
      have c : fb_ct (fun q => decide (q = f)) 400 = fb_ct (fun k => if k = f then true else (fun _ => false) k) 400 := fb_ct_cong (fun k _ => by
        by_cases h : k = f
        · rw [decide_eq_true h, if_pos h]
        · rw [decide_eq_false h, if_neg h])
      rw [c]
      simp at this ⊢
      omega
    · have := of_decide_eq_true h
      subst this
      exact cn_refl hq htf
    · have := of_decide_eq_true h
      subst this
      exact hDf
  obtain ⟨⟨st, ⟨H, Q⟩, e, k⟩, ⟨hp, hg, hke, hcl⟩, hex, eq⟩ := it_wh (fun (x : sT × ((Nat → Bool) × (Nat → Nat)) × Nat × Nat) => O x.1 x.2.2.1 x.2.2.2) (fun x => pst s x.1 P C V n x.2.1.1 x.2.1.2 x.2.2.1 ∧ gst t D x.2.1.1 f x.2.1.2 x.2.2.1 ∧ x.2.2.2 ≤ x.2.2.1 ∧ (∀ i, i < x.2.2.2 → ∀ q, adj (x.2.1.2 i) q → t q = true → x.2.1.1 q = true)) (fun x => x.2.2.1 ≤ x.2.2.2) (fun x => 401 - x.2.2.2) outer (st0, (fun q => decide (q = f), fun _ => f), 1, 0) ⟨h0, hg0, Nat.zero_le _, fun i hi => absurd hi (Nat.not_lt_zero i)⟩
  dsimp only at hp hg hke hcl hex eq
  have hek : k = e := by omega
  subst hek
  have hd := gst_done hg hcl
  refine ⟨st, k, eq, ?_, hp.1, hp.2.1, fun j hj => ?_⟩
  · rw [hg.1.1]; exact fb_ct_cong hd
  · rw [hp.2.2.1 j hj, hd j hj]
/-- what stands when the squares below i have been gone through -/
def pcs (t : Nat → Bool) (i : Nat) (u : Nat → Nat → Int32) (P S Z : Nat) : Prop := (∀ j, j < 400 → u P j = if dO t i j then pO t j else -1) ∧ ∀ f, f < i → isF t f = true → u S (np t f) = nI f ∧ u Z (np t f) = nI (fb_ct (cnB t f) 400)
theorem pO_iff {t : Nat → Bool} {i q : Nat} (hi : i ≤ 400) (hq : q < 400) : ((if dO t i q then pO t q else -1) = -1) ↔ dO t i q = false := by
  cases h : dO t i q
  · exact ⟨fun _ => rfl, fun _ => rfl⟩
  · refine ⟨fun e => ?_, fun e => by cases e⟩
    rw [if_pos rfl] at e
    unfold pO at e
    rw [dO_t h, if_pos rfl] at e
    exact absurd e (nI_m1 (by
      have := np_le t (i := rep t q) (by have := (rep_spec hq (dO_t h)).1; omega)
      omega))
theorem np_lt {t : Nat → Bool} {f : Nat} (hf : f < 400) (h : isF t f = true) : np t f < 400 := by
  have := np_le t (i := f) (by omega)
  have : np t f ≤ f := fb_ct_le _ _
  omega
theorem np_inj {t : Nat → Bool} {f g : Nat} (hf : isF t f = true) (hg : isF t g = true) (e : np t f = np t g) : f = g := fb_ct_kth_one hf hg e
theorem pcs_next {t : Nat → Bool} {i : Nat} {u : Nat → Nat → Int32} {P S Z : Nat} (hi : i < 400) (h : isF t i = false) (g : pcs t i u P S Z) : pcs t (i + 1) u P S Z := by
  refine ⟨fun j hj => by rw [g.1 j hj, dO_next hi h j hj], fun f hf hF => ?_⟩
  by_cases e : f = i
  · subst e; rw [h] at hF; cases hF
  · exact g.2 f (by omega) hF
theorem pcs_add {t : Nat → Bool} {i : Nat} {u v : Nat → Nat → Int32} {P S Z : Nat} (hi : i < 400) (h : isF t i = true) (g : pcs t i u P S Z) (hP : ∀ j, j < 400 → v P j = if cnB t i j then nI (np t i) else u P j) (hS : ∀ j, v S j = if j = np t i then nI i else u S j) (hZ : ∀ j, v Z j = if j = np t i then nI (fb_ct (cnB t i) 400) else u Z j) : pcs t (i + 1) v P S Z := by
  refine ⟨fun j hj => ?_, fun f hf hF => ?_⟩
  · rw [hP j hj, dO_add hi h j hj, g.1 j hj]
    cases hc : cnB t i j
    · rw [Bool.or_false, if_neg (by decide)]
    · have hcn := cnB_iff.mp hc
      have ht := (cn_t hcn).1.2
      have hr := rep_eq hcn
      unfold isF at h
      rw [Bool.and_eq_true, decide_eq_true_eq] at h
      rw [h.2] at hr
      rw [if_pos rfl, Bool.or_true, if_pos rfl]
      unfold pO
      rw [ht, if_pos rfl, ← hr]
  · rw [hS, hZ]
    by_cases e : f = i
    · subst e
      rw [if_pos rfl, if_pos rfl]
      exact ⟨rfl, rfl⟩
    · have hne : np t f ≠ np t i := fun z => e (np_inj hF h z)
      rw [if_neg hne, if_neg hne]
      exact g.2 f (by omega) hF
theorem isF_dO {t : Nat → Bool} {i : Nat} (hi : i < 400) (h : isF t i = true) : t i = true ∧ dO t i i = false := by
  rw [isF_iff hi, Bool.and_eq_true] at h
  refine ⟨h.1, ?_⟩
  have := h.2
  cases hd : dO t i i
  · rfl
  · rw [hd] at this; cases this

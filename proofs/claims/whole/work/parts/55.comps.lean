/-! pieces: squares joined, by their first squares -/
def cn (t : Nat → Bool) (p q : Nat) : Prop := hng t (fun z => decide (z = p)) q
noncomputable def cnB (t : Nat → Bool) (p q : Nat) : Bool := hB t (fun z => decide (z = p)) q
theorem cnB_iff {t : Nat → Bool} {p q : Nat} : cnB t p q = true ↔ cn t p q := hB_iff
theorem cn_t {t : Nat → Bool} {p q : Nat} (h : cn t p q) : (q < 400 ∧ t q = true) ∧ p < 400 ∧ t p = true := by
  refine ⟨hng_t h, ?_⟩
  refine hng_ind (S := fun _ => p < 400 ∧ t p = true) (fun r h1 h2 h3 => ?_) (fun _ _ h _ _ => h) h
  have := of_decide_eq_true h3
  subst this
  exact ⟨h1, h2⟩
theorem cn_refl {t : Nat → Bool} {p : Nat} (hp : p < 400) (ht : t p = true) : cn t p p := hng_seed hp ht (decide_eq_true rfl)
theorem cn_step {t : Nat → Bool} {p q r : Nat} (h : cn t p q) (hj : adj q r) (ht : t r = true) : cn t p r := hng_step h hj ht
theorem cn_trans {t : Nat → Bool} {p q r : Nat} (h : cn t p q) (g : cn t q r) : cn t p r := by
  refine hng_ind (S := fun r => cn t p r) (fun z _ _ h3 => ?_) (fun _ _ hp hj ht => cn_step hp hj ht) g
  have := of_decide_eq_true h3
  subst this
  exact h
theorem cn_symm {t : Nat → Bool} {p q : Nat} (h : cn t p q) : cn t q p := by
  refine (hng_ind (S := fun q => (q < 400 ∧ t q = true) ∧ cn t q p) (fun z h1 h2 h3 => ?_) (fun a b ha hj ht => ?_) h).2
  · have := of_decide_eq_true h3
    subst this
    exact ⟨⟨h1, h2⟩, cn_refl h1 h2⟩
  · exact ⟨⟨hj.2.1, ht⟩, cn_trans (cn_step (cn_refl hj.2.1 ht) (adj_symm hj) ha.1.2) ha.2⟩
/-- the first square of a square's piece -/
noncomputable def rep (t : Nat → Bool) (q : Nat) : Nat := fa_first (fun p => cnB t p q) 400
theorem rep_spec {t : Nat → Bool} {q : Nat} (hq : q < 400) (ht : t q = true) : rep t q ≤ q ∧ cn t (rep t q) q ∧ ∀ p, cn t p q → rep t q ≤ p := by
  have h0 : cnB t q q = true := cnB_iff.mpr (cn_refl hq ht)
  have h1 : rep t q ≤ q := by
    rcases Nat.lt_or_ge q (rep t q) with h | h
    · have := fa_first_no (fun p => cnB t p q) 400 q h
      rw [h0] at this
      cases this
    · exact h
  refine ⟨h1, cnB_iff.mp (fa_first_yes (fun p => cnB t p q) 400 (show rep t q < 400 by omega)), fun p hp => ?_⟩
  rcases Nat.lt_or_ge p (rep t q) with h | h
  · have := fa_first_no (fun p => cnB t p q) 400 p h
    rw [cnB_iff.mpr hp] at this
    cases this
  · exact h
theorem rep_eq {t : Nat → Bool} {p q : Nat} (h : cn t p q) : rep t p = rep t q := by
  have hp := (cn_t h).2
  have hq := (cn_t h).1
  obtain ⟨-, a2, a3⟩ := rep_spec hp.1 hp.2
  obtain ⟨-, b2, b3⟩ := rep_spec hq.1 hq.2
  have h1 := b3 _ (cn_trans a2 h)
  have h2 := a3 _ (cn_trans b2 (cn_symm h))
  omega
theorem rep_cn {t : Nat → Bool} {p q : Nat} (hp : p < 400) (htp : t p = true) (hq : q < 400) (ht : t q = true) (h : rep t p = rep t q) : cn t p q := by
  obtain ⟨-, a2, -⟩ := rep_spec hp htp
  obtain ⟨-, b2, -⟩ := rep_spec hq ht
  rw [h] at a2
  exact cn_trans (cn_symm a2) b2
theorem rep_rep {t : Nat → Bool} {q : Nat} (hq : q < 400) (ht : t q = true) : rep t (rep t q) = rep t q := rep_eq (rep_spec hq ht).2.1
/-- is a first square -/
noncomputable def isF (t : Nat → Bool) (q : Nat) : Bool := t q && decide (rep t q = q)
noncomputable def np (t : Nat → Bool) (i : Nat) : Nat := fb_ct (isF t) i
/-- which piece -/
noncomputable def pO (t : Nat → Bool) (q : Nat) : Int32 := if t q then nI (np t (rep t q)) else -1
/-- what is numbered when squares below i have been gone through -/
noncomputable def dO (t : Nat → Bool) (i q : Nat) : Bool := t q && decide (rep t q < i)
theorem np_le (t : Nat → Bool) {i : Nat} (h : i ≤ 400) : np t i ≤ 400 := Nat.le_trans (fb_ct_le _ _) h
theorem np_succ (t : Nat → Bool) (i : Nat) : np t (i + 1) = np t i + (if isF t i then 1 else 0) := rfl
theorem dO_next {t : Nat → Bool} {i : Nat} (hi : i < 400) (h : isF t i = false) : ∀ q, q < 400 → dO t (i + 1) q = dO t i q := by
  intro q hq
  unfold dO
  cases ht : t q
  · rw [Bool.false_and, Bool.false_and]
  · by_cases e : rep t q = i
    · exfalso
      have hs := rep_spec hq ht
      have hti := (cn_t hs.2.1).2.2
      have hr := rep_rep hq ht
      rw [e] at hti hr
      unfold isF at h
      rw [hti, decide_eq_true hr] at h
      cases h
    · by_cases h2 : rep t q < i
      · rw [decide_eq_true h2, decide_eq_true (show rep t q < i + 1 by omega)]
      · rw [decide_eq_false h2, decide_eq_false (show ¬ rep t q < i + 1 by omega)]
theorem dO_add {t : Nat → Bool} {i : Nat} (hi : i < 400) (h : isF t i = true) : ∀ q, q < 400 → dO t (i + 1) q = (dO t i q || cnB t i q) := by
  intro q hq
  unfold isF at h
  rw [Bool.and_eq_true, decide_eq_true_eq] at h
  unfold dO
  cases ht : t q
  · cases hc : cnB t i q
    · rfl
    · have := (cn_t (cnB_iff.mp hc)).1.2
      rw [ht] at this
      cases this
  · by_cases e : rep t q = i
    · have : cnB t i q = true := cnB_iff.mpr (rep_cn hi h.1 hq ht (by rw [h.2, e]))
      rw [this, decide_eq_true (show rep t q < i + 1 by omega)]
      simp
    · have : cnB t i q = false := by
        cases hc : cnB t i q
        · rfl
        · exact absurd ((rep_eq (cnB_iff.mp hc)).symm.trans h.2) e
      rw [this, Bool.or_false]
      by_cases h2 : rep t q < i
      · rw [decide_eq_true h2, decide_eq_true (show rep t q < i + 1 by omega)]
      · rw [decide_eq_false h2, decide_eq_false (show ¬ rep t q < i + 1 by omega)]
/-- an unnumbered square met in the walk is a first one, and the other way -/
theorem isF_iff {t : Nat → Bool} {i : Nat} (hi : i < 400) : isF t i = (t i && !dO t i i) := by
  unfold isF dO
  cases ht : t i
  · rw [Bool.false_and, Bool.false_and]
  · have := (rep_spec hi ht).1
    rw [Bool.true_and, Bool.true_and, Bool.true_and]
    by_cases e : rep t i = i
    · rw [decide_eq_true e, decide_eq_false (by omega)]; rfl
    · rw [decide_eq_false e, decide_eq_true (by omega)]; rfl
theorem dO_closed {t : Nat → Bool} {i p q : Nat} (hp : dO t i p = true) (hj : adj p q) (ht : t q = true) : dO t i q = true := by
  unfold dO at hp ⊢
  rw [Bool.and_eq_true, decide_eq_true_eq] at hp
  have : rep t p = rep t q := rep_eq (cn_step (cn_refl hj.1 hp.1) hj ht)
  rw [ht, ← this, decide_eq_true hp.2]
  rfl
theorem dO_t {t : Nat → Bool} {i q : Nat} (h : dO t i q = true) : t q = true := by
  unfold dO at h
  rw [Bool.and_eq_true] at h
  exact h.1
theorem dO_all {t : Nat → Bool} {q : Nat} (hq : q < 400) : dO t 400 q = t q := by
  unfold dO
  cases ht : t q
  · rfl
  · have := (rep_spec hq ht).1
    rw [decide_eq_true (show rep t q < 400 by omega)]; rfl
/-- one flood's state: D numbered before, H of this one -/
def gst (t D H : Nat → Bool) (f : Nat) (Q : Nat → Nat) (e : Nat) : Prop := qok H Q e ∧ H f = true ∧ (∀ q, q < 400 → H q = true → cn t f q) ∧ ∀ q, q < 400 → H q = true → D q = false
theorem gst_add {t D H : Nat → Bool} {f : Nat} {Q : Nat → Nat} {e b p : Nat} (hDc : ∀ p q, D p = true → adj p q → t q = true → D q = true) (h : gst t D H f Q e) (hp : p < 400) (hHp : H p = true) (hj : adj p b) (ht : t b = true) (hD : D b = false) (hH : H b = false) : gst t D (fun q => if q = b then true else H q) f (fun i => if i = e then b else Q i) (e + 1) := by
  obtain ⟨h1, h2, h3, h4⟩ := h
  refine ⟨qok_add h1 hj.2.1 hH, ?_, fun q hq hg => ?_, fun q hq hg => ?_⟩
  · show (if f = b then true else H f) = true
    rw [h2, ite_self]
  · have hg : (if q = b then true else H q) = true := hg
    by_cases e : q = b
    · subst e; exact cn_step (h3 p hp hHp) hj ht
    · rw [if_neg e] at hg
      exact h3 q hq hg
  · have hg : (if q = b then true else H q) = true := hg
    by_cases e : q = b
    · subst e; exact hD
    · rw [if_neg e] at hg
      exact h4 q hq hg
theorem gst_done {t D H : Nat → Bool} {f : Nat} {Q : Nat → Nat} {e : Nat} (h : gst t D H f Q e) (hcl : ∀ i, i < e → ∀ q, adj (Q i) q → t q = true → H q = true) : ∀ q, q < 400 → H q = cnB t f q := by
  intro q hq
  rw [Bool.eq_iff_iff, cnB_iff]
  refine hng_of (fun z hz _ ha => ?_) (fun a b ha hHa hj hb => ?_) h.2.2.1 hq
  · have := of_decide_eq_true ha
    subst this
    exact h.2.1
  · obtain ⟨i, hi, e⟩ := h.1.2.2 a ha hHa
    exact hcl i hi b (by rw [e]; exact hj) hb
/-- beside what this flood has marked nothing was numbered before -/
theorem gst_D {t D H : Nat → Bool} {f : Nat} {Q : Nat → Nat} {e b p : Nat} (hDt : ∀ q, D q = true → t q = true) (hDc : ∀ p q, D p = true → adj p q → t q = true → D q = true) (h : gst t D H f Q e) (hp : p < 400) (hHp : H p = true) (hj : adj p b) : D b = false := by
  cases hb : D b
  · rfl
  · have := hDc b p hb (adj_symm hj) (cn_t (h.2.2.1 p hp hHp)).1.2
    rw [h.2.2.2 p hp hHp] at this
    cases this

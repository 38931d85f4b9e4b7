/-! leaving a square; what a neck cuts off -/
theorem cl_w {t a : Nat → Bool} {e lo sd : Nat → Nat} {n w : Nat} (hg : gl t a e n) (h : pv t a e lo sd (n + 1) w) (hs : sd w = 4) : ∀ z, z < 400 → e w ≤ e z → ∀ y, adj z y → t y = true → 1 ≤ e y ∧ (e y < e w → lo w ≤ e y) := by
  intro z hz p y hj hy
  obtain ⟨⟨h1, h2, h3, h4, h5, h6⟩, c, d, ca, d2, ce⟩ := h
  by_cases e1 : e w = e z
  · have : w = z := hg.2.2.1 w z h1 hz e1 (by omega)
    subst this
    obtain ⟨-, hy4, d', hd', e5⟩ := hj
    have := d d' (by omega) (by rw [e5]; exact hy4) (by rw [e5]; exact hy)
    rw [e5] at this
    exact this
  · have := hg.1 z hz
    have := c z hz (by omega) (by omega) y hj hy
    exact ⟨this.1, this.2.2⟩
theorem tv_iff {t : Nat → Bool} {v q : Nat} : tv t v q = true ↔ t q = true ∧ q ≠ v := by
  unfold tv
  rw [Bool.and_eq_true]
  by_cases h : q = v
  · rw [decide_eq_true h]
    exact ⟨fun z => (by cases z.2), fun z => absurd h z.2⟩
  · rw [decide_eq_false h]
    exact ⟨fun z => ⟨z.1, h⟩, fun z => ⟨z.1, rfl⟩⟩
theorem hng_low {t a : Nat → Bool} {e : Nat → Nat} {n v y : Nat} (hg : gl t a e n) (hy : y < 400) (h1 : 1 ≤ e y) (h2 : e y < e v) : hng (tv t v) a y := by
  refine hng_up (fun z hz hzt => ?_) (hg.2.2.2.2 y hy (by omega))
  have hzt : (t z && (decide (1 ≤ e z) && decide (e z ≤ e y))) = true := hzt
  rw [Bool.and_eq_true, Bool.and_eq_true, decide_eq_true_eq, decide_eq_true_eq] at hzt
  exact tv_iff.mpr ⟨hzt.1, fun z => by rw [z] at hzt; omega⟩
theorem cut_all {t a : Nat → Bool} {e lo sd : Nat → Nat} {n w v : Nat} (hg : gl t a e n) (hw : pv t a e lo sd (n + 1) w) (hs : sd w = 4) (hv : pv t a e lo sd (e w) v) (hlo : e v ≤ lo w) : ∀ z, z < 400 → e w ≤ e z → ¬ hng (tv t v) a z := by
  intro z hz p hh
  have key : z < 400 ∧ tv t v z = true ∧ e z < e w := by
    refine hng_ind (S := fun z => z < 400 ∧ tv t v z = true ∧ e z < e w) (fun r h1 h2 h3 => ⟨h1, h2, ?_⟩) (fun p q hp hj ht => ⟨hj.2.1, ht, ?_⟩) hh
    · rcases Nat.lt_or_ge (e r) (e w) with g | g
      · exact g
      · have hr := hg.1 r h1
        have h0 := hw.2.2.2.1 r h1 g (by omega) h3
        have := hv.1.2.2.1
        omega
    · rcases Nat.lt_or_ge (e q) (e w) with g | g
      · exact g
      · exfalso
        obtain ⟨hp1, hp2, hp3⟩ := hp
        have htp := tv_iff.mp hp2
        have hc := cl_w hg hw hs q hj.2.1 g p (adj_symm hj) htp.1
        have hl := hc.2 hp3
        have hne : e p ≠ e v := fun z => htp.2 (hg.2.2.1 p v hp1 hv.1.1 z (by omega))
        have := (hv.2.1 p hp1 (by omega) hp3 q hj (tv_iff.mp ht).1).2.1
        omega
  omega
theorem hng_cn {t' s' a : Nat → Bool} {p q : Nat} (h : hng t' a p) (g : cn s' p q) (hs : ∀ z, z < 400 → s' z = true → t' z = true) : hng t' a q := by
  refine hng_ind (S := fun q => hng t' a q) (fun r _ _ h3 => ?_) (fun x y hx hj ht => hng_step hx hj (hs y hj.2.1 ht)) g
  have := of_decide_eq_true h3
  subst this
  exact h
theorem hng_all {t a : Nat → Bool} {e lo sd : Nat → Nat} {n w v : Nat} (hg : gl t a e n) (hw : pv t a e lo sd (n + 1) w) (hv : pv t a e lo sd (e w) v) (hlo : lo w < e v) : ∀ z, z < 400 → e w ≤ e z → hng (tv t v) a z := by
  intro z hz p
  have hvw := hv.1.2.2.2.1
  obtain ⟨z0, h0, p0, q0, r0⟩ := hw.2.2.2.2.1 (by omega)
  have tz : ∀ x, x < 400 → e w ≤ e x → tv t v x = true := by
    intro x hx px
    refine tv_iff.mpr ⟨hg.2.1 x hx (by have := hw.1.2.2.1; omega), fun e1 => ?_⟩
    rw [e1] at px
    omega
  have hz0 : hng (tv t v) a z0 := by
    rcases r0 with r0 | ⟨y, hj, y1, y2⟩
    · exact hng_seed h0 (tz z0 h0 p0) r0
    · exact hng_step (hng_low hg hj.2.1 y1 (by omega)) (adj_symm hj) (tz z0 h0 p0)
  have c1 := hw.2.2.2.2.2 z0 h0 p0
  have c2 := hw.2.2.2.2.2 z hz p
  refine hng_cn hz0 (cn_trans (cn_symm c1) c2) (fun x hx hh => ?_)
  rw [Bool.and_eq_true, decide_eq_true_eq] at hh
  exact tz x hx hh.2
noncomputable def tgc (t a : Nat → Bool) (e : Nat → Nat) (v M : Nat) : Nat := fb_ct (fun z => (decide (e v < e z) && decide (e z < M)) && !hB (tv t v) a z) 400
noncomputable def tgn (t a : Nat → Bool) (v : Nat) : Nat := fb_ct (fun z => (hB t a z && !decide (z = v)) && !hB (tv t v) a z) 400
theorem hB_f {t a : Nat → Bool} {q : Nat} (h : ¬ hng t a q) : hB t a q = false := by
  cases e : hB t a q
  · rfl
  · exact absurd (hB_iff.mp e) h
theorem tgc_leave {t a : Nat → Bool} {e lo sd : Nat → Nat} {n w v : Nat} (hg : gl t a e n) (hw : pv t a e lo sd (n + 1) w) (hs : sd w = 4) (hv : pv t a e lo sd (e w) v) : (e v ≤ lo w → tgc t a e v (n + 1) = tgc t a e v (e w) + (n + 1 - e w)) ∧ (lo w < e v → tgc t a e v (n + 1) = tgc t a e v (e w)) := by
  have hvw := hv.1.2.2.2.1
  have hw1 := hw.1.2.2.1
  have hwn := hw.1.2.2.2.1
  constructor
  · intro hlo
    have hc := hg.2.2.2.1 (e w) hw1 (by omega)
    have hd : fb_ct (fun z => ((decide (e v < e z) && decide (e z < e w)) && !hB (tv t v) a z) || decide (e w ≤ e z)) 400 = tgc t a e v (e w) + fb_ct (fun z => decide (e w ≤ e z)) 400 := fb_ct_or (fun z _ hh => by
      obtain ⟨h1, h2⟩ := hh
      rw [Bool.and_eq_true, Bool.and_eq_true, decide_eq_true_eq, decide_eq_true_eq] at h1
      rw [decide_eq_true_eq] at h2
      omega)
    have he : tgc t a e v (n + 1) = fb_ct (fun z => ((decide (e v < e z) && decide (e z < e w)) && !hB (tv t v) a z) || decide (e w ≤ e z)) 400 := by
      refine fb_ct_cong (fun z hz => ?_)
      have hn := hg.1 z hz
      by_cases g : e w ≤ e z
      · rw [hB_f (cut_all hg hw hs hv hlo z hz g), decide_eq_true g, decide_eq_true (show e v < e z by omega), decide_eq_true (show e z < n + 1 by omega)]
        simp
      · rw [decide_eq_false g, decide_eq_true (show e z < n + 1 by omega), decide_eq_true (show e z < e w by omega)]
        simp
    rw [he, hd]
    omega
  · intro hlo
    refine fb_ct_cong (fun z hz => ?_)
    have hn := hg.1 z hz
    by_cases g : e w ≤ e z
    · rw [hB_iff.mpr (hng_all hg hw hv hlo z hz g)]
      simp
    · rw [decide_eq_true (show e z < n + 1 by omega), decide_eq_true (show e z < e w by omega)]
theorem pv_leave {t a : Nat → Bool} {e lo lo' sd : Nat → Nat} {n w v : Nat} (hg : gl t a e n) (hw : pv t a e lo sd (n + 1) w) (hs : sd w = 4) (hv : pv t a e lo sd (e w) v) (hlo : lo' v = if lo w < e v then (if lo w < lo v then lo w else lo v) else lo v) : pv t a e lo' sd (n + 1) v := by
  have cw := cl_w hg hw hs
  have hle : lo' v ≤ lo v := by
    rw [hlo]
    split
    · split <;> omega
    · exact Nat.le_refl _
  have hle2 : lo w < e v → lo' v ≤ lo w := by
    intro g
    rw [hlo, if_pos g]
    split <;> omega
  have hww := hw
  obtain ⟨⟨w1, w2, w3, w4, w5, w6⟩, wc, wd, wa, wd2, we⟩ := hww
  obtain ⟨⟨h1, h2, h3, h4, h5, h6⟩, c, d, ca, d2, ce⟩ := hv
  refine ⟨⟨h1, h2, h3, by omega, h5, by omega⟩, fun z hz p q y hj hy => ?_, fun d' hd' p q => ?_, fun z hz p q r => ?_, fun hl => ?_, ce⟩
  · have hy4 := hg.1 y hj.2.1
    rcases Nat.lt_or_ge (e z) (e w) with g | g
    · have := c z hz p g y hj hy
      exact ⟨this.1, by omega, fun k => Nat.le_trans hle (this.2.2 k)⟩
    · have := cw z hz g y hj hy
      refine ⟨this.1, by omega, fun k => ?_⟩
      have k2 := this.2 (by omega)
      have := hle2 (by omega)
      omega
  · have := d d' hd' p q
    exact ⟨this.1, fun g => Nat.le_trans hle (this.2 g)⟩
  · rcases Nat.lt_or_ge (e z) (e w) with g | g
    · have := ca z hz p g r
      omega
    · have := wa z hz g q r
      have := hle2 (by omega)
      omega
  · rw [hlo] at hl ⊢
    by_cases g : lo w < e v
    · rw [if_pos g] at hl ⊢
      by_cases g2 : lo w < lo v
      · rw [if_pos g2] at hl ⊢
        obtain ⟨z, hz, p, q, r⟩ := wd2 (by omega)
        exact ⟨z, hz, by omega, q, r⟩
      · rw [if_neg g2] at hl ⊢
        obtain ⟨z, hz, p, q, r⟩ := d2 hl
        exact ⟨z, hz, p, by omega, r⟩
    · rw [if_neg g] at hl ⊢
      obtain ⟨z, hz, p, q, r⟩ := d2 hl
      exact ⟨z, hz, p, by omega, r⟩
theorem okS_root {t a : Nat → Bool} {e lo sd : Nat → Nat} {n w : Nat} (hg : gl t a e n) (h : okS t a e lo sd (n + 1) [w]) (hs : sd w = 4) : okS t a e lo sd (n + 1) [] := by
  intro z hz p q y hj hy
  have hy4 := hg.1 y hj.2.1
  rcases Nat.lt_or_ge (e z) (e w) with g | g
  · have := h.2 z hz p g y hj hy
    exact ⟨this.1, by omega⟩
  · have := cl_w hg h.1 hs z hz g y hj hy
    exact ⟨this.1, by omega⟩
/-- when a square is left, its tongue is what falls without it -/
theorem tgc_tgn {t a : Nat → Bool} {e lo sd : Nat → Nat} {n v : Nat} (hg : gl t a e n) (hv : pv t a e lo sd (n + 1) v) (hs : sd v = 4) : tgc t a e v (n + 1) = tgn t a v := by
  refine fb_ct_cong (fun z hz => ?_)
  have cv := cl_w hg hv hs
  have hn := hg.1 z hz
  have hv1 := hv.1.2.2.1
  by_cases hh : hng (tv t v) a z
  · rw [hB_iff.mpr hh]; simp
  · rw [hB_f hh, Bool.not_false, Bool.and_true, Bool.and_true, decide_eq_true (show e z < n + 1 by omega), Bool.and_true]
    by_cases g : e v < e z
    · have hne : z ≠ v := fun e1 => by rw [e1] at g; omega
      have ht : hng t a z := hng_up (fun x hx hxt => by
        have hxt : (t x && (decide (1 ≤ e x) && decide (e x ≤ e z))) = true := hxt
        rw [Bool.and_eq_true] at hxt
        exact hxt.1) (hg.2.2.2.2 z hz (by omega))
      rw [decide_eq_true g, hB_iff.mpr ht, decide_eq_false hne]
      rfl
    · rw [decide_eq_false g]
      cases hb : hB t a z
      · rfl
      · by_cases hne : z = v
        · rw [decide_eq_true hne]; rfl
        · exfalso
          have key : z < 400 ∧ (e v ≤ e z ∨ hng (tv t v) a z) := by
            refine hng_ind (S := fun z => z < 400 ∧ (e v ≤ e z ∨ hng (tv t v) a z)) (fun r h1 h2 h3 => ⟨h1, ?_⟩) (fun p q hp hj ht => ⟨hj.2.1, ?_⟩) (hB_iff.mp hb)
            · by_cases e1 : r = v
              · rw [e1]; exact Or.inl (Nat.le_refl _)
              · exact Or.inr (hng_seed h1 (tv_iff.mpr ⟨h2, e1⟩) h3)
            · by_cases e1 : q = v
              · rw [e1]; exact Or.inl (Nat.le_refl _)
              · rcases hp.2 with g | g
                · have := cv p hp.1 g q hj ht
                  rcases Nat.lt_or_ge (e q) (e v) with k | k
                  · exact Or.inr (hng_low hg hj.2.1 this.1 k)
                  · exact Or.inl k
                · exact Or.inr (hng_step g hj (tv_iff.mpr ⟨ht, e1⟩))
          rcases key.2 with k | k
          · have : e z = e v := by omega
            exact hne (hg.2.2.1 z v hz hv.1.1 this (by omega))
          · exact hh k

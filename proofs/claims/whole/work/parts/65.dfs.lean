/-! the walk in depth, pure -/
def tv (t : Nat → Bool) (v q : Nat) : Bool := t q && !decide (q = v)
def up (e : Nat → Nat) (w x : Nat) (q : Nat) : Nat := if q = w then x else e q
theorem up_s (e : Nat → Nat) (w x : Nat) : up e w x w = x := if_pos rfl
theorem up_n {e : Nat → Nat} {w x q : Nat} (h : q ≠ w) : up e w x q = e q := if_neg h
def gl (t a : Nat → Bool) (e : Nat → Nat) (n : Nat) : Prop := (∀ q, q < 400 → e q ≤ n) ∧ (∀ q, q < 400 → e q ≠ 0 → t q = true) ∧ (∀ p q, p < 400 → q < 400 → e p = e q → e p ≠ 0 → p = q) ∧ (∀ m, 1 ≤ m → m ≤ n + 1 → fb_ct (fun z => decide (m ≤ e z)) 400 + m = n + 1) ∧ ∀ y, y < 400 → e y ≠ 0 → hng (fun z => t z && (decide (1 ≤ e z) && decide (e z ≤ e y))) a y
theorem hng_up {t t' a : Nat → Bool} (h : ∀ q, q < 400 → t q = true → t' q = true) {q : Nat} (g : hng t a q) : hng t' a q := by
  refine hng_ind (S := fun q => hng t' a q) (fun r h1 h2 h3 => hng_seed h1 (h r h1 h2) h3) (fun p q hp hj ht => hng_step hp hj (h q hj.2.1 ht)) g
theorem gl_enter {t a : Nat → Bool} {e : Nat → Nat} {n w : Nat} (h : gl t a e n) (hw : w < 400) (he : e w = 0) (ht : t w = true) (hc : a w = true ∨ ∃ q, adj q w ∧ e q ≠ 0) : gl t a (up e w (n + 1)) (n + 1) := by
  obtain ⟨h1, h2, h3, h4, h5⟩ := h
  refine ⟨fun q hq => ?_, fun q hq hne => ?_, fun p q hp hq heq hne => ?_, fun m hm hmn => ?_, fun y hy hne => ?_⟩
  · by_cases e1 : q = w
    · rw [e1, up_s]; exact Nat.le_refl _
    · rw [up_n e1]; have := h1 q hq; omega
  · by_cases e1 : q = w
    · rw [e1]; exact ht
    · rw [up_n e1] at hne; exact h2 q hq hne
  · by_cases e1 : p = w
    · by_cases e2 : q = w
      · rw [e1, e2]
      · rw [e1, up_s, up_n e2] at heq
        have := h1 q hq
        omega
    · by_cases e2 : q = w
      · rw [e2, up_s, up_n e1] at heq
        have := h1 p hp
        omega
      · rw [up_n e1, up_n e2] at heq
        rw [up_n e1] at hne
        exact h3 p q hp hq heq hne
  · by_cases e1 : m = n + 2
    · have : fb_ct (fun z => decide (m ≤ up e w (n + 1) z)) 400 = 0 := fb_ct_zero.mpr (fun z hz => decide_eq_false (by
        by_cases e2 : z = w
        · rw [e2, up_s]; omega
        · rw [up_n e2]; have := h1 z hz; omega))
      omega
    · have := h4 m hm (by omega)
      have u := fb_ct_upd (fun z => decide (m ≤ e z)) true hw
      have c : fb_ct (fun z => decide (m ≤ up e w (n + 1) z)) 400 = fb_ct (fun k => if k = w then true else decide (m ≤ e k)) 400 := fb_ct_cong (fun z hz => by
        by_cases e2 : z = w
        · rw [if_pos e2, e2, up_s]; exact decide_eq_true (by omega)
        · rw [if_neg e2, up_n e2])
      rw [← c] at u
      rw [he, decide_eq_false (by omega), if_neg (by decide), if_pos rfl] at u
      omega
  · by_cases e1 : y = w
    · subst e1
      rw [up_s]
      have hty : (fun z => t z && (decide (1 ≤ up e y (n + 1) z) && decide (up e y (n + 1) z ≤ n + 1))) y = true := by
        show (t y && (decide (1 ≤ up e y (n + 1) y) && decide (up e y (n + 1) y ≤ n + 1))) = true
        rw [up_s, ht]; simp
      rcases hc with hc | ⟨q, hj, hq⟩
      · exact hng_seed hy hty hc
      · refine hng_step (hng_up (fun z hz hzt => ?_) (h5 q hj.1 hq)) hj hty
        have hzt : (t z && (decide (1 ≤ e z) && decide (e z ≤ e q))) = true := hzt
        show (t z && (decide (1 ≤ up e y (n + 1) z) && decide (up e y (n + 1) z ≤ n + 1))) = true
        rw [Bool.and_eq_true, Bool.and_eq_true, decide_eq_true_eq, decide_eq_true_eq] at hzt ⊢
        have e3 : z ≠ y := fun e3 => by rw [e3, he] at hzt; omega
        rw [up_n e3]
        have := h1 z hz
        exact ⟨hzt.1, hzt.2.1, by omega⟩
    · rw [up_n e1] at hne ⊢
      refine hng_up (fun z hz hzt => ?_) (h5 y hy hne)
      have hzt : (t z && (decide (1 ≤ e z) && decide (e z ≤ e y))) = true := hzt
      show (t z && (decide (1 ≤ up e w (n + 1) z) && decide (up e w (n + 1) z ≤ e y))) = true
      rw [Bool.and_eq_true, Bool.and_eq_true, decide_eq_true_eq, decide_eq_true_eq] at hzt
      have e3 : z ≠ w := fun e3 => by rw [e3, he] at hzt; omega
      rw [up_n e3, Bool.and_eq_true, Bool.and_eq_true, decide_eq_true_eq, decide_eq_true_eq]
      exact hzt
/-- what stands of a square that is being walked; M bounds what was entered below it by squares left again -/
def pv (t a : Nat → Bool) (e lo sd : Nat → Nat) (M v : Nat) : Prop := (v < 400 ∧ t v = true ∧ 1 ≤ e v ∧ e v < M ∧ sd v ≤ 4 ∧ lo v ≤ e v) ∧ (∀ z, z < 400 → e v < e z → e z < M → ∀ y, adj z y → t y = true → 1 ≤ e y ∧ e y < M ∧ (e y < e v → lo v ≤ e y)) ∧ (∀ d, d < sd v → nbs v d < 400 → t (nbs v d) = true → 1 ≤ e (nbs v d) ∧ (e (nbs v d) < e v → lo v ≤ e (nbs v d))) ∧ (∀ z, z < 400 → e v ≤ e z → e z < M → a z = true → lo v = 0) ∧ (lo v < e v → ∃ z, z < 400 ∧ e v ≤ e z ∧ e z < M ∧ (a z = true ∨ ∃ y, adj z y ∧ 1 ≤ e y ∧ e y = lo v)) ∧ ∀ z, z < 400 → e v ≤ e z → cn (fun q => t q && decide (e v ≤ e q)) v z
def okS (t a : Nat → Bool) (e lo sd : Nat → Nat) : Nat → List Nat → Prop
  | M, [] => ∀ z, z < 400 → 1 ≤ e z → e z < M → ∀ y, adj z y → t y = true → 1 ≤ e y ∧ e y < M
  | M, v :: l => pv t a e lo sd M v ∧ okS t a e lo sd (e v) l
theorem cn_mono {t t' : Nat → Bool} (h : ∀ q, q < 400 → t q = true → t' q = true) {p q : Nat} (g : cn t p q) : cn t' p q := hng_up h g
theorem pv_enter {t a : Nat → Bool} {e lo lo' sd sd' : Nat → Nat} {M n w v : Nat} (h : pv t a e lo sd M v) (hMn : M ≤ n + 1) (hw : w < 400) (he : e w = 0) (ht : t w = true) (hlo : lo' v = lo v) (hsd : sd' v = sd v) (hc : ∃ q, adj q w ∧ e v ≤ e q) : pv t a (up e w (n + 1)) lo' sd' M v := by
  obtain ⟨⟨h1, h2, h3, h4, h5, h6⟩, c, d, ca, d2, ce⟩ := h
  have hvw : v ≠ w := fun z => by rw [z, he] at h3; omega
  have ev : up e w (n + 1) v = e v := up_n hvw
  have mono : ∀ q, q < 400 → (t q && decide (e v ≤ e q)) = true → (t q && decide (e v ≤ up e w (n + 1) q)) = true := by
    intro q hq hh
    rw [Bool.and_eq_true, decide_eq_true_eq] at hh ⊢
    by_cases e1 : q = w
    · rw [e1, he] at hh; omega
    · rw [up_n e1]; exact hh
  unfold pv
  rw [ev, hlo, hsd]
  refine ⟨⟨h1, h2, h3, h4, h5, h6⟩, fun z hz p q y hj hy => ?_, fun d' hd' p q => ?_, fun z hz p q r => ?_, fun hl => ?_, fun z hz p => ?_⟩
  · have e1 : z ≠ w := fun e1 => by rw [e1, up_s] at q; omega
    rw [up_n e1] at p q
    have hh := c z hz p q y hj hy
    have e2 : y ≠ w := fun e2 => by rw [e2, he] at hh; omega
    rw [up_n e2]
    exact hh
  · have hh := d d' hd' p q
    have e2 : nbs v d' ≠ w := fun e2 => by rw [e2, he] at hh; omega
    rw [up_n e2]
    exact hh
  · have e1 : z ≠ w := fun e1 => by rw [e1, up_s] at q; omega
    rw [up_n e1] at p q
    exact ca z hz p q r
  · obtain ⟨z, hz, p, q, r⟩ := d2 hl
    have e1 : z ≠ w := fun e1 => by rw [e1, he] at p; omega
    refine ⟨z, hz, by rw [up_n e1]; exact p, by rw [up_n e1]; exact q, ?_⟩
    rcases r with r | ⟨y, hj, y1, y2⟩
    · exact Or.inl r
    · have e2 : y ≠ w := fun e2 => by rw [e2, he] at y1; omega
      exact Or.inr ⟨y, hj, by rw [up_n e2]; exact y1, by rw [up_n e2]; exact y2⟩
  · by_cases e1 : z = w
    · subst e1
      obtain ⟨q, hj, hq⟩ := hc
      refine cn_step (cn_mono mono (ce q hj.1 hq)) hj ?_
      show (t z && decide (e v ≤ up e z (n + 1) z)) = true
      rw [up_s, ht, decide_eq_true (by omega)]; rfl
    · rw [up_n e1] at p
      exact cn_mono mono (ce z hz p)
theorem okS_enter {t a : Nat → Bool} {e lo lo' sd sd' : Nat → Nat} {n w : Nat} (hw : w < 400) (he : e w = 0) (ht : t w = true) (hlo : ∀ v, v ≠ w → lo' v = lo v) (hsd : ∀ v, v ≠ w → sd' v = sd v) : ∀ (l : List Nat) (M : Nat), M ≤ n + 1 → okS t a e lo sd M l → (∀ v, v ∈ l → ∃ q, adj q w ∧ e v ≤ e q) → okS t a (up e w (n + 1)) lo' sd' M l
  | [], M, hMn, h, _ => by
    intro z hz p q y hj hy
    have e1 : z ≠ w := fun e1 => by rw [e1, up_s] at q; omega
    rw [up_n e1] at p q
    have hh := h z hz p q y hj hy
    have e2 : y ≠ w := fun e2 => by rw [e2, he] at hh; omega
    rw [up_n e2]
    exact hh
  | v :: l, M, hMn, h, hc => by
    have hvw : v ≠ w := fun z => by have := h.1.1.2.2.1; rw [z, he] at this; omega
    have hvM := h.1.1.2.2.2.1
    refine ⟨pv_enter h.1 hMn hw he ht (hlo v hvw) (hsd v hvw) (hc v (List.mem_cons_self ..)), ?_⟩
    rw [up_n hvw]
    exact okS_enter hw he ht hlo hsd l (e v) (by omega) h.2 (fun x hx => hc x (List.mem_cons_of_mem _ hx))
theorem pv_new {t a : Nat → Bool} {e lo sd : Nat → Nat} {n w : Nat} (hg : gl t a e n) (hw : w < 400) (he : e w = 0) (ht : t w = true) (hlo : lo w = if a w then 0 else n + 1) (hsd : sd w = 0) : pv t a (up e w (n + 1)) lo sd (n + 2) w := by
  have only : ∀ z, z < 400 → n + 1 ≤ up e w (n + 1) z → z = w := by
    intro z hz p
    by_cases e1 : z = w
    · exact e1
    · rw [up_n e1] at p
      have := hg.1 z hz
      omega
  unfold pv
  rw [up_s]
  refine ⟨⟨hw, ht, by omega, by omega, by omega, ?_⟩, fun z hz p q => ?_, fun d hd => by omega, fun z hz p q r => ?_, fun hl => ?_, fun z hz p => ?_⟩
  · rw [hlo]; split <;> omega
  · have := only z hz (by omega)
    rw [this, up_s] at p
    omega
  · have := only z hz p
    rw [this] at r
    rw [hlo, r, if_pos rfl]
  · refine ⟨w, hw, by rw [up_s]; exact Nat.le_refl _, by rw [up_s]; omega, Or.inl ?_⟩
    cases ha : a w
    · rw [hlo, ha, if_neg (by decide)] at hl; omega
    · rfl
  · have := only z hz p
    subst this
    refine cn_refl hz ?_
    show (t z && decide (n + 1 ≤ up e z (n + 1) z)) = true
    rw [up_s, ht, decide_eq_true (Nat.le_refl _)]; rfl
/-- a side that leads nowhere new -/
theorem pv_side {t a : Nat → Bool} {e lo lo' sd sd' : Nat → Nat} {M v : Nat} (h : pv t a e lo sd M v) (hs : sd v < 4) (hsd : sd' v = sd v + 1) (hlo : (lo' v = lo v ∧ (nbs v (sd v) < 400 → t (nbs v (sd v)) = true → False)) ∨ (nbs v (sd v) < 400 ∧ 1 ≤ e (nbs v (sd v)) ∧ lo' v = (if e (nbs v (sd v)) < lo v then e (nbs v (sd v)) else lo v)) ∨ (lo' v = lo v ∧ 1 ≤ e (nbs v (sd v)) ∧ M ≤ e (nbs v (sd v)))) : pv t a e lo' sd' M v := by
  obtain ⟨⟨h1, h2, h3, h4, h5, h6⟩, c, d, ca, d2, ce⟩ := h
  have hle : lo' v ≤ lo v := by
    rcases hlo with ⟨e1, -⟩ | ⟨-, -, e1⟩ | ⟨e1, -⟩
    · omega
    · rw [e1]; split <;> omega
    · omega
  unfold pv
  rw [hsd]
  refine ⟨⟨h1, h2, h3, h4, by omega, by omega⟩, fun z hz p q y hj hy => ?_, fun d' hd' p q => ?_, fun z hz p q r => ?_, fun hl => ?_, ce⟩
  · have := c z hz p q y hj hy
    exact ⟨this.1, this.2.1, fun g => Nat.le_trans hle (this.2.2 g)⟩
  · by_cases e1 : d' = sd v
    · subst e1
      rcases hlo with ⟨-, e2⟩ | ⟨-, e2, e3⟩ | ⟨-, e2, e3⟩
      · exact absurd (e2 p q) id
      · refine ⟨e2, fun _ => ?_⟩
        rw [e3]; split <;> omega
      · exact ⟨e2, fun g => by omega⟩
    · have := d d' (by omega) p q
      exact ⟨this.1, fun g => Nat.le_trans hle (this.2 g)⟩
  · have := ca z hz p q r
    omega
  · rcases hlo with ⟨e1, -⟩ | ⟨e0, e2, e1⟩ | ⟨e1, -⟩
    · rw [e1] at hl ⊢
      exact d2 hl
    · by_cases g : e (nbs v (sd v)) < lo v
      · rw [if_pos g] at e1
        exact ⟨v, h1, Nat.le_refl _, h4, Or.inr ⟨nbs v (sd v), ⟨h1, e0, sd v, hs, rfl⟩, e2, e1.symm⟩⟩
      · rw [if_neg g] at e1
        rw [e1] at hl ⊢
        exact d2 hl
    · rw [e1] at hl ⊢
      exact d2 hl
theorem okS_c {t a : Nat → Bool} {e lo lo' sd sd' : Nat → Nat} : ∀ (l : List Nat) (M : Nat), okS t a e lo sd M l → (∀ v, v ∈ l → lo' v = lo v ∧ sd' v = sd v) → okS t a e lo' sd' M l
  | [], _, h, _ => h
  | v :: l, M, h, hc => by
    obtain ⟨e1, e2⟩ := hc v (List.mem_cons_self ..)
    refine ⟨?_, okS_c l (e v) h.2 (fun x hx => hc x (List.mem_cons_of_mem _ hx))⟩
    have := h.1
    unfold pv at this ⊢
    rw [e1, e2]
    exact this
theorem okS_lt {t a : Nat → Bool} {e lo sd : Nat → Nat} : ∀ (l : List Nat) (M : Nat), okS t a e lo sd M l → ∀ v, v ∈ l → e v < M ∧ 1 ≤ e v ∧ v < 400
  | [], _, _, v, hv => by cases hv
  | x :: l, M, h, v, hv => by
    have hx := h.1.1
    rcases List.mem_cons.mp hv with rfl | hv
    · exact ⟨hx.2.2.2.1, hx.2.2.1, hx.1⟩
    · have := okS_lt l (e x) h.2 v hv
      exact ⟨by omega, this.2⟩

/-! squares side by side; what hangs -/
theorem it_wh {α : Type} (F : α → Option qz_R) (P Q : α → Prop) (μ : α → Nat) (hs : ∀ x, P x → Q x ∨ ∃ y, P y ∧ μ y < μ x ∧ F x = F y) : ∀ x, P x → ∃ y, P y ∧ Q y ∧ F x = F y := by
  have key : ∀ (n : Nat) (x : α), μ x < n → P x → ∃ y, P y ∧ Q y ∧ F x = F y := by
    intro n
    induction n with
    | zero => intro x h; exact absurd h (Nat.not_lt_zero _)
    | succ n ih =>
      intro x hx hp
      rcases hs x hp with hq | ⟨y, hy, hm, e⟩
      · exact ⟨x, hp, hq, rfl⟩
      · obtain ⟨z, h1, h2, h3⟩ := ih y (by omega) hy
        exact ⟨z, h1, h2, e.trans h3⟩
  intro x hp
  exact key (μ x + 1) x (Nat.lt_succ_self _) hp
/-- the square beside q towards side d; 400: none -/
def nbs (q d : Nat) : Nat := if d = 0 then (if q < 20 then 400 else q - 20) else if d = 1 then (if q % 20 = 19 then 400 else q + 1) else if d = 2 then (if 380 ≤ q then 400 else q + 20) else (if q % 20 = 0 then 400 else q - 1)
theorem nbs_le {q d : Nat} (h : q < 400) : nbs q d ≤ 400 := by
  unfold nbs
  repeat' split
  all_goals omega
def adj (p q : Nat) : Prop := p < 400 ∧ q < 400 ∧ ∃ d, d < 4 ∧ nbs p d = q
theorem adj_iff {p q : Nat} : adj p q ↔ p < 400 ∧ q < 400 ∧ ((q + 20 = p) ∨ (q = p + 1 ∧ p % 20 ≠ 19) ∨ (q = p + 20) ∨ (q + 1 = p ∧ p % 20 ≠ 0)) := by
  constructor
  · rintro ⟨hp, hq, d, hd, e⟩
    refine ⟨hp, hq, ?_⟩
    unfold nbs at e
    rcases (show d = 0 ∨ d = 1 ∨ d = 2 ∨ d = 3 by omega) with rfl | rfl | rfl | rfl
    · simp only [if_true] at e
      split at e <;> omega
    · simp only [show ¬ 1 = 0 by decide, if_false, if_true] at e
      split at e <;> omega
    · simp only [show ¬ 2 = 0 by decide, show ¬ 2 = 1 by decide, if_false, if_true] at e
      split at e <;> omega
    · simp only [show ¬ 3 = 0 by decide, show ¬ 3 = 1 by decide, show ¬ 3 = 2 by decide, if_false] at e
      split at e <;> omega
  · rintro ⟨hp, hq, h | h | h | h⟩
    · refine ⟨hp, hq, 0, by decide, ?_⟩
      unfold nbs
      rw [if_pos rfl, if_neg (by omega)]
      omega
    · refine ⟨hp, hq, 1, by decide, ?_⟩
      unfold nbs
      rw [if_neg (by decide), if_pos rfl, if_neg h.2]
      omega
    · refine ⟨hp, hq, 2, by decide, ?_⟩
      unfold nbs
      rw [if_neg (by decide), if_neg (by decide), if_pos rfl, if_neg (by omega)]
      omega
    · refine ⟨hp, hq, 3, by decide, ?_⟩
      unfold nbs
      rw [if_neg (by decide), if_neg (by decide), if_neg (by decide), if_neg h.2]
      omega
theorem adj_symm {p q : Nat} (h : adj p q) : adj q p := by
  rw [adj_iff] at h ⊢
  obtain ⟨hp, hq, h⟩ := h
  refine ⟨hq, hp, ?_⟩
  omega
def rch (t a : Nat → Bool) : Nat → Nat → Prop
  | 0, q => q < 400 ∧ t q = true ∧ a q = true
  | n + 1, q => rch t a n q ∨ (t q = true ∧ ∃ p, rch t a n p ∧ adj p q)
/-- tin t joined by tin to tin on a -/
def hng (t a : Nat → Bool) (q : Nat) : Prop := ∃ n, rch t a n q
theorem hng_seed {t a : Nat → Bool} {q : Nat} (h : q < 400) (ht : t q = true) (ha : a q = true) : hng t a q := ⟨0, h, ht, ha⟩
theorem hng_step {t a : Nat → Bool} {p q : Nat} (h : hng t a p) (hj : adj p q) (ht : t q = true) : hng t a q := by
  obtain ⟨n, hn⟩ := h
  exact ⟨n + 1, Or.inr ⟨ht, p, hn, hj⟩⟩
theorem hng_ind {t a : Nat → Bool} {S : Nat → Prop} (h0 : ∀ q, q < 400 → t q = true → a q = true → S q) (hs : ∀ p q, S p → adj p q → t q = true → S q) {q : Nat} (h : hng t a q) : S q := by
  obtain ⟨n, hn⟩ := h
  induction n generalizing q with
  | zero => exact h0 q hn.1 hn.2.1 hn.2.2
  | succ n ih =>
    rcases hn with hn | ⟨ht, p, hp, hj⟩
    · exact ih hn
    · exact hs p q (ih hp) hj ht
theorem hng_t {t a : Nat → Bool} {q : Nat} (h : hng t a q) : q < 400 ∧ t q = true := hng_ind (S := fun q => q < 400 ∧ t q = true) (fun _ h1 h2 _ => ⟨h1, h2⟩) (fun _ _ _ hj ht => ⟨hj.2.1, ht⟩) h
theorem hng_mono {t t' a a' : Nat → Bool} (h1 : ∀ q, q < 400 → t q = true → t' q = true) (h2 : ∀ q, q < 400 → t q = true → a q = true → a' q = true) {q : Nat} (h : hng t a q) : hng t' a' q := by
  refine hng_ind (S := fun q => hng t' a' q) (fun q h3 h4 h5 => hng_seed h3 (h1 q h3 h4) (h2 q h3 h4 h5)) (fun p q hp hj ht => hng_step hp hj (h1 q hj.2.1 ht)) h
theorem hng_cong {t t' a a' : Nat → Bool} (h1 : ∀ q, q < 400 → t q = t' q) (h2 : ∀ q, q < 400 → t q = true → a q = a' q) (q : Nat) : hng t a q ↔ hng t' a' q := by
  constructor
  · exact hng_mono (fun q hq h => by rw [← h1 q hq]; exact h) (fun q hq ht h => by rw [← h2 q hq ht]; exact h)
  · exact hng_mono (fun q hq h => by rw [h1 q hq]; exact h) (fun q hq ht h => by rw [h2 q hq (by rw [h1 q hq]; exact ht)]; exact h)
/-- a set that holds the seeds, is closed, and holds nothing else -/
theorem hng_of {t a H : Nat → Bool} (h0 : ∀ q, q < 400 → t q = true → a q = true → H q = true) (hs : ∀ p q, p < 400 → H p = true → adj p q → t q = true → H q = true) (hd : ∀ q, q < 400 → H q = true → hng t a q) {q : Nat} (hq : q < 400) : H q = true ↔ hng t a q := by
  refine ⟨hd q hq, fun h => ?_⟩
  exact (hng_ind (S := fun q => q < 400 ∧ H q = true) (fun q h1 h2 h3 => ⟨h1, h0 q h1 h2 h3⟩) (fun p q hp hj ht => ⟨hj.2.1, hs p q hp.1 hp.2 hj ht⟩) h).2
/-- a queue: its entries are the marked squares -/
def qok (H : Nat → Bool) (Q : Nat → Nat) (e : Nat) : Prop := e = fb_ct H 400 ∧ (∀ i, i < e → Q i < 400 ∧ H (Q i) = true) ∧ ∀ q, q < 400 → H q = true → ∃ i, i < e ∧ Q i = q
theorem ct_lt {H : Nat → Bool} {b n : Nat} (hb : b < n) (h : H b = false) : fb_ct H n < n := by
  have h1 := fb_ct_le H n
  rcases Nat.lt_or_ge (fb_ct H n) n with h2 | h2
  · exact h2
  · have : fb_ct H n = n := by omega
    rw [fb_ct_all] at this
    have := this b hb
    rw [h] at this
    cases this
theorem qok_add {H : Nat → Bool} {Q : Nat → Nat} {e b : Nat} (h : qok H Q e) (hb : b < 400) (hf : H b = false) : qok (fun q => if q = b then true else H q) (fun i => if i = e then b else Q i) (e + 1) := by
  obtain ⟨h1, h2, h3⟩ := h
  refine ⟨?_, fun i hi => ?_, fun q hq hH => ?_⟩
  · have := fb_ct_upd H true (i := b) (n := 400) hb
    rw [hf, if_neg (by decide), if_pos rfl, Nat.add_zero] at this
    rw [h1]
    exact this.symm
  · by_cases hie : i = e
    · subst hie
      simp [hb]
    · obtain ⟨g1, g2⟩ := h2 i (by omega)
      simp only [hie, if_false]
      exact ⟨g1, by simp [g2]⟩
  · by_cases hqb : q = b
    · subst hqb
      exact ⟨e, by omega, by simp⟩
    · simp only [hqb, if_false] at hH
      obtain ⟨i, hi, e1⟩ := h3 q hq hH
      exact ⟨i, by omega, by simp only [show ¬ i = e by omega, if_false]; exact e1⟩
theorem qok_lt {H : Nat → Bool} {Q : Nat → Nat} {e b : Nat} (h : qok H Q e) (hb : b < 400) (hf : H b = false) : e < 400 := by
  rw [h.1]
  exact ct_lt hb hf

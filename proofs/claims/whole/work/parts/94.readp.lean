/-! reading, pure: the least cost, the fewest shapes, the ways, column by column from the last -/
abbrev t3 : Type := Nat × Nat × Nat
def stp (x y : t3) : t3 := (if y.1 < x.1 then y.1 else x.1, if y.1 < x.1 then y.2.1 else if y.1 = x.1 then (if y.2.1 < x.2.1 then y.2.1 else x.2.1) else x.2.1, if y.1 < x.1 then y.2.2 else if y.1 = x.1 then (if x.2.2 + y.2.2 < 1000000000000000000 then x.2.2 + y.2.2 else 1000000000000000000) else x.2.2)
theorem stp_lt {x y : t3} (h : y.1 < x.1) : stp x y = y := by
  unfold stp
  rw [if_pos h, if_pos h, if_pos h]
theorem stp_gt {x y : t3} (h : x.1 < y.1) : stp x y = x := by
  unfold stp
  rw [if_neg (by omega), if_neg (by omega), if_neg (by omega), if_neg (by omega), if_neg (by omega)]
theorem stp_eq {x y : t3} (h : y.1 = x.1) : stp x y = (x.1, (if y.2.1 < x.2.1 then y.2.1 else x.2.1), if x.2.2 + y.2.2 < 1000000000000000000 then x.2.2 + y.2.2 else 1000000000000000000) := by
  unfold stp
  have hn : ¬ y.1 < x.1 := by omega
  rw [if_neg hn, if_neg hn, if_pos h, if_neg hn, if_pos h]
theorem stp_1 (x y : t3) : (stp x y).1 = if y.1 < x.1 then y.1 else x.1 := rfl
theorem mn_rc (a b c : Nat) : (if c < (if b < a then b else a) then c else (if b < a then b else a)) = (if b < (if c < a then c else a) then b else (if c < a then c else a)) := by
  repeat' split
  all_goals omega
theorem sm_rc (a b c M : Nat) : (if (if a + b < M then a + b else M) + c < M then (if a + b < M then a + b else M) + c else M) = (if (if a + c < M then a + c else M) + b < M then (if a + c < M then a + c else M) + b else M) := by
  repeat' split
  all_goals omega
/-- options may come in any order -/
theorem stp_rc (x b s : t3) : stp (stp x b) s = stp (stp x s) b := by
  rcases Nat.lt_trichotomy b.1 x.1 with h1 | h1 | h1
  · rw [stp_lt h1]
    rcases Nat.lt_trichotomy s.1 x.1 with h2 | h2 | h2
    · rw [stp_lt h2]
      rcases Nat.lt_trichotomy s.1 b.1 with h3 | h3 | h3
      · rw [stp_lt h3, stp_gt h3]
      · rw [stp_eq h3, stp_eq h3.symm, h3, Nat.add_comm b.2.2]
        congr 2
        repeat' split
        all_goals omega
      · rw [stp_gt h3, stp_lt h3]
    · have h3 : b.1 < s.1 := by omega
      rw [stp_gt h3, stp_eq h2]
      exact (stp_lt (by show b.1 < x.1; exact h1)).symm
    · rw [stp_gt h2, stp_gt (by omega), stp_lt h1]
  · rcases Nat.lt_trichotomy s.1 x.1 with h2 | h2 | h2
    · rw [stp_lt h2, stp_eq h1, stp_gt (x := s) (by omega)]
      exact stp_lt (by show s.1 < x.1; exact h2)
    · rw [stp_eq h1, stp_eq h2]
      rw [stp_eq (by show s.1 = x.1; exact h2), stp_eq (by show b.1 = x.1; exact h1)]
      show (x.1, _, _) = (x.1, _, _)
      rw [show ∀ p q r t : Nat, (x.1, p, q) = (x.1, r, t) ↔ p = r ∧ q = t from fun p q r t => by simp]
      exact ⟨mn_rc _ _ _, sm_rc _ _ _ _⟩
    · rw [stp_gt h2, stp_eq h1]
      exact stp_gt (by show x.1 < s.1; exact h2)
  · rw [stp_gt h1]
    rcases Nat.lt_trichotomy s.1 x.1 with h2 | h2 | h2
    · rw [stp_lt h2, stp_gt (by omega)]
    · rw [stp_eq h2]
      exact (stp_gt (by show x.1 < b.1; exact h1)).symm
    · rw [stp_gt h2, stp_gt h1]
section RD
variable (W S : Nat) (wd lo : Nat → Nat) (co : Nat → Nat → Nat)
def opt (f : Nat → t3) (a k : Nat) : t3 := (co k a + (f (a + wd k)).1, (f (a + wd k)).2.1 + 1, (f (a + wd k)).2.2)
def skp (f : Nat → t3) (a : Nat) : t3 := (lo a + (f (a + 1)).1, (f (a + 1)).2.1, (f (a + 1)).2.2)
def fld (f : Nat → t3) (a : Nat) (x : t3) : Nat → t3
  | 0 => x
  | k + 1 => if a + wd k ≤ W then stp (fld f a x k) (opt wd co f a k) else fld f a x k
theorem fld_rc (f : Nat → t3) (a : Nat) (x b : t3) : ∀ k, fld W wd co f a (stp x b) k = stp (fld W wd co f a x k) b
  | 0 => rfl
  | k + 1 => by
    show (if a + wd k ≤ W then stp (fld W wd co f a (stp x b) k) (opt wd co f a k) else fld W wd co f a (stp x b) k) = stp (if a + wd k ≤ W then stp (fld W wd co f a x k) (opt wd co f a k) else fld W wd co f a x k) b
    rw [fld_rc f a x b k]
    split
    · exact stp_rc _ _ _
    · rfl
theorem fld_c {f g : Nat → t3} {a : Nat} {x : t3} : ∀ k, (∀ j, j < k → a + wd j ≤ W → f (a + wd j) = g (a + wd j)) → fld W wd co f a x k = fld W wd co g a x k
  | 0, _ => rfl
  | k + 1, h => by
    show (if a + wd k ≤ W then stp (fld W wd co f a x k) (opt wd co f a k) else fld W wd co f a x k) = (if a + wd k ≤ W then stp (fld W wd co g a x k) (opt wd co g a k) else fld W wd co g a x k)
    rw [fld_c k (fun j hj => h j (by omega))]
    by_cases hw : a + wd k ≤ W
    · rw [if_pos hw, if_pos hw]
      unfold opt
      rw [h k (by omega) hw]
    · rw [if_neg hw, if_neg hw]
def rdT : Nat → Nat → t3
  | 0, _ => (0, 0, 1)
  | d + 1, j => if j = W - (d + 1) then fld W wd co (rdT d) j (skp lo (rdT d) j) S else rdT d j
def rdV (a : Nat) : t3 := rdT W S wd lo co (W - a) a
theorem rdT_eq {j : Nat} (hj : j ≤ W) : ∀ d, W - j ≤ d → d ≤ W → rdT W S wd lo co d j = rdV W S wd lo co j
  | 0, h, _ => by
    unfold rdV
    rw [show W - j = 0 by omega]
  | d + 1, h, hd => by
    by_cases e : j = W - (d + 1)
    · unfold rdV
      rw [show W - j = d + 1 by omega]
    · show (if j = W - (d + 1) then _ else rdT W S wd lo co d j) = _
      rw [if_neg e]
      exact rdT_eq hj d (by omega) (by omega)
theorem rdV_end : rdV W S wd lo co W = (0, 0, 1) := by
  unfold rdV
  rw [Nat.sub_self]
  rfl
theorem rdV_eq (hw : ∀ k, k < S → 1 ≤ wd k) {a : Nat} (ha : a < W) : rdV W S wd lo co a = fld W wd co (rdV W S wd lo co) a (skp lo (rdV W S wd lo co) a) S := by
  have h0 : rdV W S wd lo co a = rdT W S wd lo co (W - a - 1 + 1) a := by
    unfold rdV
    rw [show W - a - 1 + 1 = W - a by omega]
  rw [h0]
  show (if a = W - (W - a - 1 + 1) then fld W wd co (rdT W S wd lo co (W - a - 1)) a (skp lo (rdT W S wd lo co (W - a - 1)) a) S else _) = _
  rw [if_pos (by omega)]
  have hs : skp lo (rdT W S wd lo co (W - a - 1)) a = skp lo (rdV W S wd lo co) a := by
    unfold skp
    rw [rdT_eq W S wd lo co (show a + 1 ≤ W by omega) (W - a - 1) (by omega) (by omega)]
  rw [hs]
  exact fld_c W wd co S (fun j hj hjw => rdT_eq W S wd lo co hjw (W - a - 1) (by have := hw j hj; omega) (by omega))
/-- costs, shapes and ways stay small -/
theorem fld_1 {f : Nat → t3} {a : Nat} {x : t3} : ∀ k, (fld W wd co f a x k).1 ≤ x.1
  | 0 => Nat.le_refl _
  | k + 1 => by
    have := fld_1 (f := f) (a := a) (x := x) k
    show (if a + wd k ≤ W then stp (fld W wd co f a x k) (opt wd co f a k) else fld W wd co f a x k).1 ≤ _
    split
    · rw [stp_1]
      split <;> omega
    · exact this
theorem stp_u {x y : t3} {b : Nat} (h1 : x.2.1 ≤ b) (h2 : y.2.1 ≤ b) : (stp x y).2.1 ≤ b := by
  show (if y.1 < x.1 then y.2.1 else if y.1 = x.1 then (if y.2.1 < x.2.1 then y.2.1 else x.2.1) else x.2.1) ≤ b
  repeat' split
  all_goals omega
theorem stp_w {x y : t3} (h1 : 1 ≤ x.2.2 ∧ x.2.2 ≤ 1000000000000000000) (h2 : 1 ≤ y.2.2 ∧ y.2.2 ≤ 1000000000000000000) : 1 ≤ (stp x y).2.2 ∧ (stp x y).2.2 ≤ 1000000000000000000 := by
  show 1 ≤ (if y.1 < x.1 then y.2.2 else if y.1 = x.1 then (if x.2.2 + y.2.2 < 1000000000000000000 then x.2.2 + y.2.2 else 1000000000000000000) else x.2.2) ∧ (if y.1 < x.1 then y.2.2 else if y.1 = x.1 then (if x.2.2 + y.2.2 < 1000000000000000000 then x.2.2 + y.2.2 else 1000000000000000000) else x.2.2) ≤ 1000000000000000000
  repeat' split
  all_goals omega
theorem fld_u {f : Nat → t3} {a : Nat} {x : t3} {b : Nat} (hx : x.2.1 ≤ b) : ∀ k, (∀ j, j < k → a + wd j ≤ W → (f (a + wd j)).2.1 + 1 ≤ b) → (fld W wd co f a x k).2.1 ≤ b
  | 0, _ => hx
  | k + 1, h => by
    have := fld_u hx k (fun j hj => h j (by omega))
    show (if a + wd k ≤ W then stp (fld W wd co f a x k) (opt wd co f a k) else fld W wd co f a x k).2.1 ≤ b
    by_cases hw : a + wd k ≤ W
    · rw [if_pos hw]
      exact stp_u this (h k (by omega) hw)
    · rw [if_neg hw]; exact this
theorem fld_w {f : Nat → t3} {a : Nat} {x : t3} (hx : 1 ≤ x.2.2 ∧ x.2.2 ≤ 1000000000000000000) : ∀ k, (∀ j, j < k → a + wd j ≤ W → 1 ≤ (f (a + wd j)).2.2 ∧ (f (a + wd j)).2.2 ≤ 1000000000000000000) → 1 ≤ (fld W wd co f a x k).2.2 ∧ (fld W wd co f a x k).2.2 ≤ 1000000000000000000
  | 0, _ => hx
  | k + 1, h => by
    have := fld_w hx k (fun j hj => h j (by omega))
    show 1 ≤ (if a + wd k ≤ W then stp (fld W wd co f a x k) (opt wd co f a k) else fld W wd co f a x k).2.2 ∧ (if a + wd k ≤ W then stp (fld W wd co f a x k) (opt wd co f a k) else fld W wd co f a x k).2.2 ≤ _
    by_cases hw : a + wd k ≤ W
    · rw [if_pos hw]
      exact stp_w this (h k (by omega) hw)
    · rw [if_neg hw]; exact this
theorem rdV_b (hw : ∀ k, k < S → 1 ≤ wd k) (hl : ∀ a, a < W → lo a ≤ 8) : ∀ d, d ≤ W → (rdV W S wd lo co (W - d)).1 ≤ 8 * d ∧ (rdV W S wd lo co (W - d)).2.1 ≤ d ∧ 1 ≤ (rdV W S wd lo co (W - d)).2.2 ∧ (rdV W S wd lo co (W - d)).2.2 ≤ 1000000000000000000 := by
  intro d
  induction d using Nat.strongRecOn with
  | _ d ih =>
    intro hd
    cases d with
    | zero =>
      rw [Nat.sub_zero, rdV_end]
      exact ⟨Nat.le_refl _, Nat.le_refl _, by decide, by decide⟩
    | succ d =>
      have h1 := ih d (by omega) (by omega)
      have ha : W - (d + 1) < W := by omega
      rw [rdV_eq W S wd lo co hw ha]
      have e1 : W - (d + 1) + 1 = W - d := by omega
      have hs1 : (skp lo (rdV W S wd lo co) (W - (d + 1))).1 ≤ 8 * (d + 1) := by
        show lo (W - (d + 1)) + (rdV W S wd lo co (W - (d + 1) + 1)).1 ≤ _
        rw [e1]
        have := hl (W - (d + 1)) ha
        omega
      have hs2 : (skp lo (rdV W S wd lo co) (W - (d + 1))).2.1 ≤ d + 1 := by
        show (rdV W S wd lo co (W - (d + 1) + 1)).2.1 ≤ _
        rw [e1]
        omega
      have hs3 : 1 ≤ (skp lo (rdV W S wd lo co) (W - (d + 1))).2.2 ∧ (skp lo (rdV W S wd lo co) (W - (d + 1))).2.2 ≤ 1000000000000000000 := by
        show 1 ≤ (rdV W S wd lo co (W - (d + 1) + 1)).2.2 ∧ (rdV W S wd lo co (W - (d + 1) + 1)).2.2 ≤ _
        rw [e1]
        exact h1.2.2
      have later : ∀ j, j < S → W - (d + 1) + wd j ≤ W → ∃ d', d' ≤ d ∧ W - (d + 1) + wd j = W - d' := fun j hj hjw => ⟨d + 1 - wd j, by have := hw j hj; omega, by have := hw j hj; omega⟩
      refine ⟨Nat.le_trans (fld_1 W wd co S) hs1, fld_u W wd co hs2 S (fun j hj hjw => ?_), fld_w W wd co hs3 S (fun j hj hjw => ?_)⟩
      · obtain ⟨d', hd', e'⟩ := later j hj hjw
        rw [e']
        have := (ih d' (by omega) (by omega)).2.1
        omega
      · obtain ⟨d', hd', e'⟩ := later j hj hjw
        rw [e']
        exact (ih d' (by omega) (by omega)).2.2
/-- the first shape that goes on to the best reading -/
def shq (a k : Nat) : Bool := decide (a + wd k ≤ W) && (decide ((rdV W S wd lo co (a + wd k)).2.1 + 1 = (rdV W S wd lo co a).2.1) && decide (co k a + (rdV W S wd lo co (a + wd k)).1 = (rdV W S wd lo co a).1))
def shN (a : Nat) : Nat := fa_first (shq W S wd lo co a) S
def shI (a : Nat) : Int32 := if shN W S wd lo co a < S then nI (shN W S wd lo co a) else -1
/-- what the reference keeps: the first of the best so far -/
def rsh (f : Nat → t3) (a : Nat) (e : t3) : Nat → Int32
  | 0 => -1
  | k + 1 => if a + wd k ≤ W ∧ ((opt wd co f a k).1 < (fld W wd co f a e k).1 ∨ ((opt wd co f a k).1 = (fld W wd co f a e k).1 ∧ (opt wd co f a k).2.1 < (fld W wd co f a e k).2.1)) then nI k else rsh f a e k
abbrev lxl (x y : t3) : Prop := x.1 < y.1 ∨ (x.1 = y.1 ∧ x.2.1 < y.2.1)
theorem stp_lx1 {x y : t3} (h : lxl y x) : (stp x y).1 = y.1 ∧ (stp x y).2.1 = y.2.1 := by
  rcases h with h | ⟨h1, h2⟩
  · rw [stp_lt h]; exact ⟨rfl, rfl⟩
  · rw [stp_eq h1, if_pos h2]
    exact ⟨h1.symm, rfl⟩
theorem stp_lx2 {x y : t3} (h : ¬ lxl y x) : (stp x y).1 = x.1 ∧ (stp x y).2.1 = x.2.1 := by
  rcases Nat.lt_trichotomy y.1 x.1 with g | g | g
  · exact absurd (Or.inl g) h
  · rw [stp_eq g, if_neg (fun z => h (Or.inr ⟨g, z⟩))]
    exact ⟨rfl, rfl⟩
  · rw [stp_gt g]; exact ⟨rfl, rfl⟩
theorem rsh_ok (f : Nat → t3) (a : Nat) (e : t3) : ∀ n, (rsh W wd co f a e n = -1 ∧ fld W wd co f a e n = e ∧ ∀ j, j < n → a + wd j ≤ W → ¬ lxl (opt wd co f a j) e ∧ False) ∨ (rsh W wd co f a e n = -1 ∧ (fld W wd co f a e n).1 = e.1 ∧ (fld W wd co f a e n).2.1 = e.2.1 ∧ ∀ j, j < n → a + wd j ≤ W → ¬ lxl (opt wd co f a j) e) ∨ ∃ k, k < n ∧ a + wd k ≤ W ∧ rsh W wd co f a e n = nI k ∧ (fld W wd co f a e n).1 = (opt wd co f a k).1 ∧ (fld W wd co f a e n).2.1 = (opt wd co f a k).2.1 ∧ lxl (opt wd co f a k) e ∧ (∀ j, j < k → a + wd j ≤ W → lxl (opt wd co f a k) (opt wd co f a j)) ∧ ∀ j, j < n → a + wd j ≤ W → ¬ lxl (opt wd co f a j) (opt wd co f a k)
  | 0 => Or.inr (Or.inl ⟨rfl, rfl, rfl, fun j hj => absurd hj (Nat.not_lt_zero j)⟩)
  | n + 1 => by
    have ih := rsh_ok f a e n
    have r1 : rsh W wd co f a e (n + 1) = if a + wd n ≤ W ∧ lxl (opt wd co f a n) (fld W wd co f a e n) then nI n else rsh W wd co f a e n := rfl
    have f1 : fld W wd co f a e (n + 1) = if a + wd n ≤ W then stp (fld W wd co f a e n) (opt wd co f a n) else fld W wd co f a e n := rfl
    right
    by_cases hw : a + wd n ≤ W
    · rw [if_pos hw] at f1
      by_cases hl : lxl (opt wd co f a n) (fld W wd co f a e n)
      · rw [if_pos ⟨hw, hl⟩] at r1
        obtain ⟨s1, s2⟩ := stp_lx1 hl
        right
        have trans : ∀ {x y z : t3}, lxl x y → (z.1 = y.1 ∧ z.2.1 = y.2.1) → lxl x z := fun {x y z} h e => by
          unfold lxl at h ⊢
          rw [e.1, e.2]; exact h
        have ntr : ∀ {x y z : t3}, lxl x y → ¬ lxl z y → lxl x z := fun {x y z} h g => by
          unfold lxl at h g ⊢
          omega
        refine ⟨n, Nat.lt_succ_self n, hw, r1, by rw [f1, s1], by rw [f1, s2], ?_, fun j hj hjw => ?_, fun j hj hjw => ?_⟩
        · rcases ih with ⟨-, h2, -⟩ | ⟨-, h2, h3, -⟩ | ⟨k, k1, k2, k3, k4, k5, k6, k7, k8⟩
          · rw [h2] at hl; exact hl
          · exact trans hl ⟨h2.symm, h3.symm⟩
          · have := trans hl ⟨k4.symm, k5.symm⟩
            unfold lxl at this k6 ⊢
            omega
        · rcases ih with ⟨-, -, h3⟩ | ⟨-, h2, h3, h4⟩ | ⟨k, k1, k2, k3, k4, k5, k6, k7, k8⟩
          · exact (h3 j hj hjw).2.elim
          · exact ntr (trans hl ⟨h2.symm, h3.symm⟩) (h4 j hj hjw)
          · exact ntr (trans hl ⟨k4.symm, k5.symm⟩) (k8 j hj hjw)
        · by_cases e : j = n
          · subst e
            unfold lxl
            omega
          · have : lxl (opt wd co f a n) (opt wd co f a j) := by
              rcases ih with ⟨-, -, h3⟩ | ⟨-, h2, h3, h4⟩ | ⟨k, k1, k2, k3, k4, k5, k6, k7, k8⟩
              · exact (h3 j (by omega) hjw).2.elim
              · exact ntr (trans hl ⟨h2.symm, h3.symm⟩) (h4 j (by omega) hjw)
              · exact ntr (trans hl ⟨k4.symm, k5.symm⟩) (k8 j (by omega) hjw)
            unfold lxl at this ⊢
            omega
      · rw [if_neg (fun z => hl z.2)] at r1
        obtain ⟨s1, s2⟩ := stp_lx2 hl
        rcases ih with ⟨h1, h2, h3⟩ | ⟨h1, h2, h3, h4⟩ | ⟨k, k1, k2, k3, k4, k5, k6, k7, k8⟩
        · refine Or.inl ⟨by rw [r1, h1], by rw [f1, s1, h2], by rw [f1, s2, h2], fun j hj hjw => ?_⟩
          by_cases e : j = n
          · subst e; rw [h2] at hl; exact hl
          · exact (h3 j (by omega) hjw).1
        · refine Or.inl ⟨by rw [r1, h1], by rw [f1, s1, h2], by rw [f1, s2, h3], fun j hj hjw => ?_⟩
          by_cases e : j = n
          · subst e
            unfold lxl at hl ⊢
            rw [h2, h3] at hl; exact hl
          · exact h4 j (by omega) hjw
        · refine Or.inr ⟨k, by omega, k2, by rw [r1, k3], by rw [f1, s1, k4], by rw [f1, s2, k5], k6, k7, fun j hj hjw => ?_⟩
          by_cases e : j = n
          · subst e
            unfold lxl at hl ⊢
            rw [k4, k5] at hl; exact hl
          · exact k8 j (by omega) hjw
    · rw [if_neg hw] at f1
      rw [if_neg (fun z => hw z.1)] at r1
      rcases ih with ⟨h1, h2, h3⟩ | ⟨h1, h2, h3, h4⟩ | ⟨k, k1, k2, k3, k4, k5, k6, k7, k8⟩
      · refine Or.inl ⟨by rw [r1, h1], by rw [f1, h2], by rw [f1, h2], fun j hj hjw => ?_⟩
        by_cases e : j = n
        · subst e; exact absurd hjw hw
        · exact (h3 j (by omega) hjw).1
      · refine Or.inl ⟨by rw [r1, h1], by rw [f1, h2], by rw [f1, h3], fun j hj hjw => ?_⟩
        by_cases e : j = n
        · subst e; exact absurd hjw hw
        · exact h4 j (by omega) hjw
      · refine Or.inr ⟨k, by omega, k2, by rw [r1, k3], by rw [f1, k4], by rw [f1, k5], k6, k7, fun j hj hjw => ?_⟩
        by_cases e : j = n
        · subst e; exact absurd hjw hw
        · exact k8 j (by omega) hjw
/-- what the reference keeps at last is what the other finds -/
theorem rsh_shI (hw : ∀ k, k < S → 1 ≤ wd k) {a : Nat} (ha : a < W) (e : t3) (he : (skp lo (rdV W S wd lo co) a).1 < e.1) (hbig : ∀ k, k < S → a + wd k ≤ W → (opt wd co (rdV W S wd lo co) a k).1 < e.1) : (if lxl (skp lo (rdV W S wd lo co) a) (fld W wd co (rdV W S wd lo co) a e S) then -1 else rsh W wd co (rdV W S wd lo co) a e S) = shI W S wd lo co a ∧ rdV W S wd lo co a = stp (fld W wd co (rdV W S wd lo co) a e S) (skp lo (rdV W S wd lo co) a) := by
  have hv : rdV W S wd lo co a = stp (fld W wd co (rdV W S wd lo co) a e S) (skp lo (rdV W S wd lo co) a) := by
    rw [← fld_rc, stp_lt he]
    exact rdV_eq W S wd lo co hw ha
  refine ⟨?_, hv⟩
  have q_iff : ∀ k, shq W S wd lo co a k = true ↔ a + wd k ≤ W ∧ (opt wd co (rdV W S wd lo co) a k).2.1 = (rdV W S wd lo co a).2.1 ∧ (opt wd co (rdV W S wd lo co) a k).1 = (rdV W S wd lo co a).1 := fun k => by
    unfold shq
    rw [Bool.and_eq_true, Bool.and_eq_true, decide_eq_true_eq, decide_eq_true_eq, decide_eq_true_eq]
    rfl
  have none : (∀ k, k < S → ¬ shq W S wd lo co a k = true) → shI W S wd lo co a = -1 := fun h => by
    unfold shI shN
    rw [if_neg]
    intro hlt
    exact h _ hlt (fa_first_yes _ S hlt)
  have at_k : ∀ k, k < S → shq W S wd lo co a k = true → (∀ j, j < k → ¬ shq W S wd lo co a j = true) → shI W S wd lo co a = nI k := fun k hk h1 h2 => by
    have : shN W S wd lo co a = k := fst_u hk h1 (fun i hi => by
      cases hq : shq W S wd lo co a i
      · rfl
      · exact absurd hq (h2 i hi))
    unfold shI
    rw [this, if_pos hk]
  by_cases hl : lxl (skp lo (rdV W S wd lo co) a) (fld W wd co (rdV W S wd lo co) a e S)
  · rw [if_pos hl]
    obtain ⟨s1, s2⟩ := stp_lx1 hl
    rw [← hv] at s1 s2
    refine (none (fun k hk hq => ?_)).symm
    obtain ⟨q1, q2, q3⟩ := (q_iff k).mp hq
    have hb := hbig k hk q1
    rcases rsh_ok W wd co (rdV W S wd lo co) a e S with ⟨-, -, h3⟩ | ⟨-, h2, h3, h4⟩ | ⟨m, k1, k2, k3, k4, k5, k6, k7, k8⟩
    · exact (h3 k hk q1).2
    · exact h4 k hk q1 (Or.inl hb)
    · have := k8 k hk q1
      unfold lxl at hl this
      omega
  · rw [if_neg hl]
    obtain ⟨s1, s2⟩ := stp_lx2 hl
    rw [← hv] at s1 s2
    rcases rsh_ok W wd co (rdV W S wd lo co) a e S with ⟨-, h2, -⟩ | ⟨-, h2, h3, h4⟩ | ⟨m, k1, k2, k3, k4, k5, k6, k7, k8⟩
    · rw [h2] at hl
      exact absurd (Or.inl he) hl
    · exfalso
      apply hl
      unfold lxl
      rw [h2]
      exact Or.inl he
    · rw [k3]
      refine (at_k m k1 ((q_iff m).mpr ⟨k2, by rw [s2, k5], by rw [s1, k4]⟩) (fun j hj hq => ?_)).symm
      obtain ⟨q1, q2, q3⟩ := (q_iff j).mp hq
      have := k7 j hj q1
      unfold lxl at this
      omega
/-- the walk over the columns: where the next begins, how many shapes stand before -/
def foR : Nat → Nat × Nat
  | 0 => (0, 0)
  | a + 1 => if (foR a).1 = a then (if shN W S wd lo co a < S then (a + wd (shN W S wd lo co a), (foR a).2 + 1) else (a + 1, (foR a).2)) else foR a
theorem shN_at {a : Nat} (h : shN W S wd lo co a < S) : a + wd (shN W S wd lo co a) ≤ W ∧ (rdV W S wd lo co (a + wd (shN W S wd lo co a))).2.1 + 1 = (rdV W S wd lo co a).2.1 := by
  have := fa_first_yes _ S h
  have this : shq W S wd lo co a (shN W S wd lo co a) = true := this
  unfold shq at this
  rw [Bool.and_eq_true, Bool.and_eq_true, decide_eq_true_eq, decide_eq_true_eq, decide_eq_true_eq] at this
  exact ⟨this.1, this.2.1⟩
theorem foR_ge (hw : ∀ k, k < S → 1 ≤ wd k) : ∀ a, a ≤ W → a ≤ (foR W S wd lo co a).1 ∧ (foR W S wd lo co a).1 ≤ W ∧ (foR W S wd lo co a).2 ≤ a
  | 0, _ => ⟨Nat.le_refl _, Nat.zero_le _, Nat.le_refl _⟩
  | a + 1, h => by
    obtain ⟨h1, h2, h3⟩ := foR_ge hw a (by omega)
    show a + 1 ≤ (if (foR W S wd lo co a).1 = a then (if shN W S wd lo co a < S then (a + wd (shN W S wd lo co a), (foR W S wd lo co a).2 + 1) else (a + 1, (foR W S wd lo co a).2)) else foR W S wd lo co a).1 ∧ (if (foR W S wd lo co a).1 = a then (if shN W S wd lo co a < S then (a + wd (shN W S wd lo co a), (foR W S wd lo co a).2 + 1) else (a + 1, (foR W S wd lo co a).2)) else foR W S wd lo co a).1 ≤ W ∧ (if (foR W S wd lo co a).1 = a then (if shN W S wd lo co a < S then (a + wd (shN W S wd lo co a), (foR W S wd lo co a).2 + 1) else (a + 1, (foR W S wd lo co a).2)) else foR W S wd lo co a).2 ≤ a + 1
    by_cases e : (foR W S wd lo co a).1 = a
    · rw [if_pos e]
      by_cases hs : shN W S wd lo co a < S
      · rw [if_pos hs]
        have := hw _ hs
        have := (shN_at W S wd lo co hs).1
        refine ⟨?_, ?_, ?_⟩
        · show a + 1 ≤ a + wd (shN W S wd lo co a); omega
        · show a + wd (shN W S wd lo co a) ≤ W; omega
        · show (foR W S wd lo co a).2 + 1 ≤ a + 1; omega
      · rw [if_neg hs]
        exact ⟨Nat.le_refl _, h, by show (foR W S wd lo co a).2 ≤ a + 1; omega⟩
    · rw [if_neg e]
      omega
theorem foR_stay {a : Nat} : ∀ d, (foR W S wd lo co a).1 ≥ a + d → foR W S wd lo co (a + d) = foR W S wd lo co a
  | 0, _ => rfl
  | d + 1, h => by
    have ih := foR_stay (a := a) d (by omega)
    show (if (foR W S wd lo co (a + d)).1 = a + d then _ else foR W S wd lo co (a + d)) = _
    rw [ih, if_neg (by omega)]
/-- from a place where a shape or a gap begins to the next such place -/
theorem foR_next (hw : ∀ k, k < S → 1 ≤ wd k) {a n : Nat} (h : foR W S wd lo co a = (a, n)) : (shN W S wd lo co a < S → foR W S wd lo co (a + wd (shN W S wd lo co a)) = (a + wd (shN W S wd lo co a), n + 1)) ∧ (¬ shN W S wd lo co a < S → foR W S wd lo co (a + 1) = (a + 1, n)) := by
  constructor
  · intro hs
    have h1 := hw _ hs
    have e1 : foR W S wd lo co (a + 1) = (a + wd (shN W S wd lo co a), n + 1) := by
      show (if (foR W S wd lo co a).1 = a then (if shN W S wd lo co a < S then (a + wd (shN W S wd lo co a), (foR W S wd lo co a).2 + 1) else (a + 1, (foR W S wd lo co a).2)) else foR W S wd lo co a) = _
      rw [h, if_pos rfl, if_pos hs]
    have := foR_stay W S wd lo co (a := a + 1) (wd (shN W S wd lo co a) - 1) (by rw [e1]; show a + wd (shN W S wd lo co a) ≥ _; omega)
    rw [show a + 1 + (wd (shN W S wd lo co a) - 1) = a + wd (shN W S wd lo co a) by omega, e1] at this
    exact this
  · intro hs
    show (if (foR W S wd lo co a).1 = a then (if shN W S wd lo co a < S then (a + wd (shN W S wd lo co a), (foR W S wd lo co a).2 + 1) else (a + 1, (foR W S wd lo co a).2)) else foR W S wd lo co a) = _
    rw [h, if_pos rfl, if_neg hs]
/-- where no shape goes on, the column is left out -/
theorem shN_skip (hw : ∀ k, k < S → 1 ≤ wd k) (hl : ∀ a, a < W → lo a ≤ 8) {a : Nat} (ha : a < W) (hco : ∀ k, k < S → a + wd k ≤ W → (opt wd co (rdV W S wd lo co) a k).1 < 1000000000) (hsk : (skp lo (rdV W S wd lo co) a).1 < 1000000000) (h : ¬ shN W S wd lo co a < S) : (rdV W S wd lo co a).2.1 = (rdV W S wd lo co (a + 1)).2.1 := by
  obtain ⟨h1, h2⟩ := rsh_shI W S wd lo co hw ha (1000000000, 0, 0) hsk hco
  unfold shI at h1
  rw [if_neg h] at h1
  by_cases hx : lxl (skp lo (rdV W S wd lo co) a) (fld W wd co (rdV W S wd lo co) a (1000000000, 0, 0) S)
  · rw [h2, (stp_lx1 hx).2]
    rfl
  · rw [if_neg hx] at h1
    exfalso
    rcases rsh_ok W wd co (rdV W S wd lo co) a (1000000000, 0, 0) S with ⟨-, g2, -⟩ | ⟨-, g2, -, -⟩ | ⟨m, k1, k2, k3, k4, k5, k6, k7, k8⟩
    · rw [g2] at hx
      exact hx (Or.inl hsk)
    · apply hx
      unfold lxl
      rw [g2]
      exact Or.inl hsk
    · have hv := h2
      obtain ⟨s1, s2⟩ := stp_lx2 hx
      rw [← hv] at s1 s2
      have : shq W S wd lo co a m = true := by
        unfold shq
        rw [decide_eq_true k2, decide_eq_true (show (rdV W S wd lo co (a + wd m)).2.1 + 1 = (rdV W S wd lo co a).2.1 by rw [s2, k5]; rfl), decide_eq_true (show co m a + (rdV W S wd lo co (a + wd m)).1 = (rdV W S wd lo co a).1 by rw [s1, k4]; rfl)]
        rfl
      have hh : ¬ m < fa_first (shq W S wd lo co a) S := fun g => by
        have := fa_first_no _ S m g
        have this : shq W S wd lo co a m = false := this
        simp_all
      have h' : ¬ fa_first (shq W S wd lo co a) S < S := h
      omega
end RD

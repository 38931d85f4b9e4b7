/-! Hanging.spread finds what hangs -/
theorem isS_gap : ∀ q ∈ sh_l, q + 9 ≤ 77 ∨ 130 ≤ q := by decide
theorem alo_lt {bits row : Nat → Bool} (hb : ∀ x, 20 ≤ x → x < 32 → bits x = false) (hr : ∀ x, 20 ≤ x → x < 32 → row x = false) {x : Nat} (hx : x < 32) (h : alo bits row x) : x < 20 := by
  rcases Nat.lt_or_ge x 20 with g | g
  · exact g
  · rcases h with ⟨z, h1, h2, h3⟩ | ⟨z, h1, h2, h3, -⟩
    · by_cases e : z = x
      · subst e; rw [hb z g hx] at h2; cases h2
      · have := h3 x (by omega) (Nat.le_refl _)
        rw [hr x g hx] at this
        cases this
    · rw [hb z (by omega) h2] at h3; cases h3
theorem alo_ind {bits row : Nat → Bool} {S : Nat → Prop} (h0 : ∀ z, z < 32 → bits z = true → S z) (h1 : ∀ x, x + 1 < 32 → S x → row (x + 1) = true → S (x + 1)) (h2 : ∀ x, x + 1 < 32 → S (x + 1) → row x = true → S x) {x : Nat} (hx : x < 32) (h : alo bits row x) : S x := by
  rcases h with ⟨z, g1, g2, g3⟩ | ⟨z, g1, g4, g2, g3⟩
  · obtain ⟨d, rfl⟩ := Nat.exists_eq_add_of_le g1
    clear g1
    induction d with
    | zero => exact h0 z hx g2
    | succ d ih => exact h1 (z + d) hx (ih (by omega) (fun j p q => g3 j p (by omega))) (g3 _ (by omega) (Nat.le_refl _))
  · obtain ⟨d, rfl⟩ := Nat.exists_eq_add_of_le g1
    clear g1
    induction d generalizing x with
    | zero => exact h0 x hx g2
    | succ d ih =>
      have e : x + (d + 1) = (x + 1) + d := by omega
      exact h2 x (by omega) (ih (x := x + 1) (by omega) (by omega) (by rw [← e]; exact g2) (fun j p q => g3 j (by omega) (by omega))) (g3 x (Nat.le_refl _) (by omega))
theorem alo_up {bits row : Nat → Bool} {x : Nat} (hr : row (x + 1) = true) (h : alo bits row x) : alo bits row (x + 1) := by
  rcases h with ⟨z, g1, g2, g3⟩ | ⟨z, g1, g4, g2, g3⟩
  · refine Or.inl ⟨z, by omega, g2, fun j p q => ?_⟩
    by_cases e : j = x + 1
    · subst e; exact hr
    · exact g3 j p (by omega)
  · by_cases e : z = x
    · subst e
      refine Or.inl ⟨z, by omega, g2, fun j p q => ?_⟩
      have : j = z + 1 := by omega
      subst this
      exact hr
    · exact Or.inr ⟨z, by omega, g4, g2, fun j p q => g3 j (by omega) q⟩
theorem alo_dn {bits row : Nat → Bool} {x : Nat} (hx : x + 1 < 32) (hr : row x = true) (h : alo bits row (x + 1)) : alo bits row x := by
  rcases h with ⟨z, g1, g2, g3⟩ | ⟨z, g1, g4, g2, g3⟩
  · by_cases e : z = x + 1
    · subst e
      refine Or.inr ⟨x + 1, by omega, hx, g2, fun j p q => ?_⟩
      have : j = x := by omega
      subst this
      exact hr
    · exact Or.inl ⟨z, by omega, g2, fun j p q => g3 j p (by omega)⟩
  · refine Or.inr ⟨z, by omega, g4, g2, fun j p q => ?_⟩
    by_cases e : j = x
    · subst e; exact hr
    · exact g3 j (by omega) q
def spJ (t a h : Nat → Bool) : Prop := (∀ q, q < 400 → h q = true → hng t a q) ∧ (∀ q, q < 400 → t q = true → a q = true → h q = true) ∧ ∀ p q, h p = true → adj p q → p / 20 = q / 20 → t q = true → h q = true
theorem ct_more {h h' : Nat → Bool} {n b : Nat} (hs : ∀ q, q < n → h q = true → h' q = true) (hb : b < n) (h1 : h b = false) (h2 : h' b = true) : fb_ct h n < fb_ct h' n := by
  have e := fb_ct_upd h true (i := b) (n := n) hb
  rw [h1, if_neg (by decide), if_pos rfl, Nat.add_zero] at e
  have := fb_ct_sub (p := fun k => if k = b then true else h k) (q := h') (n := n) (fun k hk g => by
    by_cases hkb : k = b
    · subst hkb; exact h2
    · have g : (if k = b then true else h k) = true := g
      rw [if_neg hkb] at g
      exact hs k hk g)
  omega
/-- a row of the picture with runs put in -/
theorem pull_run (X : qz_X) {st : sT} {t a h : Nat → Bool} (ht : rows (st.1 87) t) (hh : rows (st.1 88) h) (hj : spJ t a h) {y f : Nat} (hy : y < 20) (hf : f < 20) (hyf : y = f + 1 ∨ f = y + 1) :
    (rn 128 0 [some (.ref 86), some (.int (nI y)), some (.int (nI f)), none] [] (mk X st) = some (some (.int (nI 0)), mk X st) ∧ ∀ x, x < 20 → h (20 * f + x) = true → t (20 * y + x) = true → h (20 * y + x) = true) ∨
    ∃ (v : Int32) (h' : Nat → Bool), rn 128 0 [some (.ref 86), some (.int (nI y)), some (.int (nI f)), none] [] (mk X st) = some (some (.int (nI 1)), mk X (su st 88 y v)) ∧ rows ((su st 88 y v).1 88) h' ∧ spJ t a h' ∧ (∀ q, h q = true → h' q = true) ∧ fb_ct h 400 < fb_ct h' 400 ∧ 0 < fb_ct h 400 := by
  have hfr : ∀ x, x < 32 → bt ((st.1 88 f &&& st.1 87 y) &&& (st.1 88 y ^^^ (-1))) x = (decide (x < 20) && (h (20 * f + x) && t (20 * y + x) && !h (20 * y + x))) := by
    intro x hx
    rw [b_and, b_and, b_not _ hx, hh f hf x hx, ht y hy x hx, hh y hy x hx]
    cases decide (x < 20) <;> cases h (20 * f + x) <;> cases t (20 * y + x) <;> cases h (20 * y + x) <;> rfl
  rw [e_Hanging_pull_0, g_H_hung, i_H_hung hf, g_H_tin, i_H_tin hy, g_H_hung, i_H_hung hy]
  by_cases hz : (st.1 88 f &&& st.1 87 y) &&& (st.1 88 y ^^^ (-1)) = 0
  · refine Or.inl ⟨by rw [if_pos hz], fun x hx h1 h2 => ?_⟩
    have := b_zero.mp hz x (by omega)
    rw [hfr x (by omega), h1, h2, decide_eq_true hx] at this
    cases hc : h (20 * y + x)
    · rw [hc] at this; cases this
    · rfl
  · rw [if_neg hz, g_H_hung, i_H_hung hy, g_H_tin, i_H_tin hy]
    generalize hF : (st.1 88 f &&& st.1 87 y) &&& (st.1 88 y ^^^ (-1)) = F at *
    have hb20 : ∀ x, 20 ≤ x → x < 32 → bt F x = false := fun x h1 h2 => by rw [hfr x h2, decide_eq_false (by omega)]; rfl
    have hr20 : ∀ x, 20 ≤ x → x < 32 → bt (st.1 87 y) x = false := fun x h1 h2 => by rw [ht y hy x h2, decide_eq_false (by omega)]; rfl
    obtain ⟨r, hr, br⟩ := along_run (mk X st) F (st.1 87 y) (hb20 31 (by decide) (by decide)) (hr20 31 (by decide) (by decide))
    have br20 : ∀ x, x < 32 → bt r x = true → x < 20 := fun x hx h => alo_lt hb20 hr20 hx ((br x hx).mp h)
    have hrow : ∀ x, x < 20 → (bt (st.1 87 y) x = true ↔ t (20 * y + x) = true) := fun x hx => by rw [ht y hy x (by omega), decide_eq_true hx, Bool.true_and]
    -- a fresh square
    have hex : ∃ x, x < 20 ∧ bt F x = true := by
      apply Classical.byContradiction
      intro hn
      apply hz
      rw [b_zero]
      intro x hx
      cases hc : bt F x
      · rfl
      · rcases Nat.lt_or_ge x 20 with g | g
        · exact absurd ⟨x, g, hc⟩ hn
        · rw [hb20 x g hx] at hc; cases hc
    obtain ⟨x0, hx0, hF0⟩ := hex
    have hF0' := hfr x0 (by omega)
    rw [hF0, decide_eq_true hx0, Bool.true_and] at hF0'
    have hF0a : h (20 * f + x0) = true ∧ t (20 * y + x0) = true ∧ h (20 * y + x0) = false := by
      cases g1 : h (20 * f + x0) <;> cases g2 : t (20 * y + x0) <;> cases g3 : h (20 * y + x0) <;> rw [g1, g2, g3] at hF0' <;> first | exact ⟨rfl, rfl, rfl⟩ | cases hF0'
    refine Or.inr ⟨st.1 88 y ||| r, fun q => h q || (decide (q / 20 = y) && bt r (q % 20)), ?_, ?_, ⟨?_, ?_, ?_⟩, ?_, ?_, ?_⟩
    · rw [hr, r1_s, w_H_hung hy]
    · intro y' hy' x hx
      rw [su_1]
      dsimp only
      by_cases e : y' = y
      · subst e
        rw [if_pos ⟨rfl, rfl⟩, b_or, hh y' hy' x hx]
        by_cases h20 : x < 20
        · rw [show (20 * y' + x) / 20 = y' by omega, show (20 * y' + x) % 20 = x by omega, decide_eq_true h20, decide_eq_true rfl]; rfl
        · have : bt r x = false := by
            cases hc : bt r x
            · rfl
            · exact absurd (br20 x hx hc) h20
          rw [this, decide_eq_false h20]; rfl
      · rw [if_neg (fun z => e z.2), hh y' hy' x hx]
        by_cases h20 : x < 20
        · rw [show (20 * y' + x) / 20 = y' by omega, decide_eq_false e, Bool.false_and, Bool.or_false]
        · rw [decide_eq_false h20]; rfl
    · intro q hq hg
      have hg : (h q || (decide (q / 20 = y) && bt r (q % 20))) = true := hg
      rw [Bool.or_eq_true, Bool.and_eq_true, decide_eq_true_eq] at hg
      rcases hg with hg | ⟨e, hg⟩
      · exact hj.1 q hq hg
      · have key := alo_ind (bits := bt F) (row := bt (st.1 87 y)) (S := fun x => x < 20 ∧ hng t a (20 * y + x)) (fun z hz hb => by
          have h20 : z < 20 := by
            rcases Nat.lt_or_ge z 20 with g | g
            · exact g
            · rw [hb20 z g hz] at hb; cases hb
          have := hfr z hz
          rw [hb, decide_eq_true h20, Bool.true_and] at this
          have hz1 : h (20 * f + z) = true ∧ t (20 * y + z) = true := by
            cases g1 : h (20 * f + z) <;> cases g2 : t (20 * y + z) <;> rw [g1, g2] at this <;> first | exact ⟨rfl, rfl⟩ | cases this
          refine ⟨h20, hng_step (hj.1 _ (by omega) hz1.1) ?_ hz1.2⟩
          rw [adj_iff]
          refine ⟨by omega, by omega, ?_⟩
          rcases hyf with e | e <;> subst e <;> omega) (fun x hx hS hrw => by
            have h20 : x + 1 < 20 := by
              rcases Nat.lt_or_ge (x + 1) 20 with g | g
              · exact g
              · rw [hr20 _ g hx] at hrw; cases hrw
            refine ⟨h20, hng_step hS.2 ?_ ((hrow _ h20).mp hrw)⟩
            rw [adj_iff]
            exact ⟨by omega, by omega, Or.inr (Or.inl ⟨by omega, by omega⟩)⟩) (fun x hx hS hrw => by
            have h20 := hS.1
            refine ⟨by omega, hng_step hS.2 ?_ ((hrow _ (by omega)).mp hrw)⟩
            rw [adj_iff]
            exact ⟨by omega, by omega, Or.inr (Or.inr (Or.inr ⟨by omega, by omega⟩))⟩) (x := q % 20) (by omega) ((br _ (by omega)).mp hg)
        have key := key.2
        rw [show 20 * y + q % 20 = q by omega] at key
        exact key
    · intro q hq h1 h2
      show (h q || _) = true
      rw [hj.2.1 q hq h1 h2]; rfl
    · intro p q hp hadj hpq htq
      have hp : (h p || (decide (p / 20 = y) && bt r (p % 20))) = true := hp
      show (h q || (decide (q / 20 = y) && bt r (q % 20))) = true
      rw [Bool.or_eq_true, Bool.and_eq_true, decide_eq_true_eq] at hp ⊢
      rcases hp with hp | ⟨e, hp⟩
      · exact Or.inl (hj.2.2 p q hp hadj hpq htq)
      · refine Or.inr ⟨by omega, ?_⟩
        have hadj := adj_iff.mp hadj
        rw [br _ (by omega)] at hp ⊢
        have htq' : bt (st.1 87 y) (q % 20) = true := by
          rw [hrow _ (by omega), show 20 * y + q % 20 = q by omega]
          exact htq
        rcases (show q % 20 = p % 20 + 1 ∨ q % 20 + 1 = p % 20 by omega) with g | g
        · rw [g] at htq' ⊢
          exact alo_up htq' hp
        · rw [← g] at hp
          exact alo_dn (by omega) htq' hp
    · intro q hq
      show (h q || _) = true
      rw [hq]; rfl
    · refine ct_more (b := 20 * y + x0) (fun q _ hq => ?_) (by omega) hF0a.2.2 ?_
      · show (h q || _) = true
        rw [hq]; rfl
      · show (h (20 * y + x0) || (decide ((20 * y + x0) / 20 = y) && bt r ((20 * y + x0) % 20))) = true
        rw [show (20 * y + x0) / 20 = y by omega, show (20 * y + x0) % 20 = x0 by omega, decide_eq_true rfl, (br x0 (by omega)).mpr (Or.inl ⟨x0, Nat.le_refl _, hF0, fun j p q => by omega⟩)]
        simp
    · exact fb_ct_pos.mpr ⟨20 * f + x0, by omega, hF0a.1⟩
/-- what a sweep keeps: frame, rows, the picture -/
def swp (s st : sT) (t a h : Nat → Bool) : Prop := st.2 = s.2 ∧ (∀ c, c ≠ 88 → st.1 c = s.1 c) ∧ rows (st.1 88) h ∧ spJ t a h
theorem swp_su {s st : sT} {t a h h' : Nat → Bool} {y : Nat} {v : Int32} (hw : swp s st t a h) (hr : rows ((su st 88 y v).1 88) h') (hj : spJ t a h') : swp s (su st 88 y v) t a h' := by
  refine ⟨hw.1, fun c hc => ?_, hr, hj⟩
  rw [← hw.2.1 c hc]
  funext j
  rw [su_1, if_neg (fun z => hc z.1)]
def bI (b : Bool) : Int32 := if b then nI 1 else nI 0
theorem bI_z {α : Type} (b : Bool) (A B : α) : (if bI b = 0 then A else B) = if b then B else A := told_int b A B
/-- of a sweep so far: nothing changed and the pairs seen are closed, or more hang -/
def swQ (t h h' : Nat → Bool) (m : Bool) (C : Nat → Nat → Prop) : Prop := (m = false → h' = h ∧ ∀ y f, C y f → ∀ x, x < 20 → h (20 * f + x) = true → t (20 * y + x) = true → h (20 * y + x) = true) ∧ (m = true → fb_ct h 400 < fb_ct h' 400 ∧ 0 < fb_ct h 400) ∧ fb_ct h 400 ≤ fb_ct h' 400
theorem swQ_pull (X : qz_X) {s st : sT} {t a h h' : Nat → Bool} {m : Bool} {C C' : Nat → Nat → Prop} (ht : rows (s.1 87) t) (hw : swp s st t a h') (hq : swQ t h h' m C) {y f : Nat} (hy : y < 20) (hf : f < 20) (hyf : y = f + 1 ∨ f = y + 1) (hC : ∀ y' f', C' y' f' → C y' f' ∨ (y' = y ∧ f' = f)) : ∃ (st2 : sT) (h2 : Nat → Bool) (b : Bool), rn 128 0 [some (.ref 86), some (.int (nI y)), some (.int (nI f)), none] [] (mk X st) = some (some (.int (bI b)), mk X st2) ∧ swp s st2 t a h2 ∧ swQ t h h2 (m || b) C' := by
  have ht2 : rows (st.1 87) t := by rw [hw.2.1 87 (by decide)]; exact ht
  rcases pull_run X (a := a) ht2 hw.2.2.1 hw.2.2.2 hy hf hyf with ⟨e, hcl⟩ | ⟨v, h2, e, hr, hj, hsub, hct, hps⟩
  · refine ⟨st, h', false, e, hw, ?_⟩
    rw [Bool.or_false]
    refine ⟨fun hm => ⟨(hq.1 hm).1, fun y' f' hc => ?_⟩, hq.2.1, hq.2.2⟩
    rcases hC y' f' hc with hc | ⟨rfl, rfl⟩
    · exact (hq.1 hm).2 y' f' hc
    · rw [(hq.1 hm).1] at hcl
      exact hcl
  · refine ⟨su st 88 y v, h2, true, e, swp_su hw hr hj, ?_⟩
    rw [Bool.or_true]
    have hle := hq.2.2
    refine ⟨fun hm => (by cases hm), fun _ => ⟨by omega, ?_⟩, by omega⟩
    cases hm : m
    · rw [(hq.1 hm).1] at hps
      exact hps
    · exact (hq.2.1 hm).2
theorem bI_or {F : Int32 → Option qz_R} (m b : Bool) : (if bI b = 0 then F (bI m) else F (nI 1)) = F (bI (m || b)) := by
  rw [bI_z]
  cases b
  · rw [Bool.or_false]; rfl
  · rw [Bool.or_true]; rfl
theorem sweep_run (X : qz_X) {s st : sT} {t a h : Nat → Bool} (ht : rows (s.1 87) t) (hw : swp s st t a h) (i : Nat) : ∃ (st2 : sT) (h2 : Nat → Bool) (m : Bool), rn 129 75 [some (.ref 86), none, none, some (.int (nI 0)), some (.int (nI i)), some (.int (nI 1))] [] (mk X st) = rn 129 58 [some (.ref 86), none, none, some (.int (bI m)), some (.int (nI (i + 1))), none] [] (mk X st2) ∧ swp s st2 t a h2 ∧ swQ t h h2 m (fun y f => y < 20 ∧ f < 20 ∧ (y = f + 1 ∨ f = y + 1)) := by
  have d1 : ∀ (y : Nat) (x : sT × (Nat → Bool) × Bool), 1 ≤ y → y < 20 → (swp s x.1 t a x.2.1 ∧ swQ t h x.2.1 x.2.2 (fun y' f' => y' < y ∧ y' = f' + 1)) → ∃ z : sT × (Nat → Bool) × Bool, (swp s z.1 t a z.2.1 ∧ swQ t h z.2.1 z.2.2 (fun y' f' => y' < y + 1 ∧ y' = f' + 1)) ∧ rn 129 75 [some (.ref 86), none, none, some (.int (bI x.2.2)), some (.int (nI i)), some (.int (nI y))] [] (mk X x.1) = rn 129 75 [some (.ref 86), none, none, some (.int (bI z.2.2)), some (.int (nI i)), some (.int (nI (y + 1)))] [] (mk X z.1) := by
    rintro y ⟨u, g, m⟩ h1 hy ⟨p1, p2⟩
    dsimp only at p1 p2 ⊢
    obtain ⟨st2, h2, b, e, q1, q2⟩ := swQ_pull X (C' := fun y' f' => y' < y + 1 ∧ y' = f' + 1) ht p1 p2 (y := y) (f := y - 1) hy (by omega) (by omega) (fun y' f' hc => by omega)
    refine ⟨(st2, h2, m || b), ⟨q1, q2⟩, ?_⟩
    dsimp only
    rw [e_Hanging_spread_75, if_neg (nI_ge hy (by decide)), ck_H, pk_sub (by omega), e, r1_s, nI_add]
    exact bI_or (F := fun v => rn 129 75 [some (.ref 86), none, none, some (.int v), some (.int (nI i)), some (.int (nI (y + 1)))] [] (mk X st2)) m b
  obtain ⟨⟨u, g, m⟩, ⟨p1, p2⟩, e1⟩ := it_up (fun y (x : sT × (Nat → Bool) × Bool) => rn 129 75 [some (.ref 86), none, none, some (.int (bI x.2.2)), some (.int (nI i)), some (.int (nI y))] [] (mk X x.1)) (fun y x => swp s x.1 t a x.2.1 ∧ swQ t h x.2.1 x.2.2 (fun y' f' => y' < y ∧ y' = f' + 1)) (show 1 ≤ 20 by decide) d1 (x := (st, h, false)) ⟨hw, fun _ => ⟨rfl, fun y f hc => by omega⟩, fun hm => (by cases hm), Nat.le_refl _⟩
  dsimp only at p1 p2 e1
  have d2 : ∀ (y : Nat) (x : sT × (Nat → Bool) × Bool), y < 19 → (swp s x.1 t a x.2.1 ∧ swQ t h x.2.1 x.2.2 (fun y' f' => (y' < 20 ∧ y' = f' + 1) ∨ (y + 1 ≤ y' ∧ y' < 19 ∧ f' = y' + 1))) → ∃ z : sT × (Nat → Bool) × Bool, (swp s z.1 t a z.2.1 ∧ swQ t h z.2.1 z.2.2 (fun y' f' => (y' < 20 ∧ y' = f' + 1) ∨ (y ≤ y' ∧ y' < 19 ∧ f' = y' + 1))) ∧ rn 129 107 [some (.ref 86), none, none, some (.int (bI x.2.2)), some (.int (nI i)), some (.int (nI (y + 1) + (-1)))] [] (mk X x.1) = rn 129 107 [some (.ref 86), none, none, some (.int (bI z.2.2)), some (.int (nI i)), some (.int (nI y + (-1)))] [] (mk X z.1) := by
    rintro y ⟨u, g, m⟩ hy ⟨p1, p2⟩
    dsimp only at p1 p2 ⊢
    obtain ⟨st2, h2, b, e, q1, q2⟩ := swQ_pull X (C' := fun y' f' => (y' < 20 ∧ y' = f' + 1) ∨ (y ≤ y' ∧ y' < 19 ∧ f' = y' + 1)) ht p1 p2 (y := y) (f := y + 1) (by omega) (by omega) (by omega) (fun y' f' hc => by omega)
    refine ⟨(st2, h2, m || b), ⟨q1, q2⟩, ?_⟩
    dsimp only
    rw [pk_m1, e_Hanging_spread_107, if_neg (nI_pos (by omega)), ck_H, nI_add, e, r1_s]
    exact bI_or (F := fun v => rn 129 107 [some (.ref 86), none, none, some (.int v), some (.int (nI i)), some (.int (nI y + (-1)))] [] (mk X st2)) m b
  obtain ⟨⟨u2, g2, m2⟩, ⟨q1, q2⟩, e2⟩ := it_dn (fun y (x : sT × (Nat → Bool) × Bool) => rn 129 107 [some (.ref 86), none, none, some (.int (bI x.2.2)), some (.int (nI i)), some (.int (nI y + (-1)))] [] (mk X x.1)) (fun y x => swp s x.1 t a x.2.1 ∧ swQ t h x.2.1 x.2.2 (fun y' f' => (y' < 20 ∧ y' = f' + 1) ∨ (y ≤ y' ∧ y' < 19 ∧ f' = y' + 1))) 19 d2 (x := (u, g, m)) ⟨p1, fun hm => ⟨(p2.1 hm).1, fun y f hc => (p2.1 hm).2 y f (by omega)⟩, p2.2.1, p2.2.2⟩
  dsimp only at q1 q2 e2
  refine ⟨u2, g2, m2, ?_, q1, fun hm => ⟨(q2.1 hm).1, fun y f hc => (q2.1 hm).2 y f (by omega)⟩, q2.2.1, q2.2.2⟩
  rw [show (nI 0 : Int32) = bI false from rfl, e1, e_Hanging_spread_75, if_pos (nI_le (by decide) (by decide)), show (nI 18 : Int32) = nI 19 + (-1) from by decide, e2, e_Hanging_spread_107, if_pos (by decide), nI_add]
/-- spread: the rows of TIN, of what hangs, of what falls -/
theorem spread_run (X : qz_X) {s : sT} {q : Nat} {A : shT} (hq : isS q) (ok : okA A) (hC : isC s q A) (v : Int32) : ∃ st : sT, rn 129 0 [some (.ref 86), some (.ref q), some (.int v), none, none, none] [] (mk X s) = some (none, mk X st) ∧ st.2 = s.2 ∧ (∀ c, c ≠ 87 → c ≠ 88 → c ≠ 89 → st.1 c = s.1 c) ∧ rows (st.1 87) (tin A v) ∧ rows (st.1 88) (hB (tin A v) (rim A)) ∧ rows (st.1 89) (fun j => tin A v j && !hB (tin A v) (rim A) j) := by
  have hlt := isS_lt q hq
  have hgap := isS_gap q hq
  -- the first rows
  have f1 : ∀ (i : Nat) (u : sT), 0 ≤ i → i < 20 → (u.2 = s.2 ∧ (∀ c, c ≠ 87 → c ≠ 88 → u.1 c = s.1 c) ∧ (∀ y, y < i → ∀ x, x < 32 → bt (u.1 87 y) x = (decide (x < 20) && tin A v (20 * y + x))) ∧ ∀ y, y < i → ∀ x, x < 32 → (bt (u.1 88 y) x = true ↔ alo (fun x => decide (x < 20) && (tin A v (20 * y + x) && rim A (20 * y + x))) (fun x => decide (x < 20) && tin A v (20 * y + x)) x)) → ∃ z : sT, (z.2 = s.2 ∧ (∀ c, c ≠ 87 → c ≠ 88 → z.1 c = s.1 c) ∧ (∀ y, y < i + 1 → ∀ x, x < 32 → bt (z.1 87 y) x = (decide (x < 20) && tin A v (20 * y + x))) ∧ ∀ y, y < i + 1 → ∀ x, x < 32 → (bt (z.1 88 y) x = true ↔ alo (fun x => decide (x < 20) && (tin A v (20 * y + x) && rim A (20 * y + x))) (fun x => decide (x < 20) && tin A v (20 * y + x)) x)) ∧ rn 129 2 [some (.ref 86), some (.ref q), some (.int v), some (.int (nI i)), none, none] [] (mk X u) = rn 129 2 [some (.ref 86), some (.ref q), some (.int v), some (.int (nI (i + 1))), none, none] [] (mk X z) := by
    rintro i u _ hi ⟨u1, u2, u3, u4⟩
    have hCu : isC u q A := isC_cong (fun j hj => u2 _ (by omega) (by omega)) hC
    obtain ⟨r, hr, br⟩ := tinRow_run X hq ok hCu v (y := i) hi
    have hCu2 : isC (su u 87 i r) q A := isC_cong (fun j hj => funext fun l => by rw [su_1, if_neg (by omega)]) hCu
    obtain ⟨m, hm, bm⟩ := rimRow_run X hq ok hCu2 (y := i) hi
    have h31 : bt (r &&& m) 31 = false := by rw [b_and, br 31 (by decide)]; simp
    have h31' : bt r 31 = false := by rw [br 31 (by decide)]; simp
    obtain ⟨l, hl, bl⟩ := along_run (mk X (su u 87 i r)) (r &&& m) r h31 h31'
    have e8 : (su u 87 i r).1 87 i = r := by rw [su_1, if_pos ⟨rfl, rfl⟩]
    refine ⟨su (su u 87 i r) 88 i l, ⟨u1, fun c p q => ?_, fun y hy x hx => ?_, fun y hy x hx => ?_⟩, ?_⟩
    · rw [← u2 c p q]
      funext j
      rw [su_1, if_neg (fun z => q z.1), su_1, if_neg (fun z => p z.1)]
    · rw [su_1, if_neg (by omega), su_1]
      by_cases e : y = i
      · subst e
        rw [if_pos ⟨rfl, rfl⟩, br x hx]
      · rw [if_neg (fun z => e z.2)]
        exact u3 y (by omega) x hx
    · rw [su_1]
      by_cases e : y = i
      · subst e
        rw [if_pos ⟨rfl, rfl⟩, bl x hx]
        have c1 : ∀ z, z < 32 → bt (r &&& m) z = (decide (z < 20) && (tin A v (20 * y + z) && rim A (20 * y + z))) := by
          intro z hz
          rw [b_and, br z hz, bm z hz]
          cases decide (z < 20) <;> cases tin A v (20 * y + z) <;> cases rim A (20 * y + z) <;> rfl
        unfold alo
        constructor
        · rintro (⟨z, g1, g2, g3⟩ | ⟨z, g1, g2, g3, g4⟩)
          · exact Or.inl ⟨z, g1, (c1 z (by omega)).symm.trans g2, fun j p q => (br j (by omega)).symm.trans (g3 j p q)⟩
          · exact Or.inr ⟨z, g1, g2, (c1 z g2).symm.trans g3, fun j p q => (br j (by omega)).symm.trans (g4 j p q)⟩
        · rintro (⟨z, g1, g2, g3⟩ | ⟨z, g1, g2, g3, g4⟩)
          · exact Or.inl ⟨z, g1, by rw [c1 z (by omega)]; exact g2, fun j p q => by rw [br j (by omega)]; exact g3 j p q⟩
          · exact Or.inr ⟨z, g1, g2, by rw [c1 z g2]; exact g3, fun j p q => by rw [br j (by omega)]; exact g4 j p q⟩
      · rw [if_neg (fun z => e z.2), su_1, if_neg (by omega)]
        exact u4 y (by omega) x hx
    · rw [e_Hanging_spread_2, if_neg (nI_ge hi (by decide)), g_H_tin, ck_S hq, hr, r1_s, w_H_tin hi, g_H_hung, g_H_tin, i_H_tin hi, e8, ck_S hq, hm, r1_s, g_H_tin, i_H_tin hi, e8, hl, r1_s, w_H_hung hi, nI_add]
  obtain ⟨u, ⟨u1, u2, u3, u4⟩, e1⟩ := it_up (fun i (u : sT) => rn 129 2 [some (.ref 86), some (.ref q), some (.int v), some (.int (nI i)), none, none] [] (mk X u)) (fun i u => u.2 = s.2 ∧ (∀ c, c ≠ 87 → c ≠ 88 → u.1 c = s.1 c) ∧ (∀ y, y < i → ∀ x, x < 32 → bt (u.1 87 y) x = (decide (x < 20) && tin A v (20 * y + x))) ∧ ∀ y, y < i → ∀ x, x < 32 → (bt (u.1 88 y) x = true ↔ alo (fun x => decide (x < 20) && (tin A v (20 * y + x) && rim A (20 * y + x))) (fun x => decide (x < 20) && tin A v (20 * y + x)) x)) (Nat.zero_le 20) f1 (x := s) ⟨rfl, fun _ _ _ => rfl, fun y hy => absurd hy (Nat.not_lt_zero y), fun y hy => absurd hy (Nat.not_lt_zero y)⟩
  try dsimp only at e1
  -- the picture of the first rows
  have hb20 : ∀ y x, 20 ≤ x → x < 32 → (decide (x < 20) && (tin A v (20 * y + x) && rim A (20 * y + x))) = false := fun y x h _ => by rw [decide_eq_false (by omega)]; rfl
  have hr20 : ∀ y x, 20 ≤ x → x < 32 → (decide (x < 20) && tin A v (20 * y + x)) = false := fun y x h _ => by rw [decide_eq_false (by omega)]; rfl
  have ht : rows (u.1 87) (tin A v) := u3
  have hh0 : rows (u.1 88) (fun j => bt (u.1 88 (j / 20)) (j % 20)) := by
    intro y hy x hx
    dsimp only
    by_cases h20 : x < 20
    · rw [show (20 * y + x) / 20 = y by omega, show (20 * y + x) % 20 = x by omega, decide_eq_true h20, Bool.true_and]
    · rw [decide_eq_false h20, Bool.false_and]
      cases hc : bt (u.1 88 y) x
      · rfl
      · exact absurd (alo_lt (hb20 y) (hr20 y) hx ((u4 y hy x hx).mp hc)) h20
  have hJ0 : spJ (tin A v) (rim A) (fun j => bt (u.1 88 (j / 20)) (j % 20)) := by
    refine ⟨fun p hp hg => ?_, fun p hp h1 h2 => ?_, fun p r hp hadj hpr htr => ?_⟩
    · have hg := (u4 (p / 20) (by omega) (p % 20) (by omega)).mp hg
      have key := alo_ind (S := fun x => x < 20 ∧ hng (tin A v) (rim A) (20 * (p / 20) + x)) (fun z hz hb => by
        rw [Bool.and_eq_true, Bool.and_eq_true, decide_eq_true_eq] at hb
        exact ⟨hb.1, hng_seed (by omega) hb.2.1 hb.2.2⟩) (fun x hx hS hrw => by
        rw [Bool.and_eq_true, decide_eq_true_eq] at hrw
        refine ⟨hrw.1, hng_step hS.2 ?_ hrw.2⟩
        rw [adj_iff]
        exact ⟨by omega, by omega, Or.inr (Or.inl ⟨by omega, by omega⟩)⟩) (fun x hx hS hrw => by
        rw [Bool.and_eq_true, decide_eq_true_eq] at hrw
        refine ⟨hrw.1, hng_step hS.2 ?_ hrw.2⟩
        have := hS.1
        rw [adj_iff]
        exact ⟨by omega, by omega, Or.inr (Or.inr (Or.inr ⟨by omega, by omega⟩))⟩) (by omega) hg
      have key := key.2
      rw [xy_q] at key
      exact key
    · show bt (u.1 88 (p / 20)) (p % 20) = true
      rw [u4 (p / 20) (by omega) (p % 20) (by omega)]
      refine Or.inl ⟨p % 20, Nat.le_refl _, ?_, fun j a b => by omega⟩
      show (decide (p % 20 < 20) && (tin A v (20 * (p / 20) + p % 20) && rim A (20 * (p / 20) + p % 20))) = true
      rw [xy_q, h1, h2, decide_eq_true (by omega)]; rfl
    · have hadj := adj_iff.mp hadj
      have hp : bt (u.1 88 (p / 20)) (p % 20) = true := hp
      show bt (u.1 88 (r / 20)) (r % 20) = true
      rw [← hpr]
      rw [u4 (p / 20) (by omega) _ (by omega)] at hp ⊢
      have htr' : (decide (r % 20 < 20) && tin A v (20 * (p / 20) + r % 20)) = true := by
        rw [decide_eq_true (by omega), hpr, xy_q, htr]; rfl
      rcases (show r % 20 = p % 20 + 1 ∨ r % 20 + 1 = p % 20 by omega) with g | g
      · rw [g] at htr' ⊢
        exact alo_up htr' hp
      · rw [← g] at hp
        exact alo_dn (by omega) htr' hp
  -- the sweeps
  have outer : ∀ x : sT × (Nat → Bool) × Bool × Nat, (swp u x.1 (tin A v) (rim A) x.2.1 ∧ (x.2.2.1 = false → ∀ y f, (y < 20 ∧ f < 20 ∧ (y = f + 1 ∨ f = y + 1)) → ∀ z, z < 20 → x.2.1 (20 * f + z) = true → tin A v (20 * y + z) = true → x.2.1 (20 * y + z) = true) ∧ (x.2.2.1 = true → x.2.2.2 = 0 ∨ x.2.2.2 < fb_ct x.2.1 400) ∧ x.2.2.2 ≤ 400) → (400 ≤ x.2.2.2 ∨ x.2.2.1 = false) ∨ ∃ y : sT × (Nat → Bool) × Bool × Nat, (swp u y.1 (tin A v) (rim A) y.2.1 ∧ (y.2.2.1 = false → ∀ y' f, (y' < 20 ∧ f < 20 ∧ (y' = f + 1 ∨ f = y' + 1)) → ∀ z, z < 20 → y.2.1 (20 * f + z) = true → tin A v (20 * y' + z) = true → y.2.1 (20 * y' + z) = true) ∧ (y.2.2.1 = true → y.2.2.2 = 0 ∨ y.2.2.2 < fb_ct y.2.1 400) ∧ y.2.2.2 ≤ 400) ∧ 401 - y.2.2.2 < 401 - x.2.2.2 ∧ rn 129 58 [some (.ref 86), none, none, some (.int (bI x.2.2.1)), some (.int (nI x.2.2.2)), none] [] (mk X x.1) = rn 129 58 [some (.ref 86), none, none, some (.int (bI y.2.2.1)), some (.int (nI y.2.2.2)), none] [] (mk X y.1) := by
    rintro ⟨w, h, m, i⟩ ⟨p1, p2, p3, p4⟩
    dsimp only at p1 p2 p3 p4 ⊢
    by_cases hi : 400 ≤ i
    · exact Or.inl (Or.inl hi)
    cases m
    · exact Or.inl (Or.inr rfl)
    · obtain ⟨w2, h2, m2, e, q1, q2⟩ := sweep_run X (h := h) ht p1 i
      refine Or.inr ⟨(w2, h2, m2, i + 1), ⟨q1, fun hm => ?_, fun hm => ?_, by show i + 1 ≤ 400; omega⟩, by show 401 - (i + 1) < 401 - i; omega, ?_⟩
      · have := q2.1 hm
        dsimp only
        rw [this.1]
        exact this.2
      · have h3 := q2.2.1 hm
        have h4 := p3 rfl
        right
        show i + 1 < fb_ct h2 400
        omega
      · dsimp only
        rw [e_Hanging_spread_58, if_neg (nI_ge (by omega) (by decide)), bI_z, if_pos rfl, e]
  obtain ⟨⟨w, h, m, i⟩, ⟨p1, p2, p3, p4⟩, hex, e2⟩ := it_wh (fun (x : sT × (Nat → Bool) × Bool × Nat) => rn 129 58 [some (.ref 86), none, none, some (.int (bI x.2.2.1)), some (.int (nI x.2.2.2)), none] [] (mk X x.1)) (fun x => swp u x.1 (tin A v) (rim A) x.2.1 ∧ (x.2.2.1 = false → ∀ y f, (y < 20 ∧ f < 20 ∧ (y = f + 1 ∨ f = y + 1)) → ∀ z, z < 20 → x.2.1 (20 * f + z) = true → tin A v (20 * y + z) = true → x.2.1 (20 * y + z) = true) ∧ (x.2.2.1 = true → x.2.2.2 = 0 ∨ x.2.2.2 < fb_ct x.2.1 400) ∧ x.2.2.2 ≤ 400) (fun x => 400 ≤ x.2.2.2 ∨ x.2.2.1 = false) (fun x => 401 - x.2.2.2) outer (u, (fun j => bt (u.1 88 (j / 20)) (j % 20)), true, 0) ⟨⟨rfl, fun _ _ => rfl, hh0, hJ0⟩, fun h => (by cases h), fun _ => Or.inl rfl, Nat.zero_le _⟩
  dsimp only at p1 p2 p3 p4 hex e2
  have hm : m = false := by
    cases m
    · rfl
    · have h1 := p3 rfl
      have h2 := fb_ct_le h 400
      rcases hex with h3 | h3
      · omega
      · cases h3
  subst hm
  have hHB : ∀ j, j < 400 → h j = hB (tin A v) (rim A) j := by
    intro j hj
    rw [Bool.eq_iff_iff, hB_iff]
    refine hng_of p1.2.2.2.2.1 (fun p r hp hhp hadj htr => ?_) p1.2.2.2.1 hj
    by_cases hpr : p / 20 = r / 20
    · exact p1.2.2.2.2.2 p r hhp hadj hpr htr
    · have hadj := adj_iff.mp hadj
      have := p2 rfl (r / 20) (p / 20) (by omega) (p % 20) (by omega) (by rw [xy_q]; exact hhp) (by rw [show 20 * (r / 20) + p % 20 = r by omega]; exact htr)
      rw [show 20 * (r / 20) + p % 20 = r by omega] at this
      exact this
  have hh : rows (w.1 88) (hB (tin A v) (rim A)) := by
    intro y hy x hx
    rw [p1.2.2.1 y hy x hx]
    by_cases h20 : x < 20
    · rw [hHB _ (by omega)]
    · rw [decide_eq_false h20]; rfl
  have hw87 : w.1 87 = u.1 87 := p1.2.1 87 (by decide)
  -- what falls
  have f3 : ∀ (i : Nat) (z : sT), 0 ≤ i → i < 20 → z = sa w 89 (fun j => if j < i then (w.1 87 j &&& (w.1 88 j ^^^ (-1))) else w.1 89 j) → ∃ z2 : sT, z2 = sa w 89 (fun j => if j < i + 1 then (w.1 87 j &&& (w.1 88 j ^^^ (-1))) else w.1 89 j) ∧ rn 129 142 [some (.ref 86), none, none, none, some (.int (nI i)), none] [] (mk X z) = rn 129 142 [some (.ref 86), none, none, none, some (.int (nI (i + 1))), none] [] (mk X z2) := by
    rintro i z _ hi rfl
    refine ⟨_, rfl, ?_⟩
    have e := fl_s (fun j => w.1 87 j &&& (w.1 88 j ^^^ (-1))) (w.1 89) i
    try dsimp only at e
    rw [e_Hanging_spread_142, if_neg (nI_ge hi (by decide)), g_H_fallen, g_H_tin, i_H_tin hi, g_H_hung, i_H_hung hi, w_H_fallen hi, sa_1, sa_1, if_neg (by decide), if_neg (by decide), su_sa, e, nI_add]
  obtain ⟨z, hz, e3⟩ := it_up (fun i (z : sT) => rn 129 142 [some (.ref 86), none, none, none, some (.int (nI i)), none] [] (mk X z)) (fun i z => z = sa w 89 (fun j => if j < i then (w.1 87 j &&& (w.1 88 j ^^^ (-1))) else w.1 89 j)) (Nat.zero_le 20) f3 (x := w) (by
    have e := fl_0 (fun j => w.1 87 j &&& (w.1 88 j ^^^ (-1))) (w.1 89)
    try dsimp only at e
    rw [e, sa_id])
  try dsimp only at e3
  refine ⟨z, ?_, ?_, fun c c1 c2 c3 => ?_, ?_, ?_, ?_⟩
  · rw [e_Hanging_spread_0, e1, e_Hanging_spread_2, if_pos (nI_le (by decide) (by decide)), show (nI 1 : Int32) = bI true from rfl, e2, e_Hanging_spread_58]
    have : (if nI 400 ≤ nI i then rn 129 142 [some (.ref 86), none, none, none, some (.int (nI 0)), none] [] (mk X w) else if bI false = 0 then rn 129 142 [some (.ref 86), none, none, none, some (.int (nI 0)), none] [] (mk X w) else rn 129 75 [some (.ref 86), none, none, some (.int (nI 0)), some (.int (nI i)), some (.int (nI 1))] [] (mk X w)) = rn 129 142 [some (.ref 86), none, none, none, some (.int (nI 0)), none] [] (mk X w) := by
      rw [bI_z]
      by_cases h : nI 400 ≤ nI i
      · rw [if_pos h]
      · rw [if_neg h]; rfl
    rw [this, e3, e_Hanging_spread_142, if_pos (nI_le (by decide) (by decide))]
  · rw [hz, sa_2, p1.1, u1]
  · rw [hz, sa_1, if_neg c3, p1.2.1 c c2, u2 c c1 c2]
  · rw [hz, sa_1, if_neg (by decide), hw87]; exact ht
  · rw [hz, sa_1, if_neg (by decide)]; exact hh
  · intro y hy x hx
    rw [hz, sa_1, if_pos rfl, if_pos hy, b_and, b_not _ hx, hw87, ht y hy x hx, hh y hy x hx]
    dsimp only
    cases decide (x < 20) <;> cases tin A v (20 * y + x) <;> cases hB (tin A v) (rim A) (20 * y + x) <;> rfl

/-! how far a piece lies off, both; falls -/
theorem nb4_c {f g : Nat → Bool} (h : ∀ q, q < 400 → f q = g q) {q : Nat} (hq : q < 400) : nb4 f q = nb4 g q := by
  rw [Bool.eq_iff_iff, nb4_iff hq, nb4_iff hq]
  constructor
  · rintro ⟨p, hj, e⟩
    exact ⟨p, hj, by rw [← h p hj.1]; exact e⟩
  · rintro ⟨p, hj, e⟩
    exact ⟨p, hj, by rw [h p hj.1]; exact e⟩
theorem bd_c {I f g : Nat → Bool} (h : ∀ q, q < 400 → f q = g q) {q : Nat} (hq : q < 400) : bd I f q = bd I g q := by
  unfold bd
  rw [nb4_c h hq, h q hq]
theorem reg_c {I a b : Nat → Bool} (h : ∀ q, q < 400 → a q = b q) : ∀ k q, q < 400 → reg I a k q = reg I b k q
  | 0, q, hq => h q hq
  | k + 1, q, hq => by
    show (reg I a k q || bd I (reg I a k) q) = (reg I b k q || bd I (reg I b k) q)
    rw [reg_c h k q hq, bd_c (reg_c h k) hq]
theorem fnd_c {I a b : Nat → Bool} (h : ∀ q, q < 400 → a q = b q) {k : Nat} (g : fnd I a k) : fnd I b k := by
  obtain ⟨q, hq, e⟩ := g
  exact ⟨q, hq, by rw [← bd_c (reg_c h k) hq]; exact e⟩
theorem met_c {I a b t : Nat → Bool} (h : ∀ q, q < 400 → a q = b q) {k : Nat} (g : met I a t k) : met I b t k := by
  obtain ⟨q, hq, e, f⟩ := g
  exact ⟨q, hq, by rw [← bd_c (reg_c h k) hq]; exact e, f⟩
/-- the numbers that decide -/
def gD (I a t : Nat → Bool) (D : Nat) (r : Int32) : Prop := D < 400 ∧ (∀ j, j < D → fnd I a j ∧ ¬ met I a t j) ∧ (met I a t D ∨ ¬ fnd I a D) ∧ gsp I a t D r
theorem gD_ex (I a t : Nat → Bool) (ha : ∃ q, q < 400 ∧ a q = true) : ∃ D r, gD I a t D r := by
  obtain ⟨D, h1, h2, h3⟩ := gap_D I a t ha
  rcases Classical.em (met I a t D) with h | h
  · exact ⟨D, nI D, h1, h2, h3, Or.inl ⟨h, rfl⟩⟩
  · exact ⟨D, -1, h1, h2, h3, Or.inr ⟨h, rfl⟩⟩
theorem gD_c {I a b t : Nat → Bool} {D : Nat} {r : Int32} (h : ∀ q, q < 400 → a q = b q) (g : gD I a t D r) : gD I b t D r := by
  have h' : ∀ q, q < 400 → b q = a q := fun q hq => (h q hq).symm
  obtain ⟨h1, h2, h3, h4⟩ := g
  refine ⟨h1, fun j hj => ⟨fnd_c h (h2 j hj).1, fun m => (h2 j hj).2 (met_c h' m)⟩, ?_, ?_⟩
  · rcases h3 with h3 | h3
    · exact Or.inl (met_c h h3)
    · exact Or.inr (fun f => h3 (fnd_c h' f))
  · rcases h4 with ⟨m, e⟩ | ⟨m, e⟩
    · exact Or.inl ⟨met_c h m, e⟩
    · exact Or.inr ⟨fun z => m (met_c h' z), e⟩
theorem qok_H {H H' : Nat → Bool} {Q : Nat → Nat} {e : Nat} (h : ∀ q, q < 400 → H' q = H q) (g : qok H Q e) : qok H' Q e := by
  obtain ⟨h1, h2, h3⟩ := g
  exact ⟨by rw [h1]; exact fb_ct_cong (fun q hq => (h q hq).symm), fun i hi => ⟨(h2 i hi).1, by rw [h _ (h2 i hi).1]; exact (h2 i hi).2⟩, fun q hq hH => h3 q hq (by rw [← h q hq]; exact hH)⟩
def wv (s : sT) (I a : Nat → Bool) (d : Nat) (x : (sT × (Nat → Bool) × (Nat → Nat) × (Nat → Nat) × Nat) × Nat) : Prop := gms s x.1.1 x.1.2.1 x.1.2.2.1 x.1.2.2.2.1 x.1.2.2.2.2 ∧ (∀ q, q < 400 → x.1.2.1 q = reg I a d q) ∧ (∀ j, x.2 ≤ j → j < x.1.2.2.2.2 → x.1.2.2.1 (x.1.2.2.2.1 j) = d) ∧ (∀ q, q < 400 → x.1.2.1 q = true → x.1.2.2.1 q ≤ d + 1) ∧ x.2 ≤ x.1.2.2.2.2 ∧ ∀ j, j < x.2 → ∀ q, adj (x.1.2.2.2.1 j) q → I q = true → x.1.2.1 q = true
theorem wave (X : qz_X) {s : sT} {k : Nat} {A : shT} (hk : k < 7) (ok : okA A) (hM : isM (gN s) k A) (hgs : s.1 318 38 = nI k) {t a : Nat → Bool} (ht : ∀ j, j < 400 → s.1 334 j = if t j then nI 1 else nI 0) {d : Nat} (hd : d < 400) {x : (sT × (Nat → Bool) × (Nat → Nat) × (Nat → Nat) × Nat) × Nat} (hx : wv s (ins A) a d x) : (¬ met (ins A) a t d ∧ ∃ y, wv s (ins A) a (d + 1) (y, x.1.2.2.2.2) ∧ rn 159 63 [some (.ref 318), none, some (.int (nI x.1.2.2.2.2)), some (.int (nI x.2)), none, none] [] (mk X x.1.1) = rn 159 63 [some (.ref 318), none, some (.int (nI y.2.2.2.2)), some (.int (nI x.1.2.2.2.2)), none, none] [] (mk X y.1)) ∨ (met (ins A) a t d ∧ ∃ z : sT, rn 159 63 [some (.ref 318), none, some (.int (nI x.1.2.2.2.2)), some (.int (nI x.2)), none, none] [] (mk X x.1.1) = some (some (.int (nI d)), mk X z) ∧ z.2 = s.2 ∧ (∀ c, c ∉ [336, 341] → z.1 c = s.1 c)) := by
  obtain ⟨⟨u, H, L, Q, e⟩, k0⟩ := x
  obtain ⟨hg, hH, hL, hLb, hke, hcl⟩ := hx
  dsimp only at hg hH hL hLb hke hcl ⊢
  rcases it_ex (fun i (x : sT × (Nat → Bool) × (Nat → Nat) × (Nat → Nat) × Nat) => rn 159 63 [some (.ref 318), none, some (.int (nI x.2.2.2.2)), some (.int (nI i)), none, none] [] (mk X x.1)) (wav s (ins A) t (reg (ins A) a d) d k0 e Q) (fun r => ∃ z : sT, r = some (some (.int (nI d)), mk X z) ∧ z.2 = s.2 ∧ (∀ c, c ∉ [336, 341] → z.1 c = s.1 c) ∧ ∃ q, q < 400 ∧ bd (ins A) (reg (ins A) a d) q = true ∧ t q = true) hke (wav_step X hk ok hM hgs ht hd (fun j hj => ⟨(hg.2.2.2.2.2.1 j hj).1, by rw [← hH _ (hg.2.2.2.2.2.1 j hj).1]; exact (hg.2.2.2.2.2.1 j hj).2⟩)) (x := (u, H, L, Q, e)) ⟨hg, Nat.le_refl e, fun _ _ => rfl, fun q hq h => by rw [← hH q hq] at h; exact h, fun q hq h => Or.inl (by rw [← hH q hq]; exact h), hL, fun j h1 h2 => absurd h2 (Nat.not_lt.mpr h1), hLb, hcl⟩ with ⟨⟨u2, H2, L2, Q2, e2⟩, hw, eq⟩ | ⟨z, hz, z2, zc, q, hq, hb, htq⟩
  · obtain ⟨g1, g2, g3, g4, g5, g6, g7, g8, g9⟩ := hw
    dsimp only at g1 g2 g3 g4 g5 g6 g7 g8 g9 eq
    have key : ∀ q, q < 400 → bd (ins A) (reg (ins A) a d) q = true → H2 q = true := by
      intro q hq hb
      have hb2 := hb
      unfold bd at hb2
      rw [Bool.and_eq_true, Bool.and_eq_true] at hb2
      obtain ⟨p, hj, hp⟩ := (nb4_iff hq).mp hb2.1.1
      rw [← hH p hj.1] at hp
      obtain ⟨i, hi, e5⟩ := hg.2.2.2.2.2.2 p hj.1 hp
      exact g9 i hi q (by rw [e5]; exact hj) hb2.2
    refine Or.inl ⟨?_, (u2, H2, L2, Q2, e2), ⟨g1, fun q hq => ?_, fun j h1 h2 => ?_, fun q hq h => ?_, g2, fun j hj q h1 h2 => ?_⟩, eq⟩
    · rintro ⟨q, hq, hb, htq⟩
      rcases g5 q hq (key q hq hb) with h | ⟨-, h⟩
      · unfold bd at hb
        rw [h] at hb
        simp at hb
      · rw [htq] at h; cases h
    · show H2 q = (reg (ins A) a d q || bd (ins A) (reg (ins A) a d) q)
      rw [Bool.eq_iff_iff, Bool.or_eq_true]
      constructor
      · intro h
        rcases g5 q hq h with h | ⟨h, -⟩
        · exact Or.inl h
        · exact Or.inr h
      · rintro (h | h)
        · exact g4 q hq h
        · exact key q hq h
    · exact g7 j h1 h2
    · have := g8 q hq h
      show L2 q ≤ d + 1 + 1
      omega
    · have h1 : adj (Q2 j) q := h1
      rw [g3 j hj] at h1
      exact g9 j hj q h1 h2
  · exact Or.inr ⟨⟨q, hq, hb, htq⟩, z, hz, z2, zc⟩
theorem M_gap_run (X : qz_X) {s : sT} {k : Nat} {A : shT} (hk : k < 7) (ok : okA A) (hM : isM (gN s) k A) (hgs : s.1 318 38 = nI k) {t a : Nat → Bool} (ht : ∀ j, j < 400 → s.1 334 j = if t j then nI 1 else nI 0) {v r : Int32} (ha : ∀ q, q < 400 → decide (s.1 337 q = v) = a q) {D : Nat} (hD : gD (ins A) a t D r) : ∃ st : sT, rn 159 0 [some (.ref 318), some (.int v), none, none, none, none] [] (mk X s) = some (some (.int r), mk X st) ∧ st.2 = s.2 ∧ ∀ c, c ∉ [336, 341] → st.1 c = s.1 c := by
  obtain ⟨D4, hD1, hD2, hr⟩ := hD
  have fs : ∀ (i : Nat) (x : sT × (Nat → Nat) × Nat), 0 ≤ i → i < 400 → (x.1.2 = s.2 ∧ (∀ c, c ∉ [336, 341] → x.1.1 c = s.1 c) ∧ (∀ j, j < i → x.1.1 341 j = if a j then nI 0 else -1) ∧ (∀ j, j < x.2.2 → x.1.1 336 j = nI (x.2.1 j)) ∧ qok (fun q => decide (q < i) && a q) x.2.1 x.2.2) → ∃ y : sT × (Nat → Nat) × Nat, (y.1.2 = s.2 ∧ (∀ c, c ∉ [336, 341] → y.1.1 c = s.1 c) ∧ (∀ j, j < i + 1 → y.1.1 341 j = if a j then nI 0 else -1) ∧ (∀ j, j < y.2.2 → y.1.1 336 j = nI (y.2.1 j)) ∧ qok (fun q => decide (q < i + 1) && a q) y.2.1 y.2.2) ∧ rn 159 4 [some (.ref 318), some (.int v), some (.int (nI x.2.2)), some (.int (nI i)), none, none] [] (mk X x.1) = rn 159 4 [some (.ref 318), some (.int v), some (.int (nI y.2.2)), some (.int (nI (i + 1))), none, none] [] (mk X y.1) := by
    rintro i ⟨u, Q, e⟩ _ hi ⟨h2, hc, h3, h4, h5⟩
    dsimp only at h2 hc h3 h4 h5 ⊢
    have h337 : u.1 337 = s.1 337 := hc 337 (by decide)
    have h337b : ∀ y : Int32, (su u 341 i y).1 337 i = s.1 337 i := fun y => by rw [su_1, if_neg (by omega), h337]
    have hai := ha i hi
    rw [e_M_gap_4, if_neg (nI_ge hi (by decide)), g_M_steps, g_M_piece, i_M_piece hi, h337, nI_add]
    cases hb : a i
    · rw [hb, decide_eq_false_iff_not] at hai
      refine ⟨(su u 341 i (-1), Q, e), ⟨h2, fun c hc' => ?_, fun j hj => ?_, fun j hj => ?_, ?_⟩, ?_⟩
      · have hc2 := hc'
        simp only [List.mem_cons, List.not_mem_nil, or_false, not_or] at hc2
        funext j
        show (su u 341 i (-1)).1 c j = _
        rw [su_1, if_neg (by omega), hc c hc']
      · show (su u 341 i (-1)).1 341 j = _
        rw [su_1]
        by_cases e : j = i
        · subst e; rw [if_pos ⟨rfl, rfl⟩, hb, if_neg (by decide)]
        · rw [if_neg (fun z => e z.2), h3 j (by omega)]
      · show (su u 341 i (-1)).1 336 j = _
        rw [su_1, if_neg (by omega), h4 j hj]
      · refine qok_H (fun q hq => ?_) h5
        by_cases e : q = i
        · subst e; rw [hb]; simp
        · by_cases h2 : q < i
          · rw [decide_eq_true h2, decide_eq_true (show q < i + 1 by omega)]
          · rw [decide_eq_false h2, decide_eq_false (show ¬ q < i + 1 by omega)]
      · rw [if_neg hai, w_M_steps hi, g_M_piece, i_M_piece hi, h337b, if_neg hai, nI_add]
    · rw [hb, decide_eq_true_eq] at hai
      have hf : (fun q => decide (q < i) && a q) i = false := by simp
      have hlt := qok_lt h5 hi hf
      refine ⟨(su (su u 341 i (nI 0)) 336 e (nI i), (fun j => if j = e then i else Q j), e + 1), ⟨h2, fun c hc' => ?_, fun j hj => ?_, fun j hj => ?_, ?_⟩, ?_⟩
      · have hc2 := hc'
        simp only [List.mem_cons, List.not_mem_nil, or_false, not_or] at hc2
        funext j
        show (su (su u 341 i (nI 0)) 336 e (nI i)).1 c j = _
        rw [su_1, if_neg (by omega), su_1, if_neg (by omega), hc c hc']
      · show (su (su u 341 i (nI 0)) 336 e (nI i)).1 341 j = _
        rw [su_1, if_neg (by omega), su_1]
        by_cases e : j = i
        · subst e; rw [if_pos ⟨rfl, rfl⟩, hb, if_pos rfl]
        · rw [if_neg (fun z => e z.2), h3 j (by omega)]
      · have hj : j < e + 1 := hj
        show (su (su u 341 i (nI 0)) 336 e (nI i)).1 336 j = nI (if j = e then i else Q j)
        rw [su_1]
        by_cases e5 : j = e
        · rw [if_pos ⟨rfl, e5⟩, if_pos e5]
        · rw [if_neg (fun z => e5 z.2), if_neg e5, su_1, if_neg (by omega), h4 j (by omega)]
      · refine qok_H (fun q hq => ?_) (qok_add h5 hi hf)
        show _ = (if q = i then true else (decide (q < i) && a q))
        by_cases e : q = i
        · subst e; rw [if_pos rfl, hb]; simp
        · rw [if_neg e]
          by_cases h2 : q < i
          · rw [decide_eq_true h2, decide_eq_true (show q < i + 1 by omega)]
          · rw [decide_eq_false h2, decide_eq_false (show ¬ q < i + 1 by omega)]
      · rw [if_pos hai, w_M_steps hi, g_M_piece, i_M_piece hi, h337b, if_pos hai, g_M_queue, w_M_queue hlt, nI_add]
  obtain ⟨⟨u, Q, e⟩, ⟨u2, uc, u3, u4, u5⟩, eq⟩ := it_up (fun i (x : sT × (Nat → Nat) × Nat) => rn 159 4 [some (.ref 318), some (.int v), some (.int (nI x.2.2)), some (.int (nI i)), none, none] [] (mk X x.1)) (fun i x => x.1.2 = s.2 ∧ (∀ c, c ∉ [336, 341] → x.1.1 c = s.1 c) ∧ (∀ j, j < i → x.1.1 341 j = if a j then nI 0 else -1) ∧ (∀ j, j < x.2.2 → x.1.1 336 j = nI (x.2.1 j)) ∧ qok (fun q => decide (q < i) && a q) x.2.1 x.2.2) (Nat.zero_le 400) fs (x := (s, fun _ => 0, 0)) ⟨rfl, fun _ _ => rfl, fun j hj => absurd hj (Nat.not_lt_zero j), fun j hj => absurd hj (Nat.not_lt_zero j), (fb_ct_zero.mpr (fun q _ => by simp)).symm, fun i hi => absurd hi (Nat.not_lt_zero i), fun q _ h => by simp at h⟩
  dsimp only at u2 uc u3 u4 u5 eq
  have hw0 : wv s (ins A) a 0 ((u, a, fun _ => 0, Q, e), 0) := ⟨⟨u2, uc, fun j hj => u3 j hj, u4, qok_H (fun q hq => by rw [decide_eq_true hq, Bool.true_and]) u5⟩, fun q hq => rfl, fun _ _ _ => rfl, fun _ _ _ => Nat.zero_le _, Nat.zero_le _, fun j hj => absurd hj (Nat.not_lt_zero j)⟩
  obtain ⟨x, hx, eqx⟩ := it_up (fun d (x : (sT × (Nat → Bool) × (Nat → Nat) × (Nat → Nat) × Nat) × Nat) => rn 159 63 [some (.ref 318), none, some (.int (nI x.1.2.2.2.2)), some (.int (nI x.2)), none, none] [] (mk X x.1.1)) (wv s (ins A) a) (Nat.zero_le D) (fun d x _ hd hx => by
    rcases wave X hk ok hM hgs ht (show d < 400 by omega) hx with ⟨-, y, hy, e⟩ | ⟨hm, -⟩
    · exact ⟨(y, x.1.2.2.2.2), hy, e⟩
    · exact absurd hm (hD1 d hd).2) hw0
  try dsimp only at eqx
  have e0 : rn 159 0 [some (.ref 318), some (.int v), none, none, none, none] [] (mk X s) = rn 159 63 [some (.ref 318), none, some (.int (nI x.1.2.2.2.2)), some (.int (nI x.2)), none, none] [] (mk X x.1.1) := by
    rw [e_M_gap_0, eq, e_M_gap_4, if_pos (nI_le (by decide) (by decide)), eqx]
  rcases wave X hk ok hM hgs ht D4 hx with ⟨hnm, y, hy, ey⟩ | ⟨hm, z, ez, z2, zc⟩
  · have hnf : ¬ fnd (ins A) a D := by
      rcases hD2 with h | h
      · exact absurd h hnm
      · exact h
    have hrr : r = -1 := by
      rcases hr with ⟨m, -⟩ | ⟨-, e⟩
      · exact absurd m hnm
      · exact e
    subst hrr
    have hee : y.2.2.2.2 = x.1.2.2.2.2 := by
      rw [hy.1.2.2.2.2.1, hx.1.2.2.2.2.1]
      refine fb_ct_cong (fun q hq => ?_)
      rw [hy.2.1 q hq, hx.2.1 q hq]
      show (reg (ins A) a D q || bd (ins A) (reg (ins A) a D) q) = reg (ins A) a D q
      cases hb : bd (ins A) (reg (ins A) a D) q
      · rw [Bool.or_false]
      · exact absurd ⟨q, hq, hb⟩ hnf
    have he4 : x.1.2.2.2.2 ≤ 400 := by rw [hx.1.2.2.2.2.1]; exact fb_ct_le _ 400
    refine ⟨y.1, ?_, hy.1.1, hy.1.2.1⟩
    rw [e0, ey, e_M_gap_63, hee, if_pos (nI_le (Nat.le_refl _) (by omega))]
  · have hrr : r = nI D := by
      rcases hr with ⟨-, e⟩ | ⟨m, -⟩
      · exact e
      · exact absurd hm m
    subst hrr
    exact ⟨z, by rw [e0, ez], z2, zc⟩

/-! how far a piece lies off: the reference's walk -/
def gms (s u : sT) (H : Nat → Bool) (L Q : Nat → Nat) (e : Nat) : Prop := u.2 = s.2 ∧ (∀ c, c ∉ [336, 341] → u.1 c = s.1 c) ∧ (∀ j, j < 400 → u.1 341 j = if H j then nI (L j) else -1) ∧ (∀ j, j < e → u.1 336 j = nI (Q j)) ∧ qok H Q e
theorem gms_add {s u : sT} {H : Nat → Bool} {L Q : Nat → Nat} {e b l : Nat} (h : gms s u H L Q e) (hb : b < 400) (hf : H b = false) : gms s (su (su u 341 b (nI l)) 336 e (nI b)) (fun q => if q = b then true else H q) (fun q => if q = b then l else L q) (fun i => if i = e then b else Q i) (e + 1) := by
  obtain ⟨h1, h2, h3, h4, h5⟩ := h
  refine ⟨h1, fun c hc => ?_, fun j hj => ?_, fun j hj => ?_, qok_add h5 hb hf⟩
  · have hc2 := hc
    simp only [List.mem_cons, List.not_mem_nil, or_false, not_or] at hc2
    funext j
    rw [su_1, if_neg (by omega), su_1, if_neg (by omega), h2 c hc]
  · rw [su_1, if_neg (by omega), su_1]
    by_cases h : j = b
    · subst h
      simp
    · simp only [h, and_false, if_false]
      exact h3 j hj
  · rw [su_1]
    by_cases h : j = e
    · subst h
      simp
    · simp only [h, and_false, if_false]
      rw [su_1, if_neg (by omega)]
      exact h4 j (by omega)
/-- one wave -/
def wav (s : sT) (I t R : Nat → Bool) (d k0 e0 : Nat) (Q0 : Nat → Nat) (i : Nat) (x : sT × (Nat → Bool) × (Nat → Nat) × (Nat → Nat) × Nat) : Prop := gms s x.1 x.2.1 x.2.2.1 x.2.2.2.1 x.2.2.2.2 ∧ e0 ≤ x.2.2.2.2 ∧ (∀ j, j < e0 → x.2.2.2.1 j = Q0 j) ∧ (∀ q, q < 400 → R q = true → x.2.1 q = true) ∧ (∀ q, q < 400 → x.2.1 q = true → R q = true ∨ (bd I R q = true ∧ t q = false)) ∧ (∀ j, k0 ≤ j → j < e0 → x.2.2.1 (Q0 j) = d) ∧ (∀ j, e0 ≤ j → j < x.2.2.2.2 → x.2.2.1 (x.2.2.2.1 j) = d + 1) ∧ (∀ q, q < 400 → x.2.1 q = true → x.2.2.1 q ≤ d + 1) ∧ ∀ j, j < i → ∀ q, adj (Q0 j) q → I q = true → x.2.1 q = true
theorem bd_of {I R : Nat → Bool} {p q : Nat} (hp : R p = true) (hj : adj p q) (hI : I q = true) (hR : R q = false) : bd I R q = true := by
  unfold bd
  rw [(nb4_iff hj.2.1).mpr ⟨p, hj, hp⟩, hR, hI]
  rfl
theorem wav_step (X : qz_X) {s : sT} {k : Nat} {A : shT} (hk : k < 7) (ok : okA A) (hM : isM (gN s) k A) (hgs : s.1 318 38 = nI k) {t R : Nat → Bool} (ht : ∀ j, j < 400 → s.1 334 j = if t j then nI 1 else nI 0) {d k0 e0 : Nat} {Q0 : Nat → Nat} (hd : d < 400) (hQ0 : ∀ j, j < e0 → Q0 j < 400 ∧ R (Q0 j) = true) : ∀ (i : Nat) (x : sT × (Nat → Bool) × (Nat → Nat) × (Nat → Nat) × Nat), k0 ≤ i → i < e0 → wav s (ins A) t R d k0 e0 Q0 i x → (∃ y, wav s (ins A) t R d k0 e0 Q0 (i + 1) y ∧ rn 159 63 [some (.ref 318), none, some (.int (nI x.2.2.2.2)), some (.int (nI i)), none, none] [] (mk X x.1) = rn 159 63 [some (.ref 318), none, some (.int (nI y.2.2.2.2)), some (.int (nI (i + 1))), none, none] [] (mk X y.1)) ∨ ∃ z : sT, rn 159 63 [some (.ref 318), none, some (.int (nI x.2.2.2.2)), some (.int (nI i)), none, none] [] (mk X x.1) = some (some (.int (nI d)), mk X z) ∧ z.2 = s.2 ∧ (∀ c, c ∉ [336, 341] → z.1 c = s.1 c) ∧ ∃ q, q < 400 ∧ bd (ins A) R q = true ∧ t q = true := by
  rintro i ⟨u, H, L, Q, e⟩ hki hi hw
  have hw1 := hw
  obtain ⟨hg, hee, hQ, hRH, hHR, hL0, hL1, hLb, hcl⟩ := hw1
  dsimp only at hg hee hQ hRH hHR hL0 hL1 hLb hcl ⊢
  obtain ⟨hQi, hRi⟩ := hQ0 i hi
  have he4 : e ≤ 400 := by rw [hg.2.2.2.2.1]; exact fb_ct_le H 400
  have inner := it_ex (fun dd (x : sT × (Nat → Bool) × (Nat → Nat) × (Nat → Nat) × Nat) => rn 159 71 [some (.ref 318), none, some (.int (nI x.2.2.2.2)), some (.int (nI i)), some (.int (nI dd)), none] [] (mk X x.1)) (fun dd x => wav s (ins A) t R d k0 e0 Q0 i x ∧ ∀ d', d' < dd → nbs (Q0 i) d' < 400 → ins A (nbs (Q0 i) d') = true → x.2.1 (nbs (Q0 i) d') = true) (fun r => ∃ z : sT, r = some (some (.int (nI d)), mk X z) ∧ z.2 = s.2 ∧ (∀ c, c ∉ [336, 341] → z.1 c = s.1 c) ∧ ∃ q, q < 400 ∧ bd (ins A) R q = true ∧ t q = true) (Nat.zero_le 4) (by
    rintro dd ⟨u, H, L, Q, e⟩ _ hdd ⟨hw, hsd⟩
    have hw1 := hw
    obtain ⟨hg, hee, hQ, hRH, hHR, hL0, hL1, hLb, hcl⟩ := hw1
    dsimp only at hg hee hQ hRH hHR hL0 hL1 hLb hcl hsd ⊢
    have he4 : e ≤ 400 := by rw [hg.2.2.2.2.1]; exact fb_ct_le H 400
    have hqi : u.1 336 i = nI (Q0 i) := by rw [hg.2.2.2.1 i (by omega), hQ i hi]
    have hstay : (nbs (Q0 i) dd < 400 → ins A (nbs (Q0 i) dd) = true → H (nbs (Q0 i) dd) = true) → ∀ d', d' < dd + 1 → nbs (Q0 i) d' < 400 → ins A (nbs (Q0 i) d') = true → H (nbs (Q0 i) d') = true := by
      intro h d' hd' h1 h2
      by_cases e : d' = dd
      · subst e; exact h h1 h2
      · exact hsd d' (by omega) h1 h2
    rw [e_M_gap_71, if_neg (nI_ge hdd (by decide)), g_M_queue, i_M_queue (by omega), hqi, M_beside_run _ hQi hdd, r1_s, nI_add]
    by_cases hn : nbs (Q0 i) dd = 400
    · refine Or.inl ⟨(u, H, L, Q, e), ⟨hw, hstay (fun h => by omega)⟩, ?_⟩
      rw [bsN_no hn, if_pos rfl]
    · have hb4 : nbs (Q0 i) dd < 400 := by have := nbs_le (d := dd) hQi; omega
      have hadj : adj (Q0 i) (nbs (Q0 i) dd) := ⟨hQi, hb4, dd, hdd, rfl⟩
      have h38 : u.1 318 38 = nI k := by rw [hg.2.1 318 (by decide)]; exact hgs
      have hMu : isM (gN u) k A := isM_of (fun c p q => hg.2.1 c (by simp; omega)) hM
      have h341 := hg.2.2.1 _ hb4
      rw [bsN_yes hn, if_neg (nI_m1 (by omega)), g_M_steps, i_M_steps hb4]
      cases hH : H (nbs (Q0 i) dd)
      · rw [hH, if_neg (by decide)] at h341
        rw [if_pos h341, g_M_gapSheet, h38, if_neg (nI_m1 (by omega)), g_M_gapSheet, h38, if_neg (by decide), if_neg (by decide), ck_M, div20 (by omega), rem20 (by omega), M_within_q X hk ok hMu hb4, r1_s, told_int]
        have hRb : R (nbs (Q0 i) dd) = false := by
          cases hR : R (nbs (Q0 i) dd)
          · rfl
          · rw [hRH _ hb4 hR] at hH; cases hH
        cases hI : ins A (nbs (Q0 i) dd)
        · refine Or.inl ⟨(u, H, L, Q, e), ⟨hw, hstay (fun _ h => by rw [hI] at h; cases h)⟩, ?_⟩
          rw [if_neg (by decide)]
        · have hbd := bd_of hRi hadj hI hRb
          rw [if_pos rfl, e_M_gap_139, g_M_tin, i_M_tin hb4, hg.2.1 334 (by decide), ht _ hb4, told_one]
          have hst : u.1 341 (Q0 i) = nI d := by
            rw [hg.2.2.1 _ hQi, hRH _ hQi hRi, if_pos rfl, hL0 i hki hi]
          cases htb : t (nbs (Q0 i) dd)
          · have hlt := qok_lt hg.2.2.2.2 hb4 hH
            refine Or.inl ⟨(su (su u 341 (nbs (Q0 i) dd) (nI (d + 1))) 336 e (nI (nbs (Q0 i) dd)), (fun q => if q = nbs (Q0 i) dd then true else H q), (fun q => if q = nbs (Q0 i) dd then d + 1 else L q), (fun j => if j = e then nbs (Q0 i) dd else Q j), e + 1), ⟨⟨gms_add hg hb4 hH, by show e0 ≤ e + 1; omega, fun j hj => ?_, fun q hq h => ?_, fun q hq h => ?_, fun j h1 h2 => ?_, fun j h1 h2 => ?_, fun q hq h => ?_, fun j hj q h1 h2 => ?_⟩, fun d' hd' h1 h2 => ?_⟩, ?_⟩
            · show (if j = e then _ else Q j) = Q0 j
              rw [if_neg (by omega), hQ j hj]
            · show (if q = _ then true else H q) = true
              rw [hRH q hq h, ite_self]
            · have h : (if q = nbs (Q0 i) dd then true else H q) = true := h
              by_cases e : q = nbs (Q0 i) dd
              · subst e; exact Or.inr ⟨hbd, htb⟩
              · rw [if_neg e] at h
                exact hHR q hq h
            · show (if Q0 j = nbs (Q0 i) dd then d + 1 else L (Q0 j)) = d
              by_cases e : Q0 j = nbs (Q0 i) dd
              · rw [← e, (hQ0 j h2).2] at hRb; cases hRb
              · rw [if_neg e, hL0 j h1 h2]
            · have h2 : j < e + 1 := h2
              show (if (if j = e then nbs (Q0 i) dd else Q j) = nbs (Q0 i) dd then d + 1 else L (if j = e then nbs (Q0 i) dd else Q j)) = d + 1
              by_cases e5 : j = e
              · rw [if_pos e5, if_pos rfl]
              · rw [if_neg e5, hL1 j h1 (by omega), ite_self]
            · show (if q = nbs (Q0 i) dd then d + 1 else L q) ≤ d + 1
              have h : (if q = nbs (Q0 i) dd then true else H q) = true := h
              by_cases e : q = nbs (Q0 i) dd
              · rw [if_pos e]; exact Nat.le_refl _
              · rw [if_neg e] at h ⊢
                exact hLb q hq h
            · show (if q = _ then true else H q) = true
              rw [hcl j hj q h1 h2, ite_self]
            · show (if nbs (Q0 i) d' = nbs (Q0 i) dd then true else H (nbs (Q0 i) d')) = true
              by_cases e : nbs (Q0 i) d' = nbs (Q0 i) dd
              · rw [if_pos e]
              · rw [if_neg e]
                by_cases e2 : d' = dd
                · subst e2; exact absurd rfl e
                · exact hsd d' (by omega) h1 h2
            · show _ = rn 159 71 [some (.ref 318), none, some (.int (nI (e + 1))), some (.int (nI i)), some (.int (nI (dd + 1))), none] [] (mk X (su (su u 341 (nbs (Q0 i) dd) (nI (d + 1))) 336 e (nI (nbs (Q0 i) dd))))
              rw [if_neg (by decide), g_M_steps, g_M_steps, g_M_queue, i_M_queue (by omega), hqi, i_M_steps hQi, hst, nI_add, w_M_steps hb4, g_M_queue, w_M_queue hlt, nI_add, nI_add]
          · refine Or.inr ⟨u, ?_, hg.1, hg.2.1, _, hb4, hbd, htb⟩
            rw [if_pos rfl, g_M_steps, g_M_queue, i_M_queue (by omega), hqi, i_M_steps hQi, hst]
      · rw [hH, if_pos rfl] at h341
        refine Or.inl ⟨(u, H, L, Q, e), ⟨hw, hstay (fun _ _ => hH)⟩, ?_⟩
        rw [h341, if_neg (nI_m1 (by have := hLb _ hb4 hH; omega))]) (x := (u, H, L, Q, e)) ⟨hw, fun d' hd' => absurd hd' (Nat.not_lt_zero _)⟩
  try dsimp only at inner
  have e0' : rn 159 63 [some (.ref 318), none, some (.int (nI e)), some (.int (nI i)), none, none] [] (mk X u) = rn 159 71 [some (.ref 318), none, some (.int (nI e)), some (.int (nI i)), some (.int (nI 0)), none] [] (mk X u) := by
    rw [e_M_gap_63, if_neg (nI_ge (show i < e by omega) (by omega))]
  rcases inner with ⟨⟨u2, H2, L2, Q2, e2⟩, ⟨hw2, hs2⟩, eq⟩ | ⟨z, hz, rest⟩
  · obtain ⟨g1, g2, g3, g4, g5, g6, g7, g8, g9⟩ := hw2
    dsimp only at g1 g2 g3 g4 g5 g6 g7 g8 g9 hs2 eq
    refine Or.inl ⟨(u2, H2, L2, Q2, e2), ⟨g1, g2, g3, g4, g5, g6, g7, g8, fun j hj q h1 h2 => ?_⟩, ?_⟩
    · by_cases ej : j = i
      · subst ej
        obtain ⟨-, hq4, d', hd', e5⟩ := h1
        have := hs2 d' hd' (by rw [e5]; exact hq4) (by rw [e5]; exact h2)
        rw [e5] at this
        exact this
      · exact g9 j (by omega) q h1 h2
    · rw [e0', eq, e_M_gap_71, if_pos (nI_le (by decide) (by decide)), nI_add]
  · refine Or.inr ⟨z, ?_, rest⟩
    rw [e0', hz]

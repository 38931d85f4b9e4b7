/-! the walk: its state -/
def hd : List Nat → Int32
  | [] => -1
  | q :: _ => nI q
noncomputable def stS (u : Nat → Nat → Int32) (t a : Nat → Bool) (e lo sd : Nat → Nat) : Nat → List Nat → Prop
  | _, [] => True
  | M, v :: l => (u 92 v = nI (lo v) ∧ u 93 v = nI (M - e v) ∧ u 90 v = nI (tgc t a e v M) ∧ u 95 v = nI (sd v) ∧ u 94 v = hd l) ∧ stS u t a e lo sd (e v) l
theorem stS_c {u u' : Nat → Nat → Int32} {t a : Nat → Bool} {e e' lo lo' sd sd' : Nat → Nat} {n : Nat} : ∀ (l : List Nat) (M : Nat), stS u t a e lo sd M l → (∀ v, v ∈ l → e' v = e v ∧ lo' v = lo v ∧ sd' v = sd v ∧ e v ≤ n + 1 ∧ u' 90 v = u 90 v ∧ u' 92 v = u 92 v ∧ u' 93 v = u 93 v ∧ u' 94 v = u 94 v ∧ u' 95 v = u 95 v) → (∀ v, v ∈ l → ∀ M, M ≤ n + 1 → tgc t a e' v M = tgc t a e v M) → M ≤ n + 1 → stS u' t a e' lo' sd' M l
  | [], _, _, _, _, _ => trivial
  | v :: l, M, h, hc, ht, hM => by
    obtain ⟨c1, c2, c3, c4, c5, c6, c7, c8, c9⟩ := hc v (List.mem_cons_self ..)
    obtain ⟨⟨h1, h2, h3, h4, h5⟩, h6⟩ := h
    refine ⟨⟨by rw [c6, c2, h1], by rw [c7, c1, h2], by rw [c5, ht v (List.mem_cons_self ..) M hM, h3], by rw [c9, c3, h4], by rw [c8, h5]⟩, ?_⟩
    rw [c1]
    exact stS_c l (e v) h6 (fun x hx => hc x (List.mem_cons_of_mem _ hx)) (fun x hx => ht x (List.mem_cons_of_mem _ hx)) c4
theorem tgc_enter {t a : Nat → Bool} {e : Nat → Nat} {n w v M : Nat} (he : e w = 0) (hv : v ≠ w) (hM : M ≤ n + 1) : tgc t a (up e w (n + 1)) v M = tgc t a e v M := by
  refine fb_ct_cong (fun z hz => ?_)
  rw [up_n hv]
  by_cases e1 : z = w
  · subst e1
    rw [up_s, he, decide_eq_false (show ¬ n + 1 < M by omega), decide_eq_false (show ¬ e v < 0 by omega)]
    simp
  · rw [up_n e1]
def wk (s : sT) (t a : Nat → Bool) (x : sT × ((Nat → Nat) × (Nat → Nat) × (Nat → Nat)) × Nat × List Nat) : Prop := (x.1.2 = s.2 ∧ (∀ c, c ∉ [86, 90, 91, 92, 93, 94, 95] → x.1.1 c = s.1 c) ∧ (∀ q, q < 400 → x.1.1 91 q = nI (x.2.1.1 q)) ∧ x.1.1 86 4 = nI x.2.2.1) ∧ (∀ q, q < 400 → x.2.1.1 q = 0 → x.1.1 90 q = nI 0) ∧ (∀ q, q < 400 → x.2.1.1 q ≠ 0 → q ∉ x.2.2.2 → x.1.1 90 q = nI (tgn t a q)) ∧ stS x.1.1 t a x.2.1.1 x.2.1.2.1 x.2.1.2.2 (x.2.2.1 + 1) x.2.2.2 ∧ okS t a x.2.1.1 x.2.1.2.1 x.2.1.2.2 (x.2.2.1 + 1) x.2.2.2 ∧ gl t a x.2.1.1 x.2.2.1
theorem gl_n {t a : Nat → Bool} {e : Nat → Nat} {n : Nat} (h : gl t a e n) : n ≤ 400 := by
  have h1 := h.2.2.2.1 1 (Nat.le_refl _) (by omega)
  have h2 := fb_ct_le (fun z => decide (1 ≤ e z)) 400
  omega
def ent (st : sT) (w n : Nat) (pr : Int32) (al : Bool) : sT := su (su (su (su (su (su st 86 4 (nI (n + 1))) 91 w (nI (n + 1))) 92 w (if al then nI 0 else nI (n + 1))) 93 w (nI 1)) 94 w pr) 95 w (nI 0)
theorem enter_run (X : qz_X) {st : sT} {K w n : Nat} {a : Nat → Bool} {pr : Int32} (hK : rd X K) (hK2 : K ∉ [86, 90, 91, 92, 93, 94, 95]) (hr : rows (st.1 K) a) (hn : st.1 86 4 = nI n) (hw : w < 400) : rn 135 0 [some (.ref 86), some (.int (nI w)), some (.int pr), some (.ref K)] [] (mk X st) = some (none, mk X (ent st w n pr (a w))) := by
  simp only [List.mem_cons, List.not_mem_nil, or_false, not_or] at hK2
  have h1 : (su st 86 4 (nI (n + 1))).1 86 4 = nI (n + 1) := by rw [su_1, if_pos ⟨rfl, rfl⟩]
  have h2 : (su (su st 86 4 (nI (n + 1))) 91 w (nI (n + 1))).1 86 4 = nI (n + 1) := by rw [su_1, if_neg (by omega), h1]
  have hr2 : rows ((su (su st 86 4 (nI (n + 1))) 91 w (nI (n + 1))).1 K) a := by
    have : (su (su st 86 4 (nI (n + 1))) 91 w (nI (n + 1))).1 K = st.1 K := by
      funext j
      rw [su_1, if_neg (by omega), su_1, if_neg (by omega)]
    rw [this]; exact hr
  unfold ent
  rw [e_Hanging_enter_0, g_H_reached, hn, nI_add, p_H_reached, g_H_entered, g_H_reached, h1, w_H_entered hw, g_H_reach, isSet_run X hK hr2 hw, r1_s, told_int]
  cases a w
  · rw [if_neg (by decide), if_neg (by decide), g_H_reached, h2, w_H_reach hw, g_H_below, w_H_below hw, g_H_parent, w_H_parent hw, g_H_side, w_H_side hw]
  · rw [if_pos rfl, if_pos rfl, w_H_reach hw, g_H_below, w_H_below hw, g_H_parent, w_H_parent hw, g_H_side, w_H_side hw]
theorem wk_enter {s : sT} {t a : Nat → Bool} {st : sT} {e lo sd : Nat → Nat} {n w : Nat} {l : List Nat} (h : wk s t a (st, (e, lo, sd), n, l)) (hw : w < 400) (he : e w = 0) (ht : t w = true) (hc : (l = [] ∧ a w = true) ∨ ∃ v l', l = v :: l' ∧ adj v w) : wk s t a (ent st w n (hd l) (a w), (up e w (n + 1), up lo w (if a w then 0 else n + 1), up sd w 0), n + 1, w :: l) := by
  obtain ⟨⟨h1, h2, h3, h4⟩, h5, h6, h7, h8, h9⟩ := h
  dsimp only at h1 h2 h3 h4 h5 h6 h7 h8 h9
  have hlt := okS_lt l (n + 1) h8
  have hlw : ∀ v, v ∈ l → v ≠ w := fun v hv e1 => by have := (hlt v hv).2.1; rw [e1, he] at this; omega
  have hq : ∀ v, v ∈ l → ∃ q, adj q w ∧ e v ≤ e q := by
    intro v hv
    rcases hc with ⟨rfl, -⟩ | ⟨u, l', rfl, hj⟩
    · cases hv
    · refine ⟨u, hj, ?_⟩
      rcases List.mem_cons.mp hv with rfl | hv
      · exact Nat.le_refl _
      · have := (okS_lt l' (e u) h8.2 v hv).1
        omega
  refine ⟨⟨h1, fun c hc' => ?_, fun q hq => ?_, ?_⟩, fun q hq hz => ?_, fun q hq hz hm => ?_, ⟨⟨?_, ?_, ?_, ?_, ?_⟩, ?_⟩, ⟨pv_new h9 hw he ht (up_s ..) (up_s ..), ?_⟩, gl_enter h9 hw he ht ?_⟩
  · have hc2 := hc'
    simp only [List.mem_cons, List.not_mem_nil, or_false, not_or] at hc2
    funext j
    show (ent st w n (hd l) (a w)).1 c j = _
    unfold ent
    rw [su_1, if_neg (by omega), su_1, if_neg (by omega), su_1, if_neg (by omega), su_1, if_neg (by omega), su_1, if_neg (by omega), su_1, if_neg (by omega), h2 c hc']
  · show (ent st w n (hd l) (a w)).1 91 q = nI (up e w (n + 1) q)
    unfold ent
    rw [su_1, if_neg (by omega), su_1, if_neg (by omega), su_1, if_neg (by omega), su_1, if_neg (by omega), su_1]
    by_cases e1 : q = w
    · rw [if_pos ⟨rfl, e1⟩, e1, up_s]
    · rw [if_neg (fun z => e1 z.2), up_n e1, su_1, if_neg (by omega), h3 q hq]
  · show (ent st w n (hd l) (a w)).1 86 4 = _
    unfold ent
    rw [su_1, if_neg (by omega), su_1, if_neg (by omega), su_1, if_neg (by omega), su_1, if_neg (by omega), su_1, if_neg (by omega), su_1, if_pos ⟨rfl, rfl⟩]
  · have hz : up e w (n + 1) q = 0 := hz
    have e1 : q ≠ w := fun e1 => by rw [e1, up_s] at hz; omega
    rw [up_n e1] at hz
    show (ent st w n (hd l) (a w)).1 90 q = _
    unfold ent
    rw [su_1, if_neg (by omega), su_1, if_neg (by omega), su_1, if_neg (by omega), su_1, if_neg (by omega), su_1, if_neg (by omega), su_1, if_neg (by omega), h5 q hq hz]
  · have hz : up e w (n + 1) q ≠ 0 := hz
    have hm : q ∉ w :: l := hm
    simp only [List.mem_cons, not_or] at hm
    rw [up_n hm.1] at hz
    show (ent st w n (hd l) (a w)).1 90 q = _
    unfold ent
    rw [su_1, if_neg (by omega), su_1, if_neg (by omega), su_1, if_neg (by omega), su_1, if_neg (by omega), su_1, if_neg (by omega), su_1, if_neg (by omega), h6 q hq hz hm.2]
  · show (ent st w n (hd l) (a w)).1 92 w = nI (up lo w (if a w then 0 else n + 1) w)
    unfold ent
    rw [su_1, if_neg (by omega), su_1, if_neg (by omega), su_1, if_neg (by omega), su_1, if_pos ⟨rfl, rfl⟩, up_s]
    cases a w <;> rfl
  · show (ent st w n (hd l) (a w)).1 93 w = nI (n + 1 + 1 - up e w (n + 1) w)
    unfold ent
    rw [su_1, if_neg (by omega), su_1, if_neg (by omega), su_1, if_pos ⟨rfl, rfl⟩, up_s, show n + 1 + 1 - (n + 1) = 1 by omega]
  · show (ent st w n (hd l) (a w)).1 90 w = nI (tgc t a (up e w (n + 1)) w (n + 1 + 1))
    have hz : tgc t a (up e w (n + 1)) w (n + 1 + 1) = 0 := fb_ct_zero.mpr (fun z hz => by
      rw [up_s]
      have : ¬ (n + 1 < up e w (n + 1) z) := by
        by_cases e1 : z = w
        · rw [e1, up_s]; omega
        · rw [up_n e1]; have := h9.1 z hz; omega
      rw [decide_eq_false this]; simp)
    rw [hz]
    unfold ent
    rw [su_1, if_neg (by omega), su_1, if_neg (by omega), su_1, if_neg (by omega), su_1, if_neg (by omega), su_1, if_neg (by omega), su_1, if_neg (by omega), h5 w hw he]
  · show (ent st w n (hd l) (a w)).1 95 w = nI (up sd w 0 w)
    unfold ent
    rw [su_1, if_pos ⟨rfl, rfl⟩, up_s]
  · show (ent st w n (hd l) (a w)).1 94 w = hd l
    unfold ent
    rw [su_1, if_neg (by omega), su_1, if_pos ⟨rfl, rfl⟩]
  · show stS (ent st w n (hd l) (a w)).1 t a (up e w (n + 1)) (up lo w (if a w then 0 else n + 1)) (up sd w 0) (up e w (n + 1) w) l
    rw [up_s]
    refine stS_c (n := n) l (n + 1) h7 (fun v hv => ?_) (fun v hv M hM => tgc_enter he (hlw v hv) hM) (Nat.le_refl _)
    have hvw := hlw v hv
    refine ⟨up_n hvw, up_n hvw, up_n hvw, by have := (hlt v hv).1; omega, ?_, ?_, ?_, ?_, ?_⟩
    · unfold ent
      rw [su_1, if_neg (by omega), su_1, if_neg (by omega), su_1, if_neg (by omega), su_1, if_neg (by omega), su_1, if_neg (by omega), su_1, if_neg (by omega)]
    · unfold ent
      rw [su_1, if_neg (by omega), su_1, if_neg (by omega), su_1, if_neg (by omega), su_1, if_neg (by omega), su_1, if_neg (by omega), su_1, if_neg (by omega)]
    · unfold ent
      rw [su_1, if_neg (by omega), su_1, if_neg (by omega), su_1, if_neg (by omega), su_1, if_neg (by omega), su_1, if_neg (by omega), su_1, if_neg (by omega)]
    · unfold ent
      rw [su_1, if_neg (by omega), su_1, if_neg (by omega), su_1, if_neg (by omega), su_1, if_neg (by omega), su_1, if_neg (by omega), su_1, if_neg (by omega)]
    · unfold ent
      rw [su_1, if_neg (by omega), su_1, if_neg (by omega), su_1, if_neg (by omega), su_1, if_neg (by omega), su_1, if_neg (by omega), su_1, if_neg (by omega)]
  · show okS t a (up e w (n + 1)) (up lo w (if a w then 0 else n + 1)) (up sd w 0) (up e w (n + 1) w) l
    rw [up_s]
    exact okS_enter hw he ht (fun v hv => up_n hv) (fun v hv => up_n hv) l (n + 1) (Nat.le_refl _) h8 hq
  · rcases hc with ⟨-, ha⟩ | ⟨u, l', rfl, hj⟩
    · exact Or.inl ha
    · exact Or.inr ⟨u, hj, by have := h8.1.1.2.2.1; omega⟩

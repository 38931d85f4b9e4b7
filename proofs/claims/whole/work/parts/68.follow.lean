/-! the walk: sides, leaving -/
theorem su_comm {s : sT} {o k o' k' : Nat} {x y : Int32} (h : ¬ (o = o' ∧ k = k')) : su (su s o k x) o' k' y = su (su s o' k' y) o k x := by
  refine Prod.ext ?_ rfl
  funext i j
  rw [su_1, su_1, su_1, su_1]
  by_cases h1 : i = o' ∧ j = k'
  · rw [if_pos h1, if_pos h1, if_neg (by omega)]
  · rw [if_neg h1, if_neg h1]
theorem ent_su {st : sT} {w n v : Nat} {pr x : Int32} {al : Bool} (h : v ≠ w) : ent (su st 95 v x) w n pr al = su (ent st w n pr al) 95 v x := by
  unfold ent
  rw [su_comm (s := st) (by omega), su_comm (o := 95) (k := v) (o' := 91) (by omega), su_comm (o := 95) (k := v) (o' := 92) (by omega), su_comm (o := 95) (k := v) (o' := 93) (by omega), su_comm (o := 95) (k := v) (o' := 94) (by omega), su_comm (o := 95) (k := v) (o' := 95) (k' := w) (by omega)]
/-- one square's own row of the stack changed -/
theorem stS_v {u u' : Nat → Nat → Int32} {t a : Nat → Bool} {e lo lo' sd sd' : Nat → Nat} {n : Nat} (l : List Nat) (M v : Nat) (h : stS u t a e lo sd M l) (hM : M ≤ n + 1) (hn : ∀ x, x ∈ l → e x ≤ n + 1) (hv : v ∉ l) (hlo : ∀ x, x ≠ v → lo' x = lo x) (hsd : ∀ x, x ≠ v → sd' x = sd x) (hu : ∀ c x, x ≠ v → u' c x = u c x) : stS u' t a e lo' sd' M l :=
  stS_c (n := n) l M h (fun x hx => (by
    have hx2 : x ≠ v := fun z => hv (by rw [← z]; exact hx)
    exact ⟨rfl, hlo x hx2, hsd x hx2, hn x hx, hu _ x hx2, hu _ x hx2, hu _ x hx2, hu _ x hx2, hu _ x hx2⟩)) (fun _ _ _ _ => rfl) hM
theorem top_out {t a : Nat → Bool} {e lo sd : Nat → Nat} {M v : Nat} {l : List Nat} (h : okS t a e lo sd M (v :: l)) : v ∉ l := fun hv => by
  have := (okS_lt l (e v) h.2 v hv).1
  omega
theorem wk_side {s : sT} {t a : Nat → Bool} {st : sT} {e lo sd : Nat → Nat} {n v y : Nat} {l : List Nat} (h : wk s t a (st, (e, lo, sd), n, v :: l)) (hs : sd v < 4) (hlo : (y = lo v ∧ (nbs v (sd v) < 400 → t (nbs v (sd v)) = true → False)) ∨ (nbs v (sd v) < 400 ∧ 1 ≤ e (nbs v (sd v)) ∧ y = (if e (nbs v (sd v)) < lo v then e (nbs v (sd v)) else lo v))) : wk s t a (su (su st 95 v (nI (sd v + 1))) 92 v (nI y), (e, up lo v y, up sd v (sd v + 1)), n, v :: l) := by
  obtain ⟨⟨h1, h2, h3, h4⟩, h5, h6, h7, h8, h9⟩ := h
  dsimp only at h1 h2 h3 h4 h5 h6 h7 h8 h9
  have hvl := top_out h8
  have hlt := okS_lt l (e v) h8.2
  have hvn := h8.1.1.2.2.2.1
  obtain ⟨⟨k1, k2, k3, k4, k5⟩, k6⟩ := h7
  refine ⟨⟨h1, fun c hc' => ?_, fun q hq => ?_, ?_⟩, fun q hq hz => ?_, fun q hq hz hm => ?_, ⟨⟨?_, ?_, ?_, ?_, ?_⟩, ?_⟩, ⟨?_, ?_⟩, h9⟩
  · have hc2 := hc'
    simp only [List.mem_cons, List.not_mem_nil, or_false, not_or] at hc2
    funext j
    show (su (su st 95 v (nI (sd v + 1))) 92 v (nI y)).1 c j = _
    rw [su_1, if_neg (by omega), su_1, if_neg (by omega), h2 c hc']
  · show (su (su st 95 v (nI (sd v + 1))) 92 v (nI y)).1 91 q = _
    rw [su_1, if_neg (by omega), su_1, if_neg (by omega), h3 q hq]
  · show (su (su st 95 v (nI (sd v + 1))) 92 v (nI y)).1 86 4 = _
    rw [su_1, if_neg (by omega), su_1, if_neg (by omega), h4]
  · show (su (su st 95 v (nI (sd v + 1))) 92 v (nI y)).1 90 q = _
    rw [su_1, if_neg (by omega), su_1, if_neg (by omega), h5 q hq hz]
  · show (su (su st 95 v (nI (sd v + 1))) 92 v (nI y)).1 90 q = _
    rw [su_1, if_neg (by omega), su_1, if_neg (by omega), h6 q hq hz hm]
  · show (su (su st 95 v (nI (sd v + 1))) 92 v (nI y)).1 92 v = nI (up lo v y v)
    rw [su_1, if_pos ⟨rfl, rfl⟩, up_s]
  · show (su (su st 95 v (nI (sd v + 1))) 92 v (nI y)).1 93 v = _
    rw [su_1, if_neg (by omega), su_1, if_neg (by omega), k2]
  · show (su (su st 95 v (nI (sd v + 1))) 92 v (nI y)).1 90 v = _
    rw [su_1, if_neg (by omega), su_1, if_neg (by omega), k3]
  · show (su (su st 95 v (nI (sd v + 1))) 92 v (nI y)).1 95 v = nI (up sd v (sd v + 1) v)
    rw [su_1, if_neg (by omega), su_1, if_pos ⟨rfl, rfl⟩, up_s]
  · show (su (su st 95 v (nI (sd v + 1))) 92 v (nI y)).1 94 v = _
    rw [su_1, if_neg (by omega), su_1, if_neg (by omega), k5]
  · show stS (su (su st 95 v (nI (sd v + 1))) 92 v (nI y)).1 t a e (up lo v y) (up sd v (sd v + 1)) (e v) l
    refine stS_v (n := n) l (e v) v k6 (by omega) (fun x hx => by have := (hlt x hx).1; omega) hvl (fun x hx => up_n hx) (fun x hx => up_n hx) (fun c x hx => ?_)
    show (su (su st 95 v (nI (sd v + 1))) 92 v (nI y)).1 c x = _
    rw [su_1, if_neg (by omega), su_1, if_neg (by omega)]
  · show pv t a e (up lo v y) (up sd v (sd v + 1)) (n + 1) v
    refine pv_side h8.1 hs (up_s ..) ?_
    rw [up_s]
    rcases hlo with h | h
    · exact Or.inl h
    · exact Or.inr (Or.inl h)
  · exact okS_c l (e v) h8.2 (fun x hx => (by
      have hx2 : x ≠ v := fun z => hvl (by rw [← z]; exact hx)
      exact ⟨up_n hx2, up_n hx2⟩))
/-- a side that led to a new square -/
theorem wk_side2 {s : sT} {t a : Nat → Bool} {st : sT} {e lo sd : Nat → Nat} {n v w : Nat} {l : List Nat} (h : wk s t a (st, (e, lo, sd), n, w :: v :: l)) (hs : sd v < 4) (hw : nbs v (sd v) = w) : wk s t a (su st 95 v (nI (sd v + 1)), (e, lo, up sd v (sd v + 1)), n, w :: v :: l) := by
  obtain ⟨⟨h1, h2, h3, h4⟩, h5, h6, h7, h8, h9⟩ := h
  dsimp only at h1 h2 h3 h4 h5 h6 h7 h8 h9
  have hvl := top_out h8.2
  have hwv : w ≠ v := fun z => top_out h8 (by rw [z]; exact List.mem_cons_self ..)
  have hlt := okS_lt l (e v) h8.2.2
  have hvn := h8.2.1.1.2.2.2.1
  have hwn := h8.1.1.2.2.2.1
  have hw1 := h8.1.1.2.2.1
  obtain ⟨⟨w1, w2, w3, w4, w5⟩, ⟨k1, k2, k3, k4, k5⟩, k6⟩ := h7
  refine ⟨⟨h1, fun c hc' => ?_, fun q hq => ?_, ?_⟩, fun q hq hz => ?_, fun q hq hz hm => ?_, ⟨⟨?_, ?_, ?_, ?_, ?_⟩, ⟨?_, ?_, ?_, ?_, ?_⟩, ?_⟩, ⟨?_, ?_, ?_⟩, h9⟩
  · have hc2 := hc'
    simp only [List.mem_cons, List.not_mem_nil, or_false, not_or] at hc2
    funext j
    show (su st 95 v (nI (sd v + 1))).1 c j = _
    rw [su_1, if_neg (by omega), h2 c hc']
  · show (su st 95 v (nI (sd v + 1))).1 91 q = _
    rw [su_1, if_neg (by omega), h3 q hq]
  · show (su st 95 v (nI (sd v + 1))).1 86 4 = _
    rw [su_1, if_neg (by omega), h4]
  · show (su st 95 v (nI (sd v + 1))).1 90 q = _
    rw [su_1, if_neg (by omega), h5 q hq hz]
  · show (su st 95 v (nI (sd v + 1))).1 90 q = _
    rw [su_1, if_neg (by omega), h6 q hq hz hm]
  · show (su st 95 v (nI (sd v + 1))).1 92 w = _
    rw [su_1, if_neg (by omega), w1]
  · show (su st 95 v (nI (sd v + 1))).1 93 w = _
    rw [su_1, if_neg (by omega), w2]
  · show (su st 95 v (nI (sd v + 1))).1 90 w = _
    rw [su_1, if_neg (by omega), w3]
  · show (su st 95 v (nI (sd v + 1))).1 95 w = nI (up sd v (sd v + 1) w)
    rw [su_1, if_neg (by omega), w4, up_n hwv]
  · show (su st 95 v (nI (sd v + 1))).1 94 w = _
    rw [su_1, if_neg (by omega), w5]
  · show (su st 95 v (nI (sd v + 1))).1 92 v = _
    rw [su_1, if_neg (by omega), k1]
  · show (su st 95 v (nI (sd v + 1))).1 93 v = _
    rw [su_1, if_neg (by omega), k2]
  · show (su st 95 v (nI (sd v + 1))).1 90 v = _
    rw [su_1, if_neg (by omega), k3]
  · show (su st 95 v (nI (sd v + 1))).1 95 v = nI (up sd v (sd v + 1) v)
    rw [su_1, if_pos ⟨rfl, rfl⟩, up_s]
  · show (su st 95 v (nI (sd v + 1))).1 94 v = _
    rw [su_1, if_neg (by omega), k5]
  · show stS (su st 95 v (nI (sd v + 1))).1 t a e lo (up sd v (sd v + 1)) (e v) l
    refine stS_v (n := n) l (e v) v k6 (by omega) (fun x hx => by have := (hlt x hx).1; omega) hvl (fun x hx => rfl) (fun x hx => up_n hx) (fun c x hx => ?_)
    show (su st 95 v (nI (sd v + 1))).1 c x = _
    rw [su_1, if_neg (by omega)]
  · show pv t a e lo (up sd v (sd v + 1)) (n + 1) w
    have := h8.1
    unfold pv at this ⊢
    rw [show up sd v (sd v + 1) w = sd w from up_n hwv]
    exact this
  · exact pv_side h8.2.1 hs (up_s ..) (Or.inr (Or.inr ⟨rfl, by rw [hw]; exact hw1, by rw [hw]; exact Nat.le_refl _⟩))
  · exact okS_c l (e v) h8.2.2 (fun x hx => (by
      have hx2 : x ≠ v := fun z => hvl (by rw [← z]; exact hx)
      exact ⟨rfl, up_n hx2⟩))
theorem wk_root {s : sT} {t a : Nat → Bool} {st : sT} {e lo sd : Nat → Nat} {n w : Nat} (h : wk s t a (st, (e, lo, sd), n, [w])) (hs : sd w = 4) : wk s t a (st, (e, lo, sd), n, []) := by
  obtain ⟨h0, h5, h6, h7, h8, h9⟩ := h
  dsimp only at h0 h5 h6 h7 h8 h9
  refine ⟨h0, h5, fun q hq hz _ => ?_, trivial, okS_root h9 h8 hs, h9⟩
  by_cases e1 : q = w
  · subst e1
    show st.1 90 q = _
    rw [h7.1.2.2.1, tgc_tgn h9 h8.1 hs]
  · exact h6 q hq hz (by simp only [List.mem_cons, List.not_mem_nil, or_false]; exact e1)
theorem leave_run (X : qz_X) {s : sT} {t a : Nat → Bool} {st : sT} {e lo sd : Nat → Nat} {n w v : Nat} {l : List Nat} (h : wk s t a (st, (e, lo, sd), n, w :: v :: l)) (hs : sd w = 4) : ∃ (st' : sT) (y : Nat), rn 137 0 [some (.ref 86), some (.int (nI w)), none] [] (mk X st) = some (some (.int (nI v)), mk X st') ∧ wk s t a (st', (e, up lo v y, sd), n, v :: l) := by
  obtain ⟨⟨h1, h2, h3, h4⟩, h5, h6, h7, h8, h9⟩ := h
  dsimp only at h1 h2 h3 h4 h5 h6 h7 h8 h9
  have hn4 := gl_n h9
  have hvl := top_out h8.2
  have hwl : w ∉ v :: l := top_out h8
  have hwv : w ≠ v := fun z => hwl (by rw [z]; exact List.mem_cons_self ..)
  have hlt := okS_lt l (e v) h8.2.2
  have hvn := h8.2.1.1.2.2.2.1
  have hv1 := h8.2.1.1.2.2.1
  have hwn := h8.1.1.2.2.2.1
  have hw1 := h8.1.1.2.2.1
  have hw4 := h8.1.1.1
  have hv4 := h8.2.1.1.1
  have hlw := h8.1.1.2.2.2.2.2
  have hlv := h8.2.1.1.2.2.2.2.2
  obtain ⟨⟨w1, w2, w3, w4, w5⟩, ⟨k1, k2, k3, k4, k5⟩, k6⟩ := h7
  obtain ⟨tg1, tg2⟩ := tgc_leave h9 h8.1 hs h8.2.1
  have w5 : st.1 94 w = nI v := w5
  have fin : st.1 90 w = nI (tgn t a w) := by rw [w3, tgc_tgn h9 h8.1 hs]
  have bb : nI (e w - e v) + nI (n + 1 - e w) = nI (n + 1 - e v) := by rw [nI_add]; congr 1; omega
  -- what changed is v's own rows 90, 92, 93
  have fin2 : ∀ (st' : sT) (y : Nat), st'.2 = st.2 → (∀ c x, ¬ (c = 90 ∧ x = v) → ¬ (c = 92 ∧ x = v) → ¬ (c = 93 ∧ x = v) → st'.1 c x = st.1 c x) → st'.1 93 v = nI (n + 1 - e v) → st'.1 90 v = nI (tgc t a e v (n + 1)) → st'.1 92 v = nI y → y = (if lo w < e v then (if lo w < lo v then lo w else lo v) else lo v) → wk s t a (st', (e, up lo v y, sd), n, v :: l) := by
    intro st' y f2 fc f93 f90 f92 hy
    refine ⟨⟨by rw [← h1]; exact f2, fun c hc' => ?_, fun q hq => ?_, ?_⟩, fun q hq hz => ?_, fun q hq hz hm => ?_, ⟨⟨?_, f93, f90, ?_, ?_⟩, ?_⟩, ⟨?_, ?_⟩, h9⟩
    · have hc2 := hc'
      simp only [List.mem_cons, List.not_mem_nil, or_false, not_or] at hc2
      funext j
      show st'.1 c j = _
      rw [fc c j (by omega) (by omega) (by omega), h2 c hc']
    · show st'.1 91 q = _
      rw [fc 91 q (by omega) (by omega) (by omega), h3 q hq]
    · show st'.1 86 4 = _
      rw [fc 86 4 (by omega) (by omega) (by omega), h4]
    · show st'.1 90 q = _
      have hz : e q = 0 := hz
      have hqv : q ≠ v := fun z => by rw [z] at hz; omega
      rw [fc 90 q (by omega) (by omega) (by omega), h5 q hq hz]
    · show st'.1 90 q = _
      have hm : q ∉ v :: l := hm
      have hqv : q ≠ v := fun z => hm (by rw [z]; exact List.mem_cons_self ..)
      rw [fc 90 q (by omega) (by omega) (by omega)]
      by_cases e1 : q = w
      · rw [e1]; exact fin
      · refine h6 q hq hz (fun z => ?_)
        rcases List.mem_cons.mp z with z | z
        · exact e1 z
        · exact hm z
    · show st'.1 92 v = nI (up lo v y v)
      rw [up_s, f92]
    · show st'.1 95 v = _
      rw [fc 95 v (by omega) (by omega) (by omega), k4]
    · show st'.1 94 v = _
      rw [fc 94 v (by omega) (by omega) (by omega), k5]
    · show stS st'.1 t a e (up lo v y) sd (e v) l
      exact stS_v (n := n) l (e v) v k6 (by omega) (fun x hx => by have := (hlt x hx).1; omega) hvl (fun x hx => up_n hx) (fun x hx => rfl) (fun c x hx => fc c x (by omega) (by omega) (by omega))
    · exact pv_leave h9 h8.1 hs h8.2.1 (show up lo v y v = _ by rw [up_s, hy])
    · exact okS_c l (e v) h8.2.2 (fun x hx => (by
        have hx2 : x ≠ v := fun z => hvl (by rw [← z]; exact hx)
        exact ⟨up_n hx2, rfl⟩))
  have r1 : ∀ c x, ¬ (c = 93 ∧ x = v) → (su st 93 v (nI (n + 1 - e v))).1 c x = st.1 c x := fun c x hc => by rw [su_1, if_neg hc]
  rw [e_Hanging_leave_0, g_H_parent, i_H_parent hw4, w5, if_neg (nI_m1 (by omega)), g_H_below, i_H_below hv4, k2, g_H_below, i_H_below hw4, w2, bb, w_H_below hv4, g_H_reach, i_H_reach hw4, r1 92 w (by omega), w1, g_H_entered, i_H_entered hv4, r1 91 v (by omega), h3 v hv4]
  by_cases g : lo w < e v
  · rw [if_pos (nI_lt g (by omega)), g_H_reach, g_H_reach, i_H_reach hv4, r1 92 v (by omega), k1, g_H_reach, i_H_reach hw4, r1 92 w (by omega), w1, e_Math_min_0]
    refine ⟨su (su st 93 v (nI (n + 1 - e v))) 92 v (nI (if lo w < lo v then lo w else lo v)), (if lo w < lo v then lo w else lo v), ?_, fin2 _ _ rfl (fun c x c1 c2 c3 => by rw [su_1, if_neg c2, su_1, if_neg c3]) (by rw [su_1, if_neg (by omega), su_1, if_pos ⟨rfl, rfl⟩]) (by rw [su_1, if_neg (by omega), su_1, if_neg (by omega), k3, tg2 g]) (by rw [su_1, if_pos ⟨rfl, rfl⟩]) (by rw [if_pos g])⟩
    by_cases g2 : lo w < lo v
    · rw [if_pos (nI_lt g2 (by omega)), r1_s, w_H_reach hv4, if_pos g2]
    · rw [if_neg (nI_nlt (by omega) (by omega)), r1_s, w_H_reach hv4, if_neg g2]
  · have tt := tg1 (by omega)
    refine ⟨su (su st 93 v (nI (n + 1 - e v))) 90 v (nI (tgc t a e v (n + 1))), lo v, ?_, fin2 _ _ rfl (fun c x c1 c2 c3 => by rw [su_1, if_neg c1, su_1, if_neg c3]) (by rw [su_1, if_neg (by omega), su_1, if_pos ⟨rfl, rfl⟩]) (by rw [su_1, if_pos ⟨rfl, rfl⟩]) (by rw [su_1, if_neg (by omega), su_1, if_neg (by omega), k1]) (by rw [if_neg g])⟩
    rw [if_neg (nI_nlt (by omega) (by omega)), g_H_tongue, i_H_tongue hv4, r1 90 v (by omega), k3, g_H_below, i_H_below hw4, r1 93 w (by omega), w2, nI_add, ← tt, w_H_tongue hv4]

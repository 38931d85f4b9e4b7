/-! the walk: whole -/
def sml (sd : Nat → Nat) : List Nat → Nat
  | [] => 0
  | v :: l => (5 - sd v) + sml sd l
theorem sml_c {sd sd' : Nat → Nat} : ∀ (l : List Nat), (∀ v, v ∈ l → sd' v = sd v) → sml sd' l = sml sd l
  | [], _ => rfl
  | v :: l, h => by
    show (5 - sd' v) + sml sd' l = (5 - sd v) + sml sd l
    rw [h v (List.mem_cons_self ..), sml_c l (fun x hx => h x (List.mem_cons_of_mem _ hx))]
theorem su_same {s : sT} {o k : Nat} {x : Int32} (h : s.1 o k = x) : su s o k x = s := by
  refine Prod.ext ?_ rfl
  funext i j
  rw [su_1]
  by_cases g : i = o ∧ j = k
  · rw [if_pos g, g.1, g.2, h]
  · rw [if_neg g]
theorem follow_step (X : qz_X) {s : sT} {R K : Nat} {t a : Nat → Bool} (hR : rd X R) (hR2 : R ∉ [86, 90, 91, 92, 93, 94, 95]) (hr : rows (s.1 R) t) (hK : rd X K) (hK2 : K ∉ [86, 90, 91, 92, 93, 94, 95]) (hk : rows (s.1 K) a) {st : sT} {e lo sd : Nat → Nat} {n v j : Nat} {l : List Nat} (h : wk s t a (st, (e, lo, sd), n, v :: l)) (hj : j + (5 * (400 - n) + sml sd (v :: l)) ≤ 2000) : ∃ (st' : sT) (e' lo' sd' : Nat → Nat) (n' : Nat) (l' : List Nat), wk s t a (st', (e', lo', sd'), n', l') ∧ (5 * (400 - n') + sml sd' l') + 1 = 5 * (400 - n) + sml sd (v :: l) ∧ (∀ q, q < 400 → e q ≠ 0 → e' q ≠ 0) ∧ rn 138 13 [some (.ref 86), none, some (.ref R), some (.ref K), some (.int (nI v)), some (.int (nI j)), none] [] (mk X st) = rn 138 13 [some (.ref 86), none, some (.ref R), some (.ref K), some (.int (hd l')), some (.int (nI (j + 1))), none] [] (mk X st') := by
  have hh := h
  obtain ⟨⟨h1, h2, h3, h4⟩, h5, h6, h7, h8, h9⟩ := hh
  dsimp only at h1 h2 h3 h4 h5 h6 h7 h8 h9
  have hv4 := h8.1.1.1
  have hsd4 := h8.1.1.2.2.2.2.1
  have hvl := top_out h8
  have hn4 := gl_n h9
  have hsm : sml sd (v :: l) = (5 - sd v) + sml sd l := rfl
  have hvn := h8.1.1.2.2.2.1
  have hlov := h8.1.1.2.2.2.2.2
  obtain ⟨⟨k1, k2, k3, k4, k5⟩, k6⟩ := h7
  have hRa := hR2
  have hKa := hK2
  simp only [List.mem_cons, List.not_mem_nil, or_false, not_or] at hRa hKa
  have hsml : ∀ y, sml (up sd v y) (v :: l) = (5 - y) + sml sd l := fun y => by
    show (5 - up sd v y v) + sml (up sd v y) l = _
    rw [up_s, sml_c l (fun x hx => up_n (fun z => hvl (by rw [← z]; exact hx)))]
  rw [e_Hanging_follow_13, if_neg (nI_ge (by omega) (by decide)), if_neg (nI_m1 (by omega)), g_H_side, i_H_side hv4, k4, nI_add]
  by_cases hs : sd v < 4
  · have r95 : ∀ c x, ¬ (c = 95 ∧ x = v) → (su st 95 v (nI (sd v + 1))).1 c x = st.1 c x := fun c x hc => by rw [su_1, if_neg hc]
    have e92 : su (su st 95 v (nI (sd v + 1))) 92 v (nI (lo v)) = su st 95 v (nI (sd v + 1)) := su_same (by rw [r95 92 v (by omega), k1])
    have hrR : rows ((su st 95 v (nI (sd v + 1))).1 R) t := by
      have : (su st 95 v (nI (sd v + 1))).1 R = s.1 R := by
        funext x
        rw [r95 R x (by omega), h2 R hR2]
      rw [this]; exact hr
    have hrK : rows ((su st 95 v (nI (sd v + 1))).1 K) a := by
      have : (su st 95 v (nI (sd v + 1))).1 K = s.1 K := by
        funext x
        rw [r95 K x (by omega), h2 K hK2]
      rw [this]; exact hk
    rw [if_pos (nI_lt hs (by decide)), g_H_side, i_H_side hv4, k4, C_beside_run X st hv4 hs, r1_s, g_H_side, i_H_side hv4, k4, nI_add, w_H_side hv4]
    by_cases hn : nbs v (sd v) = 400
    · have hw := wk_side (y := lo v) h hs (Or.inl ⟨rfl, fun z => by omega⟩)
      rw [e92] at hw
      refine ⟨_, _, _, _, _, _, hw, by rw [hsml]; omega, fun _ _ z => z, ?_⟩
      rw [bsN_no hn, if_pos rfl]
      rfl
    · have hb4 : nbs v (sd v) < 400 := by have := nbs_le (d := sd v) hv4; omega
      rw [bsN_yes hn, if_neg (nI_m1 (by omega)), isSet_run X hR hrR hb4, r1_s, told_int]
      cases ht : t (nbs v (sd v))
      · have hw := wk_side (y := lo v) h hs (Or.inl ⟨rfl, fun _ z => by rw [ht] at z; cases z⟩)
        rw [e92] at hw
        refine ⟨_, _, _, _, _, _, hw, by rw [hsml]; omega, fun _ _ z => z, ?_⟩
        rw [if_neg (by decide)]
        rfl
      · rw [if_pos rfl, g_H_entered, i_H_entered hb4, r95 91 _ (by omega), h3 _ hb4]
        have hen := h9.1 _ hb4
        by_cases he : e (nbs v (sd v)) = 0
        · have hvy : v ≠ nbs v (sd v) := fun z => by
            have := h8.1.1.2.2.1
            rw [z, he] at this
            omega
          have hadj : adj v (nbs v (sd v)) := ⟨hv4, hb4, sd v, hs, rfl⟩
          have hw1 := wk_enter h hb4 he ht (Or.inr ⟨v, l, rfl, hadj⟩)
          have hsv : up sd (nbs v (sd v)) 0 v = sd v := up_n hvy
          have hw2 := wk_side2 hw1 (by rw [hsv]; exact hs) (by rw [hsv])
          have hn1 := gl_n hw1.2.2.2.2.2
          dsimp only at hn1
          refine ⟨_, _, _, _, _, _, hw2, ?_, fun q hq z => ?_, ?_⟩
          · show 5 * (400 - (n + 1)) + ((5 - up (up sd (nbs v (sd v)) 0) v (up sd (nbs v (sd v)) 0 v + 1) (nbs v (sd v))) + sml (up (up sd (nbs v (sd v)) 0) v (up sd (nbs v (sd v)) 0 v + 1)) (v :: l)) + 1 = _
            have e1 : sml (up (up sd (nbs v (sd v)) 0) v (up sd (nbs v (sd v)) 0 v + 1)) (v :: l) = (5 - (sd v + 1)) + sml sd l := by
              show (5 - up (up sd (nbs v (sd v)) 0) v (up sd (nbs v (sd v)) 0 v + 1) v) + sml (up (up sd (nbs v (sd v)) 0) v (up sd (nbs v (sd v)) 0 v + 1)) l = _
              rw [up_s, hsv, sml_c l (fun x hx => ?_)]
              have hx1 : x ≠ v := fun z => hvl (by rw [← z]; exact hx)
              have hx2 : x ≠ nbs v (sd v) := fun z => by
                have := (okS_lt l (e v) h8.2 x hx).2.1
                rw [z, he] at this
                omega
              rw [up_n hx1, up_n hx2]
            rw [e1, up_n (Ne.symm hvy), up_s]
            omega
          · by_cases e1 : q = nbs v (sd v)
            · rw [e1, up_s]; omega
            · rw [up_n e1]; exact z
          · rw [he, if_pos (show nI 0 = (0 : Int32) from nI_0), ck_H, enter_run X hK hK2 hrK (by rw [r95 86 4 (by omega), h4]) hb4, r0_s, ent_su hvy, hsv]
            rfl
        · have hw := wk_side (y := if e (nbs v (sd v)) < lo v then e (nbs v (sd v)) else lo v) h hs (Or.inr ⟨hb4, by omega, rfl⟩)
          refine ⟨_, _, _, _, _, _, hw, by rw [hsml]; omega, fun _ _ z => z, ?_⟩
          rw [if_neg (fun z => he (by rw [← nI_0, nI_eq (by omega) (by decide)] at z; exact z)), g_H_reach, g_H_reach, i_H_reach hv4, r95 92 v (by omega), k1, g_H_entered, i_H_entered hb4, r95 91 _ (by omega), h3 _ hb4, e_Math_min_0]
          by_cases g : e (nbs v (sd v)) < lo v
          · rw [if_pos (nI_lt g (by omega)), r1_s, w_H_reach hv4, if_pos g]
            rfl
          · rw [if_neg (nI_nlt (by omega) (by omega)), r1_s, w_H_reach hv4, if_neg g]
            rfl
  · have hs4 : sd v = 4 := by omega
    rw [if_neg (nI_nlt (by omega) (by omega)), ck_H]
    cases l with
    | nil =>
      refine ⟨_, _, _, _, _, _, wk_root h hs4, ?_, fun _ _ z => z, ?_⟩
      · rw [hsm]
        show 5 * (400 - n) + 0 + 1 = 5 * (400 - n) + (5 - sd v + 0)
        omega
      · have k5 : st.1 94 v = -1 := k5
        rw [e_Hanging_leave_0, g_H_parent, i_H_parent hv4, k5, if_pos rfl, r1_s]
        rfl
    | cons v2 l2 =>
      obtain ⟨st', y, el, hw⟩ := leave_run X h hs4
      refine ⟨_, _, _, _, _, _, hw, by rw [hsm]; omega, fun _ _ z => z, ?_⟩
      rw [el, r1_s]
      rfl
theorem follow_run (X : qz_X) {s : sT} {R K : Nat} {t a : Nat → Bool} (hR : rd X R) (hR2 : R ∉ [86, 90, 91, 92, 93, 94, 95]) (hr : rows (s.1 R) t) (hK : rd X K) (hK2 : K ∉ [86, 90, 91, 92, 93, 94, 95]) (hk : rows (s.1 K) a) {st : sT} {e lo sd : Nat → Nat} {n r : Nat} (h : wk s t a (st, (e, lo, sd), n, [])) (hr4 : r < 400) (he : e r = 0) (ht : t r = true) (ha : a r = true) : ∃ (st' : sT) (e' lo' sd' : Nat → Nat) (n' : Nat), wk s t a (st', (e', lo', sd'), n', []) ∧ (∀ q, q < 400 → e q ≠ 0 ∨ q = r → e' q ≠ 0) ∧ rn 138 0 [some (.ref 86), some (.int (nI r)), some (.ref R), some (.ref K), none, none, none] [] (mk X st) = some (none, mk X st') := by
  have hw0 := wk_enter h hr4 he ht (Or.inl ⟨rfl, ha⟩)
  have hn0 := gl_n hw0.2.2.2.2.2
  dsimp only at hn0
  have hrK : rows (st.1 K) a := by rw [h.1.2.1 K hK2]; exact hk
  have es : rn 138 0 [some (.ref 86), some (.int (nI r)), some (.ref R), some (.ref K), none, none, none] [] (mk X st) = rn 138 13 [some (.ref 86), none, some (.ref R), some (.ref K), some (.int (nI r)), some (.int (nI 0)), none] [] (mk X (ent st r n (hd []) (a r))) := by
    rw [e_Hanging_follow_0, ck_H, enter_run X hK hK2 hrK h.1.2.2.2 hr4, r0_s]
    rfl
  obtain ⟨⟨⟨st', ⟨e', lo', sd'⟩, n', l'⟩, j⟩, ⟨w1, w2, w3⟩, hex, eq⟩ := it_wh (fun (x : (sT × ((Nat → Nat) × (Nat → Nat) × (Nat → Nat)) × Nat × List Nat) × Nat) => rn 138 13 [some (.ref 86), none, some (.ref R), some (.ref K), some (.int (hd x.1.2.2.2)), some (.int (nI x.2)), none] [] (mk X x.1.1)) (fun x => wk s t a x.1 ∧ x.2 + (5 * (400 - x.1.2.2.1) + sml x.1.2.1.2.2 x.1.2.2.2) ≤ 2000 ∧ ∀ q, q < 400 → e q ≠ 0 ∨ q = r → x.1.2.1.1 q ≠ 0) (fun x => x.1.2.2.2 = []) (fun x => 5 * (400 - x.1.2.2.1) + sml x.1.2.1.2.2 x.1.2.2.2) (by
    rintro ⟨⟨u, ⟨e1, lo1, sd1⟩, n1, l1⟩, j⟩ ⟨w1, w2, w3⟩
    dsimp only at w1 w2 w3 ⊢
    cases l1 with
    | nil => exact Or.inl rfl
    | cons v l =>
      obtain ⟨u2, e2, lo2, sd2, n2, l2, x1, x2, x3, x4⟩ := follow_step X hR hR2 hr hK hK2 hk w1 w2
      refine Or.inr ⟨((u2, (e2, lo2, sd2), n2, l2), j + 1), ⟨x1, ?_, fun q hq hz => x3 q hq (w3 q hq hz)⟩, ?_, x4⟩
      · show j + 1 + (5 * (400 - n2) + sml sd2 l2) ≤ 2000
        omega
      · show 5 * (400 - n2) + sml sd2 l2 < 5 * (400 - n1) + sml sd1 (v :: l)
        omega) ((ent st r n (hd []) (a r), (up e r (n + 1), up lo r (if a r then 0 else n + 1), up sd r 0), n + 1, [r]), 0) ⟨hw0, by
      show 0 + (5 * (400 - (n + 1)) + ((5 - up sd r 0 r) + 0)) ≤ 2000
      rw [up_s]
      omega, fun q hq hz => by
      show up e r (n + 1) q ≠ 0
      by_cases e1 : q = r
      · rw [e1, up_s]; omega
      · rw [up_n e1]
        rcases hz with hz | hz
        · exact hz
        · exact absurd hz e1⟩
  dsimp only at w1 w2 w3 hex eq
  subst hex
  refine ⟨st', e', lo', sd', n', w1, w3, ?_⟩
  have eq2 : rn 138 13 [some (.ref 86), none, some (.ref R), some (.ref K), some (.int (nI r)), some (.int (nI 0)), none] [] (mk X (ent st r n (hd []) (a r))) = rn 138 13 [some (.ref 86), none, some (.ref R), some (.ref K), some (.int (hd [])), some (.int (nI j)), none] [] (mk X st') := eq
  rw [es, eq2, e_Hanging_follow_13]
  by_cases g : nI 2000 ≤ nI j
  · rw [if_pos g]
  · rw [if_neg g, if_pos (show hd [] = -1 from rfl)]
noncomputable def tgs (t a : Nat → Bool) (q : Nat) : Nat := if hB t a q then tgn t a q else 0
theorem walk_run (X : qz_X) {s : sT} {R K : Nat} {t a : Nat → Bool} (hR : rd X R) (hR2 : R ∉ [86, 90, 91, 92, 93, 94, 95]) (hr : rows (s.1 R) t) (hK : rd X K) (hK2 : K ∉ [86, 90, 91, 92, 93, 94, 95]) (hk : rows (s.1 K) a) : ∃ st : sT, rn 139 0 [some (.ref 86), some (.ref R), some (.ref K), none] [] (mk X s) = some (none, mk X st) ∧ st.2 = s.2 ∧ (∀ c, c ∉ [86, 90, 91, 92, 93, 94, 95] → st.1 c = s.1 c) ∧ st.1 86 4 = nI (fb_ct (hB t a) 400) ∧ ∀ q, q < 400 → st.1 90 q = nI (tgs t a q) := by
  have hRa := hR2
  have hKa := hK2
  simp only [List.mem_cons, List.not_mem_nil, or_false, not_or] at hRa hKa
  obtain ⟨⟨st, ⟨e, lo, sd⟩, n, l⟩, ⟨hw, hl, hse⟩, eq⟩ := it_up (fun i (x : sT × ((Nat → Nat) × (Nat → Nat) × (Nat → Nat)) × Nat × List Nat) => rn 139 23 [some (.ref 86), some (.ref R), some (.ref K), some (.int (nI i))] [] (mk X x.1)) (fun i x => wk s t a x ∧ x.2.2.2 = [] ∧ ∀ q, q < 400 → q < i → t q = true → a q = true → x.2.1.1 q ≠ 0) (Nat.zero_le 400) (by
    rintro i ⟨u, ⟨e, lo, sd⟩, n, l⟩ _ hi ⟨hw, hl, hse⟩
    dsimp only at hw hl hse ⊢
    subst hl
    have h91 := hw.1.2.2.1 i hi
    dsimp only at h91
    have hn4 := gl_n hw.2.2.2.2.2
    have hei := hw.2.2.2.2.2.1 i hi
    dsimp only at hn4 hei
    have hrR : rows (u.1 R) t := by rw [hw.1.2.1 R hR2]; exact hr
    have hrK : rows (u.1 K) a := by rw [hw.1.2.1 K hK2]; exact hk
    have stay : (t i = true → a i = true → e i ≠ 0) → ∀ q, q < 400 → q < i + 1 → t q = true → a q = true → e q ≠ 0 := by
      intro z q hq hqi h1 h2
      by_cases e1 : q = i
      · subst e1; exact z h1 h2
      · exact hse q hq (by omega) h1 h2
    rw [e_Hanging_walk_23, if_neg (nI_ge hi (by decide)), g_H_entered, i_H_entered hi, h91, nI_add]
    by_cases he : e i = 0
    · rw [he, if_pos (show nI 0 = (0 : Int32) from nI_0), isSet_run X hR hrR hi, r1_s, told_int]
      cases ht : t i
      · refine ⟨(u, (e, lo, sd), n, []), ⟨hw, rfl, stay (fun z => by rw [ht] at z; cases z)⟩, ?_⟩
        rw [if_neg (by decide)]
      · rw [if_pos rfl, isSet_run X hK hrK hi, r1_s, told_int]
        cases ha : a i
        · refine ⟨(u, (e, lo, sd), n, []), ⟨hw, rfl, stay (fun _ z => by rw [ha] at z; cases z)⟩, ?_⟩
          rw [if_neg (by decide)]
        · obtain ⟨u2, e2, lo2, sd2, n2, y1, y2, y3⟩ := follow_run X hR hR2 hr hK hK2 hk hw hi he ht ha
          refine ⟨(u2, (e2, lo2, sd2), n2, []), ⟨y1, rfl, fun q hq hqi h1 h2 => ?_⟩, ?_⟩
          · by_cases e1 : q = i
            · exact y2 q hq (Or.inr e1)
            · exact y2 q hq (Or.inl (hse q hq (by omega) h1 h2))
          · rw [if_pos rfl, ck_H, y3, r0_s]
    · refine ⟨(u, (e, lo, sd), n, []), ⟨hw, rfl, stay (fun _ _ => he)⟩, ?_⟩
      rw [if_neg (fun z => he (by rw [← nI_0, nI_eq (by omega) (by decide)] at z; exact z))]) (x := (su (sa (sa s 90 (fun j => if j < 400 then nI 0 else s.1 90 j)) 91 (fun j => if j < 400 then nI 0 else s.1 91 j)) 86 4 (nI 0), (fun _ => 0, fun _ => 0, fun _ => 0), 0, [])) (by
    refine ⟨⟨⟨rfl, fun c hc => ?_, fun q hq => ?_, ?_⟩, fun q hq _ => ?_, fun q hq hz => absurd rfl hz, trivial, fun z hz p => ?_, ⟨fun q _ => Nat.le_refl _, fun q _ hz => absurd rfl hz, fun p q _ _ _ hz => absurd rfl hz, fun m h1 h2 => ?_, fun y _ hz => absurd rfl hz⟩⟩, rfl, fun q _ hq => absurd hq (Nat.not_lt_zero q)⟩
    · simp only [List.mem_cons, List.not_mem_nil, or_false, not_or] at hc
      funext j
      show (su (sa (sa s 90 _) 91 _) 86 4 (nI 0)).1 c j = _
      rw [su_1, if_neg (by omega), sa_1, if_neg (by omega), sa_1, if_neg (by omega)]
    · show (su (sa (sa s 90 _) 91 _) 86 4 (nI 0)).1 91 q = _
      rw [su_1, if_neg (by omega), sa_1, if_pos rfl, if_pos hq]
    · show (su (sa (sa s 90 _) 91 _) 86 4 (nI 0)).1 86 4 = _
      rw [su_1, if_pos ⟨rfl, rfl⟩]
    · show (su (sa (sa s 90 _) 91 _) 86 4 (nI 0)).1 90 q = _
      rw [su_1, if_neg (by omega), sa_1, if_neg (by omega), sa_1, if_pos rfl, if_pos hq]
    · have p : 1 ≤ 0 := p
      omega
    · have : m = 1 := by
        have h2 : m ≤ 0 + 1 := h2
        omega
      subst this
      have : fb_ct (fun z => decide (1 ≤ (fun _ : Nat => 0) z)) 400 = 0 := fb_ct_zero.mpr (fun z _ => rfl)
      show fb_ct (fun z => decide (1 ≤ (fun _ : Nat => 0) z)) 400 + 1 = 0 + 1
      rw [this])
  dsimp only at hw hl hse eq
  subst hl
  obtain ⟨⟨h1, h2, h3, h4⟩, h5, h6, h7, h8, h9⟩ := hw
  dsimp only at h1 h2 h3 h4 h5 h6 h7 h8 h9
  have hen : ∀ q, q < 400 → (hB t a q = true ↔ e q ≠ 0) := by
    intro q hq
    rw [hB_iff]
    constructor
    · intro hh
      refine (hng_ind (S := fun q => q < 400 ∧ e q ≠ 0) (fun r p1 p2 p3 => ⟨p1, hse r p1 p1 p2 p3⟩) (fun p q hp hj ht => ⟨hj.2.1, ?_⟩) hh).2
      have := h9.1 p hp.1
      have := h8 p hp.1 (by have := hp.2; omega) (by omega) q hj ht
      omega
    · intro hz
      refine hng_up (fun x hx hxt => ?_) (h9.2.2.2.2 q hq hz)
      have hxt : (t x && (decide (1 ≤ e x) && decide (e x ≤ e q))) = true := hxt
      rw [Bool.and_eq_true] at hxt
      exact hxt.1
  have hct : fb_ct (hB t a) 400 = n := by
    have := h9.2.2.2.1 1 (Nat.le_refl _) (by omega)
    have c : fb_ct (hB t a) 400 = fb_ct (fun z => decide (1 ≤ e z)) 400 := fb_ct_cong (fun q hq => by
      rw [Bool.eq_iff_iff, hen q hq, decide_eq_true_eq]
      omega)
    omega
  refine ⟨st, ?_, h1, h2, by rw [h4, hct], fun q hq => ?_⟩
  · rw [e_Hanging_walk_0, g_H_tongue, fill_run X s 90 400 (nI 0) rfl (by decide) (by decide), r0_s, g_H_entered, fill_run X _ 91 400 (nI 0) rfl (by decide) (by decide), r0_s, p_H_reached]
    have eq2 : rn 139 23 [some (.ref 86), some (.ref R), some (.ref K), some (.int (nI 0))] [] (mk X (su (sa (sa s 90 (fun j => if j < 400 then nI 0 else s.1 90 j)) 91 (fun j => if j < 400 then nI 0 else s.1 91 j)) 86 4 (nI 0))) = rn 139 23 [some (.ref 86), some (.ref R), some (.ref K), some (.int (nI 400))] [] (mk X st) := eq
    refine Eq.trans eq2 ?_
    rw [e_Hanging_walk_23, if_pos (nI_le (by decide) (by decide))]
  · unfold tgs
    by_cases hz : e q = 0
    · have : hB t a q = false := by
        cases hb : hB t a q
        · rfl
        · exact absurd hz ((hen q hq).mp hb)
      rw [this, if_neg (by decide), h5 q hq hz]
    · rw [(hen q hq).mpr hz, if_pos rfl, h6 q hq hz (by simp)]

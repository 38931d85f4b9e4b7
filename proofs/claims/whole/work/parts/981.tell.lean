/-! a text told -/
def A00 (w h : Nat) : shT := ((fun j => if j = 0 then w else if j = 1 then h else if j = 6 then 15 else 0), (fun _ => false), (fun _ => 1), (fun _ _ => false), fun _ _ => 0)
def szS (T : txT) (P : Nat) : rsT := if tK T 0 P then (if tN T 1 20 (nx T P) then (if tN T 1 20 (nx2 T P) then (if tS T 59 (nx3 T P) then (true, nx4 T P, (A00 (nv T (nx T P)) (nv T (nx2 T P)), fun _ => 0)) else (false, nx3 T P, (A00 0 0, fun _ => 0))) else (false, nx2 T P, (A00 0 0, fun _ => 0))) else (false, nx T P, (A00 0 0, fun _ => 0))) else (false, P, (A00 0 0, fun _ => 0))
def tlS (T : txT) : Nat → drT → Nat → rsT
  | 0, D, P => (decide (kd T P = 0), P, D)
  | f + 1, D, P => if kd T P = 0 then (true, P, D) else if (smS T D P).1 then (if tS T 59 (smS T D P).2.1 then tlS T f (setN (smS T D P).2.2.1 2 ((smS T D P).2.2.1.1 2 + 1), (smS T D P).2.2.2) (nx T (smS T D P).2.1) else (false, (smS T D P).2.1, D)) else (false, (smS T D P).2.1, D)
def ttS (T : txT) : rsT := if (szS T (sk T 0)).1 then tlS T 60 (szS T (sk T 0)).2.2 (szS T (sk T 0)).2.1 else szS T (sk T 0)
section TL
variable {T : txT} {P q : Nat} {s t u : sT} {D : drT}
theorem A00_ok {w h : Nat} (h1 : 1 ≤ w ∧ w ≤ 20) (h2 : 1 ≤ h ∧ h ≤ 20) : okA (A00 w h) := by
  refine ⟨h1, h2, (by decide : 0 ≤ 60), (by decide : 0 ≤ 8), (by decide : 0 ≤ 12), (by decide : 0 < 2 ^ 0), (by decide : 1 ≤ 15 ∧ 15 ≤ 15), (by decide : 0 ≤ 400), (by decide : 0 ≤ 999), fun q _ h => (by cases h), fun q _ => (by decide : 1 ≤ 99), fun b q _ h => (by cases h), fun b hb => absurd hb (Nat.not_lt_zero b), fun k hk => absurd hk (Nat.not_lt_zero k)⟩
theorem szS_ok : (szS T P).1 = true → okDr T (szS T P).2.2 ∧ (szS T P).2.2.1.1 2 = 0 := by
  unfold szS
  cases c1 : tK T 0 P
  · exact fun z => by cases z
  · cases c2 : tN T 1 20 (nx T P)
    · exact fun z => by cases z
    · cases c3 : tN T 1 20 (nx2 T P)
      · exact fun z => by cases z
      · cases c4 : tS T 59 (nx3 T P)
        · exact fun z => by cases z
        · exact fun _ => ⟨⟨A00_ok (tN_lt c2).2 (tN_lt c3).2, rfl, fun i hi => absurd hi (Nat.not_lt_zero i)⟩, rfl⟩
theorem setN2_ok (h : okDr T D) (h2 : D.1.1 2 < 60) : okDr T (setN D.1 2 (D.1.1 2 + 1), D.2) := by
  obtain ⟨⟨o1, o2, o3, o4⟩, p2, p3⟩ := h
  exact ⟨⟨o1, o2, h2, o4⟩, p2, p3⟩
theorem tlS_ok : ∀ f D P, okDr T D → D.1.1 2 + f ≤ 60 → (tlS T f D P).1 = true → okDr T (tlS T f D P).2.2
  | 0, D, P, h, _, _ => h
  | f + 1, D, P, h, h2, hr => by
    unfold tlS at hr ⊢
    by_cases c : kd T P = 0
    · rw [if_pos c]; exact h
    · rw [if_neg c] at hr ⊢
      have hs := smS_ok (T := T) (P := P) h
      cases c1 : (smS T D P).1
      · rw [c1] at hr; cases hr
      · rw [c1] at hr
        rw [if_pos rfl] at hr ⊢
        obtain ⟨s1, s2⟩ := hs c1
        cases c2 : tS T 59 (smS T D P).2.1
        · rw [c2] at hr; cases hr
        · rw [c2, if_pos rfl] at hr
          rw [if_pos rfl]
          refine tlS_ok f _ _ (setN2_ok s1 (by omega)) ?_ hr
          show (smS T D P).2.2.1.1 2 + 1 + f ≤ 60
          omega
theorem ttS_ok : (ttS T).1 = true → okDr T (ttS T).2.2 := by
  unfold ttS
  have hz := szS_ok (T := T) (P := sk T 0)
  cases c : (szS T (sk T 0)).1
  · rw [if_neg (by decide)]
    exact fun z => by rw [c] at z; cases z
  · rw [if_pos rfl]
    obtain ⟨z1, z2⟩ := hz c
    exact tlS_ok 60 _ _ z1 (by rw [z2]; decide)
theorem begin_C (X : qz_X) (hq : isS q) (hq2 : q < 69) {w h : Nat} : ∃ u : sT, rn 33 0 [some (.ref q), some (.int (nI w)), some (.int (nI h))] [] (mk X s) = some (none, mk X u) ∧ u.2 = s.2 ∧ (∀ c, ¬ (q ≤ c ∧ c < q + 10) → u.1 c = s.1 c) ∧ ∀ N, dCd T q (A00 w h, N) u := by
  have hlt := isS_lt q hq
  have iS := isS_S q hq
  have g1 : ∃ v : sT, v = su (su (su (su (su (su (su s q 0 (nI 1)) q 1 (nI w)) q 2 (nI h)) q 3 (nI 0)) q 4 (nI 15)) q 5 (nI 0)) q 6 (nI 0) := ⟨_, rfl⟩
  obtain ⟨v, hv⟩ := g1
  have g2 : ∃ u : sT, u = sa (su (su (su (su (sa (sa v (q + 1) (fun j => if j < 20 then nI 0 else v.1 (q + 1) j)) (q + 2) (fun j => if j < 400 then nI 1 else (sa v (q + 1) (fun j => if j < 20 then nI 0 else v.1 (q + 1) j)).1 (q + 2) j)) q 10 (nI 0)) (q + 3) 0 (nI 0)) (q + 3) 1 (nI 0)) (q + 3) 2 (nI 0)) (q + 6) (fun j => if j < 240 then nI 0 else (su (su (su (su (sa (sa v (q + 1) (fun j => if j < 20 then nI 0 else v.1 (q + 1) j)) (q + 2) (fun j => if j < 400 then nI 1 else (sa v (q + 1) (fun j => if j < 20 then nI 0 else v.1 (q + 1) j)).1 (q + 2) j)) q 10 (nI 0)) (q + 3) 0 (nI 0)) (q + 3) 1 (nI 0)) (q + 3) 2 (nI 0)).1 (q + 6) j) := ⟨_, rfl⟩
  obtain ⟨u, hu⟩ := g2
  have uq : ∀ j, j < 7 → u.1 q j = v.1 q j := fun j hj => by
    rw [hu, sa_1, if_neg (by omega), su_1, if_neg (by omega), su_1, if_neg (by omega), su_1, if_neg (by omega), su_1, if_neg (by omega), sa_1, if_neg (by omega), sa_1, if_neg (by omega)]
  have u10 : u.1 q 10 = nI 0 := by
    rw [hu, sa_1, if_neg (by omega), su_1, if_neg (by omega), su_1, if_neg (by omega), su_1, if_neg (by omega), su_1, if_pos ⟨rfl, rfl⟩]
  have u1 : ∀ j, j < 20 → u.1 (q + 1) j = nI 0 := fun j hj => by
    rw [hu, sa_1, if_neg (by omega), su_1, if_neg (by omega), su_1, if_neg (by omega), su_1, if_neg (by omega), su_1, if_neg (by omega), sa_1, if_neg (by omega), sa_1, if_pos rfl, if_pos hj]
  have u2 : ∀ j, j < 400 → u.1 (q + 2) j = nI 1 := fun j hj => by
    rw [hu, sa_1, if_neg (by omega), su_1, if_neg (by omega), su_1, if_neg (by omega), su_1, if_neg (by omega), su_1, if_neg (by omega), sa_1, if_pos rfl, if_pos hj]
  have u3 : ∀ j, j < 3 → u.1 (q + 3) j = nI 0 := fun j hj => by
    rw [hu, sa_1, if_neg (by omega)]
    rcases (show j = 0 ∨ j = 1 ∨ j = 2 by omega) with rfl | rfl | rfl
    · rw [su_1, if_neg (by omega), su_1, if_neg (by omega), su_1, if_pos ⟨rfl, rfl⟩]
    · rw [su_1, if_neg (by omega), su_1, if_pos ⟨rfl, rfl⟩]
    · rw [su_1, if_pos ⟨rfl, rfl⟩]
  have u6 : ∀ j, j < 240 → u.1 (q + 6) j = nI 0 := fun j hj => by rw [hu, sa_1, if_pos rfl, if_pos hj]
  refine ⟨u, ?_, by rw [hu, hv]; rfl, fun c hc => ?_, fun N => ⟨?_, ?_, fun b g1 g2 y hy => u6 _ (by omega), fun i hi => absurd hi (Nat.not_lt_zero i)⟩⟩
  · rw [e_Sheet_begin_0, p_S_told hq, p_S_wide hq, p_S_high hq, p_S_statements hq, p_S_held hq, p_S_brush hq, p_S_wear hq, ← hv, g_S_through hq, fill_run X _ (q + 1) 20 (nI 0) iS.2.2.1 (by omega) (by decide), r0_s, g_S_worth hq, fill_run X _ (q + 2) 400 (nI 1) iS.2.2.2.1 (by omega) (by decide), r0_s, p_S_shapeNumber hq, g_S_bridges hq, ck_B hq, e_Bridges_begin_0, p_B_number hq, p_B_in hq, p_B_hidden hq, g_B_rows hq, fill_run X _ (q + 6) 240 (nI 0) iS.2.2.2.2.2.2.1 (by omega) (by decide), r0_s, r0_s, hu]
  · funext j
    rw [hu, sa_1, if_neg (by omega), su_1, if_neg (by omega), su_1, if_neg (by omega), su_1, if_neg (by omega), su_1, if_neg (by omega), sa_1, if_neg (by omega), sa_1, if_neg (by omega), hv, su_1, if_neg (by omega), su_1, if_neg (by omega), su_1, if_neg (by omega), su_1, if_neg (by omega), su_1, if_neg (by omega), su_1, if_neg (by omega), su_1, if_neg (by omega)]
  · refine ⟨⟨?_, ?_, ?_, ?_, u3 0 (by decide), u3 1 (by decide), ?_, ?_, ?_⟩, fun y hy x hx => ?_, fun k hk => u2 k hk, fun b hb => absurd hb (Nat.not_lt_zero b), fun x hx => ?_, fun b hb => absurd hb (Nat.not_lt_zero b), fun k hk => absurd hk (Nat.not_lt_zero k)⟩
    · rw [uq 1 (by decide), hv, su_1, if_neg (by omega), su_1, if_neg (by omega), su_1, if_neg (by omega), su_1, if_neg (by omega), su_1, if_neg (by omega), su_1, if_pos ⟨rfl, rfl⟩]; rfl
    · rw [uq 2 (by decide), hv, su_1, if_neg (by omega), su_1, if_neg (by omega), su_1, if_neg (by omega), su_1, if_neg (by omega), su_1, if_pos ⟨rfl, rfl⟩]; rfl
    · rw [uq 3 (by decide), hv, su_1, if_neg (by omega), su_1, if_neg (by omega), su_1, if_neg (by omega), su_1, if_pos ⟨rfl, rfl⟩]; rfl
    · exact u10
    · rw [uq 4 (by decide), hv, su_1, if_neg (by omega), su_1, if_neg (by omega), su_1, if_pos ⟨rfl, rfl⟩]; rfl
    · rw [uq 5 (by decide), hv, su_1, if_neg (by omega), su_1, if_pos ⟨rfl, rfl⟩]; rfl
    · rw [uq 6 (by decide), hv, su_1, if_pos ⟨rfl, rfl⟩]; rfl
    · rw [u1 y hy]
      show bt (nI 0) x = (decide (x < 20) && false)
      rw [b_n0, Bool.and_false]
    · rw [u3 2 (by decide), b_n0]
      symm
      exact decide_eq_false (fun z => absurd z.1 (Nat.not_lt_zero x))
  · rw [uq 0 (by decide), hv, su_1, if_neg (by omega), su_1, if_neg (by omega), su_1, if_neg (by omega), su_1, if_neg (by omega), su_1, if_neg (by omega), su_1, if_neg (by omega), su_1, if_pos ⟨rfl, rfl⟩]
theorem C_size (X : qz_X) (hT : okT T) (hq : isS q) (hq2 : q < 69) (h : cPo T P s) : CRn X T q s 35 [some (.ref 78), some (.ref q), none] (szS T P) := by
  unfold CRn szS
  rw [e_Teller_tellSize_0, ck_L, C_key X hT h (by decide), r1_s]
  cases c1 : tK T 0 P
  · exact ⟨s, by rw [if_pos (by decide)]; rfl, frC.rf s, h, fun z => by cases z⟩
  · have cz : cPo T (nx T P) (up2 s) := cPo_up h (tK_lt c1)
    rw [if_neg (by decide), if_pos rfl, ck_L, C_num X hT cz (by decide) (by decide), r1_s, if_pos rfl]
    cases c2 : tN T 1 20 (nx T P)
    · exact ⟨up2 s, by rw [if_pos (by decide)]; rfl, (o78_up s).fr, cz, fun z => by cases z⟩
    · have hy : ∃ y : sT, y = up2 (su (up2 s) 78 3 (nI (nv T (nx T P)))) := ⟨_, rfl⟩
      obtain ⟨y, hy⟩ := hy
      have oy : o78 s y := by rw [hy]; exact ((o78_up s).tr o78_su).tr (o78_up _)
      have cy : cPo T (nx2 T P) y := by rw [hy]; exact cPo_up (cPo_78 cz (by decide)) (tN_lt c2).1
      have y3 : y.1 78 3 = nI (nv T (nx T P)) := by rw [hy, up2_o (by decide), su_1, if_pos ⟨rfl, rfl⟩]
      rw [if_neg (by decide), if_pos rfl, ← hy, g_L_number, y3, ck_L, C_num X hT cy (by decide) (by decide), r1_s, if_pos rfl]
      cases c3 : tN T 1 20 (nx2 T P)
      · exact ⟨y, by rw [if_pos (by decide)]; rfl, oy.fr, cy, fun z => by cases z⟩
      · have hx : ∃ x : sT, x = up2 (su y 78 3 (nI (nv T (nx2 T P)))) := ⟨_, rfl⟩
        obtain ⟨x, hx⟩ := hx
        have ox : o78 s x := by rw [hx]; exact (oy.tr o78_su).tr (o78_up _)
        have cx : cPo T (nx3 T P) x := by rw [hx]; exact cPo_up (cPo_78 cy (by decide)) (tN_lt c3).1
        have x3 : x.1 78 3 = nI (nv T (nx2 T P)) := by rw [hx, up2_o (by decide), su_1, if_pos ⟨rfl, rfl⟩]
        obtain ⟨w, ew, w2, wc, wd⟩ := begin_C (T := T) (s := x) X hq hq2 (w := nv T (nx T P)) (h := nv T (nx2 T P))
        have fw : frC q s w := ox.fr.tr (frC_q w2 wc)
        have cw : cPo T (nx3 T P) w := cPo_cong cx (fun c p r => wc c (by omega)) (by rw [wc 78 (by omega)])
        rw [if_neg (by decide), if_pos rfl, ← hx, g_L_number, x3, ck_S hq, ew, r0_s, ck_L, C_sign X hT cw (by decide), r1_s, qz_zb, if_pos rfl]
        cases c4 : tS T 59 (nx3 T P)
        · exact ⟨w, rfl, fw, cw, fun z => by cases z⟩
        · exact ⟨up2 w, rfl, fw.tr (o78_up w).fr, cPo_up cw (tS_lt c4), fun _ => dCd_78 hq (wd _) (o78_up w)⟩
theorem lp_tell (X : qz_X) (hT : okT T) (hq : isS q) (hq2 : q < 69) : ∀ (f : Nat) (D : drT) (P : Nat) (u : sT) (v : Nat), v + f = 60 → D.1.1 2 = v → okDr T D → frC q s u → cPo T P u → dCd T q D u → ∃ z : sT, rn 69 27 [some (.ref 78), none, none, some (.ref q), some (.int (nI v))] [] (mk X u) = some (some (.int (bI (tlS T f D P).1)), mk X z) ∧ frC q s z ∧ cPo T (tlS T f D P).2.1 z ∧ ((tlS T f D P).1 = true → dCd T q (tlS T f D P).2.2 z)
  | 0, D, P, u, v, hv, hD, ok, fu, cu, du => by
    obtain ⟨hP, a, ha, r1, r2, r3, r4, r5⟩ := cPo_rd hT cu
    have k4 := kd4 T P
    refine ⟨u, ?_, fu, cu, fun _ => du⟩
    rw [e_Teller_tell_27, if_pos (nI_le (by omega) (by omega)), g_L_tokens, g_K_kind, g_L_at, r1, i_K_kind ha, r2]
    rw [show (tlS T 0 D P).1 = decide (kd T P = 0) from rfl]
    by_cases k : kd T P = 0
    · rw [if_pos (by rw [k]; rfl), decide_eq_true k]; rfl
    · rw [if_neg (fun z => k ((nI_ne_0 (by omega)).mp z)), decide_eq_false k]; rfl
  | f + 1, D, P, u, v, hv, hD, ok, fu, cu, du => by
    obtain ⟨hP, a, ha, r1, r2, r3, r4, r5⟩ := cPo_rd hT cu
    have k4 := kd4 T P
    rw [e_Teller_tell_27, if_neg (nI_ge (by omega) (by decide)), g_L_tokens, g_K_kind, g_L_at, r1, i_K_kind ha, r2]
    unfold tlS
    by_cases k : kd T P = 0
    · rw [if_pos k, if_pos (by rw [k]; rfl), g_L_tokens, g_K_kind, g_L_at, r1, i_K_kind ha, r2, if_pos (by rw [k]; rfl)]
      exact ⟨u, rfl, fu, cu, fun _ => du⟩
    · obtain ⟨z, ez, fz, cz, dz⟩ := C_statement X hT hq hq2 ok cu du
      have hs := smS_ok (T := T) (P := P) ok
      rw [if_neg k, if_neg (fun z => k ((nI_ne_0 (by omega)).mp z)), ck_L, ez, r1_s]
      cases c1 : (smS T D P).1
      · exact ⟨z, by rw [if_pos (by decide)]; rfl, fu.tr fz, cz, fun z => by cases z⟩
      · obtain ⟨s1, s2⟩ := hs c1
        have dz := dz c1
        rw [if_neg (by decide), ck_L, C_sign X hT cz (by decide), r1_s, if_pos rfl]
        cases c2 : tS T 59 (smS T D P).2.1
        · exact ⟨z, by rw [if_pos (by decide)]; rfl, fu.tr fz, cz, fun z => by cases z⟩
        · have d2 := dCd_78 hq dz (o78_up z)
          have n3 : (up2 z).1 q 3 = nI ((smS T D P).2.2.1.1 2) := d2.1.1.2.2.1
          rw [if_neg (by decide), if_pos rfl, g_S_statements hq, n3, nI_add, p_S_statements hq, nI_add, if_pos rfl]
          refine lp_tell X hT hq hq2 f _ _ _ (v + 1) (by omega) ?_ (setN2_ok s1 (by omega)) ((fu.tr fz).tr ((o78_up z).fr.tr (frC_su (by omega)))) (cPo_su (cPo_up cz (tS_lt c2)) (by omega)) (dCd_num (by omega) d2)
          show (smS T D P).2.2.1.1 2 + 1 = v + 1
          omega
theorem C_tell (X : qz_X) (hT : okT T) (hq : isS q) (hq2 : q < 69) (hs : ∀ j, j < T.1 → s.1 1 j = nI (T.2 j)) : ∃ u : sT, rn 69 0 [some (.ref 78), some (.ref 1), some (.int (nI T.1)), some (.ref q), none] [] (mk X s) = some (some (.int (bI (ttS T).1)), mk X u) ∧ frC q s u ∧ cPo T (ttS T).2.1 u ∧ ((ttS T).1 = true → dCd T q (ttS T).2.2 u) := by
  obtain ⟨u, eu, u2, uc, ut⟩ := tsplit_run X hT hs
  have fu : frC q s (su u 78 2 (nI 0)) := ⟨by show u.2.2 = _; rw [u2], fun c hc => funext fun j => by rw [su_1, if_neg (by omega), uc c (by omega)]⟩
  have cu : cPo T (sk T 0) (su u 78 2 (nI 0)) := by
    refine ⟨⟨fun j hj => ?_, fun a ha => tk_cong (fun c hc => ?_) (ut.2 a ha)⟩, 0, Or.inl rfl, rfl, by rw [su_1, if_pos ⟨rfl, rfl⟩]⟩
    · rw [su_1, if_neg (by omega)]; exact ut.1 j hj
    · simp only [List.mem_cons, List.not_mem_nil, or_false] at hc
      rw [su_1, if_neg (by omega)]
  obtain ⟨z, ez, fz, cz, dz⟩ := C_size X hT hq hq2 cu
  have hz := szS_ok (T := T) (P := sk T 0)
  unfold ttS
  rw [e_Teller_tell_0, g_L_tokens, ck_K, eu, r0_s, p_L_at, ck_L, ez, r1_s]
  cases c : (szS T (sk T 0)).1
  · rw [if_neg (show ¬ (false = true) by decide)]
    rw [c] at dz
    exact ⟨z, by rw [if_pos (by decide), c]; rfl, fu.tr fz, cz, fun h => by rw [c] at h; cases h⟩
  · obtain ⟨z1, z2⟩ := hz c
    rw [if_neg (by decide), if_pos rfl]
    exact lp_tell X hT hq hq2 60 _ _ z 0 (by decide) z2 z1 (fu.tr fz) cz (dz c)
end TL

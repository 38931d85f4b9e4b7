set_option maxHeartbeats 8000000 in
set_option maxRecDepth 20000 in
theorem qz_step (X : qz_X) (l : Launch) (hv : ∀ m pc en, qz_lk (qz_cd m) pc = some en → qz_ok m pc en = true) (f : Nat) (ih : qz_IH X l f) : qz_IH X l (f + 1) := by
  intro m pc L st w v w' h hold p e R s mid args below meth c n0 s0 Qf hF H locs ls hSd
  have hF0 := hF
  obtain ⟨⟨hx, hb, hr, hlk, hml, hown, hts, hSt, hin, hfr, hlo⟩, hz, hce, hsl, hend⟩ := hF
  obtain ⟨hW, hS, hL, hn0, hs0⟩ := hSd
  have h0 : qz_G qz_cd (qz_x qz_cd f) m pc L st w = some (v, w') := h
  unfold qz_G at h0
  cases hq : qz_lk (qz_cd m) pc with
  | none => rw [hq] at h0; cases h0
  | some en =>
    have hok := hv m pc en hq
    rw [hq] at h0
    obtain ⟨⟨i, n⟩, ⟨a, b, c0⟩, ⟨k, kl⟩, ⟨mn, mt⟩, tl⟩ := en
    cases i
    case iconst z =>
      dsimp only at h0
      simp only [qz_ok, Bool.and_eq_true, decide_eq_true_eq] at hok
      obtain ⟨hd, rfl, hk⟩ := hok
      refine lv_iconst hx hb hd hk ?_
      exact ih _ _ _ _ _ _ _ h0 hold _ _ _ _ _ _ _ _ _ _ _ _ hF0 _ _ _ ⟨hW, hS, qz_has_m mn hL, hn0, hs0⟩
    case bipush z =>
      dsimp only at h0
      simp only [qz_ok, Bool.and_eq_true, decide_eq_true_eq] at hok
      obtain ⟨hd, rfl, hk⟩ := hok
      refine lv_bipush hx hb hd hk ?_
      exact ih _ _ _ _ _ _ _ h0 hold _ _ _ _ _ _ _ _ _ _ _ _ hF0 _ _ _ ⟨hW, hS, qz_has_m mn hL, hn0, hs0⟩
    case sipush z =>
      dsimp only at h0
      simp only [qz_ok, Bool.and_eq_true, decide_eq_true_eq] at hok
      obtain ⟨hd, rfl, hk⟩ := hok
      refine lv_sipush hx hb hd hk ?_
      exact ih _ _ _ _ _ _ _ h0 hold _ _ _ _ _ _ _ _ _ _ _ _ hF0 _ _ _ ⟨hW, hS, qz_has_m mn hL, hn0, hs0⟩
    case ldc_w j =>
      dsimp only at h0
      simp only [qz_ok, Bool.and_eq_true, decide_eq_true_eq] at hok
      obtain ⟨hd, rfl, hk⟩ := hok
      refine lv_ldcw hx hb hown (hts _ (qz_tw (qz_ki_ok _ hk) rfl)) hd ?_
      exact ih _ _ _ _ _ _ _ h0 hold _ _ _ _ _ _ _ _ _ _ _ _ hF0 _ _ _ ⟨hW, hS, qz_has_m mn hL, hn0, hs0⟩
    case ldc j =>
      dsimp only at h0
      simp only [qz_ok, Bool.and_eq_true, decide_eq_true_eq] at hok
      obtain ⟨hd, rfl, hk⟩ := hok
      match c0, hk, h0 with
      | 0, hk, h0 =>
        refine lv_ldc hx hb hown (hts _ (qz_tw (qz_ki_ok _ (of_decide_eq_true hk)) rfl)) hd ?_
        exact ih _ _ _ _ _ _ _ h0 hold _ _ _ _ _ _ _ _ _ _ _ _ hF0 _ _ _ ⟨hW, hS, qz_has_m mn hL, hn0, hs0⟩
      | q + 1, hk, h0 =>
        obtain ⟨g1, rfl, rfl⟩ := of_decide_eq_true hk
        rw [g1] at hown
        refine va_ldcS (own := "TinStencils$Tokens") hx hb hown hSt.2.2.2.2.2.1 hd ?_
        rw [← qz_ad_old X 3]
        exact ih _ _ _ _ _ _ _ h0 hold _ _ _ _ _ _ _ _ _ _ _ _ hF0 _ _ _ ⟨hW, hS, qz_has_m mn hL, hn0, hs0⟩
    case lconst j =>
      dsimp only at h0
      simp only [qz_ok, Bool.and_eq_true, decide_eq_true_eq] at hok
      obtain ⟨hd, rfl, hk⟩ := hok
      refine lv_lconst hx hb hd hk ?_
      exact ih _ _ _ _ _ _ _ h0 hold _ _ _ _ _ _ _ _ _ _ _ _ hF0 _ _ _ ⟨hW, hS, qz_has_m mn hL, hn0, hs0⟩
    case ldc2_w j =>
      dsimp only at h0
      simp only [qz_ok, Bool.and_eq_true, decide_eq_true_eq] at hok
      obtain ⟨hd, rfl, hk⟩ := hok
      refine lv_ldc2 hx hb hown (hts _ (qz_tw (qz_kj_ok _ hk) rfl)) hd ?_
      exact ih _ _ _ _ _ _ _ h0 hold _ _ _ _ _ _ _ _ _ _ _ _ hF0 _ _ _ ⟨hW, hS, qz_has_m mn hL, hn0, hs0⟩
    case aconst_null =>
      dsimp only at h0
      simp only [qz_ok, Bool.and_eq_true, decide_eq_true_eq] at hok
      obtain ⟨hd, rfl⟩ := hok
      refine lv_null hx hb hd ?_
      exact ih _ _ _ _ _ _ _ h0 hold _ _ _ _ _ _ _ _ _ _ _ _ hF0 _ _ _ ⟨hW, hS, qz_has_m mn hL, hn0, hs0⟩
    case iload j =>
      dsimp only at h0
      simp only [qz_ok, Bool.and_eq_true, decide_eq_true_eq] at hok
      obtain ⟨hd, rfl⟩ := hok
      obtain ⟨x, g1, g2⟩ := qz_li_i h0
      refine lv_iload hx hb hd (qz_at_has hL g1) ?_
      exact ih _ _ _ _ _ _ _ g2 hold _ _ _ _ _ _ _ _ _ _ _ _ hF0 _ _ _ ⟨hW, hS, qz_has_m mn hL, hn0, hs0⟩
    case iload_n j =>
      dsimp only at h0
      simp only [qz_ok, Bool.and_eq_true, decide_eq_true_eq] at hok
      obtain ⟨hd, rfl⟩ := hok
      obtain ⟨x, g1, g2⟩ := qz_li_i h0
      refine lv_iload_n hx hb hd rfl (qz_at_has hL g1) ?_
      exact ih _ _ _ _ _ _ _ g2 hold _ _ _ _ _ _ _ _ _ _ _ _ hF0 _ _ _ ⟨hW, hS, qz_has_m mn hL, hn0, hs0⟩
    case lload j =>
      dsimp only at h0
      simp only [qz_ok, Bool.and_eq_true, decide_eq_true_eq] at hok
      obtain ⟨hd, rfl⟩ := hok
      obtain ⟨x, g1, g2⟩ := qz_ll_i h0
      refine lv_lload hx hb hd (qz_at_has hL g1) ?_
      exact ih _ _ _ _ _ _ _ g2 hold _ _ _ _ _ _ _ _ _ _ _ _ hF0 _ _ _ ⟨hW, hS, qz_has_m mn hL, hn0, hs0⟩
    case lload_n j =>
      dsimp only at h0
      simp only [qz_ok, Bool.and_eq_true, decide_eq_true_eq] at hok
      obtain ⟨hd, rfl⟩ := hok
      obtain ⟨x, g1, g2⟩ := qz_ll_i h0
      refine lv_lload_n hx hb hd rfl (qz_at_has hL g1) ?_
      exact ih _ _ _ _ _ _ _ g2 hold _ _ _ _ _ _ _ _ _ _ _ _ hF0 _ _ _ ⟨hW, hS, qz_has_m mn hL, hn0, hs0⟩
    case aload j =>
      dsimp only at h0
      simp only [qz_ok, Bool.and_eq_true, decide_eq_true_eq] at hok
      obtain ⟨hd, rfl⟩ := hok
      obtain ⟨x, g1, rfl | ⟨q, rfl⟩, g2⟩ := qz_la_i h0
      · refine lv_aloadN hx hb hd (qz_at_has hL g1) ?_
        exact ih _ _ _ _ _ _ _ g2 hold _ _ _ _ _ _ _ _ _ _ _ _ hF0 _ _ _ ⟨hW, hS, qz_has_m mn hL, hn0, hs0⟩
      · refine lv_aload hx hb hd (qz_at_has hL g1) ?_
        exact ih _ _ _ _ _ _ _ g2 hold _ _ _ _ _ _ _ _ _ _ _ _ hF0 _ _ _ ⟨hW, hS, qz_has_m mn hL, hn0, hs0⟩
    case aload_n j =>
      dsimp only at h0
      simp only [qz_ok, Bool.and_eq_true, decide_eq_true_eq] at hok
      obtain ⟨hd, rfl⟩ := hok
      obtain ⟨x, g1, rfl | ⟨q, rfl⟩, g2⟩ := qz_la_i h0
      · refine lv_aload_nN hx hb hd rfl (qz_at_has hL g1) ?_
        exact ih _ _ _ _ _ _ _ g2 hold _ _ _ _ _ _ _ _ _ _ _ _ hF0 _ _ _ ⟨hW, hS, qz_has_m mn hL, hn0, hs0⟩
      · refine lv_aload_n hx hb hd rfl (qz_at_has hL g1) ?_
        exact ih _ _ _ _ _ _ _ g2 hold _ _ _ _ _ _ _ _ _ _ _ _ hF0 _ _ _ ⟨hW, hS, qz_has_m mn hL, hn0, hs0⟩
    case istore j =>
      dsimp only at h0
      simp only [qz_ok, Bool.and_eq_true, decide_eq_true_eq] at hok
      obtain ⟨hd, rfl, hj⟩ := hok
      obtain ⟨x, t, rfl, g2⟩ := qz_p1_i h0
      refine lv_istore hx hb hd hL (by rw [hml]; exact hj) rfl (fun ls hL => ?_)
      exact ih _ _ _ _ _ _ _ g2 hold _ _ _ _ _ _ _ _ _ _ _ _ hF0 _ _ _ ⟨hW, hS, qz_has_m mn (qz_has_s1 (v := .int x) hL), hn0, hs0⟩
    case istore_n j =>
      dsimp only at h0
      simp only [qz_ok, Bool.and_eq_true, decide_eq_true_eq] at hok
      obtain ⟨hd, rfl, hj⟩ := hok
      obtain ⟨x, t, rfl, g2⟩ := qz_p1_i h0
      refine lv_istore_n hx hb hd rfl hL (by rw [hml]; exact hj) rfl (fun ls hL => ?_)
      exact ih _ _ _ _ _ _ _ g2 hold _ _ _ _ _ _ _ _ _ _ _ _ hF0 _ _ _ ⟨hW, hS, qz_has_m mn (qz_has_s1 (v := .int x) hL), hn0, hs0⟩
    case lstore j =>
      dsimp only at h0
      simp only [qz_ok, Bool.and_eq_true, decide_eq_true_eq] at hok
      obtain ⟨hd, rfl, hj⟩ := hok
      obtain ⟨x, t, rfl, g2⟩ := qz_q1_i h0
      refine lv_lstore hx hb hd hL (by rw [hml]; exact hj) rfl (fun ls hL => ?_)
      exact ih _ _ _ _ _ _ _ g2 hold _ _ _ _ _ _ _ _ _ _ _ _ hF0 _ _ _ ⟨hW, hS, qz_has_m mn (qz_has_s2 (v := .long x) hL), hn0, hs0⟩
    case lstore_n j =>
      dsimp only at h0
      simp only [qz_ok, Bool.and_eq_true, decide_eq_true_eq] at hok
      obtain ⟨hd, rfl, hj⟩ := hok
      obtain ⟨x, t, rfl, g2⟩ := qz_q1_i h0
      refine lv_lstore_n hx hb hd rfl hL (by rw [hml]; exact hj) rfl (fun ls hL => ?_)
      exact ih _ _ _ _ _ _ _ g2 hold _ _ _ _ _ _ _ _ _ _ _ _ hF0 _ _ _ ⟨hW, hS, qz_has_m mn (qz_has_s2 (v := .long x) hL), hn0, hs0⟩
    case astore j =>
      dsimp only at h0
      simp only [qz_ok, Bool.and_eq_true, decide_eq_true_eq] at hok
      obtain ⟨hd, rfl, hj⟩ := hok
      obtain ⟨x, t, rfl, rfl | ⟨q, rfl⟩, g2⟩ := qz_pa_i h0
      · refine lv_astoreN hx hb hd hL (by rw [hml]; exact hj) rfl (fun ls hL => ?_)
        exact ih _ _ _ _ _ _ _ g2 hold _ _ _ _ _ _ _ _ _ _ _ _ hF0 _ _ _ ⟨hW, hS, qz_has_m mn (qz_has_s1 (v := .null) hL), hn0, hs0⟩
      · refine lv_astore hx hb hd hL (by rw [hml]; exact hj) rfl (fun ls hL => ?_)
        exact ih _ _ _ _ _ _ _ g2 hold _ _ _ _ _ _ _ _ _ _ _ _ hF0 _ _ _ ⟨hW, hS, qz_has_m mn (qz_has_s1 (v := .ref q) hL), hn0, hs0⟩
    case astore_n j =>
      dsimp only at h0
      simp only [qz_ok, Bool.and_eq_true, decide_eq_true_eq] at hok
      obtain ⟨hd, rfl, hj⟩ := hok
      obtain ⟨x, t, rfl, rfl | ⟨q, rfl⟩, g2⟩ := qz_pa_i h0
      · refine lv_astore_nN hx hb hd rfl hL (by rw [hml]; exact hj) rfl (fun ls hL => ?_)
        exact ih _ _ _ _ _ _ _ g2 hold _ _ _ _ _ _ _ _ _ _ _ _ hF0 _ _ _ ⟨hW, hS, qz_has_m mn (qz_has_s1 (v := .null) hL), hn0, hs0⟩
      · refine lv_astore_n hx hb hd rfl hL (by rw [hml]; exact hj) rfl (fun ls hL => ?_)
        exact ih _ _ _ _ _ _ _ g2 hold _ _ _ _ _ _ _ _ _ _ _ _ hF0 _ _ _ ⟨hW, hS, qz_has_m mn (qz_has_s1 (v := .ref q) hL), hn0, hs0⟩
    case iinc j z =>
      dsimp only at h0
      simp only [qz_ok, Bool.and_eq_true, decide_eq_true_eq] at hok
      obtain ⟨hd, rfl, hk, hj⟩ := hok
      obtain ⟨x, g1, g2⟩ := qz_li_i h0
      obtain ⟨kk, hkk⟩ := List.getElem?_of_mem ((qz_pl_mem (X := X) _ 0 j (.int x)).mpr ⟨j, .int x, by omega, g1, rfl⟩)
      refine lv_iinc (v := x + k) hx hb hd hL (k := kk) hkk (by rw [hk]) (by rw [hml]; exact hj) rfl (fun ls hL => ?_)
      exact ih _ _ _ _ _ _ _ g2 hold _ _ _ _ _ _ _ _ _ _ _ _ hF0 _ _ _ ⟨hW, hS, qz_has_m mn (qz_has_s1 (v := .int (x + k)) hL), hn0, hs0⟩
    case iadd =>
      dsimp only at h0
      simp only [qz_ok, Bool.and_eq_true, decide_eq_true_eq] at hok
      obtain ⟨hd, rfl⟩ := hok
      obtain ⟨x, y, t, rfl, g2⟩ := qz_p2_i h0
      refine lv_iadd hx hb hd ?_
      exact ih _ _ _ _ _ _ _ g2 hold _ _ _ _ _ _ _ _ _ _ _ _ hF0 _ _ _ ⟨hW, hS, qz_has_m mn hL, hn0, hs0⟩
    case isub =>
      dsimp only at h0
      simp only [qz_ok, Bool.and_eq_true, decide_eq_true_eq] at hok
      obtain ⟨hd, rfl⟩ := hok
      obtain ⟨x, y, t, rfl, g2⟩ := qz_p2_i h0
      refine lv_isub hx hb hd ?_
      exact ih _ _ _ _ _ _ _ g2 hold _ _ _ _ _ _ _ _ _ _ _ _ hF0 _ _ _ ⟨hW, hS, qz_has_m mn hL, hn0, hs0⟩
    case imul =>
      dsimp only at h0
      simp only [qz_ok, Bool.and_eq_true, decide_eq_true_eq] at hok
      obtain ⟨hd, rfl⟩ := hok
      obtain ⟨x, y, t, rfl, g2⟩ := qz_p2_i h0
      refine lv_imul hx hb hd ?_
      exact ih _ _ _ _ _ _ _ g2 hold _ _ _ _ _ _ _ _ _ _ _ _ hF0 _ _ _ ⟨hW, hS, qz_has_m mn hL, hn0, hs0⟩
    case iand =>
      dsimp only at h0
      simp only [qz_ok, Bool.and_eq_true, decide_eq_true_eq] at hok
      obtain ⟨hd, rfl⟩ := hok
      obtain ⟨x, y, t, rfl, g2⟩ := qz_p2_i h0
      refine lv_iand hx hb hd ?_
      exact ih _ _ _ _ _ _ _ g2 hold _ _ _ _ _ _ _ _ _ _ _ _ hF0 _ _ _ ⟨hW, hS, qz_has_m mn hL, hn0, hs0⟩
    case ior =>
      dsimp only at h0
      simp only [qz_ok, Bool.and_eq_true, decide_eq_true_eq] at hok
      obtain ⟨hd, rfl⟩ := hok
      obtain ⟨x, y, t, rfl, g2⟩ := qz_p2_i h0
      refine lv_ior hx hb hd ?_
      exact ih _ _ _ _ _ _ _ g2 hold _ _ _ _ _ _ _ _ _ _ _ _ hF0 _ _ _ ⟨hW, hS, qz_has_m mn hL, hn0, hs0⟩
    case ixor =>
      dsimp only at h0
      simp only [qz_ok, Bool.and_eq_true, decide_eq_true_eq] at hok
      obtain ⟨hd, rfl⟩ := hok
      obtain ⟨x, y, t, rfl, g2⟩ := qz_p2_i h0
      refine lv_ixor hx hb hd ?_
      exact ih _ _ _ _ _ _ _ g2 hold _ _ _ _ _ _ _ _ _ _ _ _ hF0 _ _ _ ⟨hW, hS, qz_has_m mn hL, hn0, hs0⟩
    case ishl =>
      dsimp only at h0
      simp only [qz_ok, Bool.and_eq_true, decide_eq_true_eq] at hok
      obtain ⟨hd, rfl⟩ := hok
      obtain ⟨x, y, t, rfl, g2⟩ := qz_p2_i h0
      refine lv_ishl hx hb hd ?_
      exact ih _ _ _ _ _ _ _ g2 hold _ _ _ _ _ _ _ _ _ _ _ _ hF0 _ _ _ ⟨hW, hS, qz_has_m mn hL, hn0, hs0⟩
    case ishr =>
      dsimp only at h0
      simp only [qz_ok, Bool.and_eq_true, decide_eq_true_eq] at hok
      obtain ⟨hd, rfl⟩ := hok
      obtain ⟨x, y, t, rfl, g2⟩ := qz_p2_i h0
      refine lv_ishr hx hb hd ?_
      exact ih _ _ _ _ _ _ _ g2 hold _ _ _ _ _ _ _ _ _ _ _ _ hF0 _ _ _ ⟨hW, hS, qz_has_m mn hL, hn0, hs0⟩
    case iushr =>
      dsimp only at h0
      simp only [qz_ok, Bool.and_eq_true, decide_eq_true_eq] at hok
      obtain ⟨hd, rfl⟩ := hok
      obtain ⟨x, y, t, rfl, g2⟩ := qz_p2_i h0
      refine lv_iushr hx hb hd rfl ?_
      exact ih _ _ _ _ _ _ _ g2 hold _ _ _ _ _ _ _ _ _ _ _ _ hF0 _ _ _ ⟨hW, hS, qz_has_m mn hL, hn0, hs0⟩
    case idiv =>
      dsimp only at h0
      simp only [qz_ok, Bool.and_eq_true, decide_eq_true_eq] at hok
      obtain ⟨hd, rfl⟩ := hok
      obtain ⟨x, y, t, rfl, g2⟩ := qz_p2_i h0
      obtain ⟨g3, g4⟩ := qz_if_i g2
      refine lv_idiv hx hb hd g3 ?_
      exact ih _ _ _ _ _ _ _ g4 hold _ _ _ _ _ _ _ _ _ _ _ _ hF0 _ _ _ ⟨hW, hS, qz_has_m mn hL, hn0, hs0⟩
    case irem =>
      dsimp only at h0
      simp only [qz_ok, Bool.and_eq_true, decide_eq_true_eq] at hok
      obtain ⟨hd, rfl⟩ := hok
      obtain ⟨x, y, t, rfl, g2⟩ := qz_p2_i h0
      obtain ⟨g3, g4⟩ := qz_if_i g2
      refine lv_irem hx hb hd g3 ?_
      exact ih _ _ _ _ _ _ _ g4 hold _ _ _ _ _ _ _ _ _ _ _ _ hF0 _ _ _ ⟨hW, hS, qz_has_m mn hL, hn0, hs0⟩
    case ladd =>
      dsimp only at h0
      simp only [qz_ok, Bool.and_eq_true, decide_eq_true_eq] at hok
      obtain ⟨hd, rfl⟩ := hok
      obtain ⟨x, y, t, rfl, g2⟩ := qz_q2_i h0
      refine lv_ladd hx hb hd ?_
      exact ih _ _ _ _ _ _ _ g2 hold _ _ _ _ _ _ _ _ _ _ _ _ hF0 _ _ _ ⟨hW, hS, qz_has_m mn hL, hn0, hs0⟩
    case lsub =>
      dsimp only at h0
      simp only [qz_ok, Bool.and_eq_true, decide_eq_true_eq] at hok
      obtain ⟨hd, rfl⟩ := hok
      obtain ⟨x, y, t, rfl, g2⟩ := qz_q2_i h0
      refine lv_lsub hx hb hd ?_
      exact ih _ _ _ _ _ _ _ g2 hold _ _ _ _ _ _ _ _ _ _ _ _ hF0 _ _ _ ⟨hW, hS, qz_has_m mn hL, hn0, hs0⟩
    case lmul =>
      dsimp only at h0
      simp only [qz_ok, Bool.and_eq_true, decide_eq_true_eq] at hok
      obtain ⟨hd, rfl⟩ := hok
      obtain ⟨x, y, t, rfl, g2⟩ := qz_q2_i h0
      refine lv_lmul hx hb hd ?_
      exact ih _ _ _ _ _ _ _ g2 hold _ _ _ _ _ _ _ _ _ _ _ _ hF0 _ _ _ ⟨hW, hS, qz_has_m mn hL, hn0, hs0⟩
    case lor =>
      dsimp only at h0
      simp only [qz_ok, Bool.and_eq_true, decide_eq_true_eq] at hok
      obtain ⟨hd, rfl⟩ := hok
      obtain ⟨x, y, t, rfl, g2⟩ := qz_q2_i h0
      refine lv_lor hx hb hd ?_
      exact ih _ _ _ _ _ _ _ g2 hold _ _ _ _ _ _ _ _ _ _ _ _ hF0 _ _ _ ⟨hW, hS, qz_has_m mn hL, hn0, hs0⟩
    case lcmp =>
      dsimp only at h0
      simp only [qz_ok, Bool.and_eq_true, decide_eq_true_eq] at hok
      obtain ⟨hd, rfl⟩ := hok
      obtain ⟨x, y, t, rfl, g2⟩ := qz_q2_i h0
      refine W.lcmp hx hb hd ?_
      exact ih _ _ _ _ _ _ _ g2 hold _ _ _ _ _ _ _ _ _ _ _ _ hF0 _ _ _ ⟨hW, hS, qz_has_m mn hL, hn0, hs0⟩
    case lshl =>
      dsimp only at h0
      simp only [qz_ok, Bool.and_eq_true, decide_eq_true_eq] at hok
      obtain ⟨hd, rfl⟩ := hok
      obtain ⟨y, t, rfl, g1⟩ := qz_p1_i h0
      obtain ⟨x, t, rfl, g2⟩ := qz_q1_i g1
      refine lv_lshl hx hb hd rfl ?_
      exact ih _ _ _ _ _ _ _ g2 hold _ _ _ _ _ _ _ _ _ _ _ _ hF0 _ _ _ ⟨hW, hS, qz_has_m mn hL, hn0, hs0⟩
    case i2l =>
      dsimp only at h0
      simp only [qz_ok, Bool.and_eq_true, decide_eq_true_eq] at hok
      obtain ⟨hd, rfl⟩ := hok
      obtain ⟨x, t, rfl, g2⟩ := qz_p1_i h0
      refine lv_i2l hx hb hd rfl ?_
      exact ih _ _ _ _ _ _ _ g2 hold _ _ _ _ _ _ _ _ _ _ _ _ hF0 _ _ _ ⟨hW, hS, qz_has_m mn hL, hn0, hs0⟩
    case i2b =>
      dsimp only at h0
      simp only [qz_ok, Bool.and_eq_true, decide_eq_true_eq] at hok
      obtain ⟨hd, rfl⟩ := hok
      obtain ⟨x, t, rfl, g2⟩ := qz_p1_i h0
      refine lv_i2b hx hb hd rfl ?_
      exact ih _ _ _ _ _ _ _ g2 hold _ _ _ _ _ _ _ _ _ _ _ _ hF0 _ _ _ ⟨hW, hS, qz_has_m mn hL, hn0, hs0⟩
    case i2c =>
      dsimp only at h0
      simp only [qz_ok, Bool.and_eq_true, decide_eq_true_eq] at hok
      obtain ⟨hd, rfl⟩ := hok
      obtain ⟨x, t, rfl, g2⟩ := qz_p1_i h0
      refine lv_i2c hx hb hd rfl ?_
      exact ih _ _ _ _ _ _ _ g2 hold _ _ _ _ _ _ _ _ _ _ _ _ hF0 _ _ _ ⟨hW, hS, qz_has_m mn hL, hn0, hs0⟩
    case pop =>
      dsimp only at h0
      simp only [qz_ok, Bool.and_eq_true, decide_eq_true_eq] at hok
      obtain ⟨hd, rfl⟩ := hok
      match st, h0 with
      | v0 :: t, h0 =>
        obtain ⟨g1, g2⟩ := qz_cd_i h0
        refine lv_pop hx hb hd ((qz_v_cat X v0).trans (Nat.eq_of_beq_eq_true g1)) ?_
        exact ih _ _ _ _ _ _ _ g2 hold _ _ _ _ _ _ _ _ _ _ _ _ hF0 _ _ _ ⟨hW, hS, qz_has_m mn hL, hn0, hs0⟩
      | [], h0 => cases h0
    case dup =>
      dsimp only at h0
      simp only [qz_ok, Bool.and_eq_true, decide_eq_true_eq] at hok
      obtain ⟨hd, rfl⟩ := hok
      match st, h0 with
      | v0 :: t, h0 =>
        obtain ⟨g1, g2⟩ := qz_cd_i h0
        refine lv_dup hx hb hd ((qz_v_cat X v0).trans (Nat.eq_of_beq_eq_true g1)) ?_
        exact ih _ _ _ _ _ _ _ g2 hold _ _ _ _ _ _ _ _ _ _ _ _ hF0 _ _ _ ⟨hW, hS, qz_has_m mn hL, hn0, hs0⟩
      | [], h0 => cases h0
    case dup2 =>
      dsimp only at h0
      simp only [qz_ok, Bool.and_eq_true, decide_eq_true_eq] at hok
      obtain ⟨hd, rfl⟩ := hok
      match st, h0 with
      | v0 :: v1 :: t, h0 =>
        obtain ⟨g1, g2⟩ := qz_cd_i h0
        rw [Bool.and_eq_true] at g1
        refine lv_dup2_11 hx hb hd ((qz_v_cat X v0).trans (Nat.eq_of_beq_eq_true g1.1)) ((qz_v_cat X v1).trans (Nat.eq_of_beq_eq_true g1.2)) ?_
        exact ih _ _ _ _ _ _ _ g2 hold _ _ _ _ _ _ _ _ _ _ _ _ hF0 _ _ _ ⟨hW, hS, qz_has_m mn hL, hn0, hs0⟩
      | [_], h0 => cases h0
      | [], h0 => cases h0
    case goto z =>
      dsimp only at h0
      simp only [qz_ok, Bool.and_eq_true, decide_eq_true_eq] at hok
      obtain ⟨hd, rfl, ht⟩ := hok
      refine lv_goto hx hb hd ht ?_
      exact ih _ _ _ _ _ _ _ h0 hold _ _ _ _ _ _ _ _ _ _ _ _ hF0 _ _ _ ⟨hW, hS, qz_has_m mt hL, hn0, hs0⟩
    case if_icmp d z =>
      dsimp only at h0
      simp only [qz_ok, Bool.and_eq_true, decide_eq_true_eq] at hok
      obtain ⟨hd, rfl, ht⟩ := hok
      obtain ⟨x, y, t, rfl, g2⟩ := qz_p2_i h0
      cases d
      · refine lv_icmp_eq hx hb hd ht (fun hc => ?_) (fun hc => ?_)
        · rw [show qz_bra .eq x y _ _ = _ from if_pos hc] at g2
          exact ih _ _ _ _ _ _ _ g2 hold _ _ _ _ _ _ _ _ _ _ _ _ hF0 _ _ _ ⟨hW, hS, qz_has_m mt hL, hn0, hs0⟩
        · rw [show qz_bra .eq x y _ _ = _ from if_neg hc] at g2
          exact ih _ _ _ _ _ _ _ g2 hold _ _ _ _ _ _ _ _ _ _ _ _ hF0 _ _ _ ⟨hW, hS, qz_has_m mn hL, hn0, hs0⟩
      · refine lv_icmp_ne hx hb hd ht (fun hc => ?_) (fun hc => ?_)
        · rw [show qz_bra .ne x y _ _ = _ from if_neg hc] at g2
          exact ih _ _ _ _ _ _ _ g2 hold _ _ _ _ _ _ _ _ _ _ _ _ hF0 _ _ _ ⟨hW, hS, qz_has_m mt hL, hn0, hs0⟩
        · rw [show qz_bra .ne x y _ _ = _ from if_pos hc] at g2
          exact ih _ _ _ _ _ _ _ g2 hold _ _ _ _ _ _ _ _ _ _ _ _ hF0 _ _ _ ⟨hW, hS, qz_has_m mn hL, hn0, hs0⟩
      · refine lv_icmp_lt hx hb hd ht (fun hc => ?_) (fun hc => ?_)
        · rw [show qz_bra .lt x y _ _ = _ from if_pos hc] at g2
          exact ih _ _ _ _ _ _ _ g2 hold _ _ _ _ _ _ _ _ _ _ _ _ hF0 _ _ _ ⟨hW, hS, qz_has_m mt hL, hn0, hs0⟩
        · rw [show qz_bra .lt x y _ _ = _ from if_neg hc] at g2
          exact ih _ _ _ _ _ _ _ g2 hold _ _ _ _ _ _ _ _ _ _ _ _ hF0 _ _ _ ⟨hW, hS, qz_has_m mn hL, hn0, hs0⟩
      · refine lv_icmp_ge hx hb hd ht (fun hc => ?_) (fun hc => ?_)
        · rw [show qz_bra .ge x y _ _ = _ from if_pos hc] at g2
          exact ih _ _ _ _ _ _ _ g2 hold _ _ _ _ _ _ _ _ _ _ _ _ hF0 _ _ _ ⟨hW, hS, qz_has_m mt hL, hn0, hs0⟩
        · rw [show qz_bra .ge x y _ _ = _ from if_neg hc] at g2
          exact ih _ _ _ _ _ _ _ g2 hold _ _ _ _ _ _ _ _ _ _ _ _ hF0 _ _ _ ⟨hW, hS, qz_has_m mn hL, hn0, hs0⟩
      · refine lv_icmp_gt hx hb hd ht (fun hc => ?_) (fun hc => ?_)
        · rw [show qz_bra .gt x y _ _ = _ from if_pos hc] at g2
          exact ih _ _ _ _ _ _ _ g2 hold _ _ _ _ _ _ _ _ _ _ _ _ hF0 _ _ _ ⟨hW, hS, qz_has_m mt hL, hn0, hs0⟩
        · rw [show qz_bra .gt x y _ _ = _ from if_neg hc] at g2
          exact ih _ _ _ _ _ _ _ g2 hold _ _ _ _ _ _ _ _ _ _ _ _ hF0 _ _ _ ⟨hW, hS, qz_has_m mn hL, hn0, hs0⟩
      · refine lv_icmp_le hx hb hd ht (fun hc => ?_) (fun hc => ?_)
        · rw [show qz_bra .le x y _ _ = _ from if_pos hc] at g2
          exact ih _ _ _ _ _ _ _ g2 hold _ _ _ _ _ _ _ _ _ _ _ _ hF0 _ _ _ ⟨hW, hS, qz_has_m mt hL, hn0, hs0⟩
        · rw [show qz_bra .le x y _ _ = _ from if_neg hc] at g2
          exact ih _ _ _ _ _ _ _ g2 hold _ _ _ _ _ _ _ _ _ _ _ _ hF0 _ _ _ ⟨hW, hS, qz_has_m mn hL, hn0, hs0⟩
    case ifCond d z =>
      dsimp only at h0
      simp only [qz_ok, Bool.and_eq_true, decide_eq_true_eq] at hok
      obtain ⟨hd, rfl, ht⟩ := hok
      obtain ⟨x, t, rfl, g2⟩ := qz_p1_i h0
      cases d
      · refine lv_if_eq hx hb hd ht (fun hc => ?_) (fun hc => ?_)
        · rw [show qz_bra .eq x 0 _ _ = _ from if_pos hc] at g2
          exact ih _ _ _ _ _ _ _ g2 hold _ _ _ _ _ _ _ _ _ _ _ _ hF0 _ _ _ ⟨hW, hS, qz_has_m mt hL, hn0, hs0⟩
        · rw [show qz_bra .eq x 0 _ _ = _ from if_neg hc] at g2
          exact ih _ _ _ _ _ _ _ g2 hold _ _ _ _ _ _ _ _ _ _ _ _ hF0 _ _ _ ⟨hW, hS, qz_has_m mn hL, hn0, hs0⟩
      · refine lv_if_ne hx hb hd ht (fun hc => ?_) (fun hc => ?_)
        · rw [show qz_bra .ne x 0 _ _ = _ from if_neg hc] at g2
          exact ih _ _ _ _ _ _ _ g2 hold _ _ _ _ _ _ _ _ _ _ _ _ hF0 _ _ _ ⟨hW, hS, qz_has_m mt hL, hn0, hs0⟩
        · rw [show qz_bra .ne x 0 _ _ = _ from if_pos hc] at g2
          exact ih _ _ _ _ _ _ _ g2 hold _ _ _ _ _ _ _ _ _ _ _ _ hF0 _ _ _ ⟨hW, hS, qz_has_m mn hL, hn0, hs0⟩
      · refine lv_if_lt hx hb hd ht (fun hc => ?_) (fun hc => ?_)
        · rw [show qz_bra .lt x 0 _ _ = _ from if_pos hc] at g2
          exact ih _ _ _ _ _ _ _ g2 hold _ _ _ _ _ _ _ _ _ _ _ _ hF0 _ _ _ ⟨hW, hS, qz_has_m mt hL, hn0, hs0⟩
        · rw [show qz_bra .lt x 0 _ _ = _ from if_neg hc] at g2
          exact ih _ _ _ _ _ _ _ g2 hold _ _ _ _ _ _ _ _ _ _ _ _ hF0 _ _ _ ⟨hW, hS, qz_has_m mn hL, hn0, hs0⟩
      · refine lv_if_ge hx hb hd ht (fun hc => ?_) (fun hc => ?_)
        · rw [show qz_bra .ge x 0 _ _ = _ from if_pos hc] at g2
          exact ih _ _ _ _ _ _ _ g2 hold _ _ _ _ _ _ _ _ _ _ _ _ hF0 _ _ _ ⟨hW, hS, qz_has_m mt hL, hn0, hs0⟩
        · rw [show qz_bra .ge x 0 _ _ = _ from if_neg hc] at g2
          exact ih _ _ _ _ _ _ _ g2 hold _ _ _ _ _ _ _ _ _ _ _ _ hF0 _ _ _ ⟨hW, hS, qz_has_m mn hL, hn0, hs0⟩
      · refine lv_if_gt hx hb hd ht (fun hc => ?_) (fun hc => ?_)
        · rw [show qz_bra .gt x 0 _ _ = _ from if_pos hc] at g2
          exact ih _ _ _ _ _ _ _ g2 hold _ _ _ _ _ _ _ _ _ _ _ _ hF0 _ _ _ ⟨hW, hS, qz_has_m mt hL, hn0, hs0⟩
        · rw [show qz_bra .gt x 0 _ _ = _ from if_neg hc] at g2
          exact ih _ _ _ _ _ _ _ g2 hold _ _ _ _ _ _ _ _ _ _ _ _ hF0 _ _ _ ⟨hW, hS, qz_has_m mn hL, hn0, hs0⟩
      · refine lv_if_le hx hb hd ht (fun hc => ?_) (fun hc => ?_)
        · rw [show qz_bra .le x 0 _ _ = _ from if_pos hc] at g2
          exact ih _ _ _ _ _ _ _ g2 hold _ _ _ _ _ _ _ _ _ _ _ _ hF0 _ _ _ ⟨hW, hS, qz_has_m mt hL, hn0, hs0⟩
        · rw [show qz_bra .le x 0 _ _ = _ from if_neg hc] at g2
          exact ih _ _ _ _ _ _ _ g2 hold _ _ _ _ _ _ _ _ _ _ _ _ hF0 _ _ _ ⟨hW, hS, qz_has_m mn hL, hn0, hs0⟩
    case ifnull z =>
      dsimp only at h0
      simp only [qz_ok, Bool.and_eq_true, decide_eq_true_eq] at hok
      obtain ⟨hd, rfl, ht⟩ := hok
      split at h0
      · refine lv_ifnullN hx hb hd ht ?_
        exact ih _ _ _ _ _ _ _ h0 hold _ _ _ _ _ _ _ _ _ _ _ _ hF0 _ _ _ ⟨hW, hS, qz_has_m mt hL, hn0, hs0⟩
      · refine lv_ifnull hx hb hd ?_
        exact ih _ _ _ _ _ _ _ h0 hold _ _ _ _ _ _ _ _ _ _ _ _ hF0 _ _ _ ⟨hW, hS, qz_has_m mn hL, hn0, hs0⟩
      · cases h0
    case ifnonnull z =>
      dsimp only at h0
      simp only [qz_ok, Bool.and_eq_true, decide_eq_true_eq] at hok
      obtain ⟨hd, rfl, ht⟩ := hok
      split at h0
      · refine lv_ifnonnullN hx hb hd ?_
        exact ih _ _ _ _ _ _ _ h0 hold _ _ _ _ _ _ _ _ _ _ _ _ hF0 _ _ _ ⟨hW, hS, qz_has_m mn hL, hn0, hs0⟩
      · refine lv_ifnonnull hx hb hd ht ?_
        exact ih _ _ _ _ _ _ _ h0 hold _ _ _ _ _ _ _ _ _ _ _ _ hF0 _ _ _ ⟨hW, hS, qz_has_m mt hL, hn0, hs0⟩
      · cases h0
    case tableswitch d lo hi offs =>
      dsimp only at h0
      simp only [qz_ok, Bool.and_eq_true, decide_eq_true_eq] at hok
      obtain ⟨hd, ht, hlo2, hhi, hof, hbd⟩ := hok
      obtain ⟨x, t, rfl, g2⟩ := qz_p1_i h0
      refine qz_sw_ok hx hb hd ht hlo2 hhi hof hbd g2 (fun tgt g3 => ?_)
      exact ih _ _ _ _ _ _ _ g3 hold _ _ _ _ _ _ _ _ _ _ _ _ hF0 _ _ _ ⟨hW, hS, qz_has_m mt hL, hn0, hs0⟩
    case getfield j =>
      dsimp only at h0
      simp only [qz_ok, Bool.and_eq_true, decide_eq_true_eq] at hok
      obtain ⟨hd, rfl, hk⟩ := hok
      match c0, h0 with
      | 1, h0 =>
        obtain ⟨q, t, rfl, g1⟩ := qz_pr_i h0
        obtain ⟨fs, x, g2, g3, g4⟩ := qz_ga_i g1
        refine qz_get_ok hF0 hW hS hd hk g2 g3 ?_
        exact ih _ _ _ _ _ _ _ g4 hold _ _ _ _ _ _ _ _ _ _ _ _ hF0 _ _ _ ⟨hW, hS, qz_has_m mn hL, hn0, hs0⟩
      | 0, h0 =>
        obtain ⟨q, t, rfl, g1⟩ := qz_pr_i h0
        obtain ⟨fs, x, g2, g3, g4⟩ := qz_gi_i g1
        refine qz_get_ok hF0 hW hS hd hk g2 g3 ?_
        exact ih _ _ _ _ _ _ _ g4 hold _ _ _ _ _ _ _ _ _ _ _ _ hF0 _ _ _ ⟨hW, hS, qz_has_m mn hL, hn0, hs0⟩
      | _ + 2, h0 =>
        obtain ⟨q, t, rfl, g1⟩ := qz_pr_i h0
        obtain ⟨fs, x, g2, g3, g4⟩ := qz_gi_i g1
        refine qz_get_ok hF0 hW hS hd hk g2 g3 ?_
        exact ih _ _ _ _ _ _ _ g4 hold _ _ _ _ _ _ _ _ _ _ _ _ hF0 _ _ _ ⟨hW, hS, qz_has_m mn hL, hn0, hs0⟩
    case putfield j =>
      dsimp only at h0
      simp only [qz_ok, Bool.and_eq_true, decide_eq_true_eq] at hok
      obtain ⟨hd, rfl, hk, hty, hfi⟩ := hok
      match c0, h0, hty with
      | 1, h0, hty =>
        obtain ⟨q, t, rfl, g1⟩ := qz_pr_i h0
        obtain ⟨o, t, rfl, g1⟩ := qz_pr_i g1
        obtain ⟨fs, g2, g3⟩ := qz_pf_i g1
        refine qz_put_ok (v := .ref q) hF0 hW hS hd hk hfi (qz_fk_ref hty _) g2 (fun H1 locs1 hW hS => ?_)
        exact ih _ _ _ _ _ _ _ g3 hold _ _ _ _ _ _ _ _ _ _ _ _ hF0 _ _ _ ⟨hW, hS, qz_has_m mn hL, hn0, hs0⟩
      | 2, h0, hty =>
        obtain ⟨x, t, rfl, g1⟩ := qz_p1_i h0
        obtain ⟨o, t, rfl, g1⟩ := qz_pr_i g1
        obtain ⟨g0, g1⟩ := qz_cd_i g1
        obtain ⟨fs, g2, g3⟩ := qz_pf_i g1
        refine qz_put_ok (v := .int x) hF0 hW hS hd hk hfi (qz_fk_boo hty g0) g2 (fun H1 locs1 hW hS => ?_)
        exact ih _ _ _ _ _ _ _ g3 hold _ _ _ _ _ _ _ _ _ _ _ _ hF0 _ _ _ ⟨hW, hS, qz_has_m mn hL, hn0, hs0⟩
      | 0, h0, hty =>
        obtain ⟨x, t, rfl, g1⟩ := qz_p1_i h0
        obtain ⟨o, t, rfl, g1⟩ := qz_pr_i g1
        obtain ⟨fs, g2, g3⟩ := qz_pf_i g1
        refine qz_put_ok (v := .int x) hF0 hW hS hd hk hfi (qz_fk_int hty x) g2 (fun H1 locs1 hW hS => ?_)
        exact ih _ _ _ _ _ _ _ g3 hold _ _ _ _ _ _ _ _ _ _ _ _ hF0 _ _ _ ⟨hW, hS, qz_has_m mn hL, hn0, hs0⟩
      | n3 + 3, h0, hty => exact absurd hty (qz_fk_no n3)
    case getstatic j =>
      dsimp only at h0
      simp only [qz_ok, Bool.and_eq_true, decide_eq_true_eq] at hok
      obtain ⟨hd, rfl, hk⟩ := hok
      match c0, hk, h0 with
      | 0, hk, h0 =>
        obtain ⟨g1, rfl, rfl⟩ := of_decide_eq_true hk
        rw [g1] at hown
        refine va_gets (own := "java/lang/String") (ref := "java/lang/String") hx hb hSt.2.2.2.2.2.2.2.2.1 hS hown (hts _ (qz_tw qz_sf2 rfl)) (fun _ h => h) hd ?_
        exact ih _ _ _ _ _ _ _ h0 hold _ _ _ _ _ _ _ _ _ _ _ _ hF0 _ _ _ ⟨hW, hS, qz_has_m mn hL, hn0, hs0⟩
      | q + 1, hk, h0 =>
        change (_ || _) = true at hk
        rw [Bool.or_eq_true] at hk
        rcases hk with hk | hk
        · obtain ⟨rfl, ⟨g1, rfl⟩ | g1⟩ := of_decide_eq_true hk
          · rw [g1] at hown
            refine va_gets (own := "TinStencils") (ref := "TinStencils") hx hb hSt.2.2.2.2.2.2.1 hS hown (hts _ (qz_tw qz_sf0 rfl)) (fun _ h => h) hd ?_
            rw [← qz_ad_old X 1]
            exact ih _ _ _ _ _ _ _ h0 hold _ _ _ _ _ _ _ _ _ _ _ _ hF0 _ _ _ ⟨hW, hS, qz_has_m mn hL, hn0, hs0⟩
          · refine va_getsN (ref := "TinStencils") (host := "TinStencils") hx hb hSt.2.2.2.2.2.2.1 hS hown (va_Nw.use rfl (hSt.2.2.1 _ g1)) (fun _ h => h) hd ?_
            rw [← qz_ad_old X 1]
            exact ih _ _ _ _ _ _ _ h0 hold _ _ _ _ _ _ _ _ _ _ _ _ hF0 _ _ _ ⟨hW, hS, qz_has_m mn hL, hn0, hs0⟩
        · obtain ⟨rfl, ⟨g1, rfl⟩ | g1⟩ := of_decide_eq_true hk
          · rw [g1] at hown
            refine va_gets (own := "TinStencils") (ref := "TinStencils") hx hb hSt.2.2.2.2.2.2.2.1 hS hown (hts _ (qz_tw qz_sf1 rfl)) (fun _ h => h) hd ?_
            rw [← qz_ad_old X 2]
            exact ih _ _ _ _ _ _ _ h0 hold _ _ _ _ _ _ _ _ _ _ _ _ hF0 _ _ _ ⟨hW, hS, qz_has_m mn hL, hn0, hs0⟩
          · refine va_getsN (ref := "TinStencils") (host := "TinStencils") hx hb hSt.2.2.2.2.2.2.2.1 hS hown (va_Nw.use rfl (hSt.2.2.1 _ g1)) (fun _ h => h) hd ?_
            rw [← qz_ad_old X 2]
            exact ih _ _ _ _ _ _ _ h0 hold _ _ _ _ _ _ _ _ _ _ _ _ hF0 _ _ _ ⟨hW, hS, qz_has_m mn hL, hn0, hs0⟩
    case iaload =>
      dsimp only at h0
      simp only [qz_ok, Bool.and_eq_true, decide_eq_true_eq] at hok
      obtain ⟨hd, rfl⟩ := hok
      obtain ⟨j, t0, rfl, g1a⟩ := qz_p1_i h0
      obtain ⟨q, t, rfl, g1⟩ := qz_pr_i g1a
      obtain ⟨n1, g, g2, g3, g4⟩ := qz_ia_i g1
      refine qz_iaload_ok hF0 hW hS hd g2 g3 ?_
      exact ih _ _ _ _ _ _ _ g4 hold _ _ _ _ _ _ _ _ _ _ _ _ hF0 _ _ _ ⟨hW, hS, qz_has_m mn hL, hn0, hs0⟩
    case baload =>
      dsimp only at h0
      simp only [qz_ok, Bool.and_eq_true, decide_eq_true_eq] at hok
      obtain ⟨hd, rfl⟩ := hok
      obtain ⟨j, t0, rfl, g1a⟩ := qz_p1_i h0
      obtain ⟨q, t, rfl, g1⟩ := qz_pr_i g1a
      obtain ⟨n1, g, g2, g3, g4⟩ := qz_ba_i g1
      refine qz_baload_ok hF0 hW hS hd g2 g3 ?_
      exact ih _ _ _ _ _ _ _ g4 hold _ _ _ _ _ _ _ _ _ _ _ _ hF0 _ _ _ ⟨hW, hS, qz_has_m mn hL, hn0, hs0⟩
    case laload =>
      dsimp only at h0
      simp only [qz_ok, Bool.and_eq_true, decide_eq_true_eq] at hok
      obtain ⟨hd, rfl⟩ := hok
      obtain ⟨j, t0, rfl, g1a⟩ := qz_p1_i h0
      obtain ⟨q, t, rfl, g1⟩ := qz_pr_i g1a
      obtain ⟨n1, g, g2, g3, g4⟩ := qz_ja_i g1
      have ho := qz_arr_in hW g2 (by decide)
      have ha := qz_ws_at (X := X) ho
      rw [g2] at ha
      show W _ _ _ _ _ _ _ _ _ _ _ _ _ _ _ (F0 mid pc ls (.int j :: .ref (qz_ad X q) :: t.map (qz_v X)))
      rw [qz_ad_in hW ho]
      refine va_lald hx hb hSt.1 hW.1 q 1 ha rfl g3 hd ?_
      exact ih _ _ _ _ _ _ _ g4 hold _ _ _ _ _ _ _ _ _ _ _ _ hF0 _ _ _ ⟨hW, hS, qz_has_m mn hL, hn0, hs0⟩
    case aaload =>
      dsimp only at h0
      simp only [qz_ok, Bool.and_eq_true, decide_eq_true_eq] at hok
      obtain ⟨hd, rfl⟩ := hok
      obtain ⟨j, t0, rfl, g1a⟩ := qz_p1_i h0
      obtain ⟨q, t, rfl, g1⟩ := qz_pr_i g1a
      obtain ⟨C, n1, g, y, g2, g3, g5, g4⟩ := qz_aa_i g1
      refine qz_aaload_ok hF0 hW hS hd g2 g3 g5 ?_
      exact ih _ _ _ _ _ _ _ g4 hold _ _ _ _ _ _ _ _ _ _ _ _ hF0 _ _ _ ⟨hW, hS, qz_has_m mn hL, hn0, hs0⟩
    case iastore =>
      dsimp only at h0
      simp only [qz_ok, Bool.and_eq_true, decide_eq_true_eq] at hok
      obtain ⟨hd, rfl⟩ := hok
      obtain ⟨j, x, t, rfl, g1⟩ := qz_p2_i h0
      obtain ⟨q, t, rfl, g1⟩ := qz_pr_i g1
      obtain ⟨n1, g, g2, g3, g4⟩ := qz_is_i g1
      have ho := qz_arr_in hW g2 (by decide)
      have ha := qz_ws_at (X := X) ho
      rw [g2] at ha
      show W _ _ _ _ _ _ _ _ _ _ _ _ _ _ _ (F0 mid pc ls (.int x :: .int j :: .ref (qz_ad X q) :: t.map (qz_v X)))
      rw [qz_ad_in hW ho]
      refine va_iast hx hb hSt.1 hW.1 qz_ws_D hS q 0 ha rfl g3 hd (fun H1 locs1 hP1 _ hS => ?_)
      have hW := hW.up (e := .inl (.int, n1, .inl (upd g j.toNatClampNeg x))) ho (Or.inl rfl) hP1
      exact ih _ _ _ _ _ _ _ g4 hold _ _ _ _ _ _ _ _ _ _ _ _ hF0 _ _ _ ⟨hW, hS, qz_has_m mn hL, hn0, hs0⟩
    case bastore =>
      dsimp only at h0
      simp only [qz_ok, Bool.and_eq_true, decide_eq_true_eq] at hok
      obtain ⟨hd, rfl⟩ := hok
      obtain ⟨j, x, t, rfl, g1⟩ := qz_p2_i h0
      obtain ⟨q, t, rfl, g1⟩ := qz_pr_i g1
      obtain ⟨n1, g, g2, g3, g4⟩ := qz_bs_i g1
      have ho := qz_arr_in hW g2 (by decide)
      have ha := qz_ws_at (X := X) ho
      rw [g2] at ha
      show W _ _ _ _ _ _ _ _ _ _ _ _ _ _ _ (F0 mid pc ls (.int x :: .int j :: .ref (qz_ad X q) :: t.map (qz_v X)))
      rw [qz_ad_in hW ho]
      refine va_bast hx hb hSt.1 hW.1 qz_ws_D hS q 2 ha rfl g3 hd (fun H1 locs1 hP1 _ hS => ?_)
      have hW := hW.up (e := .inl (.byte, n1, .inl (upd g j.toNatClampNeg (vp_nar .byte x)))) ho (Or.inr (Or.inr (Or.inl rfl))) hP1
      exact ih _ _ _ _ _ _ _ g4 hold _ _ _ _ _ _ _ _ _ _ _ _ hF0 _ _ _ ⟨hW, hS, qz_has_m mn hL, hn0, hs0⟩
    case lastore =>
      dsimp only at h0
      simp only [qz_ok, Bool.and_eq_true, decide_eq_true_eq] at hok
      obtain ⟨hd, rfl⟩ := hok
      obtain ⟨x, t, rfl, g1⟩ := qz_q1_i h0
      obtain ⟨j, t, rfl, g1⟩ := qz_p1_i g1
      obtain ⟨q, t, rfl, g1⟩ := qz_pr_i g1
      obtain ⟨n1, g, g2, g3, g4⟩ := qz_js_i g1
      have ho := qz_arr_in hW g2 (by decide)
      have ha := qz_ws_at (X := X) ho
      rw [g2] at ha
      show W _ _ _ _ _ _ _ _ _ _ _ _ _ _ _ (F0 mid pc ls (.long x :: .int j :: .ref (qz_ad X q) :: t.map (qz_v X)))
      rw [qz_ad_in hW ho]
      refine va_last hx hb hSt.1 hW.1 qz_ws_D hS q 1 ha rfl g3 hd (fun H1 locs1 hP1 _ hS => ?_)
      have hW := hW.up (e := .inl (.long, n1, .inr (.inl (vp_updL g j.toNatClampNeg x)))) ho (Or.inr (Or.inl rfl)) hP1
      exact ih _ _ _ _ _ _ _ g4 hold _ _ _ _ _ _ _ _ _ _ _ _ hF0 _ _ _ ⟨hW, hS, qz_has_m mn hL, hn0, hs0⟩
    case aastore =>
      dsimp only at h0
      simp only [qz_ok, Bool.and_eq_true, decide_eq_true_eq] at hok
      obtain ⟨hd, rfl⟩ := hok
      obtain ⟨y, t, rfl, g1⟩ := qz_pr_i h0
      obtain ⟨j, t, rfl, g1⟩ := qz_p1_i g1
      obtain ⟨q, t, rfl, g1⟩ := qz_pr_i g1
      obtain ⟨C, n1, g, ci, vs, g2, g3, g5, g6, g4⟩ := qz_as_i g1
      refine qz_aastore_ok hF0 hW hS hd g2 g3 g5 g6 (fun H1 locs1 hW hS => ?_)
      exact ih _ _ _ _ _ _ _ g4 hold _ _ _ _ _ _ _ _ _ _ _ _ hF0 _ _ _ ⟨hW, hS, qz_has_m mn hL, hn0, hs0⟩
    case arraylength =>
      dsimp only at h0
      simp only [qz_ok, Bool.and_eq_true, decide_eq_true_eq] at hok
      obtain ⟨hd, rfl⟩ := hok
      obtain ⟨q, t, rfl, g1⟩ := qz_pr_i h0
      obtain ⟨ty, n1, y, g2, g4⟩ := qz_len_i g1
      refine qz_alen_ok hF0 hW hS hd g2 ?_
      exact ih _ _ _ _ _ _ _ g4 hold _ _ _ _ _ _ _ _ _ _ _ _ hF0 _ _ _ ⟨hW, hS, qz_has_m mn hL, hn0, hs0⟩
    case newarray ty =>
      dsimp only at h0
      simp only [qz_ok, Bool.and_eq_true, decide_eq_true_eq] at hok
      obtain ⟨hd, rfl⟩ := hok
      obtain ⟨x, t, rfl, g1⟩ := qz_p1_i h0
      obtain ⟨g2, g1⟩ := qz_if_i g1
      obtain ⟨g3, g4⟩ := qz_cd_i g1
      have hgr := qz_x_gr qz_cd f _ _ _ _ _ _ g4
      refine qz_newa_ok hF0 hW hS hn0 hs0 hold hgr g2 g3 hd (fun H1 hW hS hn0 hs0 => ?_)
      exact ih _ _ _ _ _ _ _ g4 hold _ _ _ _ _ _ _ _ _ _ _ _ hF0 _ _ _ ⟨hW, hS, qz_has_m mn hL, hn0, hs0⟩
    case anewarray j =>
      dsimp only at h0
      simp only [qz_ok, Bool.and_eq_true, decide_eq_true_eq] at hok
      obtain ⟨hd, rfl, hk, hk2⟩ := hok
      obtain ⟨x, t, rfl, g1⟩ := qz_p1_i h0
      obtain ⟨g2, g1⟩ := qz_if_i g1
      cases hC : qz_at qz_cn a with
      | none => rw [hC] at g1; cases g1
      | some C =>
        rw [hC] at g1
        have hgr := qz_x_gr qz_cd f _ _ _ _ _ _ g1
        refine qz_newq_ok hF0 hW hS hn0 hs0 hold hgr g2 hk hk2 hC hd (fun H1 hW hS hn0 hs0 => ?_)
        exact ih _ _ _ _ _ _ _ g1 hold _ _ _ _ _ _ _ _ _ _ _ _ hF0 _ _ _ ⟨hW, hS, qz_has_m mn hL, hn0, hs0⟩
    case new j =>
      dsimp only at h0
      simp only [qz_ok, Bool.and_eq_true, decide_eq_true_eq] at hok
      obtain ⟨hd, rfl, hk, hk2, hk3, hk4, hk5⟩ := hok
      have hgr := qz_x_gr qz_cd f _ _ _ _ _ _ h0
      refine qz_new_ok hF0 hW hS hn0 hs0 hold hgr hk hk2 hk3 hk4 hk5 hd (fun H1 hW hS hn0 hs0 => ?_)
      exact ih _ _ _ _ _ _ _ h0 hold _ _ _ _ _ _ _ _ _ _ _ _ hF0 _ _ _ ⟨hW, hS, qz_has_m mn hL, hn0, hs0⟩
    case invokevirtual j =>
      dsimp only at h0
      simp only [qz_ok, Bool.and_eq_true, decide_eq_true_eq] at hok
      obtain ⟨hd, rfl, hk⟩ := hok
      match tl, hk, h0 with
      | [pad, mx, ci], hk, h0 =>
        rw [Bool.and_eq_true, decide_eq_true_eq] at hk
        obtain ⟨xs, t, v1, w1, g1, g2, g3, g3b, g4, g5, g6⟩ := qz_iv_i h0
        refine qz_call_ok ih (kd := 1) hF0 hW hS hL hn0 hs0 hold hk.2 g1 g2 g3 (by rw [← hk.1.2]; exact g3b) (fun _ => by obtain ⟨o, ys, fs, e1, e2⟩ := g4 ci rfl; exact ⟨o, ys, fs, e1, by rw [e2, hk.1.1]⟩) g5 (qz_x_gr qz_cd f _ _ _ _ _ _ g6) (Or.inl ⟨rfl, hd⟩) (fun H1 locs1 hW hS hn0 hs0 => ?_)
        exact ih _ _ _ _ _ _ _ g6 hold _ _ _ _ _ _ _ _ _ _ _ _ hF0 _ _ _ ⟨hW, hS, qz_has_m mn hL, hn0, hs0⟩
      | [], hk, _ => cases hk
      | [_], hk, _ => cases hk
      | [_, _], hk, _ => cases hk
      | _ :: _ :: _ :: _ :: _, hk, _ => cases hk
    case invokespecial j =>
      dsimp only at h0
      simp only [qz_ok, Bool.and_eq_true, decide_eq_true_eq] at hok
      obtain ⟨hd, rfl, hk⟩ := hok
      match tl, hk, h0 with
      | [pad, mx, ci], hk, h0 =>
        rw [Bool.and_eq_true, decide_eq_true_eq] at hk
        obtain ⟨xs, t, v1, w1, g1, g2, g3, g3b, g4, g5, g6⟩ := qz_iv_i h0
        refine qz_call_ok ih (kd := 2) hF0 hW hS hL hn0 hs0 hold hk.2 g1 g2 g3 (by rw [← hk.1.2]; exact g3b) (fun _ => by obtain ⟨o, ys, fs, e1, e2⟩ := g4 ci rfl; exact ⟨o, ys, fs, e1, by rw [e2, hk.1.1]⟩) g5 (qz_x_gr qz_cd f _ _ _ _ _ _ g6) (Or.inr (Or.inl ⟨rfl, hd⟩)) (fun H1 locs1 hW hS hn0 hs0 => ?_)
        exact ih _ _ _ _ _ _ _ g6 hold _ _ _ _ _ _ _ _ _ _ _ _ hF0 _ _ _ ⟨hW, hS, qz_has_m mn hL, hn0, hs0⟩
      | [], hk, h0 =>
        obtain ⟨q, t, rfl, g1⟩ := qz_pr_i h0
        obtain ⟨g2, g3⟩ := qz_cd_i g1
        refine qz_obj_ok hF0 hL (of_decide_eq_true hk) (Nat.le_of_ble_eq_true g2) hd ?_
        exact ih _ _ _ _ _ _ _ g3 hold _ _ _ _ _ _ _ _ _ _ _ _ hF0 _ _ _ ⟨hW, hS, qz_has_m mn hL, hn0, hs0⟩
      | [_], hk, _ => cases hk
      | [_, _], hk, _ => cases hk
      | _ :: _ :: _ :: _ :: _, hk, _ => cases hk
    case invokestatic j =>
      dsimp only at h0
      simp only [qz_ok, Bool.and_eq_true, decide_eq_true_eq] at hok
      obtain ⟨hd, rfl, hk⟩ := hok
      match tl, hk, h0 with
      | [pad, mx], hk, h0 =>
        rw [Bool.and_eq_true, decide_eq_true_eq] at hk
        obtain ⟨xs, t, v1, w1, g1, g2, g3, g3b, -, g5, g6⟩ := qz_iv_i h0
        refine qz_call_ok ih (kd := 0) hF0 hW hS hL hn0 hs0 hold hk.2 g1 g2 g3 (by rw [← hk.1]; exact g3b) (fun e => absurd rfl e) g5 (qz_x_gr qz_cd f _ _ _ _ _ _ g6) (Or.inr (Or.inr ⟨rfl, hd⟩)) (fun H1 locs1 hW hS hn0 hs0 => ?_)
        exact ih _ _ _ _ _ _ _ g6 hold _ _ _ _ _ _ _ _ _ _ _ _ hF0 _ _ _ ⟨hW, hS, qz_has_m mn hL, hn0, hs0⟩
      | [], hk, h0 =>
        dsimp only at h0
        split at h0
        · obtain ⟨g2, g3⟩ := qz_cd_i h0
          obtain ⟨n1, g, n2, g1, e1, e2, e3, e4⟩ := qz_cp_i g3
          refine qz_copy_ok hF0 hW hS hL (of_decide_eq_true hk) (Nat.le_of_ble_eq_true g2) e1 e2 e3 hd (fun H1 locs1 hW hS => ?_)
          exact ih _ _ _ _ _ _ _ e4 hold _ _ _ _ _ _ _ _ _ _ _ _ hF0 _ _ _ ⟨hW, hS, qz_has_m mn hL, hn0, hs0⟩
        · cases h0
      | [_], hk, h0 =>
        dsimp only at h0
        split at h0
        · split at h0
          · cases h0
          · next hni =>
            obtain ⟨g2, g3⟩ := qz_cd_i h0
            refine qz_chk_ok hF0 hS hL (of_decide_eq_true hk) (Nat.le_of_ble_eq_true g2) hni hd (qz_x_gr qz_cd f _ _ _ _ _ _ g3) ?_
            exact ih _ _ _ _ _ _ _ g3 hold _ _ _ _ _ _ _ _ _ _ _ _ hF0 _ _ _ ⟨hW, hS, qz_has_m mn hL, hn0, hs0⟩
        · cases h0
      | _ :: _ :: _ :: _, hk, _ => cases hk
    case ireturn =>
      dsimp only at h0
      simp only [qz_ok, Bool.and_eq_true, decide_eq_true_eq] at hok
      obtain ⟨hd, rfl, hk⟩ := hok
      split at h0
      · next x =>
        match c0, hk, h0 with
        | 0, hk, h0 => cases h0; exact hend pc ls H locs (Or.inl ⟨x, .int, rfl, hd, of_decide_eq_true hk, rfl⟩) hW hS
        | 1, hk, h0 => obtain ⟨g1, g2⟩ := qz_cd_i h0; cases g2; exact hend pc ls H locs (Or.inl ⟨x, .boolean, rfl, hd, of_decide_eq_true hk, (qz_nz g1).1⟩) hW hS
        | 2, hk, h0 =>
          have h1 : (if x = (x.toUInt32 % 65536).toInt32 then some (some (Value.int x), w) else none) = some (v, w') := h0
          split at h1
          · next g1 => cases h1; exact hend pc ls H locs (Or.inl ⟨x, .char, rfl, hd, of_decide_eq_true hk, by rw [g1]; exact pk_nc x⟩) hW hS
          · cases h1
        | 3, hk, h0 =>
          have h1 : (if x = x.toInt8.toInt32 then some (some (Value.int x), w) else none) = some (v, w') := h0
          split at h1
          · next g1 => cases h1; exact hend pc ls H locs (Or.inl ⟨x, .byte, rfl, hd, of_decide_eq_true hk, by rw [g1]; exact pk_nb x⟩) hW hS
          · cases h1
        | _ + 4, hk, h0 => cases hk
      · cases h0
    case lreturn =>
      dsimp only at h0
      simp only [qz_ok, Bool.and_eq_true, decide_eq_true_eq] at hok
      obtain ⟨hd, rfl, hk⟩ := hok
      split at h0
      · next x => cases h0; exact hend pc ls H locs (Or.inr (Or.inl ⟨x, rfl, hd, hk⟩)) hW hS
      · cases h0
    case areturn =>
      dsimp only at h0
      simp only [qz_ok, Bool.and_eq_true, decide_eq_true_eq] at hok
      obtain ⟨hd, rfl, hk⟩ := hok
      split at h0
      · cases h0; exact hend pc ls H locs (Or.inr (Or.inr (Or.inl ⟨.null, rfl, Or.inl rfl, hd, hk⟩))) hW hS
      · next q => cases h0; exact hend pc ls H locs (Or.inr (Or.inr (Or.inl ⟨.ref q, rfl, Or.inr ⟨q, rfl⟩, hd, hk⟩))) hW hS
      · cases h0
    case return_ =>
      dsimp only at h0
      simp only [qz_ok, Bool.and_eq_true, decide_eq_true_eq] at hok
      obtain ⟨hd, rfl, hk⟩ := hok
      split at h0
      · cases h0; exact hend pc ls H locs (Or.inr (Or.inr (Or.inr ⟨rfl, hd, hk⟩))) hW hS
      · cases h0
    all_goals cases h0
theorem qz_sound (X : qz_X) (l : Launch) (hv : ∀ m pc en, qz_lk (qz_cd m) pc = some en → qz_ok m pc en = true) : ∀ f, qz_IH X l f
  | 0 => fun _ _ _ _ _ _ _ h => by cases h
  | f + 1 => qz_step X l hv f (qz_sound X l hv f)

/-! back -/
def ft (s : sT) (o n p : Nat) : sT := su (sa s o (fun j => if j < n then s.1 360 (p + j) else s.1 o j)) 318 62 (nI (p + n))
theorem fetches_run (X : qz_X) {s : sT} {o n p len : Nat} (hS : ms_S o = (0, len)) (ho : o < 362) (hlen : len < 2 ^ 31) (hn : n ≤ len) (ho2 : o ≠ 360 ∧ o ≠ 318) (hp : p + n ≤ 24300) (h62 : s.1 318 62 = nI p) : rn 291 0 [some (.ref 318), some (.ref o), some (.int (nI n)), none] [] (mk X s) = some (none, mk X (ft s o n p)) := by
  have hs : ∀ (i : Nat) (u : sT), 0 ≤ i → i < n → u = sa s o (fun j => if j < i then s.1 360 (p + j) else s.1 o j) → ∃ z : sT, z = sa s o (fun j => if j < i + 1 then s.1 360 (p + j) else s.1 o j) ∧ rn 291 2 [some (.ref 318), some (.ref o), some (.int (nI n)), some (.int (nI i))] [] (mk X u) = rn 291 2 [some (.ref 318), some (.ref o), some (.int (nI n)), some (.int (nI (i + 1)))] [] (mk X z) := by
    rintro i u _ hi rfl
    refine ⟨_, rfl, ?_⟩
    have e62 : (sa s o (fun j => if j < i then s.1 360 (p + j) else s.1 o j)).1 318 62 = nI p := by rw [sa_1, if_neg (fun z => ho2.2 z.symm)]; exact h62
    have e360 : (sa s o (fun j => if j < i then s.1 360 (p + j) else s.1 o j)).1 360 (p + i) = s.1 360 (p + i) := by rw [sa_1, if_neg (fun z => ho2.1 z.symm)]
    have e := fl_s (fun j => s.1 360 (p + j)) (s.1 o) i
    try dsimp only at e
    rw [e_M_fetches_2, if_neg (nI_ge hi (by omega)), g_M_image, g_M_place, e62, nI_add, i_M_image (by omega), e360, mk_is hS ho hlen (by omega), su_sa, e, nI_add]
  obtain ⟨z, hz, e⟩ := it_up (fun i (u : sT) => rn 291 2 [some (.ref 318), some (.ref o), some (.int (nI n)), some (.int (nI i))] [] (mk X u)) (fun i u => u = sa s o (fun j => if j < i then s.1 360 (p + j) else s.1 o j)) (Nat.zero_le n) hs (x := s) (by
    have e := fl_0 (fun j => s.1 360 (p + j)) (s.1 o)
    try dsimp only at e
    rw [e, sa_id])
  try dsimp only at e
  have e62 : z.1 318 62 = nI p := by rw [hz, sa_1, if_neg (fun z => ho2.2 z.symm)]; exact h62
  rw [e_M_fetches_0, e, e_M_fetches_2, if_pos (nI_le (Nat.le_refl _) (by omega)), g_M_place, e62, p_M_place, hz, nI_add]
  rfl
theorem ft_c {s : sT} {o n p c : Nat} (h : c ≠ o) (h2 : c ≠ 318) : (ft s o n p).1 c = s.1 c := by
  funext j
  unfold ft
  rw [su_1, if_neg (fun z => h2 z.1), sa_1, if_neg h]
theorem ft_m {s : sT} {o n p j : Nat} (ho : o ≠ 318) (h : j ≠ 62) : (ft s o n p).1 318 j = s.1 318 j := by
  unfold ft
  rw [su_1, if_neg (fun z => h z.2), sa_1, if_neg (fun z => ho z.symm)]
theorem ft_p {s : sT} {o n p : Nat} : (ft s o n p).1 318 62 = nI (p + n) := by
  unfold ft
  rw [su_1, if_pos ⟨rfl, rfl⟩]
theorem ft_i {s : sT} {o n p j : Nat} (ho : o ≠ 318) (hj : j < n) : (ft s o n p).1 o j = s.1 360 (p + j) := by
  unfold ft
  rw [su_1, if_neg (fun z => ho z.1), sa_1, if_pos rfl, if_pos hj]
def fAll (s : sT) (p : Nat) : sT := (ft (ft (ft (ft (ft (ft (ft (ft (ft (ft (ft s 320 96 (p + 0)) 321 6 (p + 96)) 322 2400 (p + 102)) 323 2400 (p + 2502)) 324 2400 (p + 4902)) 325 48 (p + 7302)) 326 48 (p + 7350)) 327 384 (p + 7398)) 328 72 (p + 7782)) 329 72 (p + 7854)) 330 72 (p + 7926))
theorem fAll_c {s : sT} {p c : Nat} (h : ¬ (320 ≤ c ∧ c ≤ 330)) (h2 : c ≠ 318) : (fAll s p).1 c = s.1 c := by
  unfold fAll
  rw [ft_c (by omega) h2, ft_c (by omega) h2, ft_c (by omega) h2, ft_c (by omega) h2, ft_c (by omega) h2, ft_c (by omega) h2, ft_c (by omega) h2, ft_c (by omega) h2, ft_c (by omega) h2, ft_c (by omega) h2, ft_c (by omega) h2]
theorem fAll_m {s : sT} {p j : Nat} (h : j ≠ 62) : (fAll s p).1 318 j = s.1 318 j := by
  unfold fAll
  rw [ft_m (by decide) h, ft_m (by decide) h, ft_m (by decide) h, ft_m (by decide) h, ft_m (by decide) h, ft_m (by decide) h, ft_m (by decide) h, ft_m (by decide) h, ft_m (by decide) h, ft_m (by decide) h, ft_m (by decide) h]
theorem fAll_320 {s : sT} {p j : Nat} (hj : j < 96) : (fAll s p).1 320 j = s.1 360 (p + 0 + j) := by
  unfold fAll
  rw [ft_c (by decide) (by decide), ft_c (by decide) (by decide), ft_c (by decide) (by decide), ft_c (by decide) (by decide), ft_c (by decide) (by decide), ft_c (by decide) (by decide), ft_c (by decide) (by decide), ft_c (by decide) (by decide), ft_c (by decide) (by decide), ft_c (by decide) (by decide), ft_i (by decide) hj]
theorem fAll_321 {s : sT} {p j : Nat} (hj : j < 6) : (fAll s p).1 321 j = s.1 360 (p + 96 + j) := by
  unfold fAll
  rw [ft_c (by decide) (by decide), ft_c (by decide) (by decide), ft_c (by decide) (by decide), ft_c (by decide) (by decide), ft_c (by decide) (by decide), ft_c (by decide) (by decide), ft_c (by decide) (by decide), ft_c (by decide) (by decide), ft_c (by decide) (by decide), ft_i (by decide) hj, ft_c (by decide) (by decide)]
theorem fAll_322 {s : sT} {p j : Nat} (hj : j < 2400) : (fAll s p).1 322 j = s.1 360 (p + 102 + j) := by
  unfold fAll
  rw [ft_c (by decide) (by decide), ft_c (by decide) (by decide), ft_c (by decide) (by decide), ft_c (by decide) (by decide), ft_c (by decide) (by decide), ft_c (by decide) (by decide), ft_c (by decide) (by decide), ft_c (by decide) (by decide), ft_i (by decide) hj, ft_c (by decide) (by decide), ft_c (by decide) (by decide)]
theorem fAll_323 {s : sT} {p j : Nat} (hj : j < 2400) : (fAll s p).1 323 j = s.1 360 (p + 2502 + j) := by
  unfold fAll
  rw [ft_c (by decide) (by decide), ft_c (by decide) (by decide), ft_c (by decide) (by decide), ft_c (by decide) (by decide), ft_c (by decide) (by decide), ft_c (by decide) (by decide), ft_c (by decide) (by decide), ft_i (by decide) hj, ft_c (by decide) (by decide), ft_c (by decide) (by decide), ft_c (by decide) (by decide)]
theorem fAll_324 {s : sT} {p j : Nat} (hj : j < 2400) : (fAll s p).1 324 j = s.1 360 (p + 4902 + j) := by
  unfold fAll
  rw [ft_c (by decide) (by decide), ft_c (by decide) (by decide), ft_c (by decide) (by decide), ft_c (by decide) (by decide), ft_c (by decide) (by decide), ft_c (by decide) (by decide), ft_i (by decide) hj, ft_c (by decide) (by decide), ft_c (by decide) (by decide), ft_c (by decide) (by decide), ft_c (by decide) (by decide)]
theorem fAll_325 {s : sT} {p j : Nat} (hj : j < 48) : (fAll s p).1 325 j = s.1 360 (p + 7302 + j) := by
  unfold fAll
  rw [ft_c (by decide) (by decide), ft_c (by decide) (by decide), ft_c (by decide) (by decide), ft_c (by decide) (by decide), ft_c (by decide) (by decide), ft_i (by decide) hj, ft_c (by decide) (by decide), ft_c (by decide) (by decide), ft_c (by decide) (by decide), ft_c (by decide) (by decide), ft_c (by decide) (by decide)]
theorem fAll_326 {s : sT} {p j : Nat} (hj : j < 48) : (fAll s p).1 326 j = s.1 360 (p + 7350 + j) := by
  unfold fAll
  rw [ft_c (by decide) (by decide), ft_c (by decide) (by decide), ft_c (by decide) (by decide), ft_c (by decide) (by decide), ft_i (by decide) hj, ft_c (by decide) (by decide), ft_c (by decide) (by decide), ft_c (by decide) (by decide), ft_c (by decide) (by decide), ft_c (by decide) (by decide), ft_c (by decide) (by decide)]
theorem fAll_327 {s : sT} {p j : Nat} (hj : j < 384) : (fAll s p).1 327 j = s.1 360 (p + 7398 + j) := by
  unfold fAll
  rw [ft_c (by decide) (by decide), ft_c (by decide) (by decide), ft_c (by decide) (by decide), ft_i (by decide) hj, ft_c (by decide) (by decide), ft_c (by decide) (by decide), ft_c (by decide) (by decide), ft_c (by decide) (by decide), ft_c (by decide) (by decide), ft_c (by decide) (by decide), ft_c (by decide) (by decide)]
theorem fAll_328 {s : sT} {p j : Nat} (hj : j < 72) : (fAll s p).1 328 j = s.1 360 (p + 7782 + j) := by
  unfold fAll
  rw [ft_c (by decide) (by decide), ft_c (by decide) (by decide), ft_i (by decide) hj, ft_c (by decide) (by decide), ft_c (by decide) (by decide), ft_c (by decide) (by decide), ft_c (by decide) (by decide), ft_c (by decide) (by decide), ft_c (by decide) (by decide), ft_c (by decide) (by decide), ft_c (by decide) (by decide)]
theorem fAll_329 {s : sT} {p j : Nat} (hj : j < 72) : (fAll s p).1 329 j = s.1 360 (p + 7854 + j) := by
  unfold fAll
  rw [ft_c (by decide) (by decide), ft_i (by decide) hj, ft_c (by decide) (by decide), ft_c (by decide) (by decide), ft_c (by decide) (by decide), ft_c (by decide) (by decide), ft_c (by decide) (by decide), ft_c (by decide) (by decide), ft_c (by decide) (by decide), ft_c (by decide) (by decide), ft_c (by decide) (by decide)]
theorem fAll_330 {s : sT} {p j : Nat} (hj : j < 72) : (fAll s p).1 330 j = s.1 360 (p + 7926 + j) := by
  unfold fAll
  rw [ft_i (by decide) hj, ft_c (by decide) (by decide), ft_c (by decide) (by decide), ft_c (by decide) (by decide), ft_c (by decide) (by decide), ft_c (by decide) (by decide), ft_c (by decide) (by decide), ft_c (by decide) (by decide), ft_c (by decide) (by decide), ft_c (by decide) (by decide), ft_c (by decide) (by decide)]
theorem M_back_run (X : qz_X) {s : sT} {m n : Nat} (hm : m < n) (hn : n ≤ 3) (h61 : s.1 318 61 = nI n) : rn 292 0 [some (.ref 318), some (.int (nI m))] [] (mk X s) = some (some (.int (nI 1)), mk X (fAll (su (su s 318 62 (nI (8100 * m))) 318 1 (s.1 361 m)) (8100 * m))) := by
  have h62 : (su (su s 318 62 (nI (8100 * m))) 318 1 (s.1 361 m)).1 318 62 = nI (8100 * m + 0) := by
    rw [su_1, if_neg (by decide), su_1, if_pos ⟨rfl, rfl⟩]
    rfl
  have g361 : (su s 318 62 (nI (8100 * m))).1 361 m = s.1 361 m := by rw [su_1, if_neg (by omega)]
  rw [e_M_back_0, g_M_images, h61, pk_sub (by omega), isIn_yes _ (by omega) (by omega), r1_s, if_neg (by decide), pk_mul, p_M_place, g_M_imageOrder, i_M_imageOrder (by omega), g361, p_M_orderDigits, g_M_about, ck_M, fetches_run X (o := 320) (n := 96) (len := 112) rfl (by decide) (by decide) (by decide) (by decide) (by omega) h62, r0_s, g_M_isTold, ck_M, fetches_run X (o := 321) (n := 6) (len := 6) rfl (by decide) (by decide) (by decide) (by decide) (by omega) ft_p, r0_s, g_M_through, ck_M, fetches_run X (o := 322) (n := 2400) (len := 2800) rfl (by decide) (by decide) (by decide) (by decide) (by omega) ft_p, r0_s, g_M_worth, ck_M, fetches_run X (o := 323) (n := 2400) (len := 2800) rfl (by decide) (by decide) (by decide) (by decide) (by omega) ft_p, r0_s, g_M_bridgeAt, ck_M, fetches_run X (o := 324) (n := 2400) (len := 2800) rfl (by decide) (by decide) (by decide) (by decide) (by omega) ft_p, r0_s, g_M_shapeWide, ck_M, fetches_run X (o := 325) (n := 48) (len := 56) rfl (by decide) (by decide) (by decide) (by decide) (by omega) ft_p, r0_s, g_M_shapeHigh, ck_M, fetches_run X (o := 326) (n := 48) (len := 56) rfl (by decide) (by decide) (by decide) (by decide) (by omega) ft_p, r0_s, g_M_shapeRow, ck_M, fetches_run X (o := 327) (n := 384) (len := 448) rfl (by decide) (by decide) (by decide) (by decide) (by omega) ft_p, r0_s, g_M_bridgeKind, ck_M, fetches_run X (o := 328) (n := 72) (len := 84) rfl (by decide) (by decide) (by decide) (by decide) (by omega) ft_p, r0_s, g_M_bridgeHidden, ck_M, fetches_run X (o := 329) (n := 72) (len := 84) rfl (by decide) (by decide) (by decide) (by decide) (by omega) ft_p, r0_s, g_M_bridgeLasts, ck_M, fetches_run X (o := 330) (n := 72) (len := 84) rfl (by decide) (by decide) (by decide) (by decide) (by omega) ft_p, r0_s]
  rfl
theorem sim_back (X : qz_X) (s : sT) (G : gsT) (h : Rel s G) (v : Int32) : Sim X s 290 292 [some (.ref 0), some (.int v)] [some (.ref 318), some (.int v)] := by
  obtain ⟨h1, h2, h3, h4, ⟨n1, n2, n3, n4⟩, i1, i2, i3, i4⟩ := id h
  rcases Classical.em (∃ m, m < G.2.2.1 ∧ v = nI m) with ⟨m, hm, rfl⟩ | hno
  · have hm3 : m < 3 := by omega
    have hpl := fun k (hk : k < 7) => isS_pl _ (h1.1 k hk)
    obtain ⟨q1, q2, q3, q4⟩ := i4 m hm
    have hap := fun k l (hk : k < 6) (hl : l < 6) (hkl : k ≠ l) => pl_apart _ (h1.1 k (by omega)) _ (h1.1 l (by omega)) (fun z => hkl (h1.2 k l (by omega) (by omega) z))
    obtain ⟨st, e, s2, sc, so, ss⟩ := pile_run X (s := s) (P := 3) (Q := 126 + 64 * m) (cd := 5) (ce := 128 + 64 * m) (D := fun k => s.2.2 k) (E := fun k => 130 + 64 * m + 10 * k) (T := (G.2.2.2 m).1) (fun u f k hu hk => by rw [g_N_sheets, i_N_sheets hk, hu]) (fun u f k _ hk => (pm_run X hm3 u).2.1 f k hk) (fun u f => by rw [g_N_places]) (fun u f => (pm_run X hm3 u).2.2.1 f) (fun u f x k hk => by rw [w_N_places hk]) (fun u f k hk => (pm_run X hm3 u).2.2.2.2 f k hk) (fun k hk => (hpl k (by omega)).1) (fun k hk => imS m hm3 k hk) (fun k l hk hl => by have := hpl k (by omega); omega) (fun k l hk hl hkl => hap k l hk hl hkl) (by omega) (fun k hk => by have := hpl k (by omega); omega) (fun k hk => (q2 k hk).1)
    have eC : rn 290 0 [some (.ref 0), some (.int (nI m))] [] (mk X s) = some (some (.int (nI 1)), mk X st) := by
      rw [e_C_back_0, if_neg (nI_pos (by omega)), g_C_imageCount, i2, if_pos (nI_lt hm (by omega)), g_C_now, g_C_images, im_run X hm3, ck_N, e, r0_s]
    have hst : ∀ c, c ≠ 5 → ¬ (7 ≤ c ∧ c ≤ 77) → st.1 c = s.1 c := fun c c1 c2 => sc c c1 (fun k hk => by have := hpl k (by omega); omega)
    have h61 : st.1 318 61 = nI G.2.2.1 := by rw [hst 318 (by decide) (by decide)]; exact i3
    have eM := M_back_run X hm i1 h61
    generalize hu : su (su st 318 62 (nI (8100 * m))) 318 1 (st.1 361 m) = u at eM
    have hu1 : ∀ c, c ≠ 318 → u.1 c = st.1 c := by
      intro c c1
      rw [← hu]
      funext l
      rw [su_1, if_neg (fun z => c1 z.1), su_1, if_neg (fun z => c1 z.1)]
    have hf : ∀ c, c ≠ 318 → ¬ (320 ≤ c ∧ c ≤ 330) → (fAll u (8100 * m)).1 c = st.1 c := fun c c1 c2 => by rw [fAll_c c2 c1, hu1 c c1]
    have hfs : ∀ c, c ≠ 318 → ¬ (320 ≤ c ∧ c ≤ 330) → c ≠ 5 → ¬ (7 ≤ c ∧ c ≤ 77) → (fAll u (8100 * m)).1 c = s.1 c := fun c c1 c2 c3 c4 => by rw [hf c c1 c2, hst c c3 c4]
    have hf3 : ∀ j, j ≠ 62 → j ≠ 1 → (fAll u (8100 * m)).1 318 j = s.1 318 j := by
      intro j j1 j2
      rw [fAll_m j1, ← hu, su_1, if_neg (fun z => j2 z.2), su_1, if_neg (fun z => j1 z.2), hst 318 (by decide) (by decide)]
    have hu360 : u.1 360 = s.1 360 := by rw [hu1 360 (by decide), hst 360 (by decide) (by decide)]
    have h22 : (fAll u (8100 * m)).2 = s.2 := by
      show u.2 = s.2
      rw [← hu, su_2, su_2, s2]
    refine ⟨_, _, _, (G.1, G.2.2.2 m, G.2.2), eC, eM, rPl_c (by rw [h22]) h1, rTp_c (by rw [hfs 0 (by decide) (by decide) (by decide) (by decide)]) (hf3 14 (by decide) (by decide)) (hfs 1 (by decide) (by decide) (by decide) (by decide)) (hfs 332 (by decide) (by decide) (by decide) (by decide)) h2, ?_, ?_, ⟨q1, fun k hk => ?_, fun k hk => ?_, ?_⟩, rIm_c (by rw [hfs 0 (by decide) (by decide) (by decide) (by decide)]) (hf3 61 (by decide) (by decide)) (fun i p q => hfs i (by omega) (by omega) (by omega) (by omega)) (hfs 360 (by decide) (by decide) (by decide) (by decide)) (hfs 361 (by decide) (by decide) (by decide) (by decide)) ⟨i1, i2, i3, i4⟩⟩
    · unfold rFa
      rw [hfs 0 (by decide) (by decide) (by decide) (by decide), hf3 17 (by decide) (by decide)]
      exact h3
    · unfold rRe
      rw [hfs 2 (by decide) (by decide) (by decide) (by decide), hfs 319 (by decide) (by decide) (by decide) (by decide)]
      exact h4
    · have hp := hpl k (by omega)
      have e22 : (fAll u (8100 * m)).2.2 = s.2.2 := by rw [h22]
      show (fAll u (8100 * m)).1 ((fAll u (8100 * m)).2.2 k) 0 = _ ∧ _ ∧ (_ → isC _ ((fAll u (8100 * m)).2.2 k) _ ∧ _)
      rw [e22, hf (s.2.2 k) (by omega) (by omega)]
      refine ⟨(ss k hk).1, ?_, fun ht => ⟨?_, ?_⟩⟩
      · rw [fAll_321 hk, hu360]
        exact (q2 k hk).2.1
      · exact isC_cong (q := s.2.2 k) (fun i hi => hf (s.2.2 k + i) (by omega) (by omega)) ((ss k hk).2 _ (q1.2 k hk ht) ((q2 k hk).2.2 ht).1)
      · have ok := q1.2 k hk ht
        have o4 := ok.2.2.2.1
        have o5 := ok.2.2.2.2.1
        obtain ⟨m1, m2, m3, m4, m5, m6⟩ := ((q2 k hk).2.2 ht).2
        show isM (gN (fAll u (8100 * m))) k ((G.2.2.2 m).2.1 k)
        refine ⟨fun j hj => ?_, fun q hq => ?_, fun q hq => ?_, fun q hq b hb => ?_, fun i hi => ⟨?_, ?_, fun y hy => ?_⟩, fun b hb => ⟨?_, ?_, ?_⟩⟩
        · have := fAll_320 (s := u) (p := 8100 * m) (j := 16 * k + j) (by omega)
          rw [hu360] at this
          exact this.trans (m1 j hj)
        · have := fAll_322 (s := u) (p := 8100 * m) (j := 400 * k + q) (by omega)
          rw [hu360] at this
          exact this.trans (m2 q hq)
        · have := fAll_323 (s := u) (p := 8100 * m) (j := 400 * k + q) (by omega)
          rw [hu360] at this
          exact this.trans (m3 q hq)
        · have := fAll_324 (s := u) (p := 8100 * m) (j := 400 * k + q) (by omega)
          rw [hu360] at this
          show bt ((fAll u (8100 * m)).1 324 (400 * k + q)) b = _
          rw [this]
          exact m4 q hq b hb
        · have := fAll_325 (s := u) (p := 8100 * m) (j := 8 * k + i) (by omega)
          rw [hu360] at this
          exact this.trans (m5 i hi).1
        · have := fAll_326 (s := u) (p := 8100 * m) (j := 8 * k + i) (by omega)
          rw [hu360] at this
          exact this.trans (m5 i hi).2.1
        · have hh := (ok.2.2.2.2.2.2.2.2.2.2.2.2.2 i hi).2.1
          have := fAll_327 (s := u) (p := 8100 * m) (j := 8 * (8 * k + i) + y) (by omega)
          rw [hu360] at this
          exact this.trans ((m5 i hi).2.2 y hy)
        · have := fAll_328 (s := u) (p := 8100 * m) (j := 12 * k + b) (by omega)
          rw [hu360] at this
          exact this.trans (m6 b hb).1
        · have := fAll_329 (s := u) (p := 8100 * m) (j := 12 * k + b) (by omega)
          rw [hu360] at this
          exact this.trans (m6 b hb).2.1
        · have := fAll_330 (s := u) (p := 8100 * m) (j := 12 * k + b) (by omega)
          rw [hu360] at this
          exact this.trans (m6 b hb).2.2
    · rw [hf 5 (by decide) (by decide), so k hk]
      exact q3 k hk
    · rw [fAll_m (by decide), ← hu, su_1, if_pos ⟨rfl, rfl⟩, hst 361 (by decide) (by decide)]
      exact q4
  · refine sim_refuse h ?_ ?_
    · rw [e_C_back_0]
      by_cases h0 : v < 0
      · rw [if_pos h0, C_refuse X s (j := 0) (by decide)]
      · obtain ⟨n, hn, rfl⟩ := nI_of h0
        rw [if_neg h0, g_C_imageCount, i2, if_neg (nI_nlt (by
          rcases Nat.lt_or_ge n G.2.2.1 with g | g
          · exact absurd ⟨n, g, rfl⟩ hno
          · exact g) hn), C_refuse X s (j := 0) (by decide)]
    · have e61 : (su s 2 0 (s.1 2 0 + nI 1)).1 318 61 = nI G.2.2.1 := by rw [su_1, if_neg (by omega)]; exact i3
      rw [e_M_back_0, g_M_images, e61]
      rcases isIn_lt (mk X (su s 2 0 (s.1 2 0 + nI 1))) v (n := G.2.2.1) (by omega) with ⟨g, -⟩ | ⟨-, e⟩
      · exact absurd g hno
      · rw [e, r1_s, if_pos (by decide), ck_M, M_refuse2 X _ (j := 0) (by decide), r1_s, qz_z0, cond_t]

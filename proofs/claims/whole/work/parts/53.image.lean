/-! image, back -/
def kp (s : sT) (o n p : Nat) : sT := su (sa s 360 (fun j => if p ≤ j ∧ j < p + n then s.1 o (j - p) else s.1 360 j)) 318 62 (nI (p + n))
theorem keeps_run (X : qz_X) {s : sT} {o n p len : Nat} (hS : ms_S o = (0, len)) (ho : o < 362) (hlen : len < 2 ^ 31) (hn : n ≤ len) (ho2 : o ≠ 360 ∧ o ≠ 318) (hp : p + n ≤ 24300) (h62 : s.1 318 62 = nI p) : rn 288 0 [some (.ref 318), some (.ref o), some (.int (nI n)), none] [] (mk X s) = some (none, mk X (kp s o n p)) := by
  have hs : ∀ (i : Nat) (u : sT), 0 ≤ i → i < n → u = sa s 360 (fun j => if p ≤ j ∧ j < p + i then s.1 o (j - p) else s.1 360 j) → ∃ z : sT, z = sa s 360 (fun j => if p ≤ j ∧ j < p + (i + 1) then s.1 o (j - p) else s.1 360 j) ∧ rn 288 2 [some (.ref 318), some (.ref o), some (.int (nI n)), some (.int (nI i))] [] (mk X u) = rn 288 2 [some (.ref 318), some (.ref o), some (.int (nI n)), some (.int (nI (i + 1)))] [] (mk X z) := by
    rintro i u _ hi rfl
    refine ⟨_, rfl, ?_⟩
    have e62 : (sa s 360 (fun j => if p ≤ j ∧ j < p + i then s.1 o (j - p) else s.1 360 j)).1 318 62 = nI p := by rw [sa_1, if_neg (by decide)]; exact h62
    have eo : (sa s 360 (fun j => if p ≤ j ∧ j < p + i then s.1 o (j - p) else s.1 360 j)).1 o i = s.1 o i := by rw [sa_1, if_neg ho2.1]
    have e : (fun j => if j = p + i then s.1 o i else if p ≤ j ∧ j < p + i then s.1 o (j - p) else s.1 360 j) = (fun j => if p ≤ j ∧ j < p + (i + 1) then s.1 o (j - p) else s.1 360 j) := by
      funext j
      by_cases h1 : j = p + i
      · subst h1
        rw [if_pos rfl, if_pos (by omega), show p + i - p = i by omega]
      · rw [if_neg h1]
        by_cases h2 : p ≤ j ∧ j < p + i
        · rw [if_pos h2, if_pos (by omega)]
        · rw [if_neg h2, if_neg (by omega)]
    rw [e_M_keeps_2, if_neg (nI_ge hi (by omega)), g_M_image, g_M_place, e62, mk_ia hS ho hlen (by omega), eo, nI_add, w_M_image (by omega), su_sa, e, nI_add]
  obtain ⟨z, hz, e⟩ := it_up (fun i (u : sT) => rn 288 2 [some (.ref 318), some (.ref o), some (.int (nI n)), some (.int (nI i))] [] (mk X u)) (fun i u => u = sa s 360 (fun j => if p ≤ j ∧ j < p + i then s.1 o (j - p) else s.1 360 j)) (Nat.zero_le n) hs (x := s) (by
    have e : (fun j => if p ≤ j ∧ j < p + 0 then s.1 o (j - p) else s.1 360 j) = s.1 360 := by
      funext j
      rw [if_neg (by omega)]
    rw [e, sa_id])
  try dsimp only at e
  have e62 : z.1 318 62 = nI p := by rw [hz, sa_1, if_neg (by decide)]; exact h62
  rw [e_M_keeps_0, e, e_M_keeps_2, if_pos (nI_le (Nat.le_refl _) (by omega)), g_M_place, e62, p_M_place, hz, nI_add]
  rfl
theorem kp_c {s : sT} {o n p c : Nat} (h : c ≠ 360) (h2 : c ≠ 318) : (kp s o n p).1 c = s.1 c := by
  funext j
  unfold kp
  rw [su_1, if_neg (fun z => h2 z.1), sa_1, if_neg h]
theorem kp_m {s : sT} {o n p j : Nat} (h : j ≠ 62) : (kp s o n p).1 318 j = s.1 318 j := by
  unfold kp
  rw [su_1, if_neg (fun z => h z.2), sa_1, if_neg (by decide)]
theorem kp_p {s : sT} {o n p : Nat} : (kp s o n p).1 318 62 = nI (p + n) := by
  unfold kp
  rw [su_1, if_pos ⟨rfl, rfl⟩]
theorem kp_i {s : sT} {o n p j : Nat} : (kp s o n p).1 360 j = if p ≤ j ∧ j < p + n then s.1 o (j - p) else s.1 360 j := by
  unfold kp
  rw [su_1, if_neg (by omega), sa_1, if_pos rfl]
def kAll (s : sT) (p : Nat) : sT := (kp (kp (kp (kp (kp (kp (kp (kp (kp (kp (kp s 320 96 (p + 0)) 321 6 (p + 96)) 322 2400 (p + 102)) 323 2400 (p + 2502)) 324 2400 (p + 4902)) 325 48 (p + 7302)) 326 48 (p + 7350)) 327 384 (p + 7398)) 328 72 (p + 7782)) 329 72 (p + 7854)) 330 72 (p + 7926))
theorem kAll_c {s : sT} {p c : Nat} (h : c ≠ 360) (h2 : c ≠ 318) : (kAll s p).1 c = s.1 c := by
  unfold kAll
  rw [kp_c h h2, kp_c h h2, kp_c h h2, kp_c h h2, kp_c h h2, kp_c h h2, kp_c h h2, kp_c h h2, kp_c h h2, kp_c h h2, kp_c h h2]
theorem kAll_m {s : sT} {p j : Nat} (h : j ≠ 62) : (kAll s p).1 318 j = s.1 318 j := by
  unfold kAll
  rw [kp_m h, kp_m h, kp_m h, kp_m h, kp_m h, kp_m h, kp_m h, kp_m h, kp_m h, kp_m h, kp_m h]
theorem kAll_320 {s : sT} {p j : Nat} (hj : j < 96) : (kAll s p).1 360 (p + 0 + j) = s.1 320 j := by
  unfold kAll
  rw [kp_i, if_neg (by omega), kp_i, if_neg (by omega), kp_i, if_neg (by omega), kp_i, if_neg (by omega), kp_i, if_neg (by omega), kp_i, if_neg (by omega), kp_i, if_neg (by omega), kp_i, if_neg (by omega), kp_i, if_neg (by omega), kp_i, if_neg (by omega), kp_i, if_pos (by omega), show p + 0 + j - (p + 0) = j by omega]
theorem kAll_321 {s : sT} {p j : Nat} (hj : j < 6) : (kAll s p).1 360 (p + 96 + j) = s.1 321 j := by
  unfold kAll
  rw [kp_i, if_neg (by omega), kp_i, if_neg (by omega), kp_i, if_neg (by omega), kp_i, if_neg (by omega), kp_i, if_neg (by omega), kp_i, if_neg (by omega), kp_i, if_neg (by omega), kp_i, if_neg (by omega), kp_i, if_neg (by omega), kp_i, if_pos (by omega), show p + 96 + j - (p + 96) = j by omega, kp_c (by decide) (by decide)]
theorem kAll_322 {s : sT} {p j : Nat} (hj : j < 2400) : (kAll s p).1 360 (p + 102 + j) = s.1 322 j := by
  unfold kAll
  rw [kp_i, if_neg (by omega), kp_i, if_neg (by omega), kp_i, if_neg (by omega), kp_i, if_neg (by omega), kp_i, if_neg (by omega), kp_i, if_neg (by omega), kp_i, if_neg (by omega), kp_i, if_neg (by omega), kp_i, if_pos (by omega), show p + 102 + j - (p + 102) = j by omega, kp_c (by decide) (by decide), kp_c (by decide) (by decide)]
theorem kAll_323 {s : sT} {p j : Nat} (hj : j < 2400) : (kAll s p).1 360 (p + 2502 + j) = s.1 323 j := by
  unfold kAll
  rw [kp_i, if_neg (by omega), kp_i, if_neg (by omega), kp_i, if_neg (by omega), kp_i, if_neg (by omega), kp_i, if_neg (by omega), kp_i, if_neg (by omega), kp_i, if_neg (by omega), kp_i, if_pos (by omega), show p + 2502 + j - (p + 2502) = j by omega, kp_c (by decide) (by decide), kp_c (by decide) (by decide), kp_c (by decide) (by decide)]
theorem kAll_324 {s : sT} {p j : Nat} (hj : j < 2400) : (kAll s p).1 360 (p + 4902 + j) = s.1 324 j := by
  unfold kAll
  rw [kp_i, if_neg (by omega), kp_i, if_neg (by omega), kp_i, if_neg (by omega), kp_i, if_neg (by omega), kp_i, if_neg (by omega), kp_i, if_neg (by omega), kp_i, if_pos (by omega), show p + 4902 + j - (p + 4902) = j by omega, kp_c (by decide) (by decide), kp_c (by decide) (by decide), kp_c (by decide) (by decide), kp_c (by decide) (by decide)]
theorem kAll_325 {s : sT} {p j : Nat} (hj : j < 48) : (kAll s p).1 360 (p + 7302 + j) = s.1 325 j := by
  unfold kAll
  rw [kp_i, if_neg (by omega), kp_i, if_neg (by omega), kp_i, if_neg (by omega), kp_i, if_neg (by omega), kp_i, if_neg (by omega), kp_i, if_pos (by omega), show p + 7302 + j - (p + 7302) = j by omega, kp_c (by decide) (by decide), kp_c (by decide) (by decide), kp_c (by decide) (by decide), kp_c (by decide) (by decide), kp_c (by decide) (by decide)]
theorem kAll_326 {s : sT} {p j : Nat} (hj : j < 48) : (kAll s p).1 360 (p + 7350 + j) = s.1 326 j := by
  unfold kAll
  rw [kp_i, if_neg (by omega), kp_i, if_neg (by omega), kp_i, if_neg (by omega), kp_i, if_neg (by omega), kp_i, if_pos (by omega), show p + 7350 + j - (p + 7350) = j by omega, kp_c (by decide) (by decide), kp_c (by decide) (by decide), kp_c (by decide) (by decide), kp_c (by decide) (by decide), kp_c (by decide) (by decide), kp_c (by decide) (by decide)]
theorem kAll_327 {s : sT} {p j : Nat} (hj : j < 384) : (kAll s p).1 360 (p + 7398 + j) = s.1 327 j := by
  unfold kAll
  rw [kp_i, if_neg (by omega), kp_i, if_neg (by omega), kp_i, if_neg (by omega), kp_i, if_pos (by omega), show p + 7398 + j - (p + 7398) = j by omega, kp_c (by decide) (by decide), kp_c (by decide) (by decide), kp_c (by decide) (by decide), kp_c (by decide) (by decide), kp_c (by decide) (by decide), kp_c (by decide) (by decide), kp_c (by decide) (by decide)]
theorem kAll_328 {s : sT} {p j : Nat} (hj : j < 72) : (kAll s p).1 360 (p + 7782 + j) = s.1 328 j := by
  unfold kAll
  rw [kp_i, if_neg (by omega), kp_i, if_neg (by omega), kp_i, if_pos (by omega), show p + 7782 + j - (p + 7782) = j by omega, kp_c (by decide) (by decide), kp_c (by decide) (by decide), kp_c (by decide) (by decide), kp_c (by decide) (by decide), kp_c (by decide) (by decide), kp_c (by decide) (by decide), kp_c (by decide) (by decide), kp_c (by decide) (by decide)]
theorem kAll_329 {s : sT} {p j : Nat} (hj : j < 72) : (kAll s p).1 360 (p + 7854 + j) = s.1 329 j := by
  unfold kAll
  rw [kp_i, if_neg (by omega), kp_i, if_pos (by omega), show p + 7854 + j - (p + 7854) = j by omega, kp_c (by decide) (by decide), kp_c (by decide) (by decide), kp_c (by decide) (by decide), kp_c (by decide) (by decide), kp_c (by decide) (by decide), kp_c (by decide) (by decide), kp_c (by decide) (by decide), kp_c (by decide) (by decide), kp_c (by decide) (by decide)]
theorem kAll_330 {s : sT} {p j : Nat} (hj : j < 72) : (kAll s p).1 360 (p + 7926 + j) = s.1 330 j := by
  unfold kAll
  rw [kp_i, if_pos (by omega), show p + 7926 + j - (p + 7926) = j by omega, kp_c (by decide) (by decide), kp_c (by decide) (by decide), kp_c (by decide) (by decide), kp_c (by decide) (by decide), kp_c (by decide) (by decide), kp_c (by decide) (by decide), kp_c (by decide) (by decide), kp_c (by decide) (by decide), kp_c (by decide) (by decide), kp_c (by decide) (by decide)]
theorem kAll_o {s : sT} {p j : Nat} (hj : j < p ∨ p + 7998 ≤ j) : (kAll s p).1 360 j = s.1 360 j := by
  unfold kAll
  rw [kp_i, if_neg (by omega), kp_i, if_neg (by omega), kp_i, if_neg (by omega), kp_i, if_neg (by omega), kp_i, if_neg (by omega), kp_i, if_neg (by omega), kp_i, if_neg (by omega), kp_i, if_neg (by omega), kp_i, if_neg (by omega), kp_i, if_neg (by omega), kp_i, if_neg (by omega)]
theorem kAll_isM {s : sT} {m k : Nat} {A : shT} (ok : okA A) (hk : k < 6) (hM : isM (gN s) k A) : isM (gI (kAll s (8100 * m)) m) k A := by
  obtain ⟨m1, m2, m3, m4, m5, m6⟩ := hM
  have o4 := ok.2.2.2.1
  have o5 := ok.2.2.2.2.1
  refine ⟨fun j hj => ?_, fun q hq => ?_, fun q hq => ?_, fun q hq => ?_, fun i hi => ⟨?_, ?_, fun y hy => ?_⟩, fun b hb => ⟨?_, ?_, ?_⟩⟩
  · have := kAll_320 (s := s) (p := 8100 * m) (j := 16 * k + j) (by omega)
    exact this.trans (m1 j hj)
  · have := kAll_322 (s := s) (p := 8100 * m) (j := 400 * k + q) (by omega)
    exact this.trans (m2 q hq)
  · have := kAll_323 (s := s) (p := 8100 * m) (j := 400 * k + q) (by omega)
    exact this.trans (m3 q hq)
  · have := kAll_324 (s := s) (p := 8100 * m) (j := 400 * k + q) (by omega)
    intro b hb
    show bt ((kAll s (8100 * m)).1 360 (8100 * m + 4902 + (400 * k + q))) b = _
    rw [this]
    exact m4 q hq b hb
  · have := kAll_325 (s := s) (p := 8100 * m) (j := 8 * k + i) (by omega)
    exact this.trans (m5 i hi).1
  · have := kAll_326 (s := s) (p := 8100 * m) (j := 8 * k + i) (by omega)
    exact this.trans (m5 i hi).2.1
  · have hh := (ok.2.2.2.2.2.2.2.2.2.2.2.2.2 i hi).2.1
    have := kAll_327 (s := s) (p := 8100 * m) (j := 8 * (8 * k + i) + y) (by omega)
    exact this.trans ((m5 i hi).2.2 y hy)
  · have := kAll_328 (s := s) (p := 8100 * m) (j := 12 * k + b) (by omega)
    exact this.trans (m6 b hb).1
  · have := kAll_329 (s := s) (p := 8100 * m) (j := 12 * k + b) (by omega)
    exact this.trans (m6 b hb).2.1
  · have := kAll_330 (s := s) (p := 8100 * m) (j := 12 * k + b) (by omega)
    exact this.trans (m6 b hb).2.2
theorem M_image_run (X : qz_X) {s : sT} {m : Nat} (hm : m < 3) (h61 : s.1 318 61 = nI m) : rn 289 0 [some (.ref 318)] [] (mk X s) = some (some (.int (nI m)), mk X (su (kAll (su (su s 318 62 (nI (8100 * m))) 361 m (s.1 318 1)) (8100 * m)) 318 61 (nI (m + 1)))) := by
  have h62 : (su (su s 318 62 (nI (8100 * m))) 361 m (s.1 318 1)).1 318 62 = nI (8100 * m + 0) := by
    rw [su_1, if_neg (by omega), su_1, if_pos ⟨rfl, rfl⟩]
    rfl
  have g61 : (su s 318 62 (nI (8100 * m))).1 318 61 = nI m := by rw [su_1, if_neg (by decide)]; exact h61
  have g1 : (su s 318 62 (nI (8100 * m))).1 318 1 = s.1 318 1 := by rw [su_1, if_neg (by decide)]
  have e61 : (kAll (su (su s 318 62 (nI (8100 * m))) 361 m (s.1 318 1)) (8100 * m)).1 318 61 = nI m := by
    rw [kAll_m (by decide), su_1, if_neg (by omega)]
    exact g61
  rw [e_M_image_0, g_M_images, h61, if_neg (fun z => by rw [nI_eq (by omega) (by decide)] at z; omega), g_M_images, h61, pk_mul, p_M_place, g_M_imageOrder, g_M_images, g61, g_M_orderDigits, g1, w_M_imageOrder hm, g_M_about, ck_M, keeps_run X (o := 320) (n := 96) (len := 112) rfl (by decide) (by decide) (by decide) (by decide) (by omega) h62, r0_s, g_M_isTold, ck_M, keeps_run X (o := 321) (n := 6) (len := 6) rfl (by decide) (by decide) (by decide) (by decide) (by omega) kp_p, r0_s, g_M_through, ck_M, keeps_run X (o := 322) (n := 2400) (len := 2800) rfl (by decide) (by decide) (by decide) (by decide) (by omega) kp_p, r0_s, g_M_worth, ck_M, keeps_run X (o := 323) (n := 2400) (len := 2800) rfl (by decide) (by decide) (by decide) (by decide) (by omega) kp_p, r0_s, g_M_bridgeAt, ck_M, keeps_run X (o := 324) (n := 2400) (len := 2800) rfl (by decide) (by decide) (by decide) (by decide) (by omega) kp_p, r0_s, g_M_shapeWide, ck_M, keeps_run X (o := 325) (n := 48) (len := 56) rfl (by decide) (by decide) (by decide) (by decide) (by omega) kp_p, r0_s, g_M_shapeHigh, ck_M, keeps_run X (o := 326) (n := 48) (len := 56) rfl (by decide) (by decide) (by decide) (by decide) (by omega) kp_p, r0_s, g_M_shapeRow, ck_M, keeps_run X (o := 327) (n := 384) (len := 448) rfl (by decide) (by decide) (by decide) (by decide) (by omega) kp_p, r0_s, g_M_bridgeKind, ck_M, keeps_run X (o := 328) (n := 72) (len := 84) rfl (by decide) (by decide) (by decide) (by decide) (by omega) kp_p, r0_s, g_M_bridgeHidden, ck_M, keeps_run X (o := 329) (n := 72) (len := 84) rfl (by decide) (by decide) (by decide) (by decide) (by omega) kp_p, r0_s, g_M_bridgeLasts, ck_M, keeps_run X (o := 330) (n := 72) (len := 84) rfl (by decide) (by decide) (by decide) (by decide) (by omega) kp_p, r0_s, g_M_images]
  show qz_pf (mk X (kAll (su (su s 318 62 (nI (8100 * m))) 361 m (s.1 318 1)) (8100 * m))) 318 12 61 (.int ((kAll (su (su s 318 62 (nI (8100 * m))) 361 m (s.1 318 1)) (8100 * m)).1 318 61 + nI 1)) _ = _
  rw [e61, nI_add, p_M_images, g_M_images, su_1, if_pos ⟨rfl, rfl⟩, pk_sub (by omega), Nat.add_sub_cancel]
theorem pm_run (X : qz_X) {m : Nat} (hm : m < 3) (u : sT) : (∀ f : Option qz_R, qz_ck (mk X u).1 (126 + 64 * m) 6 f = f) ∧ (∀ (f : Nat → Option qz_R) (k : Nat), k < 6 → qz_ga (mk X u).1 (126 + 64 * m) 6 0 (fun q1 => qz_aa (mk X u).1 q1 (nI k) f) = f (130 + 64 * m + 10 * k)) ∧ (∀ f : Nat → Option qz_R, qz_ga (mk X u).1 (126 + 64 * m) 6 1 f = f (128 + 64 * m)) ∧ (∀ (f : qz_W → Option qz_R) (x : Int32) (k : Nat), k < 6 → qz_is (mk X u) (128 + 64 * m) (nI k) x f = f (mk X (su u (128 + 64 * m) k x))) ∧ ∀ (f : Int32 → Option qz_R) (k : Nat), k < 6 → qz_ia (mk X u).1 (128 + 64 * m) (nI k) f = f (u.1 (128 + 64 * m) k) := by
  have hS : ms_S (126 + 64 * m) = (3, 6) ∧ ms_S (127 + 64 * m) = (4, 6) ∧ ms_S (128 + 64 * m) = (0, 6) := (by decide : ∀ m, m < 3 → ms_S (126 + 64 * m) = (3, 6) ∧ ms_S (127 + 64 * m) = (4, 6) ∧ ms_S (128 + 64 * m) = (0, 6)) m hm
  have hr : rf u.2.2 (126 + 64 * m) 0 = 127 + 64 * m ∧ rf u.2.2 (126 + 64 * m) 1 = 128 + 64 * m ∧ ∀ k, k < 6 → rf u.2.2 (127 + 64 * m) k = 130 + 64 * m + 10 * k := by
    have z : ∀ m, m < 3 → qz_gd 0 (qz_gd [] (qz_gd [] rf_tab ((126 + 64 * m) / 16)) ((126 + 64 * m) % 16)) 0 = 127 + 64 * m ∧ qz_gd 0 (qz_gd [] (qz_gd [] rf_tab ((126 + 64 * m) / 16)) ((126 + 64 * m) % 16)) 1 = 128 + 64 * m ∧ ∀ k, k < 6 → qz_gd 0 (qz_gd [] (qz_gd [] rf_tab ((127 + 64 * m) / 16)) ((127 + 64 * m) % 16)) k = 130 + 64 * m + 10 * k := by decide +kernel
    obtain ⟨z1, z2, z3⟩ := z m hm
    unfold rf
    refine ⟨?_, ?_, fun k hk => ?_⟩
    · rw [if_neg (by omega), if_neg (by omega)]; exact z1
    · rw [if_neg (by omega), if_neg (by omega)]; exact z2
    · rw [if_neg (by omega), if_neg (by omega)]; exact z3 k hk
  refine ⟨fun f => mk_ck hS.1 (by omega), fun f k hk => ?_, fun f => ?_, fun f x k hk => mk_is hS.2.2 (by omega) (by decide) hk, fun f k hk => mk_ia hS.2.2 (by omega) (by decide) hk⟩
  · refine (mk_ga (y := rf u.2.2 (126 + 64 * m) 0) hS.1 (by omega) rfl).trans ?_
    rw [hr.1, mk_aa hS.2.1 (by omega) (by decide) hk, hr.2.2 k hk]
  · refine (mk_ga (y := rf u.2.2 (126 + 64 * m) 1) hS.1 (by omega) rfl).trans ?_
    rw [hr.2.1]
theorem im_run (X : qz_X) {m : Nat} (hm : m < 3) (u : sT) (f : Nat → Option qz_R) : qz_aa (mk X u).1 67 (nI m) f = f (126 + 64 * m) := by
  rw [i_C_images hm]
  have : ∀ m, m < 3 → qz_gd 0 (qz_gd [] (qz_gd [] rf_tab (67 / 16)) (67 % 16)) m = 126 + 64 * m := by decide +kernel
  congr 1
  unfold rf
  rw [if_neg (by decide), if_neg (by omega)]
  exact this m hm
theorem imS : ∀ m, m < 3 → ∀ k, k < 6 → 130 + 64 * m + 10 * k ∈ sh_l := by decide
theorem sim_image (X : qz_X) (s : sT) (G : gsT) (h : Rel s G) : Sim X s 287 289 [some (.ref 0)] [some (.ref 318)] := by
  obtain ⟨h1, h2, h3, h4, ⟨n1, n2, n3, n4⟩, i1, i2, i3, i4⟩ := id h
  by_cases hm : G.2.2.1 < 3
  · obtain ⟨m, hme⟩ : ∃ m, m = G.2.2.1 := ⟨_, rfl⟩
    rw [← hme] at hm i1 i2 i3 i4
    have hpl := fun k (hk : k < 6) => isS_pl _ (h1.1 k (by omega))
    obtain ⟨st, e, s2, sc, so, ss⟩ := pile_run X (s := s) (P := 126 + 64 * m) (Q := 3) (cd := 128 + 64 * m) (ce := 5) (D := fun k => 130 + 64 * m + 10 * k) (E := fun k => s.2.2 k) (T := G.2.1.1) (fun u f k _ hk => (pm_run X hm u).2.1 f k hk) (fun u f k hu hk => by rw [g_N_sheets, i_N_sheets hk, hu]) (fun u f => (pm_run X hm u).2.2.1 f) (fun u f => by rw [g_N_places]) (fun u f x k hk => (pm_run X hm u).2.2.2.1 f x k hk) (fun u f k hk => by rw [i_N_places hk]) (fun k hk => imS m hm k hk) (fun k hk => (hpl k hk).1) (fun k l hk hl => by have := hpl l hl; omega) (fun k l hk hl hkl => by omega) (by omega) (fun k hk => by have := hpl k hk; omega) (fun k hk => (n2 k hk).1)
    have eC : rn 287 0 [some (.ref 0)] [] (mk X s) = some (some (.int (nI m)), mk X (su st 0 6 (nI (m + 1)))) := by
      have e06 : st.1 0 6 = nI m := by rw [sc 0 (by omega) (fun k hk => by omega)]; exact i2
      rw [e_C_image_0, g_C_imageCount, i2, if_pos (nI_lt hm (by decide)), g_C_images, g_C_imageCount, i2, im_run X hm, g_C_now, (pm_run X hm s).1, e, r0_s, g_C_imageCount, e06, nI_add, p_C_imageCount, g_C_imageCount, su_1, if_pos ⟨rfl, rfl⟩, pk_sub (by omega), Nat.add_sub_cancel]
    have h61 : (su st 0 6 (nI (m + 1))).1 318 61 = nI m := by rw [su_1, if_neg (by omega), sc 318 (by omega) (fun k hk => by omega)]; exact i3
    have eM := M_image_run X hm h61
    generalize hu : su st 0 6 (nI (m + 1)) = u at eC eM h61
    generalize hv : su (su u 318 62 (nI (8100 * m))) 361 m (u.1 318 1) = v at eM
    have hu1 : ∀ c, c ≠ 0 → c ≠ 128 + 64 * m → (∀ k, k < 6 → ¬ (130 + 64 * m + 10 * k ≤ c ∧ c < 130 + 64 * m + 10 * k + 10)) → u.1 c = s.1 c := by
      intro c c1 c2 c3
      rw [← hu, ← sc c c2 c3]
      funext l
      rw [su_1, if_neg (fun z => c1 z.1)]
    have hv1 : ∀ c, c ≠ 318 → c ≠ 361 → v.1 c = u.1 c := by
      intro c c1 c2
      rw [← hv]
      funext l
      rw [su_1, if_neg (fun z => c2 z.1), su_1, if_neg (fun z => c1 z.1)]
    have hv3 : ∀ j, j ≠ 62 → v.1 318 j = u.1 318 j := by
      intro j hj
      rw [← hv, su_1, if_neg (by omega), su_1, if_neg (fun z => hj z.2)]
    have hf1 : ∀ c, c ≠ 318 → c ≠ 360 → (su (kAll v (8100 * m)) 318 61 (nI (m + 1))).1 c = v.1 c := by
      intro c c1 c2
      rw [← kAll_c (s := v) (p := 8100 * m) c2 c1]
      funext l
      rw [su_1, if_neg (fun z => c1 z.1)]
    have hf3 : ∀ j, j ≠ 61 → j ≠ 62 → (su (kAll v (8100 * m)) 318 61 (nI (m + 1))).1 318 j = s.1 318 j := by
      intro j j1 j2
      rw [su_1, if_neg (fun z => j1 z.2), kAll_m j2, hv3 j j2, hu1 318 (by omega) (by omega) (fun k hk => by omega)]
    have hf : ∀ c, c ≠ 318 → c ≠ 360 → c ≠ 361 → c ≠ 0 → c ≠ 128 + 64 * m → (∀ k, k < 6 → ¬ (130 + 64 * m + 10 * k ≤ c ∧ c < 130 + 64 * m + 10 * k + 10)) → (su (kAll v (8100 * m)) 318 61 (nI (m + 1))).1 c = s.1 c := fun c c1 c2 c3 c4 c5 c6 => by rw [hf1 c c1 c2, hv1 c c1 c3, hu1 c c4 c5 c6]
    have hf0 : ∀ j, j ≠ 6 → (su (kAll v (8100 * m)) 318 61 (nI (m + 1))).1 0 j = s.1 0 j := by
      intro j hj
      rw [hf1 0 (by decide) (by decide), hv1 0 (by decide) (by decide), ← hu, su_1, if_neg (fun z => hj z.2), sc 0 (by omega) (fun k hk => by omega)]
    have hf360 : (su (kAll v (8100 * m)) 318 61 (nI (m + 1))).1 360 = (kAll v (8100 * m)).1 360 := by
      funext l
      rw [su_1, if_neg (by omega)]
    have hv360 : v.1 360 = s.1 360 := by rw [hv1 360 (by decide) (by decide), hu1 360 (by omega) (by omega) (fun k hk => by omega)]
    have h22 : (su (kAll v (8100 * m)) 318 61 (nI (m + 1))).2 = s.2 := by
      show v.2 = s.2
      rw [← hv, su_2, su_2, ← hu, su_2, s2]
    have himc : ∀ c, 126 ≤ c → c ≤ 317 → (su (kAll v (8100 * m)) 318 61 (nI (m + 1))).1 c = st.1 c := by
      intro c c1 c2
      rw [hf1 c (by omega) (by omega), hv1 c (by omega) (by omega), ← hu]
      funext l
      rw [su_1, if_neg (by omega)]
    refine ⟨_, _, _, (G.1, G.2.1, (m + 1, fun l => if l = m then G.2.1 else G.2.2.2 l)), eC, eM, rPl_c (by rw [h22]) h1, rTp_c (hf0 1 (by decide)) (hf3 14 (by decide) (by decide)) (hf 1 (by omega) (by omega) (by omega) (by omega) (by omega) (fun k hk => by omega)) (hf 332 (by omega) (by omega) (by omega) (by omega) (by omega) (fun k hk => by omega)) h2, ?_, ?_, rNo_c h1 (by rw [h22]) (fun i p q => hf i (by omega) (by omega) (by omega) (by omega) (by omega) (fun k hk => by omega)) (hf 5 (by omega) (by omega) (by omega) (by omega) (by omega) (fun k hk => by omega)) (fun i p q => hf i (by omega) (by omega) (by omega) (by omega) (by omega) (fun k hk => by omega)) (hf3 1 (by decide) (by decide)) ⟨n1, n2, n3, n4⟩, by show m + 1 ≤ 3; omega, ?_, ?_, fun l hl => ?_⟩
    · unfold rFa
      rw [hf0 2 (by decide), hf3 17 (by decide) (by decide)]
      exact h3
    · unfold rRe
      rw [hf 2 (by omega) (by omega) (by omega) (by omega) (by omega) (fun k hk => by omega), hf 319 (by omega) (by omega) (by omega) (by omega) (by omega) (fun k hk => by omega)]
      exact h4
    · rw [hf1 0 (by decide) (by decide), hv1 0 (by decide) (by decide), ← hu, su_1, if_pos ⟨rfl, rfl⟩]
    · rw [su_1, if_pos ⟨rfl, rfl⟩]
    · have hl3 : l < m + 1 := hl
      have h361 : (su (kAll v (8100 * m)) 318 61 (nI (m + 1))).1 361 l = if l = m then u.1 318 1 else s.1 361 l := by
        rw [hf1 361 (by decide) (by decide), ← hv, su_1]
        by_cases e : l = m
        · rw [if_pos ⟨rfl, e⟩, if_pos e]
        · rw [if_neg (fun z => e z.2), if_neg e, su_1, if_neg (by omega), hu1 361 (by omega) (by omega) (fun k hk => by omega)]
      show okP (if l = m then G.2.1 else G.2.2.2 l) ∧ (∀ k, k < 6 → _ = (if (if l = m then G.2.1 else G.2.2.2 l).1 k then nI 1 else nI 0) ∧ _ = (if (if l = m then G.2.1 else G.2.2.2 l).1 k then nI 1 else nI 0) ∧ ((if l = m then G.2.1 else G.2.2.2 l).1 k = true → isC _ _ ((if l = m then G.2.1 else G.2.2.2 l).2.1 k) ∧ isM _ k ((if l = m then G.2.1 else G.2.2.2 l).2.1 k))) ∧ (∀ k, k < 6 → _ = nI ((if l = m then G.2.1 else G.2.2.2 l).2.2 k)) ∧ _ = nI (dig (if l = m then G.2.1 else G.2.2.2 l).2.2)
      by_cases e : l = m
      · rw [h361, if_pos e, if_pos e, e]
        refine ⟨n1, fun k hk => ⟨?_, ?_, fun ht => ⟨?_, ?_⟩⟩, fun k hk => ?_, ?_⟩
        · rw [himc _ (by omega) (by omega)]
          exact (ss k hk).1
        · rw [hf360, kAll_321 hk, hv1 321 (by decide) (by decide), hu1 321 (by omega) (by omega) (fun k hk => by omega)]
          exact (n2 k hk).2.1
        · refine isC_cong (fun i hi => himc _ (by omega) (by omega)) ((ss k hk).2 _ (n1.2 k hk ht) ((n2 k hk).2.2 ht).1)
        · have hMv : isM (gN v) k (G.2.1.2.1 k) := isM_of (fun c p q => by rw [hv1 c (by omega) (by omega), hu1 c (by omega) (by omega) (fun k hk => by omega)]) ((n2 k hk).2.2 ht).2
          refine isM_cong (fun i _ => ?_) (kAll_isM (m := m) (n1.2 k hk ht) hk hMv)
          unfold gI
          rw [hf360]
        · rw [himc _ (by omega) (by omega), so k hk]
          exact n3 k hk
        · rw [hu1 318 (by omega) (by omega) (fun k hk => by omega)]
          exact n4
      · rw [h361, if_neg e, if_neg e]
        obtain ⟨q1, q2, q3, q4⟩ := i4 l (by omega)
        have hold : ∀ c, 126 ≤ c → c ≤ 317 → c ≠ 128 + 64 * m → (∀ k, k < 6 → ¬ (130 + 64 * m + 10 * k ≤ c ∧ c < 130 + 64 * m + 10 * k + 10)) → (su (kAll v (8100 * m)) 318 61 (nI (m + 1))).1 c = s.1 c := fun c c1 c2 c3 c4 => hf c (by omega) (by omega) (by omega) (by omega) c3 c4
        have hi360 : ∀ j, j < 8100 → (su (kAll v (8100 * m)) 318 61 (nI (m + 1))).1 360 (8100 * l + j) = s.1 360 (8100 * l + j) := by
          intro j hj
          rw [hf360, kAll_o (by omega), hv360]
        refine ⟨q1, fun k hk => ⟨?_, ?_, fun ht => ⟨?_, ?_⟩⟩, fun k hk => ?_, q4⟩
        · rw [hold _ (by omega) (by omega) (by omega) (fun k hk => by omega)]
          exact (q2 k hk).1
        · have h96 := hi360 (96 + k) (by omega)
          rw [← Nat.add_assoc] at h96
          rw [h96]
          exact (q2 k hk).2.1
        · exact isC_cong (fun i hi => hold _ (by omega) (by omega) (by omega) (fun k hk => by omega)) ((q2 k hk).2.2 ht).1
        · have hM := ((q2 k hk).2.2 ht).2
          have okl := q1.2 k hk ht
          have o4 := okl.2.2.2.1
          have o5 := okl.2.2.2.2.1
          obtain ⟨m1, m2, m3, m4, m5, m6⟩ := hM
          have hgi : ∀ off j, off + j < 8100 → (su (kAll v (8100 * m)) 318 61 (nI (m + 1))).1 360 (8100 * l + off + j) = s.1 360 (8100 * l + off + j) := fun off j hj => by rw [show 8100 * l + off + j = 8100 * l + (off + j) by omega, hi360 _ hj]
          refine ⟨fun j hj => (hgi 0 (16 * k + j) (by omega)).trans (m1 j hj), fun q hq => (hgi 102 (400 * k + q) (by omega)).trans (m2 q hq), fun q hq => (hgi 2502 (400 * k + q) (by omega)).trans (m3 q hq), fun q hq b hb => ?_, fun i hi => ⟨(hgi 7302 (8 * k + i) (by omega)).trans (m5 i hi).1, (hgi 7350 (8 * k + i) (by omega)).trans (m5 i hi).2.1, fun y hy => ?_⟩, fun b hb => ⟨(hgi 7782 (12 * k + b) (by omega)).trans (m6 b hb).1, (hgi 7854 (12 * k + b) (by omega)).trans (m6 b hb).2.1, (hgi 7926 (12 * k + b) (by omega)).trans (m6 b hb).2.2⟩⟩
          · show bt ((su (kAll v (8100 * m)) 318 61 (nI (m + 1))).1 360 (8100 * l + 4902 + (400 * k + q))) b = _
            rw [hgi 4902 (400 * k + q) (by omega)]
            exact m4 q hq b hb
          · have hh := (okl.2.2.2.2.2.2.2.2.2.2.2.2.2 i hi).2.1
            exact (hgi 7398 (8 * (8 * k + i) + y) (by omega)).trans ((m5 i hi).2.2 y hy)
        · rw [hold _ (by omega) (by omega) (by omega) (fun k hk => by omega)]
          exact q3 k hk
  · have h3m : G.2.2.1 = 3 := by omega
    rw [h3m] at i2 i3
    refine ⟨-1, su s 2 1 (s.1 2 1 + nI 1), su (su s 2 1 (s.1 2 1 + nI 1)) 319 1 (s.1 319 1 + nI 1), G, ?_, ?_, h.refuse (by decide)⟩
    · rw [e_C_image_0, g_C_imageCount, i2, if_neg (by decide), C_refuse X s (j := 1) (by decide)]
    · have e1 : (su s 2 1 (s.1 2 1 + nI 1)).1 318 61 = nI 3 := by rw [su_1, if_neg (by omega)]; exact i3
      have e2 : (su s 2 1 (s.1 2 1 + nI 1)).1 319 1 = s.1 319 1 := by rw [su_1, if_neg (by omega)]
      rw [e_M_image_0, g_M_images, e1, if_pos rfl, ck_M, M_refuse X _ (j := 1) (by decide), r1_s, e2]

/-! corner -/
def cx (A : shT) (c : Nat) : Nat := if c = 1 ∨ c = 2 then A.1 0 - 1 else 0
def cy (A : shT) (c : Nat) : Nat := if c < 2 then 0 else A.1 1 - 1
noncomputable def cst (A : shT) (c : Nat) (b : Int32 × Nat) : Int32 × Nat := if tin A (nI (A.1 5)) (20 * cy A c + cx A c) then (if b.1 = -1 then (nI c, gmx (sgq A (20 * cy A c + cx A c)) 400) else if b.2 ≤ gmx (sgq A (20 * cy A c + cx A c)) 400 then b else (nI c, gmx (sgq A (20 * cy A c + cx A c)) 400)) else b
noncomputable def cfd (A : shT) : Nat → Int32 × Nat
  | 0 => (-1, 0)
  | n + 1 => cst A n (cfd A n)
theorem cfd_le (A : shT) : ∀ n, (cfd A n).2 ≤ 400
  | 0 => Nat.zero_le _
  | n + 1 => by
    have h := cfd_le A n
    have g := gmx_le (sgq_le A (20 * cy A n + cx A n)) 400
    show (cst A n (cfd A n)).2 ≤ 400
    unfold cst
    split
    · split
      · exact g
      · split
        · exact h
        · exact g
    · exact h
theorem C_corner_step (X : qz_X) {s : sT} {G : gsT} (h : Rel s G) {k : Nat} (hk : tk G (nI k) k) {c : Nat} (hc : c < 4) {b : Int32 × Nat} (hb : b.2 ≤ 400) : ∃ u : sT, fr s u ∧ rn 223 20 [some (.ref 0), none, some (.ref (s.2.2 k)), some (.int b.1), some (.int (nI b.2)), some (.int (nI c)), none, none, none] [] (mk X s) = rn 223 20 [some (.ref 0), none, some (.ref (s.2.2 k)), some (.int (cst (G.2.1.2.1 k) c b).1), some (.int (nI (cst (G.2.1.2.1 k) c b).2)), some (.int (nI (c + 1))), none, none, none] [] (mk X u) := by
  obtain ⟨hS, ok, hC, hM⟩ := tk_P h hk
  have o1 := ok.1
  have o2 := ok.2.1
  have hcx : cx (G.2.1.2.1 k) c < (G.2.1.2.1 k).1 0 := by unfold cx; split <;> omega
  have hcy : cy (G.2.1.2.1 k) c < (G.2.1.2.1 k).1 1 := by unfold cy; split <;> omega
  have tail : ∃ u : sT, fr s u ∧ qz_ck (mk X s).1 (s.2.2 k) 8 (qz_r1 (rn 216 0 [some (.ref (s.2.2 k)), some (.int (nI (cx (G.2.1.2.1 k) c))), some (.int (nI (cy (G.2.1.2.1 k) c)))] [] (mk X s)) (fun x2 w1 => (if x2 = 0 then rn 223 20 [some (.ref 0), none, some (.ref (s.2.2 k)), some (.int b.1), some (.int (nI b.2)), some (.int (nI c + nI 1)), none, none, none] [] w1 else qz_ck w1.1 0 11 (qz_r1 (rn 218 0 [some (.ref 0), some (.ref (s.2.2 k)), some (.int (nI (cx (G.2.1.2.1 k) c))), some (.int (nI (cy (G.2.1.2.1 k) c)))] [] w1) (fun x4 w3 => (if b.1 = (-1) then rn 223 20 [some (.ref 0), none, some (.ref (s.2.2 k)), some (.int (nI c)), some (.int x4), some (.int (nI c + nI 1)), none, none, none] [] w3 else (if nI b.2 ≤ x4 then rn 223 20 [some (.ref 0), none, some (.ref (s.2.2 k)), some (.int b.1), some (.int (nI b.2)), some (.int (nI c + nI 1)), none, none, none] [] w3 else rn 223 20 [some (.ref 0), none, some (.ref (s.2.2 k)), some (.int (nI c)), some (.int x4), some (.int (nI c + nI 1)), none, none, none] [] w3)))))) ) = rn 223 20 [some (.ref 0), none, some (.ref (s.2.2 k)), some (.int (cst (G.2.1.2.1 k) c b).1), some (.int (nI (cst (G.2.1.2.1 k) c b).2)), some (.int (nI (c + 1))), none, none, none] [] (mk X u) := by
    have g := gmx_le (sgq_le (G.2.1.2.1 k) (20 * cy (G.2.1.2.1 k) c + cx (G.2.1.2.1 k) c)) 400
    rw [ck_S hS, C_isTin_run X hS ok hC hcx hcy, r1_s, told_int, nI_add]
    unfold cst
    cases ht : tin (G.2.1.2.1 k) (nI ((G.2.1.2.1 k).1 5)) (20 * cy (G.2.1.2.1 k) c + cx (G.2.1.2.1 k) c)
    · exact ⟨s, fr.rf s, by rw [if_neg (by decide), if_neg (by decide)]⟩
    · obtain ⟨t1, a1, a2, a3⟩ := C_sag0_run X hS ok hC hcx hcy
      have f1 : fr s t1 := fr_of [86, 87, 88, 89, 90, 91, 92, 93, 94, 95, 124] (by rw [a2]) a3 (by decide)
      refine ⟨t1, f1, ?_⟩
      rw [if_pos rfl, if_pos rfl, ck_C, a1, r1_s]
      by_cases h1 : b.1 = -1
      · rw [if_pos h1, if_pos h1]
      · rw [if_neg h1, if_neg h1]
        by_cases h2 : b.2 ≤ gmx (sgq (G.2.1.2.1 k) (20 * cy (G.2.1.2.1 k) c + cx (G.2.1.2.1 k) c)) 400
        · rw [if_pos (nI_le h2 (by omega)), if_pos h2]
        · rw [if_neg (nI_ge (by omega) (by omega)), if_neg h2]
  obtain ⟨u, fu, eu⟩ := tail
  refine ⟨u, fu, ?_⟩
  rw [← eu]
  have hc4 : c = 0 ∨ c = 1 ∨ c = 2 ∨ c = 3 := by omega
  rcases hc4 with rfl | rfl | rfl | rfl
  · rw [e_C_corner_20, if_neg (by decide), if_neg (by decide), if_neg (by decide), if_pos (by decide)]
    rfl
  · rw [e_C_corner_20, if_neg (by decide), if_pos rfl, e_C_corner_38, g_S_wide hS, hC.1.1, if_pos (by decide), pk_sub (by omega)]
    rfl
  · rw [e_C_corner_20, if_neg (by decide), if_neg (by decide), if_pos rfl, e_C_corner_38, g_S_wide hS, hC.1.1, if_neg (by decide), g_S_high hS, hC.1.2.1, pk_sub (by omega), pk_sub (by omega)]
    rfl
  · rw [e_C_corner_20, if_neg (by decide), if_neg (by decide), if_neg (by decide), if_neg (by decide), g_S_high hS, hC.1.2.1, pk_sub (by omega)]
    rfl
theorem M_corner_step (X : qz_X) {s : sT} {G : gsT} (h : Rel s G) {k : Nat} (hk : tk G (nI k) k) {c : Nat} (hc : c < 4) {b : Int32 × Nat} (hb : b.2 ≤ 400) : ∃ u : sT, fr s u ∧ rn 224 17 [some (.ref 318), some (.int (nI k)), some (.int b.1), some (.int (nI b.2)), some (.int (nI c)), none, none, none] [] (mk X s) = rn 224 17 [some (.ref 318), some (.int (nI k)), some (.int (cst (G.2.1.2.1 k) c b).1), some (.int (nI (cst (G.2.1.2.1 k) c b).2)), some (.int (nI (c + 1))), none, none, none] [] (mk X u) := by
  obtain ⟨hS, ok, hC, hM⟩ := tk_P h hk
  have o1 := ok.1
  have o2 := ok.2.1
  have hk7 : k < 7 := by have := hk.1; omega
  have hcx : cx (G.2.1.2.1 k) c < (G.2.1.2.1 k).1 0 := by unfold cx; split <;> omega
  have hcy : cy (G.2.1.2.1 k) c < (G.2.1.2.1 k).1 1 := by unfold cy; split <;> omega
  have tail : ∃ u : sT, fr s u ∧ qz_ck (mk X s).1 318 12 (qz_r1 (rn 222 0 [some (.ref 318), some (.int (nI k)), some (.int (nI (cx (G.2.1.2.1 k) c))), some (.int (nI (cy (G.2.1.2.1 k) c))), some (.int (nI 0)), some (.int (nI 0))] [] (mk X s)) (fun x2 w1 => (if x2 = (-1) then rn 224 17 [some (.ref 318), some (.int (nI k)), some (.int b.1), some (.int (nI b.2)), some (.int (nI c + nI 1)), none, none, none] [] w1 else (if b.1 = (-1) then rn 224 17 [some (.ref 318), some (.int (nI k)), some (.int (nI c)), some (.int x2), some (.int (nI c + nI 1)), none, none, none] [] w1 else (if x2 < nI b.2 then rn 224 17 [some (.ref 318), some (.int (nI k)), some (.int (nI c)), some (.int x2), some (.int (nI c + nI 1)), none, none, none] [] w1 else rn 224 17 [some (.ref 318), some (.int (nI k)), some (.int b.1), some (.int (nI b.2)), some (.int (nI c + nI 1)), none, none, none] [] w1))))) = rn 224 17 [some (.ref 318), some (.int (nI k)), some (.int (cst (G.2.1.2.1 k) c b).1), some (.int (nI (cst (G.2.1.2.1 k) c b).2)), some (.int (nI (c + 1))), none, none, none] [] (mk X u) := by
    have g := gmx_le (sgq_le (G.2.1.2.1 k) (20 * cy (G.2.1.2.1 k) c + cx (G.2.1.2.1 k) c)) 400
    rw [nI_add]
    unfold cst
    cases ht : tin (G.2.1.2.1 k) (nI ((G.2.1.2.1 k).1 5)) (20 * cy (G.2.1.2.1 k) c + cx (G.2.1.2.1 k) c)
    · obtain ⟨t1, a1, a2⟩ := M_sag_not X h hk hcx hcy ht (nI 0) (nI 0)
      exact ⟨t1, a2, by rw [ck_M, a1, r1_s, if_pos rfl, if_neg (by decide)]⟩
    · obtain ⟨t1, a1, a2⟩ := M_sag_run X h hk hcx hcy ht (nI 0) (j := 0) (by decide)
      refine ⟨t1, a2, ?_⟩
      rw [ck_M, a1, r1_s, if_pos (show (0 : Nat) = 0 from rfl), if_pos (show (true = true) from rfl), if_neg (nI_m1 (by omega))]
      by_cases h1 : b.1 = -1
      · rw [if_pos h1, if_pos h1]
      · rw [if_neg h1, if_neg h1]
        by_cases h2 : b.2 ≤ gmx (sgq (G.2.1.2.1 k) (20 * cy (G.2.1.2.1 k) c + cx (G.2.1.2.1 k) c)) 400
        · rw [if_neg (nI_nlt h2 (by omega)), if_pos h2]
        · rw [if_pos (nI_lt (by omega) (by omega)), if_neg h2]
  obtain ⟨u, fu, eu⟩ := tail
  refine ⟨u, fu, ?_⟩
  rw [← eu]
  have hc4 : c = 0 ∨ c = 1 ∨ c = 2 ∨ c = 3 := by omega
  rcases hc4 with rfl | rfl | rfl | rfl
  · rw [e_M_corner_17, if_neg (by decide), if_neg (by decide), if_neg (by decide), if_pos (by decide)]
    rfl
  · rw [e_M_corner_17, if_neg (by decide), if_pos rfl, e_M_corner_35, ck_M, M_wide_run X hk7 hM, r1_s, if_pos (by decide), pk_sub (by omega)]
    rfl
  · rw [e_M_corner_17, if_neg (by decide), if_neg (by decide), if_pos rfl, e_M_corner_35, ck_M, M_wide_run X hk7 hM, r1_s, if_neg (by decide), ck_M, M_high_run X hk7 hM, r1_s, pk_sub (by omega), pk_sub (by omega)]
    rfl
  · rw [e_M_corner_17, if_neg (by decide), if_neg (by decide), if_neg (by decide), if_neg (by decide), ck_M, M_high_run X hk7 hM, r1_s, pk_sub (by omega)]
    rfl
theorem sim_corner (X : qz_X) (s : sT) (G : gsT) (h : Rel s G) (v : Int32) : Sim X s 223 224 [some (.ref 0), some (.int v), none, none, none, none, none, none, none] [some (.ref 318), some (.int v), none, none, none, none, none, none] := by
  rcases tk_or G v with ⟨k, hk⟩ | hn
  · have hv : v = nI k := hk.2.1
    subst hv
    obtain ⟨⟨u, b⟩, ⟨fu, rfl⟩, eu⟩ := it_up (fun c (x : sT × (Int32 × Nat)) => rn 223 20 [some (.ref 0), none, some (.ref (s.2.2 k)), some (.int x.2.1), some (.int (nI x.2.2)), some (.int (nI c)), none, none, none] [] (mk X x.1)) (fun c x => fr s x.1 ∧ x.2 = cfd (G.2.1.2.1 k) c) (Nat.zero_le 4) (by
      rintro c ⟨u, b⟩ _ hc ⟨fu, hb⟩
      dsimp only at fu hb ⊢
      subst hb
      obtain ⟨u2, f2, e2⟩ := C_corner_step X (h.fr fu) hk hc (cfd_le (G.2.1.2.1 k) c)
      rw [show u.2.2 k = s.2.2 k by rw [fu.1]] at e2
      exact ⟨(u2, cfd (G.2.1.2.1 k) (c + 1)), ⟨fu.tr f2, rfl⟩, e2⟩) (x := (s, (-1, 0))) ⟨fr.rf s, rfl⟩
    dsimp only at fu eu
    obtain ⟨⟨w, b⟩, ⟨fw, rfl⟩, ew⟩ := it_up (fun c (x : sT × (Int32 × Nat)) => rn 224 17 [some (.ref 318), some (.int (nI k)), some (.int x.2.1), some (.int (nI x.2.2)), some (.int (nI c)), none, none, none] [] (mk X x.1)) (fun c x => fr u x.1 ∧ x.2 = cfd (G.2.1.2.1 k) c) (Nat.zero_le 4) (by
      rintro c ⟨w, b⟩ _ hc ⟨fw, hb⟩
      dsimp only at fw hb ⊢
      subst hb
      obtain ⟨u2, f2, e2⟩ := M_corner_step X ((h.fr fu).fr fw) hk hc (cfd_le (G.2.1.2.1 k) c)
      exact ⟨(u2, cfd (G.2.1.2.1 k) (c + 1)), ⟨fw.tr f2, rfl⟩, e2⟩) (x := (u, (-1, 0))) ⟨fr.rf u, rfl⟩
    dsimp only at fw ew
    refine sim_q (r := .int (cfd (G.2.1.2.1 k) 4).1) h (s1 := u) (s2 := w) ?_ fu ?_ fw
    · rw [e_C_corner_0, ck_C, C_told_yes X h hk, r3_r, eu, e_C_corner_20, if_pos (nI_le (by decide) (by decide))]
    · rw [e_M_corner_0, ck_M, M_sheet_yes X (h.fr fu) hk, r1_s, if_neg (by decide), ew, e_M_corner_17, if_pos (nI_le (by decide) (by decide))]
  · refine sim_q (r := .int (-1)) h (s1 := s) (s2 := s) ?_ (fr.rf s) ?_ (fr.rf s)
    · rw [e_C_corner_0, ck_C, C_told_no X h hn, r3_n]
    · rw [e_M_corner_0, ck_M, M_sheet_no X h hn, r1_s, if_pos (by decide)]

/-! put; isBridge -/
theorem br_or (A : shT) (v : Int32) : (∃ b, b < A.1 4 ∧ v = nI b) ∨ ¬ ∃ b, b < A.1 4 ∧ v = nI b := Classical.em _
theorem C_bhas_yes (X : qz_X) {s : sT} {q : Nat} {A : shT} (hq : isS q) (ok : okA A) (hC : isC s q A) {b : Nat} (hb : b < A.1 4) : rn 170 0 [some (.ref (q + 3)), some (.int (nI b))] [] (mk X s) = some (some (.int (nI 1)), mk X s) := by
  have h1 := ok.2.2.2.2.1
  rw [e_Bridges_has_0, if_neg (nI_pos (by omega)), g_B_number hq, hC.1.2.2.2.2.1, if_neg (nI_ge hb (by omega))]
theorem C_bhas_no (X : qz_X) {s : sT} {q : Nat} {A : shT} (hq : isS q) (ok : okA A) (hC : isC s q A) {v : Int32} (hb : ¬ ∃ b, b < A.1 4 ∧ v = nI b) : rn 170 0 [some (.ref (q + 3)), some (.int v)] [] (mk X s) = some (some (.int (nI 0)), mk X s) := by
  have h1 := ok.2.2.2.2.1
  rw [e_Bridges_has_0]
  by_cases h0 : v < 0
  · rw [if_pos h0]
  · obtain ⟨b, hb4, rfl⟩ := nI_of h0
    rw [if_neg h0, g_B_number hq, hC.1.2.2.2.2.1, if_pos (nI_le (by
      rcases Nat.lt_or_ge b (A.1 4) with g | g
      · exact absurd ⟨b, g, rfl⟩ hb
      · exact g) hb4)]
theorem M_isBridge_yes (X : qz_X) {s : sT} {k : Nat} {A : shT} (hk : k < 6) (ok : okA A) (hM : isM (gN s) k A) (ht : s.1 321 k = nI 1) {b : Nat} (hb : b < A.1 4) : rn 173 0 [some (.ref 318), some (.int (nI k)), some (.int (nI b))] [] (mk X s) = some (some (.int (nI 1)), mk X s) := by
  have h1 := ok.2.2.2.2.1
  have ha : s.1 320 (16 * k + 4) = nI (A.1 4) := ab_at hM (by decide)
  rw [e_M_isBridge_0, ck_M, e_M_isSheet_0, isIn_yes _ (by omega) (by decide), r1_s, if_neg (by decide), g_M_isTold, i_M_isTold hk, ht, if_pos rfl, r1_s, if_neg (by decide), g_M_about, pk_mul, nI_add, i_M_about (by omega), ha, pk_sub (by omega), isIn_yes _ (by omega) (by omega), r1_s, if_neg (by decide)]
theorem M_isBridge_no (X : qz_X) {s : sT} {k : Nat} {A : shT} (hk : k < 6) (ok : okA A) (hM : isM (gN s) k A) (ht : s.1 321 k = nI 1) {v : Int32} (hb : ¬ ∃ b, b < A.1 4 ∧ v = nI b) : rn 173 0 [some (.ref 318), some (.int (nI k)), some (.int v)] [] (mk X s) = some (some (.int (nI 0)), mk X s) := by
  have h1 := ok.2.2.2.2.1
  have ha : s.1 320 (16 * k + 4) = nI (A.1 4) := ab_at hM (by decide)
  rw [e_M_isBridge_0, ck_M, e_M_isSheet_0, isIn_yes _ (by omega) (by decide), r1_s, if_neg (by decide), g_M_isTold, i_M_isTold hk, ht, if_pos rfl, r1_s, if_neg (by decide), g_M_about, pk_mul, nI_add, i_M_about (by omega), ha]
  rcases isIn_lt (mk X s) v (n := A.1 4) (by omega) with ⟨g, -⟩ | ⟨-, e⟩
  · exact absurd g hb
  · rw [e, r1_s, if_pos (by decide)]
theorem M_isBridge_no2 (X : qz_X) {s : sT} {v vb : Int32} (h : rn 120 0 [some (.ref 318), some (.int v)] [] (mk X s) = some (some (.int (nI 0)), mk X s)) : rn 173 0 [some (.ref 318), some (.int v), some (.int vb)] [] (mk X s) = some (some (.int (nI 0)), mk X s) := by
  rw [e_M_isBridge_0, ck_M, h, r1_s, if_pos (by decide)]
theorem told_yes {s : sT} {G : gsT} {v : Int32} {k : Nat} (h : Rel s G) (hk : tk G v k) : s.1 321 k = nI 1 := by
  rw [(h.2.2.2.2.1.2.1 k hk.1).2.1, hk.2.2]
  rfl
def putA (A : shT) (n : Nat) : shT := ((fun j => if j = 5 then n else A.1 j), A.2)
theorem putA_ok {A : shT} {n : Nat} (ok : okA A) (hn : n < 2 ^ A.1 4) : okA (putA A n) := by
  obtain ⟨o1, o2, o3, o4, o5, o6, o7⟩ := ok
  exact ⟨o1, o2, o3, o4, o5, hn, o7⟩
theorem isC_put {s : sT} {q : Nat} {A : shT} {n : Nat} (hC : isC s q A) : isC (su s (q + 3) 1 (nI n)) q (putA A n) := by
  obtain ⟨⟨a1, a2, a3, a4, a5, a6, a7, a8, a9⟩, c2, c3, c4, c5, c6, c7⟩ := hC
  have e : ∀ i, i ≠ 3 → (su s (q + 3) 1 (nI n)).1 (q + i) = s.1 (q + i) := by
    intro i hi
    funext j
    rw [su_1, if_neg (by omega)]
  have e0 : (su s (q + 3) 1 (nI n)).1 q = s.1 q := e 0 (by decide)
  have e3 : ∀ j, j ≠ 1 → (su s (q + 3) 1 (nI n)).1 (q + 3) j = s.1 (q + 3) j := by
    intro j hj
    rw [su_1, if_neg (by omega)]
  unfold isC
  rw [e0, e 1 (by decide), e 2 (by decide), e 4 (by decide), e 5 (by decide), e 6 (by decide), e 7 (by decide), e 8 (by decide), e 9 (by decide), e3 0 (by decide), e3 2 (by decide)]
  exact ⟨⟨a1, a2, a3, a4, a5, by rw [su_1, if_pos ⟨rfl, rfl⟩]; rfl, a7, a8, a9⟩, c2, c3, c4, c5, c6, c7⟩
theorem put_num {n m b : Nat} (hn : n < 2 ^ m) (hm : m ≤ 12) (hb : b < m) (c : Bool) : ∃ n', n' < 2 ^ m ∧ (if c then nI n ||| (nI 1 <<< (nI b &&& 31)) else nI n &&& ((nI 1 <<< (nI b &&& 31)) ^^^ (-1))) = nI n' := by
  refine bt_small (by omega) (fun i h1 h2 => ?_)
  have hz : bt (nI n) i = false := bt_hi hn (by omega) h1
  cases c
  · rw [if_neg (by decide), b_and, hz, Bool.false_and]
  · rw [if_pos rfl, b_or, hz, b_one b (by omega) i h2, decide_eq_false (by omega)]; rfl
theorem sim_put (X : qz_X) (s : sT) (G : gsT) (h : Rel s G) (v vb : Int32) (c : Bool) : Sim X s 175 176 [some (.ref 0), some (.int v), some (.int vb), some (.int (bI c)), none, none] [some (.ref 318), some (.int v), some (.int vb), some (.int (bI c)), none] := by
  rcases tk_or G v with ⟨k, hk⟩ | hn
  · obtain ⟨hS, ok, hC, hM⟩ := tk_P h hk
    have hk6 := hk.1
    have ht1 := told_yes h hk
    rcases br_or (G.2.1.2.1 k) vb with ⟨b, hb, rfl⟩ | hnb
    · have o5 := ok.2.2.2.2.1
      have hpl := isS_pl _ (h.1.1 k (by omega))
      obtain ⟨n, hn, en⟩ := put_num ok.2.2.2.2.2.1 o5 hb c
      have hv : v = nI k := hk.2.1
      subst hv
      have e1 : rn 175 0 [some (.ref 0), some (.int (nI k)), some (.int (nI b)), some (.int (bI c)), none, none] [] (mk X s) = some (some (.int (nI 1)), mk X (su s (s.2.2 k + 3) 1 (nI n))) := by
        rw [e_C_put_0, ck_C, C_told_yes X h hk, r3_r, g_S_bridges hS, ck_B hS, C_bhas_yes X hS ok hC hb, r1_s, if_neg (by decide), g_S_bridges hS, bI_z]
        cases c
        · rw [if_neg (by decide)] at en
          rw [if_neg (by decide), g_S_bridges hS, g_B_in hS, hC.1.2.2.2.2.2.1, p_B_in hS, en]
        · rw [if_pos rfl] at en
          rw [if_pos rfl, g_S_bridges hS, g_B_in hS, hC.1.2.2.2.2.2.1, p_B_in hS, en]
      have hM1 : isM (gN (su s (s.2.2 k + 3) 1 (nI n))) k (G.2.1.2.1 k) := isM_su (by omega) hM
      have ht2 : (su s (s.2.2 k + 3) 1 (nI n)).1 321 k = nI 1 := by rw [su_1, if_neg (by omega)]; exact ht1
      have ha : (su s (s.2.2 k + 3) 1 (nI n)).1 320 (16 * k + 5) = nI ((G.2.1.2.1 k).1 5) := ab_at hM1 (by decide)
      have e2 : rn 176 0 [some (.ref 318), some (.int (nI k)), some (.int (nI b)), some (.int (bI c)), none] [] (mk X (su s (s.2.2 k + 3) 1 (nI n))) = some (some (.int (nI 1)), mk X (su (su s (s.2.2 k + 3) 1 (nI n)) 320 (16 * k + 5) (nI n))) := by
        rw [e_M_put2_0, ck_M, M_isBridge_yes X hk6 ok hM1 ht2 hb, r1_s, if_neg (by decide), g_M_about, bI_z]
        cases c
        · rw [if_neg (by decide)] at en
          rw [if_neg (by decide), g_M_about, pk_mul, nI_add, i_M_about (by omega), ha, w_M_about (by omega), en]
        · rw [if_pos rfl] at en
          rw [if_pos rfl, g_M_about, pk_mul, nI_add, i_M_about (by omega), ha, w_M_about (by omega), en]
      refine ⟨_, _, _, _, e1, e2, Rel.sheet (k := k) (A' := putA (G.2.1.2.1 k) n) h hk6 hk.2.2 rfl (fun c p q => ?_) ?_ (putA_ok ok hn) ?_ ?_ (fun j hj hjk htj => ?_)⟩
      · funext l
        rw [su_1, if_neg (by omega), su_1, if_neg (by omega)]
      · rw [su_1, if_neg (by omega), su_1, if_neg (by omega)]
      · exact isC_cong (fun i hi => funext fun l => by rw [su_1, if_neg (by omega)]) (isC_put hC)
      · refine isM_about (s := su s (s.2.2 k + 3) 1 (nI n)) (A := G.2.1.2.1 k) (fun c p q hc => funext fun l => by rw [su_1, if_neg (by omega)]) ⟨rfl, rfl, rfl⟩ (fun j hj => ?_) hM1
        rw [su_1]
        show _ = nI (if j = 5 then n else (G.2.1.2.1 k).1 j)
        by_cases e : j = 5
        · rw [if_pos ⟨rfl, by omega⟩, if_pos e]
        · rw [if_neg (by omega), if_neg e]
          exact hM1.1 j hj
      · have hMj : isM (gN (su s (s.2.2 k + 3) 1 (nI n))) j (G.2.1.2.1 j) := isM_su (by omega) ((h.2.2.2.2.1.2.1 j hj).2.2 htj).2
        refine isM_about (s := su s (s.2.2 k + 3) 1 (nI n)) (A := G.2.1.2.1 j) (fun c p q hc => funext fun l => by rw [su_1, if_neg (by omega)]) ⟨rfl, rfl, rfl⟩ (fun i hi => ?_) hMj
        rw [su_1, if_neg (by omega)]
        exact hMj.1 i hi
    · have hv : v = nI k := hk.2.1
      refine sim_refuse h ?_ ?_
      · rw [e_C_put_0, ck_C, C_told_yes X h hk, r3_r, g_S_bridges hS, ck_B hS, C_bhas_no X hS ok hC hnb, r1_s, if_pos (by decide), C_refuse X s (j := 0) (by decide)]
      · rw [e_M_put2_0, ck_M, hv, M_isBridge_no X hk6 ok (by rw [(h.ref1 _).1]; exact hM) (by rw [(h.ref1 _).2]; exact ht1) hnb, r1_s, if_pos (by decide), ck_M, M_refuse2 X _ (j := 0) (by decide), r1_s, qz_z0, cond_t]
  · refine sim_refuse h ?_ ?_
    · rw [e_C_put_0, ck_C, C_told_no X h hn, r3_n, C_refuse X s (j := 0) (by decide)]
    · rw [e_M_put2_0, ck_M, M_isBridge_no2 X (M_sheet_no1 X h hn), r1_s, if_pos (by decide), ck_M, M_refuse2 X _ (j := 0) (by decide), r1_s, qz_z0, cond_t]

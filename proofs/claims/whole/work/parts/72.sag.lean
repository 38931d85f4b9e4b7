/-! sag -/
def one (r q : Nat) : Bool := decide (q = r)
noncomputable def sgq (A : shT) (r : Nat) : Nat → Nat := exq (one r) (tgs (tin A (nI (A.1 5))) (one r))
theorem sgq_le (A : shT) (r : Nat) : ∀ q, sgq A r q ≤ 400 := exq_le (tgs_le _ _)
theorem walkFrom_run (X : qz_X) {s : sT} {q : Nat} {A : shT} (hq : isS q) (ok : okA A) (hC : isC s q A) {x y : Nat} (hx : x < A.1 0) (hy : y < A.1 1) : ∃ st : sT, rn 217 0 [some (.ref 0), some (.ref q), some (.int (nI x)), some (.int (nI y))] [] (mk X s) = some (none, mk X st) ∧ st.2 = s.2 ∧ (∀ c, c ∉ [86, 87, 88, 89, 90, 91, 92, 93, 94, 95, 124] → st.1 c = s.1 c) ∧ ∀ j, j < 400 → st.1 90 j = nI (tgs (tin A (nI (A.1 5))) (one (20 * y + x)) j) := by
  have hg := isS_gap q hq
  have o1 := ok.1
  have o2 := ok.2.1
  obtain ⟨u, e0, u2, uc, u87, -, -⟩ := spread_run X hq ok hC (nI (A.1 5))
  have wr : rows ((su (sa u 124 (fun j => if j < 20 then nI 0 else u.1 124 j)) 124 y (nI 1 <<< (nI x &&& 31))).1 124) (one (20 * y + x)) := by
    intro y' hy' x' hx'
    rw [su_1]
    unfold one
    by_cases e : y' = y
    · subst e
      rw [if_pos ⟨rfl, rfl⟩, b_one x (by omega) x' hx']
      by_cases e2 : x' = x
      · subst e2
        rw [decide_eq_true rfl, decide_eq_true (show x' < 20 by omega), decide_eq_true rfl]; rfl
      · rw [decide_eq_false e2, decide_eq_false (show ¬ 20 * y' + x' = 20 * y' + x by omega), Bool.and_false]
    · rw [if_neg (fun z => e z.2), sa_1, if_pos rfl, if_pos hy', b_n0]
      by_cases h20 : x' < 20
      · rw [decide_eq_false (show ¬ 20 * y' + x' = 20 * y + x by omega), Bool.and_false]
      · rw [decide_eq_false h20, Bool.false_and]
  have r87 : rows ((su (sa u 124 (fun j => if j < 20 then nI 0 else u.1 124 j)) 124 y (nI 1 <<< (nI x &&& 31))).1 87) (tin A (nI (A.1 5))) := by
    have : (su (sa u 124 (fun j => if j < 20 then nI 0 else u.1 124 j)) 124 y (nI 1 <<< (nI x &&& 31))).1 87 = u.1 87 := by
      funext j
      rw [su_1, if_neg (by omega), sa_1, if_neg (by omega)]
    rw [this]; exact u87
  obtain ⟨st, e2, s2, sc, -, s90⟩ := walk_run X (R := 87) (K := 124) (rd_87 X) (by decide) r87 (rd_124 X) (by decide) wr
  refine ⟨st, ?_, by rw [s2]; exact u2, fun c hc => ?_, s90⟩
  · rw [e_C_walkFrom_0, g_C_hanging, g_S_bridges hq, g_B_in hq, hC.1.2.2.2.2.2.1, ck_H, e0, r0_s, g_C_anchors, fill_run X u 124 20 (nI 0) rfl (by decide) (by decide), r0_s, g_C_anchors, w_C_anchors (by omega), g_C_hanging, g_C_hanging, g_H_tin, g_C_anchors, ck_H, e2, r0_s]
  · simp only [List.mem_cons, List.not_mem_nil, or_false, not_or] at hc
    rw [sc c (by simp; omega)]
    funext j
    rw [su_1, if_neg (by omega), sa_1, if_neg (by omega), uc c (by omega) (by omega) (by omega)]
theorem hex_one {r : Nat} (hr : r < 400) : ∀ q, q < 400 → (nI q = nI r ↔ one r q = true) := fun q hq => by
  unfold one
  rw [nI_eq (by omega) (by omega), decide_eq_true_eq]
theorem ydx (y x : Nat) : nI y * nI 20 + nI x = nI (20 * y + x) := by rw [pk_mul, nI_add, Nat.mul_comm]
theorem ydm (y x : Nat) : nI 20 * nI y + nI x = nI (20 * y + x) := by rw [pk_mul, nI_add]
theorem C_sag0_run (X : qz_X) {s : sT} {q : Nat} {A : shT} (hq : isS q) (ok : okA A) (hC : isC s q A) {x y : Nat} (hx : x < A.1 0) (hy : y < A.1 1) : ∃ st : sT, rn 218 0 [some (.ref 0), some (.ref q), some (.int (nI x)), some (.int (nI y))] [] (mk X s) = some (some (.int (nI (gmx (sgq A (20 * y + x)) 400))), mk X st) ∧ st.2 = s.2 ∧ (∀ c, c ∉ [86, 87, 88, 89, 90, 91, 92, 93, 94, 95, 124] → st.1 c = s.1 c) := by
  have o1 := ok.1
  have o2 := ok.2.1
  obtain ⟨st, e, s2, sc, s90⟩ := walkFrom_run X hq ok hC hx hy
  refine ⟨st, ?_, s2, sc⟩
  rw [e_C_sagOf_0, ck_C, e, r0_s, g_C_hanging, ck_H, ydx, greatest_run X (hex_one (show 20 * y + x < 400 by omega)) s90 (tgs_le _ _), r1_s]
  rfl
theorem abv_neg {g : Nat → Nat} {v : Int32} (hg : ∀ q, g q ≤ 400) (hv : v < 0) (q : Nat) : abv g v q = decide (0 < g q) := by
  have := hg q
  unfold abv
  rw [decide_eq_false (p := nI (g q) ≤ v) (fun h => nI_pos (show g q < 2 ^ 31 by omega) (by
    rw [Int32.le_iff_toInt_le] at h
    rw [Int32.lt_iff_toInt_lt] at hv ⊢
    omega))]
  simp
theorem C_sag1_run (X : qz_X) {s : sT} {q : Nat} {A : shT} (hq : isS q) (ok : okA A) (hC : isC s q A) {x y : Nat} (hx : x < A.1 0) (hy : y < A.1 1) (v : Int32) : ∃ st : sT, rn 219 0 [some (.ref 0), some (.ref q), some (.int (nI x)), some (.int (nI y)), some (.int v)] [] (mk X s) = some (some (.int (nI (fb_ct (abv (sgq A (20 * y + x)) v) 400))), mk X st) ∧ st.2 = s.2 ∧ (∀ c, c ∉ [86, 87, 88, 89, 90, 91, 92, 93, 94, 95, 124] → st.1 c = s.1 c) := by
  have o1 := ok.1
  have o2 := ok.2.1
  obtain ⟨st, e, s2, sc, s90⟩ := walkFrom_run X hq ok hC hx hy
  refine ⟨st, ?_, s2, sc⟩
  rw [e_C_sagsAbove_0, ck_C, e, r0_s, g_C_hanging, e_Math_max_0]
  by_cases h0 : v < 0
  · rw [if_pos (show v < nI 0 by rw [nI_0]; exact h0), r1_s, ck_H, ydx, above_run X (hex_one (show 20 * y + x < 400 by omega)) s90 (tgs_le _ _) (by decide), r1_s]
    rw [fb_ct_cong (fun q _ => abv_neg (sgq_le A (20 * y + x)) h0 q)]
    rfl
  · obtain ⟨m, hm, rfl⟩ := nI_of h0
    rw [if_neg (show ¬ nI m < nI 0 by rw [nI_0]; exact h0), r1_s, ck_H, ydx, above_run X (hex_one (show 20 * y + x < 400 by omega)) s90 (tgs_le _ _) hm, r1_s]
    rw [fb_ct_cong (fun q _ => abv_nat (sgq_le A (20 * y + x)) hm q)]
    rfl
theorem C_isTin_run (X : qz_X) {s : sT} {q : Nat} {A : shT} (hq : isS q) (ok : okA A) (hC : isC s q A) {x y : Nat} (hx : x < A.1 0) (hy : y < A.1 1) : rn 216 0 [some (.ref q), some (.int (nI x)), some (.int (nI y))] [] (mk X s) = some (some (.int (if tin A (nI (A.1 5)) (20 * y + x) then nI 1 else nI 0)), mk X s) := by
  have o1 := ok.1
  have o2 := ok.2.1
  obtain ⟨r, e, b⟩ := tinRow_run X hq ok hC (nI (A.1 5)) (y := y) (by omega)
  have hb := b x (by omega)
  rw [decide_eq_true (show x < 20 by omega), Bool.true_and] at hb
  rw [e_Sheet_isTin_0, ck_S hq, C_has_yes X hq ok hC hx hy, r1_s, if_neg (by decide), g_S_bridges hq, g_B_in hq, hC.1.2.2.2.2.2.1, ck_S hq, e, r1_s]
  cases ht : tin A (nI (A.1 5)) (20 * y + x)
  · rw [ht] at hb
    rw [if_pos ((b_selz _ (by omega)).mpr hb)]
    rfl
  · rw [ht] at hb
    rw [if_neg (fun z => by rw [b_selz _ (by omega), hb] at z; cases z)]
    rfl
theorem M_held_run (X : qz_X) {s : sT} {k : Nat} {A : shT} (hk : k < 7) (ok : okA A) (hM : isM (gN s) k A) {x y : Nat} (hx : x < A.1 0) (hy : y < A.1 1) : rn 221 0 [some (.ref 318), some (.int (nI k)), some (.int (nI x)), some (.int (nI y))] [] (mk X s) = some (some (.int (if tin A (nI (A.1 5)) (20 * y + x) then nI 1 else nI 0)), mk X (sa s 334 (fun j => if j < 400 then (if tin A (nI (A.1 5)) j then nI 1 else nI 0) else s.1 334 j))) := by
  have o1 := ok.1
  have o2 := ok.2.1
  rw [e_M_isHeldBy_0, ck_M, M_within_yes X hk ok hM hx hy, r1_s, if_neg (by decide), ck_M, M_in_run X hk hM, r1_s, ck_M, tins_run X hk ok hM, r0_s, g_M_tin, ydm, i_M_tin (by omega), M_tins_row _ _ (show 20 * y + x < 400 by omega), told_one]
  cases tin A (nI (A.1 5)) (20 * y + x) <;> rfl
/-- the reference's sag of a square that is TIN -/
theorem M_sag_run (X : qz_X) {s : sT} {G : gsT} (h : Rel s G) {k : Nat} (hk : tk G (nI k) k) {x y : Nat} (hx : x < (G.2.1.2.1 k).1 0) (hy : y < (G.2.1.2.1 k).1 1) (ht : tin (G.2.1.2.1 k) (nI ((G.2.1.2.1 k).1 5)) (20 * y + x) = true) (v : Int32) {j : Nat} (hj : j < 2) : ∃ st : sT, rn 222 0 [some (.ref 318), some (.int (nI k)), some (.int (nI x)), some (.int (nI y)), some (.int v), some (.int (nI j))] [] (mk X s) = some (some (.int (if j = 0 then nI (gmx (sgq (G.2.1.2.1 k) (20 * y + x)) 400) else nI (fb_ct (abv (sgq (G.2.1.2.1 k) (20 * y + x)) v) 400))), mk X st) ∧ fr s st := by
  obtain ⟨-, ok, -, hM⟩ := tk_P h hk
  have o1 := ok.1
  have o2 := ok.2.1
  have hk7 : k < 7 := by have := hk.1; omega
  have f2 : fr s (sa s 334 (fun j => if j < 400 then (if tin (G.2.1.2.1 k) (nI ((G.2.1.2.1 k).1 5)) j then nI 1 else nI 0) else s.1 334 j)) := fr_sa (fun k => rfl)
  obtain ⟨-, -, -, hM2⟩ := tk_P (h.fr f2) hk
  obtain ⟨t3, c1, c2, c3, c4, c39, c40, c41⟩ := necks_run X hk7 ok hM2 (t := tin (G.2.1.2.1 k) (nI ((G.2.1.2.1 k).1 5))) (a := one (20 * y + x)) (d := one (20 * y + x)) (root := nI (20 * y + x)) (v := v) (M_tins_row _) (Or.inr ⟨20 * y + x, by omega, rfl, fun _ _ => rfl⟩) (hex_one (by omega))
  have f3 : fr (sa s 334 (fun j => if j < 400 then (if tin (G.2.1.2.1 k) (nI ((G.2.1.2.1 k).1 5)) j then nI 1 else nI 0) else s.1 334 j)) t3 := fr_m [335, 336, 340] (by rw [c2]) c3 (by decide) (fun j hj => c4 j (scr_n hj).1 (scr_n hj).2.1 (scr_n hj).2.2)
  refine ⟨t3, ?_, f2.tr f3⟩
  rw [e_M_sag_0, ck_M, M_sheet_yes X h hk, r1_s, if_neg (by decide), isIn_yes _ (by omega) (by decide), r1_s, if_neg (by decide), ck_M, M_held_run X hk7 ok hM hx hy, r1_s, told_int, ht, if_pos rfl, ck_M, ydm, c1, r0_s]
  have hj2 : j = 0 ∨ j = 1 := by omega
  rcases hj2 with rfl | rfl
  · rw [if_pos nI_0, g_M_greatest, c40, if_pos rfl]
    rfl
  · rw [if_neg (by decide), g_M_aboveMany, c41, if_neg (by decide)]
    rfl
theorem M_sag_not (X : qz_X) {s : sT} {G : gsT} (h : Rel s G) {k : Nat} (hk : tk G (nI k) k) {x y : Nat} (hx : x < (G.2.1.2.1 k).1 0) (hy : y < (G.2.1.2.1 k).1 1) (ht : tin (G.2.1.2.1 k) (nI ((G.2.1.2.1 k).1 5)) (20 * y + x) = false) (v vw : Int32) : ∃ st : sT, rn 222 0 [some (.ref 318), some (.int (nI k)), some (.int (nI x)), some (.int (nI y)), some (.int v), some (.int vw)] [] (mk X s) = some (some (.int (-1)), mk X st) ∧ fr s st := by
  obtain ⟨-, ok, -, hM⟩ := tk_P h hk
  have hk7 : k < 7 := by have := hk.1; omega
  rcases Classical.em (∃ j, j ≤ 1 ∧ vw = nI j) with ⟨j, hj, rfl⟩ | hw
  · refine ⟨_, ?_, fr_sa (s := s) (o := 334) (g := fun j => if j < 400 then (if tin (G.2.1.2.1 k) (nI ((G.2.1.2.1 k).1 5)) j then nI 1 else nI 0) else s.1 334 j) (fun k => rfl)⟩
    rw [e_M_sag_0, ck_M, M_sheet_yes X h hk, r1_s, if_neg (by decide), isIn_yes _ hj (by decide), r1_s, if_neg (by decide), ck_M, M_held_run X hk7 ok hM hx hy, r1_s, told_int, ht, if_neg (by decide)]
  · refine ⟨s, ?_, fr.rf s⟩
    rw [e_M_sag_0, ck_M, M_sheet_yes X h hk, r1_s, if_neg (by decide), isIn_no _ (by decide) (fun j hj e => hw ⟨j, hj, e⟩), r1_s, if_pos (by decide)]
theorem sim_sag (X : qz_X) (s : sT) (G : gsT) (h : Rel s G) (v vx vy vn vw : Int32) : Sim X s 220 222 [some (.ref 0), some (.int v), some (.int vx), some (.int vy), some (.int vn), some (.int vw), none] [some (.ref 318), some (.int v), some (.int vx), some (.int vy), some (.int vn), some (.int vw)] := by
  rcases tk_or G v with ⟨k, hk⟩ | hn
  · obtain ⟨hS, ok, hC, hM⟩ := tk_P h hk
    have hk6 := hk.1
    have hv : v = nI k := hk.2.1
    subst hv
    have hk7 : k < 7 := by omega
    rcases Classical.em (inXY (G.2.1.2.1 k) vx vy) with ⟨x, y, hx, hy, rfl, rfl⟩ | hno
    · cases ht : tin (G.2.1.2.1 k) (nI ((G.2.1.2.1 k).1 5)) (20 * y + x)
      · obtain ⟨st, e, f⟩ := M_sag_not X h hk hx hy ht vn vw
        refine sim_q (r := .int (-1)) h (s1 := s) (s2 := st) ?_ (fr.rf s) e f
        rw [e_C_sag_0, ck_C, C_told_yes X h hk, r3_r, ck_S hS, C_isTin_run X hS ok hC hx hy, r1_s, told_int, ht, if_neg (by decide)]
      · rcases Classical.em (∃ j, j < 2 ∧ vw = nI j) with ⟨j, hj, rfl⟩ | hw
        · have hj2 : j = 0 ∨ j = 1 := by omega
          rcases hj2 with rfl | rfl
          · obtain ⟨t1, a1, a2, a3⟩ := C_sag0_run X hS ok hC hx hy
            have f1 : fr s t1 := fr_of [86, 87, 88, 89, 90, 91, 92, 93, 94, 95, 124] (by rw [a2]) a3 (by decide)
            obtain ⟨t2, b1, b2⟩ := M_sag_run X (h.fr f1) hk hx hy ht vn (j := 0) (by decide)
            refine sim_q h ?_ f1 b1 b2
            rw [e_C_sag_0, ck_C, C_told_yes X h hk, r3_r, ck_S hS, C_isTin_run X hS ok hC hx hy, r1_s, told_int, ht, if_pos rfl, if_neg (by decide), if_pos (by decide), if_pos nI_0, ck_C, a1, r1_s, if_pos rfl]
          · obtain ⟨t1, a1, a2, a3⟩ := C_sag1_run X hS ok hC hx hy vn
            have f1 : fr s t1 := fr_of [86, 87, 88, 89, 90, 91, 92, 93, 94, 95, 124] (by rw [a2]) a3 (by decide)
            obtain ⟨t2, b1, b2⟩ := M_sag_run X (h.fr f1) hk hx hy ht vn (j := 1) (by decide)
            refine sim_q h ?_ f1 b1 b2
            rw [e_C_sag_0, ck_C, C_told_yes X h hk, r3_r, ck_S hS, C_isTin_run X hS ok hC hx hy, r1_s, told_int, ht, if_pos rfl, if_neg (by decide), if_pos (by decide), if_neg (by decide), ck_C, a1, r1_s, if_neg (by decide)]
        · refine sim_q (r := .int (-1)) h (s1 := s) (s2 := s) ?_ (fr.rf s) ?_ (fr.rf s)
          · rw [e_C_sag_0, ck_C, C_told_yes X h hk, r3_r, ck_S hS, C_isTin_run X hS ok hC hx hy, r1_s, told_int, ht, if_pos rfl]
            by_cases h0 : vw < 0
            · rw [if_pos h0]
            · obtain ⟨m, hm, rfl⟩ := nI_of h0
              rw [if_neg h0, if_neg (nI_ge (by
                rcases Nat.lt_or_ge 1 m with g | g
                · exact g
                · exact absurd ⟨m, by omega, rfl⟩ hw) (by omega))]
          · rw [e_M_sag_0, ck_M, M_sheet_yes X h hk, r1_s, if_neg (by decide), isIn_no _ (by decide) (fun j hj e => hw ⟨j, by omega, e⟩), r1_s, if_pos (by decide)]
    · refine sim_q (r := .int (-1)) h (s1 := s) (s2 := s) ?_ (fr.rf s) ?_ (fr.rf s)
      · rw [e_C_sag_0, ck_C, C_told_yes X h hk, r3_r, ck_S hS, e_Sheet_isTin_0, ck_S hS, C_has_no X hS ok hC hno, r1_s, if_pos (by decide), r1_s, if_pos (by decide)]
      · rw [e_M_sag_0, ck_M, M_sheet_yes X h hk, r1_s, if_neg (by decide)]
        rcases Classical.em (∃ j, j ≤ 1 ∧ vw = nI j) with ⟨j, hj, rfl⟩ | hw
        · rw [isIn_yes _ hj (by decide), r1_s, if_neg (by decide), ck_M, e_M_isHeldBy_0, ck_M, M_within_no X hk7 ok hM hno, r1_s, if_pos (by decide), r1_s, if_pos (by decide)]
        · rw [isIn_no _ (by decide) (fun j hj e => hw ⟨j, hj, e⟩), r1_s, if_pos (by decide)]
  · refine sim_q (r := .int (-1)) h (s1 := s) (s2 := s) ?_ (fr.rf s) ?_ (fr.rf s)
    · rw [e_C_sag_0, ck_C, C_told_no X h hn, r3_n]
    · rw [e_M_sag_0, ck_M, M_sheet_no X h hn, r1_s, if_pos (by decide)]

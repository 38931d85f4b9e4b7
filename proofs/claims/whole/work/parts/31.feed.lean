/-! fault, feed -/
def by8 (v : Int32) (n : Nat) : Nat := ((v.toUInt32 >>> ((nI n).toUInt32 &&& Int32.toUInt32 31)).toInt32).toBitVec.toNat % 256
theorem by8_lt (v : Int32) (n : Nat) : by8 v n < 256 := Nat.mod_lt _ (by decide)
theorem by8_C (v : Int32) (n : Nat) : (v.toUInt32 >>> ((nI n).toUInt32 &&& Int32.toUInt32 31)).toInt32 &&& nI 255 = nI (by8 v n) := pk_and _ 8 (by decide)
theorem by8_low (v : Int32) {n : Nat} (hn : n ≤ 24) : (v >>> (nI n &&& 31)).toInt8 = ((v.toUInt32 >>> ((nI n).toUInt32 &&& Int32.toUInt32 31)).toInt32).toInt8 := by
  rw [← fa_byte_low, ← fa_byte_low ((v.toUInt32 >>> ((nI n).toUInt32 &&& Int32.toUInt32 31)).toInt32)]
  congr 1
  apply b_ext
  intro i hi
  rw [b_and, b_and, b_255]
  by_cases h : i < 8
  · rw [b_sshr n (by omega) v hi, if_pos (by omega), b_ushr n (by omega)]
  · simp [h]
theorem by8_M (v : Int32) {n : Nat} (hn : n ≤ 24) : (v >>> (nI n &&& 31)).toInt8.toInt32 = (nI (by8 v n)).toInt8.toInt32 := by
  rw [by8_low v hn, ← by8_C]
  show _ = ((v.toUInt32 >>> ((nI n).toUInt32 &&& Int32.toUInt32 31)).toInt32 &&& 255).toInt8.toInt32
  rw [fa_byte_low]
theorem nar_b (x : Int32) : vp_nar .byte x = x.toInt8.toInt32 := rfl
theorem feedNumber_step (X : qz_X) (s : sT) (v : Int32) (t n : Nat) (hn : n ≤ 24) (ht : t < 1200) (h : s.1 0 1 = nI t) : rn 13 3 [some (.ref 0), some (.int v), some (.int (nI n))] [] (mk X s) = rn 13 3 [some (.ref 0), some (.int v), some (.int (nI n + (-8)))] [] (mk X (su (su s 1 t (nI (by8 v n))) 0 1 (nI (t + 1)))) := by
  have h1 : ¬ nI 1200 ≤ nI t := nI_ge ht (by decide)
  rw [e_C_feedNumber_3, if_neg (nI_pos (by omega))]
  simp only [g_C_tapeLength, g_C_tape, h, h1, if_false, w_C_tape ht, p_C_tapeLength, su_1, by8_C, nI_add, Nat.zero_ne_one, false_and, and_false]
theorem four_step (X : qz_X) (s : sT) (v : Int32) (t n : Nat) (hn : n ≤ 24) (ht : t < 1200) (h : s.1 318 14 = nI t) : rn 15 3 [some (.ref 318), some (.int v), some (.int (nI n))] [] (mk X s) = rn 15 3 [some (.ref 318), some (.int v), some (.int (nI n + (-8)))] [] (mk X (su (su s 332 t (nI (by8 v n)).toInt8.toInt32) 318 14 (nI (t + 1)))) := by
  rw [e_M_four_3, if_neg (nI_pos (by omega))]
  simp only [g_M_taped, g_M_tape, h, w_M_tape ht, p_M_taped, su_1, by8_M v hn, nar_b, fb_byte_twice, nI_add, false_and, and_false, if_false, Nat.reduceEqDiff]
/-- four bytes behind place t of row o, the count at (c, k) -/
def put4 (s : sT) (o c k t : Nat) (f : Nat → Int32) : sT := (fun i j => if i = o ∧ t ≤ j ∧ j < t + 4 then f (j - t) else if i = c ∧ j = k then nI (t + 4) else s.1 i j, s.2)
theorem put4_eq {s : sT} {o c k t : Nat} (hoc : c ≠ o) (f : Nat → Int32) : su (su (su (su (su (su (su (su s o t (f 0)) c k (nI (t + 1))) o (t + 1) (f 1)) c k (nI (t + 2))) o (t + 2) (f 2)) c k (nI (t + 3))) o (t + 3) (f 3)) c k (nI (t + 4)) = put4 s o c k t f := by
  refine Prod.ext ?_ rfl
  funext i j
  simp only [su_1, put4]
  by_cases h1 : i = c
  · subst h1
    simp only [hoc, false_and, if_false, true_and]
    by_cases h2 : j = k
    · simp only [h2, if_true]
    · simp only [h2, if_false]
  · simp only [h1, false_and, if_false]
    by_cases h2 : i = o
    · simp only [h2, true_and]
      by_cases h3 : t ≤ j ∧ j < t + 4
      · rw [if_pos h3]
        have : j = t ∨ j = t + 1 ∨ j = t + 2 ∨ j = t + 3 := by omega
        rcases this with rfl | rfl | rfl | rfl
        · simp
        · simp
        · simp
        · simp
      · rw [if_neg h3, if_neg (by omega), if_neg (by omega), if_neg (by omega), if_neg (by omega)]
    · simp only [h2, false_and, if_false]
theorem feedNumber_run (X : qz_X) (s : sT) (v : Int32) (t : Nat) (ht : t + 4 ≤ 1200) (h : s.1 0 1 = nI t) : rn 13 0 [some (.ref 0), some (.int v), none] [] (mk X s) = some (none, mk X (put4 s 1 0 1 t (fun k => nI (by8 v (24 - 8 * k))))) := by
  rw [e_C_feedNumber_0, feedNumber_step X s v t 24 (by omega) (by omega) h, show nI 24 + (-8) = nI 16 from by decide, feedNumber_step X _ v (t + 1) 16 (by omega) (by omega) (by simp [su_1]), show nI 16 + (-8) = nI 8 from by decide, feedNumber_step X _ v (t + 2) 8 (by omega) (by omega) (by simp [su_1]), show nI 8 + (-8) = nI 0 from by decide, feedNumber_step X _ v (t + 3) 0 (by omega) (by omega) (by simp [su_1]), e_C_feedNumber_3, if_pos (by decide)]
  rw [← put4_eq (s := s) (o := 1) (c := 0) (k := 1) (t := t) (by decide) (fun k => nI (by8 v (24 - 8 * k)))]
theorem four_run (X : qz_X) (s : sT) (v : Int32) (t : Nat) (ht : t + 4 ≤ 1200) (h : s.1 318 14 = nI t) : rn 15 0 [some (.ref 318), some (.int v), none] [] (mk X s) = some (none, mk X (put4 s 332 318 14 t (fun k => (nI (by8 v (24 - 8 * k))).toInt8.toInt32))) := by
  rw [e_M_four_0, four_step X s v t 24 (by omega) (by omega) h, show nI 24 + (-8) = nI 16 from by decide, four_step X _ v (t + 1) 16 (by omega) (by omega) (by simp [su_1]), show nI 16 + (-8) = nI 8 from by decide, four_step X _ v (t + 2) 8 (by omega) (by omega) (by simp [su_1]), show nI 8 + (-8) = nI 0 from by decide, four_step X _ v (t + 3) 0 (by omega) (by omega) (by simp [su_1]), e_M_four_3, if_pos (by decide)]
  rw [← put4_eq (s := s) (o := 332) (c := 318) (k := 14) (t := t) (by decide) (fun k => (nI (by8 v (24 - 8 * k))).toInt8.toInt32)]
theorem put4_c {s : sT} {o c k t : Nat} (hoc : c ≠ o) {f : Nat → Int32} : (put4 s o c k t f).1 c k = nI (t + 4) := by
  simp [put4, hoc]
/-- twenty bytes -/
def put20 (s : sT) (o c k t : Nat) (f : Nat → Int32) : sT := (fun i j => if i = o ∧ t ≤ j ∧ j < t + 20 then f (j - t) else if i = c ∧ j = k then nI (t + 20) else s.1 i j, s.2)
theorem put20_eq {s : sT} {o c k t : Nat} (hoc : c ≠ o) (f : Nat → Int32) : put4 (put4 (put4 (put4 (put4 s o c k t (fun i => f i)) o c k (t + 4) (fun i => f (i + 4))) o c k (t + 8) (fun i => f (i + 8))) o c k (t + 12) (fun i => f (i + 12))) o c k (t + 16) (fun i => f (i + 16)) = put20 s o c k t f := by
  refine Prod.ext ?_ rfl
  funext i j
  simp only [put4, put20]
  by_cases h1 : i = c
  · subst h1
    simp only [hoc, false_and, if_false, true_and]
    by_cases h2 : j = k
    · simp only [h2, if_true]
    · simp only [h2, if_false]
  · simp only [h1, false_and, if_false]
    by_cases h2 : i = o
    · simp only [h2, true_and]
      by_cases h3 : t ≤ j ∧ j < t + 20
      · rw [if_pos h3]
        by_cases q4 : t + 16 ≤ j
        · rw [if_pos (by omega), show j - (t + 16) + 16 = j - t by omega]
        · rw [if_neg (by omega)]
          by_cases q3 : t + 12 ≤ j
          · rw [if_pos (by omega), show j - (t + 12) + 12 = j - t by omega]
          · rw [if_neg (by omega)]
            by_cases q2 : t + 8 ≤ j
            · rw [if_pos (by omega), show j - (t + 8) + 8 = j - t by omega]
            · rw [if_neg (by omega)]
              by_cases q1 : t + 4 ≤ j
              · rw [if_pos (by omega), show j - (t + 4) + 4 = j - t by omega]
              · rw [if_neg (by omega), if_pos (by omega)]
      · rw [if_neg h3, if_neg (by omega), if_neg (by omega), if_neg (by omega), if_neg (by omega), if_neg (by omega)]
    · simp only [h2, false_and, if_false]
/-- the twenty bytes of five numbers -/
def by20 (a b c d e : Int32) (k : Nat) : Nat := by8 (if k < 4 then a else if k < 8 then b else if k < 12 then c else if k < 16 then d else e) (24 - 8 * (k % 4))
theorem C_feed_no (X : qz_X) (s : sT) (a b c d e : Int32) (t : Nat) (h0 : t ≤ 1200) (ht : 1180 < t) (h : s.1 0 1 = nI t) : rn 14 0 [some (.ref 0), some (.int a), some (.int b), some (.int c), some (.int d), some (.int e)] [] (mk X s) = some (some (.int (-1)), mk X s) := by
  rw [e_C_feed_0, g_C_tapeLength, h, if_neg (nI_ge ht (by omega))]
theorem M_feed_no (X : qz_X) (s : sT) (a b c d e : Int32) (t : Nat) (h0 : t ≤ 1200) (ht : 1180 < t) (h : s.1 318 14 = nI t) : rn 16 0 [some (.ref 318), some (.int a), some (.int b), some (.int c), some (.int d), some (.int e)] [] (mk X s) = some (some (.int (-1)), mk X s) := by
  rw [e_M_feed_0, g_M_taped, h, nI_add, if_neg (nI_ge (by omega) (by omega))]
theorem put4_cong (s : sT) (o c k t : Nat) (f g : Nat → Int32) (hfg : ∀ i, i < 4 → f i = g i) : put4 s o c k t f = put4 s o c k t g := by
  refine Prod.ext ?_ rfl
  funext i j
  simp only [put4]
  by_cases h : i = o ∧ t ≤ j ∧ j < t + 4
  · rw [if_pos h, if_pos h, hfg _ (by omega)]
  · rw [if_neg h, if_neg h]
theorem by20_z (a b c d e : Int32) : ∀ i, i < 4 → by20 a b c d e i = by8 a (24 - 8 * i) ∧ by20 a b c d e (i + 4) = by8 b (24 - 8 * i) ∧ by20 a b c d e (i + 8) = by8 c (24 - 8 * i) ∧ by20 a b c d e (i + 12) = by8 d (24 - 8 * i) ∧ by20 a b c d e (i + 16) = by8 e (24 - 8 * i) := by
  intro i hi
  rcases (show i = 0 ∨ i = 1 ∨ i = 2 ∨ i = 3 by omega) with rfl | rfl | rfl | rfl <;> exact ⟨rfl, rfl, rfl, rfl, rfl⟩
theorem put20_by (s : sT) (o c k t : Nat) (hoc : c ≠ o) (F : Nat → Int32) (v0 v1 v2 v3 v4 : Int32) : put4 (put4 (put4 (put4 (put4 s o c k t (fun k => F (by8 v0 (24 - 8 * k)))) o c k (t + 4) (fun k => F (by8 v1 (24 - 8 * k)))) o c k (t + 8) (fun k => F (by8 v2 (24 - 8 * k)))) o c k (t + 12) (fun k => F (by8 v3 (24 - 8 * k)))) o c k (t + 16) (fun k => F (by8 v4 (24 - 8 * k))) = put20 s o c k t (fun k => F (by20 v0 v1 v2 v3 v4 k)) := by
  have z := by20_z v0 v1 v2 v3 v4
  rw [← put20_eq hoc]
  rw [put4_cong s o c k t (fun k => F (by8 v0 (24 - 8 * k))) (fun i => F (by20 v0 v1 v2 v3 v4 i)) (fun i hi => congrArg F (z i hi).1.symm)]
  rw [put4_cong _ o c k (t + 4) (fun k => F (by8 v1 (24 - 8 * k))) (fun i => F (by20 v0 v1 v2 v3 v4 (i + 4))) (fun i hi => congrArg F (z i hi).2.1.symm)]
  rw [put4_cong _ o c k (t + 8) (fun k => F (by8 v2 (24 - 8 * k))) (fun i => F (by20 v0 v1 v2 v3 v4 (i + 8))) (fun i hi => congrArg F (z i hi).2.2.1.symm)]
  rw [put4_cong _ o c k (t + 12) (fun k => F (by8 v3 (24 - 8 * k))) (fun i => F (by20 v0 v1 v2 v3 v4 (i + 12))) (fun i hi => congrArg F (z i hi).2.2.2.1.symm)]
  rw [put4_cong _ o c k (t + 16) (fun k => F (by8 v4 (24 - 8 * k))) (fun i => F (by20 v0 v1 v2 v3 v4 (i + 16))) (fun i hi => congrArg F (z i hi).2.2.2.2.symm)]
theorem C_feed_yes (X : qz_X) (s : sT) (a b c d e : Int32) (t : Nat) (ht : t ≤ 1180) (h : s.1 0 1 = nI t) : rn 14 0 [some (.ref 0), some (.int a), some (.int b), some (.int c), some (.int d), some (.int e)] [] (mk X s) = some (some (.int (nI (t + 20))), mk X (put20 s 1 0 1 t (fun k => nI (by20 a b c d e k)))) := by
  rw [e_C_feed_0, g_C_tapeLength, h, if_pos (nI_le ht (by omega)), ck_C, feedNumber_run X s a t (by omega) h, r0_s, ck_C, feedNumber_run X _ b (t + 4) (by omega) (put4_c (by decide)), r0_s, ck_C, feedNumber_run X _ c (t + 8) (by omega) (put4_c (by decide)), r0_s, ck_C, feedNumber_run X _ d (t + 12) (by omega) (put4_c (by decide)), r0_s, ck_C, feedNumber_run X _ e (t + 16) (by omega) (put4_c (by decide)), r0_s, g_C_tapeLength, put4_c (by decide)]
  rw [put20_by s 1 0 1 t (by decide) (fun x => nI x) a b c d e]
theorem M_feed_yes (X : qz_X) (s : sT) (a b c d e : Int32) (t : Nat) (ht : t ≤ 1180) (h : s.1 318 14 = nI t) : rn 16 0 [some (.ref 318), some (.int a), some (.int b), some (.int c), some (.int d), some (.int e)] [] (mk X s) = some (some (.int (nI (t + 20))), mk X (put20 s 332 318 14 t (fun k => (nI (by20 a b c d e k)).toInt8.toInt32))) := by
  rw [e_M_feed_0, g_M_taped, h, nI_add, if_pos (nI_le (by omega) (by omega)), ck_M, four_run X s a t (by omega) h, r0_s, ck_M, four_run X _ b (t + 4) (by omega) (put4_c (by decide)), r0_s, ck_M, four_run X _ c (t + 8) (by omega) (put4_c (by decide)), r0_s, ck_M, four_run X _ d (t + 12) (by omega) (put4_c (by decide)), r0_s, ck_M, four_run X _ e (t + 16) (by omega) (put4_c (by decide)), r0_s, g_M_taped, put4_c (by decide)]
  rw [put20_by s 332 318 14 t (by decide) (fun x => (nI x).toInt8.toInt32) a b c d e]
/-- both answer alike, and the picture holds again -/
def Sim (X : qz_X) (s : sT) (c m : Nat) (ac am : qz_L) : Prop := ∃ (r : Int32) (s1 s2 : sT) (G : gsT), rn c 0 ac [] (mk X s) = some (some (.int r), mk X s1) ∧ rn m 0 am [] (mk X s1) = some (some (.int r), mk X s2) ∧ Rel s2 G
theorem put20_o {s : sT} {o c k t : Nat} {f : Nat → Int32} {i j : Nat} (h1 : ¬ i = o) (h2 : ¬ (i = c ∧ j = k)) : (put20 s o c k t f).1 i j = s.1 i j := by
  simp only [put20]
  rw [if_neg (fun h => h1 h.1), if_neg h2]
theorem put20_r {s : sT} {o c k t : Nat} {f : Nat → Int32} {i : Nat} (h1 : ¬ i = o) (h2 : ¬ i = c) : (put20 s o c k t f).1 i = s.1 i := funext fun j => put20_o h1 (fun h => h2 h.1)
theorem sim_feed (X : qz_X) (s : sT) (G : gsT) (h : Rel s G) (a b c d e : Int32) : Sim X s 14 16 [some (.ref 0), some (.int a), some (.int b), some (.int c), some (.int d), some (.int e)] [some (.ref 318), some (.int a), some (.int b), some (.int c), some (.int d), some (.int e)] := by
  obtain ⟨h1, ⟨t1, t2, t3, t4⟩, h3, h4, h5, h6⟩ := id h
  by_cases ht : G.1.1 ≤ 1180
  · refine ⟨_, _, _, ((G.1.1 + 20, fun j => if j < G.1.1 then G.1.2 j else by20 a b c d e (j - G.1.1)), G.2), C_feed_yes X s a b c d e G.1.1 ht t2, M_feed_yes X _ a b c d e G.1.1 ht (by rw [put20_o (by decide) (by decide)]; exact t3), ?_⟩
    have hr : ∀ i, ¬ i = 332 → ¬ i = 318 → ¬ i = 1 → ¬ i = 0 → (put20 (put20 s 1 0 1 G.1.1 (fun k => nI (by20 a b c d e k))) 332 318 14 G.1.1 (fun k => (nI (by20 a b c d e k)).toInt8.toInt32)).1 i = s.1 i := fun i q1 q2 q3 q4 => by rw [put20_r q1 q2, put20_r q3 q4]
    have hx : ∀ i j, ¬ i = 332 → ¬ (i = 318 ∧ j = 14) → ¬ i = 1 → ¬ (i = 0 ∧ j = 1) → (put20 (put20 s 1 0 1 G.1.1 (fun k => nI (by20 a b c d e k))) 332 318 14 G.1.1 (fun k => (nI (by20 a b c d e k)).toInt8.toInt32)).1 i j = s.1 i j := fun i j q1 q2 q3 q4 => by rw [put20_o q1 q2, put20_o q3 q4]
    refine ⟨rPl_c rfl h1, ⟨by show G.1.1 + 20 ≤ 1200; omega, ?_, ?_, fun j hj => ⟨?_, ?_, ?_⟩⟩, ?_, ?_, rNo_c h1 rfl (fun i p q => hr i (by omega) (by omega) (by omega) (by omega)) (hr 5 (by decide) (by decide) (by decide) (by decide)) (fun i p q => hr i (by omega) (by omega) (by omega) (by omega)) (hx 318 1 (by decide) (by decide) (by decide) (by decide)) h5, rIm_c (hx 0 6 (by decide) (by decide) (by decide) (by decide)) (hx 318 61 (by decide) (by decide) (by decide) (by decide)) (fun i p q => hr i (by omega) (by omega) (by omega) (by omega)) (hr 360 (by decide) (by decide) (by decide) (by decide)) (hr 361 (by decide) (by decide) (by decide) (by decide)) h6⟩
    · simp [put20]
    · simp [put20]
    · show (if j < G.1.1 then G.1.2 j else by20 a b c d e (j - G.1.1)) < 256
      by_cases hj2 : j < G.1.1
      · rw [if_pos hj2]; exact (t4 j hj2).1
      · rw [if_neg hj2]; exact by8_lt _ _
    · show _ = nI (if j < G.1.1 then G.1.2 j else by20 a b c d e (j - G.1.1))
      have hj : j < G.1.1 + 20 := hj
      by_cases hj2 : j < G.1.1
      · rw [if_pos hj2, put20_o (by omega) (by omega)]
        simp only [put20]
        rw [if_neg (by omega), if_neg (by omega)]
        exact (t4 j hj2).2.1
      · rw [if_neg hj2, put20_o (by omega) (by omega)]
        show (if 1 = 1 ∧ G.1.1 ≤ j ∧ j < G.1.1 + 20 then _ else _) = _
        rw [if_pos (by omega)]
    · show _ = (nI (if j < G.1.1 then G.1.2 j else by20 a b c d e (j - G.1.1))).toInt8.toInt32
      have hj : j < G.1.1 + 20 := hj
      by_cases hj2 : j < G.1.1
      · rw [if_pos hj2]
        show (if 332 = 332 ∧ G.1.1 ≤ j ∧ j < G.1.1 + 20 then _ else if 332 = 318 ∧ j = 14 then _ else (put20 s 1 0 1 G.1.1 (fun k => nI (by20 a b c d e k))).1 332 j) = _
        rw [if_neg (by omega), if_neg (by omega), put20_o (by omega) (by omega)]
        exact (t4 j hj2).2.2
      · rw [if_neg hj2]
        show (if 332 = 332 ∧ G.1.1 ≤ j ∧ j < G.1.1 + 20 then _ else _) = _
        rw [if_pos (by omega)]
    · unfold rFa
      rw [hx 0 2 (by decide) (by decide) (by decide) (by decide), hx 318 17 (by decide) (by decide) (by decide) (by decide)]
      exact h3
    · unfold rRe
      rw [hr 2 (by decide) (by decide) (by decide) (by decide), hr 319 (by decide) (by decide) (by decide) (by decide)]
      exact h4
  · exact ⟨_, _, _, G, C_feed_no X s a b c d e G.1.1 t1 (by omega) t2, M_feed_no X s a b c d e G.1.1 t1 (by omega) t3, h⟩
theorem sim_fault (X : qz_X) (s : sT) (G : gsT) (h : Rel s G) : Sim X s 113 114 [some (.ref 0)] [some (.ref 318)] := by
  refine ⟨s.1 0 2, s, s, G, ?_, ?_, h⟩
  · rw [e_C_fault_0, g_C_faultPlace]
  · rw [e_M_fault_0, g_M_fault, h.2.2.1]

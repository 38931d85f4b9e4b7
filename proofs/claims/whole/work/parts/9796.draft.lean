/-! the draft: what both hold while a text is told -/
abbrev drT : Type := shT × (Nat → Nat)
abbrev rsT : Type := Bool × Nat × drT
def fA (A : shT) : shT := putA A (2 ^ A.1 4 - 1)
theorem fA_ok {A : shT} (ok : okA A) : okA (fA A) := putA_ok ok (by have := Nat.two_pow_pos (A.1 4); omega)
def frC (q : Nat) (s u : sT) : Prop := u.2.2 = s.2.2 ∧ ∀ c, ¬ ((78 ≤ c ∧ c ≤ 85) ∨ (q ≤ c ∧ c < q + 10)) → u.1 c = s.1 c
def inM (c j : Nat) : Prop := (c = 318 ∧ j ∈ [15, 16, 20, 21, 22, 23, 24, 25, 26, 27, 28]) ∨ c = 331 ∨ c = 333 ∨ (c = 320 ∧ 96 ≤ j) ∨ (322 ≤ c ∧ c ≤ 324 ∧ 2400 ≤ j) ∨ ((c = 325 ∨ c = 326) ∧ 48 ≤ j) ∨ (c = 327 ∧ 384 ≤ j) ∨ (328 ≤ c ∧ c ≤ 330 ∧ 72 ≤ j)
def frM (t u : sT) : Prop := u.2.2 = t.2.2 ∧ ∀ c j, ¬ inM c j → u.1 c j = t.1 c j
theorem frC.rf {q : Nat} (s : sT) : frC q s s := ⟨rfl, fun _ _ => rfl⟩
theorem frM.rf (s : sT) : frM s s := ⟨rfl, fun _ _ _ => rfl⟩
theorem frC.tr {q : Nat} {s u v : sT} (h : frC q s u) (g : frC q u v) : frC q s v := ⟨g.1.trans h.1, fun c e => (g.2 c e).trans (h.2 c e)⟩
theorem frM.tr {s u v : sT} (h : frM s u) (g : frM u v) : frM s v := ⟨g.1.trans h.1, fun c j e => (g.2 c j e).trans (h.2 c j e)⟩
theorem o78.fr {q : Nat} {s u : sT} (h : o78 s u) : frC q s u := ⟨by rw [h.1], fun c e => h.2 c (by omega)⟩
theorem oM.fr {L : List Nat} {t u : sT} (h : oM L t u) (hL : ∀ j, j ∈ L → j ∈ [15, 16, 20, 21, 22, 23, 24, 25, 26, 27, 28]) : frM t u := ⟨by rw [h.1], fun c j e => h.2 c j (fun z => e (Or.inl ⟨z.1, hL j z.2⟩))⟩
theorem frC_su {q : Nat} {s : sT} {c j : Nat} {x : Int32} (h : q ≤ c ∧ c < q + 10) : frC q s (su s c j x) := ⟨rfl, fun i e => funext fun k => by rw [su_1, if_neg (by omega)]⟩
theorem frM_su {s : sT} {c j : Nat} {x : Int32} (h : inM c j) : frM s (su s c j x) := ⟨rfl, fun i k e => by
  rw [su_1, if_neg]
  rintro ⟨rfl, rfl⟩
  exact e h⟩
def okDr (T : txT) (D : drT) : Prop := okA D.1 ∧ D.1.1 5 = 0 ∧ ∀ i, i < D.1.1 3 → okn T (D.2 i)
def dCd (T : txT) (q : Nat) (D : drT) (s : sT) : Prop := isC s q (fA D.1) ∧ s.1 q 0 = nI 1 ∧ (∀ b, D.1.1 4 ≤ b → b < 12 → ∀ y, y < 20 → s.1 (q + 6) (20 * b + y) = nI 0) ∧ ∀ i, i < D.1.1 3 → s.2.1 85 i = lN (p27 T (D.2 i))
def dMd (T : txT) (D : drT) (t : sT) : Prop := isM (gN t) 6 D.1 ∧ ∀ i, i < D.1.1 3 → t.2.1 331 (48 + i) = lN (wdv T (D.2 i))
def CRn (X : qz_X) (T : txT) (q : Nat) (s : sT) (m : Nat) (a : qz_L) (r : rsT) : Prop := ∃ u : sT, rn m 0 a [] (mk X s) = some (some (.int (bI r.1)), mk X u) ∧ frC q s u ∧ cPo T r.2.1 u ∧ (r.1 = true → dCd T q r.2.2 u)
def MRn (X : qz_X) (T : txT) (t : sT) (m : Nat) (a : qz_L) (r : rsT) : Prop := ∃ u : sT, rn m 0 a [] (mk X t) = some (some (.int (bI r.1)), mk X u) ∧ frM t u ∧ mPo T r.2.1 u ∧ (r.1 = true → dMd T r.2.2 u)
/-- or: the reference sees the fault one step earlier -/
def MRx (X : qz_X) (T : txT) (t : sT) (m : Nat) (a : qz_L) (r : rsT) : Prop := MRn X T t m a r ∨ (tS T 59 r.2.1 = false ∧ ∃ u : sT, rn m 0 a [] (mk X t) = some (some (.int (nI 0)), mk X u) ∧ frM t u ∧ mPo T r.2.1 u)
theorem dCd_c {T : txT} {q : Nat} {D : drT} {s u : sT} (h : dCd T q D s) (hc : ∀ i, i < 10 → u.1 (q + i) = s.1 (q + i)) (h2 : u.2.1 85 = s.2.1 85) : dCd T q D u := by
  obtain ⟨a1, a2, a3, a4⟩ := h
  have e0 : u.1 q = s.1 q := hc 0 (by decide)
  exact ⟨isC_cong hc a1, by rw [e0]; exact a2, fun b h1 h2 y hy => by rw [hc 6 (by decide)]; exact a3 b h1 h2 y hy, fun i hi => by rw [h2]; exact a4 i hi⟩
theorem dCd_78 {T : txT} {q : Nat} {D : drT} {s u : sT} (hq : isS q) (h : dCd T q D s) (o : o78 s u) : dCd T q D u := dCd_c h (fun i hi => o.2 _ (by have := isS_gap q hq; omega)) (by rw [o.1])
theorem isM_all {s s' : sT} {k : Nat} {A : shT} (h : ∀ c, 320 ≤ c → c ≤ 330 → s'.1 c = s.1 c) (hM : isM (gN s) k A) : isM (gN s') k A := isM_about (fun c p q _ => h c p q) ⟨rfl, rfl, rfl⟩ (fun j hj => by rw [h 320 (by decide) (by decide)]; exact ab_at hM hj) hM
theorem dMd_o {L : List Nat} {T : txT} {D : drT} {t u : sT} (h : dMd T D t) (o : oM L t u) : dMd T D u := ⟨isM_all (fun c p q => funext fun j => o.2 c j (by omega)) h.1, fun i hi => by rw [o.1]; exact h.2 i hi⟩
/-- one number of a sheet -/
def setN (A : shT) (j v : Nat) : shT := ((fun i => if i = j then v else A.1 i), A.2)
theorem setN_o {A : shT} {j v i : Nat} (h : i ≠ j) : (setN A j v).1 i = A.1 i := if_neg h
theorem fA_setN {A : shT} {j v : Nat} (h4 : j ≠ 4) (h5 : j ≠ 5) : fA (setN A j v) = setN (fA A) j v := by
  unfold fA putA
  rw [setN_o (fun z => h4 z.symm)]
  refine Prod.ext (funext fun i => ?_) rfl
  show (if i = 5 then _ else if i = j then v else A.1 i) = if i = j then v else if i = 5 then _ else A.1 i
  by_cases e : i = 5
  · rw [if_pos e, if_neg (by omega), if_pos e]
  · rw [if_neg e, if_neg e]
theorem isC_num {s : sT} {q : Nat} {A : shT} {f j v : Nat} (hf : (f = 3 ∧ j = 2) ∨ (f = 4 ∧ j = 6) ∨ (f = 5 ∧ j = 7) ∨ (f = 6 ∧ j = 8)) (hC : isC s q A) : isC (su s q f (nI v)) q (setN A j v) := by
  obtain ⟨⟨a1, a2, a3, a4, a5, a6, a7, a8, a9⟩, c2, c3, c4, c5, c6, c7⟩ := hC
  have e : ∀ i, i ≠ 0 → (su s q f (nI v)).1 (q + i) = s.1 (q + i) := fun i hi => funext fun k => by rw [su_1, if_neg (by omega)]
  have e0 : ∀ k, k ≠ f → (su s q f (nI v)).1 q k = s.1 q k := fun k hk => by rw [su_1, if_neg (fun z => hk z.2)]
  have ef : (su s q f (nI v)).1 q f = nI v := by rw [su_1, if_pos ⟨rfl, rfl⟩]
  unfold isC
  rw [e 1 (by decide), e 2 (by decide), e 3 (by decide), e 4 (by decide), e 5 (by decide), e 6 (by decide), e 7 (by decide), e 8 (by decide), e 9 (by decide)]
  rcases hf with ⟨rfl, rfl⟩ | ⟨rfl, rfl⟩ | ⟨rfl, rfl⟩ | ⟨rfl, rfl⟩
  · exact ⟨⟨by rw [e0 _ (by decide)]; exact a1, by rw [e0 _ (by decide)]; exact a2, ef, by rw [e0 _ (by decide)]; exact a4, a5, a6, by rw [e0 _ (by decide)]; exact a7, by rw [e0 _ (by decide)]; exact a8, by rw [e0 _ (by decide)]; exact a9⟩, c2, c3, c4, c5, c6, c7⟩
  · exact ⟨⟨by rw [e0 _ (by decide)]; exact a1, by rw [e0 _ (by decide)]; exact a2, by rw [e0 _ (by decide)]; exact a3, by rw [e0 _ (by decide)]; exact a4, a5, a6, ef, by rw [e0 _ (by decide)]; exact a8, by rw [e0 _ (by decide)]; exact a9⟩, c2, c3, c4, c5, c6, c7⟩
  · exact ⟨⟨by rw [e0 _ (by decide)]; exact a1, by rw [e0 _ (by decide)]; exact a2, by rw [e0 _ (by decide)]; exact a3, by rw [e0 _ (by decide)]; exact a4, a5, a6, by rw [e0 _ (by decide)]; exact a7, ef, by rw [e0 _ (by decide)]; exact a9⟩, c2, c3, c4, c5, c6, c7⟩
  · exact ⟨⟨by rw [e0 _ (by decide)]; exact a1, by rw [e0 _ (by decide)]; exact a2, by rw [e0 _ (by decide)]; exact a3, by rw [e0 _ (by decide)]; exact a4, a5, a6, by rw [e0 _ (by decide)]; exact a7, by rw [e0 _ (by decide)]; exact a8, ef⟩, c2, c3, c4, c5, c6, c7⟩
theorem dCd_num {T : txT} {q : Nat} {D : drT} {s : sT} {f j v : Nat} (hf : (f = 3 ∧ j = 2) ∨ (f = 4 ∧ j = 6) ∨ (f = 5 ∧ j = 7) ∨ (f = 6 ∧ j = 8)) (h : dCd T q D s) : dCd T q (setN D.1 j v, D.2) (su s q f (nI v)) := by
  obtain ⟨a1, a2, a3, a4⟩ := h
  refine ⟨?_, by rw [su_1, if_neg (by omega)]; exact a2, fun b h1 h2 y hy => ?_, fun i hi => ?_⟩
  · show isC _ q (fA (setN D.1 j v))
    rw [fA_setN (by omega) (by omega)]
    exact isC_num hf a1
  · have h1 : (setN D.1 j v).1 4 ≤ b := h1
    rw [setN_o (by omega)] at h1
    rw [su_1, if_neg (by omega)]; exact a3 b h1 h2 y hy
  · have hi : i < (setN D.1 j v).1 3 := hi
    rw [setN_o (by omega)] at hi
    exact a4 i hi
theorem isM_num {t : sT} {A : shT} {j v : Nat} (hj : j < 9) (h3 : j ≠ 3) (h4 : j ≠ 4) (hM : isM (gN t) 6 A) : isM (gN (su t 320 (96 + j) (nI v))) 6 (setN A j v) := by
  refine isM_about (s := t) (A := A) (fun c p q r => funext fun k => by rw [su_1, if_neg (fun z => r z.1)]) ⟨rfl, setN_o (fun z => h3 z.symm), setN_o (fun z => h4 z.symm)⟩ (fun i hi => ?_) hM
  rw [su_1]
  show _ = nI (if i = j then v else A.1 i)
  by_cases e : i = j
  · rw [if_pos ⟨rfl, by omega⟩, if_pos e]
  · rw [if_neg (by omega), if_neg e]
    exact ab_at hM hi
theorem dMd_num {T : txT} {D : drT} {t : sT} {j v : Nat} (hj : j < 9) (h3 : j ≠ 3) (h4 : j ≠ 4) (h : dMd T D t) : dMd T (setN D.1 j v, D.2) (su t 320 (96 + j) (nI v)) := ⟨isM_num hj h3 h4 h.1, fun i hi => by
  have hi : i < (setN D.1 j v).1 3 := hi
  rw [setN_o (fun z => h3 z.symm)] at hi
  exact h.2 i hi⟩
theorem says_run (X : qz_X) (t : sT) {j : Nat} (hj : j < 16) (v : Int32) : rn 74 0 [some (.ref 318), some (.int (nI j)), some (.int v)] [] (mk X t) = some (none, mk X (su t 320 (96 + j) v)) := by
  rw [e_M_says_0, g_M_about, nI_add, w_M_about (by omega)]
theorem mPo_c {T : txT} {P : Nat} {t u : sT} (h : mPo T P t) (h1 : u.1 318 = t.1 318) (h2 : u.1 333 = t.1 333) : mPo T P u := by
  obtain ⟨a1, a2, p, b1, b2, b3⟩ := h
  exact ⟨fun j hj => by rw [h2]; exact a1 j hj, by rw [h1]; exact a2, p, b1, by rw [h1]; exact b2, b3⟩
theorem mPo_su {T : txT} {P : Nat} {t : sT} (h : mPo T P t) {c j : Nat} {x : Int32} (h1 : c ≠ 318) (h2 : c ≠ 333) : mPo T P (su t c j x) := mPo_c h (funext fun k => by rw [su_1, if_neg (fun z => h1 z.1.symm)]) (funext fun k => by rw [su_1, if_neg (fun z => h2 z.1.symm)])
theorem cPo_su {T : txT} {P : Nat} {s : sT} (h : cPo T P s) {c j : Nat} {x : Int32} (h1 : c < 78) : cPo T P (su s c j x) := cPo_cong h (fun i p q => funext fun k => by rw [su_1, if_neg (by omega)]) (by rw [su_1, if_neg (by omega)])
/-- brush and wear: j names the number, hi its bound -/
def nbS (T : txT) (j hi : Nat) (D : drT) (P : Nat) : rsT := if tN T 0 hi P then (true, nx T P, (setN D.1 j (nv T P), D.2)) else (false, P, D)
theorem nbS_ok {T : txT} {j hi : Nat} (hj : (j = 7 ∧ hi = 400) ∨ (j = 8 ∧ hi = 999)) {D : drT} (h : okDr T D) {P : Nat} : (nbS T j hi D P).1 = true → okDr T (nbS T j hi D P).2.2 := by
  unfold nbS
  cases c : tN T 0 hi P
  · exact fun z => by cases z
  · intro _
    rw [if_pos rfl]
    have hv := tN_lt c
    obtain ⟨⟨o1, o2, o3, o4, o5, o6, o7, o8, o9, o10⟩, p2, p3⟩ := h
    rcases hj with ⟨rfl, rfl⟩ | ⟨rfl, rfl⟩
    · exact ⟨⟨o1, o2, o3, o4, o5, o6, o7, hv.2.2, o9, o10⟩, p2, p3⟩
    · exact ⟨⟨o1, o2, o3, o4, o5, o6, o7, o8, hv.2.2, o10⟩, p2, p3⟩
section ST
variable {T : txT} {P q : Nat} {s t : sT} {D : drT}
theorem C_brush (X : qz_X) (hT : okT T) (hq : isS q) (hq2 : q < 70) (h : cPo T P s) (hd : dCd T q D s) : CRn X T q s 54 [some (.ref 78), some (.ref q)] (nbS T 7 400 D P) := by
  unfold CRn nbS
  rw [e_Teller_tellBrush_0, ck_L, C_num X hT h (by decide) (by decide), r1_s]
  cases c : tN T 0 400 P
  · exact ⟨s, by rw [if_pos (by decide)]; rfl, frC.rf s, h, fun z => by cases z⟩
  · have ho : o78 s (up2 (su s 78 3 (nI (nv T P)))) := o78_su.tr (o78_up _)
    refine ⟨su (up2 (su s 78 3 (nI (nv T P)))) q 5 (nI (nv T P)), ?_, ho.fr.tr (frC_su (by omega)), cPo_su (cPo_up (cPo_78 h (by decide)) (tN_lt c).1) (by omega), fun _ => dCd_num (by omega) (dCd_78 hq hd ho)⟩
    rw [if_neg (by decide), if_pos rfl, g_L_number, up2_o (by decide), su_1, if_pos ⟨rfl, rfl⟩, p_S_brush hq]
    rfl
theorem C_wear (X : qz_X) (hT : okT T) (hq : isS q) (hq2 : q < 70) (h : cPo T P s) (hd : dCd T q D s) : CRn X T q s 55 [some (.ref 78), some (.ref q)] (nbS T 8 999 D P) := by
  unfold CRn nbS
  rw [e_Teller_tellWear_0, ck_L, C_num X hT h (by decide) (by decide), r1_s]
  cases c : tN T 0 999 P
  · exact ⟨s, by rw [if_pos (by decide)]; rfl, frC.rf s, h, fun z => by cases z⟩
  · have ho : o78 s (up2 (su s 78 3 (nI (nv T P)))) := o78_su.tr (o78_up _)
    refine ⟨su (up2 (su s 78 3 (nI (nv T P)))) q 6 (nI (nv T P)), ?_, ho.fr.tr (frC_su (by omega)), cPo_su (cPo_up (cPo_78 h (by decide)) (tN_lt c).1) (by omega), fun _ => dCd_num (by omega) (dCd_78 hq hd ho)⟩
    rw [if_neg (by decide), if_pos rfl, g_L_number, up2_o (by decide), su_1, if_pos ⟨rfl, rfl⟩, p_S_wear hq]
    rfl
theorem M_numb (X : qz_X) (hT : okT T) {j hi : Nat} (hj : (j = 7 ∧ hi = 400) ∨ (j = 8 ∧ hi = 999)) (h : mPo T P t) (hd : dMd T D t) : MRn X T t 99 [some (.ref 318), some (.int (nI j)), some (.int (nI hi))] (nbS T j hi D P) := by
  unfold MRn nbS
  obtain ⟨u, e, o, m, v⟩ := M_num X hT h (lo := 0) (hi := hi) (by decide) (by omega)
  rw [e_M_numberTold_0, ck_M, e, r1_s]
  cases c : tN T 0 hi P
  · rw [c] at m
    exact ⟨u, by rw [if_pos (by decide)]; rfl, o.fr (by decide), m, fun z => by cases z⟩
  · rw [c] at m
    refine ⟨su u 320 (96 + j) (nI (nv T P)), ?_, (o.fr (by decide)).tr (frM_su (by unfold inM; omega)), mPo_su m (by decide) (by decide), fun _ => dMd_num (by omega) (by omega) (by omega) (dMd_o hd o)⟩
    rw [if_neg (by decide), g_M_read, v c, ck_M, says_run X u (by omega), r0_s]
    rfl
end ST

/-! what is left by an order: class and reference tell one sum -/
theorem sm_rows (f : Nat → Nat) : ∀ n, fb_sm f (20 * n) = fb_sm (fun y => fb_sm (fun x => f (20 * y + x)) 20) n
  | 0 => rfl
  | n + 1 => by
    rw [show 20 * (n + 1) = 20 * n + 20 by omega, fb_sm_split, sm_rows f n]
    rfl
theorem sm_nil {f : Nat → Nat} : ∀ n, (∀ k, k < n → f k = 0) → fb_sm f n = 0
  | 0, _ => rfl
  | n + 1, h => by rw [fb_sm_succ, sm_nil n (fun k hk => h k (by omega)), h n (by omega)]
theorem lf_all {P : Nat → shT} {k : Nat} {L : Nat → Bool} (ok : okA (P k)) : fb_sm (fun y => fb_sm (fun x => wl P k L (20 * y + x)) 20) ((P k).1 1) = fb_sm (wl P k L) 400 := by
  have o2 := ok.2.1
  have e := sm_rows (wl P k L) 20
  rw [show 20 * 20 = 400 from rfl] at e
  rw [e, show (20 : Nat) = (P k).1 1 + (20 - (P k).1 1) by omega, fb_sm_split, show (P k).1 1 + (20 - (P k).1 1) = 20 by omega]
  rw [sm_nil (f := fun y => fb_sm (fun x => wl P k L (20 * ((P k).1 1 + y) + x)) 20) (20 - (P k).1 1) (fun y hy => sm_nil 20 (fun x hx => by
    unfold wl
    cases hl : lvs P k (20 * ((P k).1 1 + y) + x)
    · rfl
    · have := (ins_iff.mp (lvs_ins hl)).2
      omega)), Nat.add_zero]
def lsb (o : Nat → Nat) (n : Nat) : Nat → Nat → Bool
  | 0, _ => false
  | d + 1, b => lsb o n d b || decide (b = o (n - 1 - d))
theorem cov_or {P : Nat → shT} {L M : Nat → Bool} {q k : Nat} (h : ∀ b, M b = (L b || decide (b = k))) : ∀ m, cov P M q m = (cov P L q m || (decide (k < m) && pnt P k q))
  | 0 => by rw [decide_eq_false (Nat.not_lt_zero k)]; rfl
  | m + 1 => by
    show (cov P M q m || (M m && pnt P m q)) = ((cov P L q m || (L m && pnt P m q)) || (decide (k < m + 1) && pnt P k q))
    rw [cov_or h m, h m]
    by_cases e : m = k
    · subst e
      rw [decide_eq_false (Nat.lt_irrefl m), decide_eq_true (rfl : m = m), decide_eq_true (show m < m + 1 by omega)]
      cases cov P L q m <;> cases L m <;> cases pnt P m q <;> rfl
    · rw [decide_eq_false e]
      by_cases g : k < m
      · rw [decide_eq_true g, decide_eq_true (show k < m + 1 by omega)]
        cases cov P L q m <;> cases L m <;> cases pnt P m q <;> cases pnt P k q <;> rfl
      · rw [decide_eq_false g, decide_eq_false (show ¬ k < m + 1 by omega)]
        cases cov P L q m <;> cases L m <;> cases pnt P m q <;> rfl
theorem cov_nil {P : Nat → shT} {q : Nat} : ∀ m, cov P (fun _ => false) q m = false
  | 0 => rfl
  | m + 1 => by
    show (cov P (fun _ => false) q m || (false && pnt P m q)) = false
    rw [cov_nil m]; rfl
theorem cov_LS {P : Nat → shT} {o : Nat → Nat} {n q : Nat} (ho : ∀ i, i < n → o i < 6) : ∀ d, d ≤ n → cov P (lsb o n d) q 6 = cvn P o n q d
  | 0, _ => cov_nil 6
  | d + 1, h => by
    rw [cov_or (P := P) (L := lsb o n d) (M := lsb o n (d + 1)) (k := o (n - 1 - d)) (fun b => rfl) 6, cov_LS ho d (by omega), decide_eq_true (ho (n - 1 - d) (by omega)), Bool.true_and]
    rfl
def lsum (P : Nat → shT) (o : Nat → Nat) (n : Nat) : Nat → Nat
  | 0 => 0
  | d + 1 => lsum P o n d + fb_sm (wl P (o (n - 1 - d)) (lsb o n d)) 400
theorem sbn_sum {P : Nat → shT} {o : Nat → Nat} {n : Nat} (ho : ∀ i, i < n → o i < 6) : ∀ d, d ≤ n → fb_sm (fun q => sbn P o n q d) 400 = lsum P o n d
  | 0, _ => sm_nil 400 (fun _ _ => rfl)
  | d + 1, h => by
    show fb_sm (fun q => sbn P o n q d + (if lvs P (o (n - 1 - d)) q && !cvn P o n q d then (P (o (n - 1 - d))).2.2.1 q else 0)) 400 = _
    rw [fb_sm_add, sbn_sum ho d (by omega)]
    show lsum P o n d + _ = lsum P o n d + _
    rw [fb_sm_cong (fun q _ => (show (if lvs P (o (n - 1 - d)) q && !cvn P o n q d then (P (o (n - 1 - d))).2.2.1 q else 0) = wl P (o (n - 1 - d)) (lsb o n d) q by
      unfold wl
      rw [cov_LS ho d (by omega)]))]
/-- the told ones in their order -/
def kk (T : Nat → Bool) (o : Nat → Nat) (i : Nat) : Nat := fa_first (fun k => T (o k) && decide (fb_ct (fun k => T (o k)) k = i)) 6
theorem kk_at {T : Nat → Bool} {o : Nat → Nat} {k : Nat} (hk : k < 6) (hT : T (o k) = true) : kk T o (fb_ct (fun k => T (o k)) k) = k := by
  have h1 : (fun j => T (o j) && decide (fb_ct (fun k => T (o k)) j = fb_ct (fun k => T (o k)) k)) k = true := by
    show (T (o k) && decide (fb_ct (fun k => T (o k)) k = fb_ct (fun k => T (o k)) k)) = true
    rw [hT, decide_eq_true rfl]; rfl
  have hlt : kk T o (fb_ct (fun k => T (o k)) k) < 6 := by
    rcases Nat.lt_or_ge k (kk T o (fb_ct (fun k => T (o k)) k)) with g | g
    · have := fa_first_no _ 6 k g
      exact absurd (h1.symm.trans this) (by decide)
    · omega
  have h2 := fa_first_yes (fun j => T (o j) && decide (fb_ct (fun k => T (o k)) j = fb_ct (fun k => T (o k)) k)) 6 hlt
  rw [Bool.and_eq_true, decide_eq_true_eq] at h2
  exact fb_ct_kth_one (p := fun k => T (o k)) h2.1 hT h2.2
def sg (T : Nat → Bool) (o : Nat → Nat) (i : Nat) : Nat := o (kk T o i)
theorem sg_at {T : Nat → Bool} {o : Nat → Nat} {k : Nat} (hk : k < 6) (hT : T (o k) = true) : sg T o (fb_ct (fun k => T (o k)) k) = o k := by
  unfold sg
  rw [kk_at hk hT]
theorem sg_ok {T : Nat → Bool} {o : Nat → Nat} (ho : okO o) {i : Nat} (hi : i < fb_ct (fun k => T (o k)) 6) : sg T o i < 6 ∧ T (sg T o i) = true := by
  obtain ⟨k, hk, hT, hc⟩ := fb_ct_kth hi
  have hT : T (o k) = true := hT
  have := sg_at hk hT
  rw [hc] at this
  rw [this]
  exact ⟨ho.1 k hk, hT⟩
theorem LS_T {T : Nat → Bool} {o : Nat → Nat} {n : Nat} (ho : ∀ i, i < n → T (o i) = true) : ∀ d, d ≤ n → ∀ b, lsb o n d b = true → T b = true
  | 0, _, b, h => by cases h
  | d + 1, hd, b, h => by
    have h : (lsb o n d b || decide (b = o (n - 1 - d))) = true := h
    rw [Bool.or_eq_true, decide_eq_true_eq] at h
    rcases h with h | h
    · exact LS_T ho d (by omega) b h
    · rw [h]; exact ho _ (by omega)
theorem leftOfOrder_run (X : qz_X) {s : sT} {G : gsT} (h : Rel s G) : rn 243 0 [some (.ref 3), none, none, none, none] [] (mk X s) = some (some (.int (nI (lsum G.2.1.2.1 (sg G.2.1.1 G.2.1.2.2) (fb_ct (fun k => G.2.1.1 (G.2.1.2.2 k)) 6) (fb_ct (fun k => G.2.1.1 (G.2.1.2.2 k)) 6)))), mk X s) := by
  have ho := h.2.2.2.2.1.1.1
  obtain ⟨⟨w, v⟩, ⟨hw, -⟩, e⟩ := it_dn (fun i (x : Int32 × Int32) => rn 243 6 [some (.ref 3), some (.int x.1), some (.int x.2), some (.int (nI i + (-1))), none] [] (mk X s)) (fun i x => x.1 = nI (lsum G.2.1.2.1 (sg G.2.1.1 G.2.1.2.2) (fb_ct (fun k => G.2.1.1 (G.2.1.2.2 k)) 6) (fb_ct (fun k => G.2.1.1 (G.2.1.2.2 k)) 6 - fb_ct (fun k => G.2.1.1 (G.2.1.2.2 k)) i)) ∧ ∀ b, b < 32 → bt x.2 b = lsb (sg G.2.1.1 G.2.1.2.2) (fb_ct (fun k => G.2.1.1 (G.2.1.2.2 k)) 6) (fb_ct (fun k => G.2.1.1 (G.2.1.2.2 k)) 6 - fb_ct (fun k => G.2.1.1 (G.2.1.2.2 k)) i) b) 6 (by
    rintro k ⟨w, v⟩ hk ⟨hw, hv⟩
    dsimp only at hw hv ⊢
    subst hw
    have hok := ho.1 k hk
    have h5 := h.2.2.2.2.1.2.2.1 k hk
    have hS := (isS_pl _ (h.1.1 (G.2.1.2.2 k) (by omega))).1
    have h0 := (h.2.2.2.2.1.2.1 (G.2.1.2.2 k) hok).1
    have hm : fb_ct (fun k => G.2.1.1 (G.2.1.2.2 k)) (k + 1) ≤ fb_ct (fun k => G.2.1.1 (G.2.1.2.2 k)) 6 := fb_ct_mono _ (by omega)
    have hs : fb_ct (fun k => G.2.1.1 (G.2.1.2.2 k)) (k + 1) = fb_ct (fun k => G.2.1.1 (G.2.1.2.2 k)) k + (if G.2.1.1 (G.2.1.2.2 k) then 1 else 0) := rfl
    rw [pk_m1, e_Pile_leftOfOrder_6, if_neg (nI_pos (by omega)), g_N_places, i_N_places hk, h5, g_N_sheets, i_N_sheets hok, g_S_told hS, h0, told_int]
    cases hT : G.2.1.1 (G.2.1.2.2 k)
    · rw [hT, if_neg (by decide), Nat.add_zero] at hs
      rw [hs] at hv
      rw [hs, if_neg (by decide)]
      exact ⟨(_, v), ⟨rfl, hv⟩, rfl⟩
    · rw [hT, if_pos rfl] at hs
      rw [if_pos rfl]
      have htk : tk G (nI (G.2.1.2.2 k)) (G.2.1.2.2 k) := ⟨hok, rfl, hT⟩
      obtain ⟨-, ok, -, -⟩ := tk_P h htk
      have e1 : fb_ct (fun k => G.2.1.1 (G.2.1.2.2 k)) 6 - fb_ct (fun k => G.2.1.1 (G.2.1.2.2 k)) k = (fb_ct (fun k => G.2.1.1 (G.2.1.2.2 k)) 6 - fb_ct (fun k => G.2.1.1 (G.2.1.2.2 k)) (k + 1)) + 1 := by omega
      have e2 : fb_ct (fun k => G.2.1.1 (G.2.1.2.2 k)) 6 - 1 - (fb_ct (fun k => G.2.1.1 (G.2.1.2.2 k)) 6 - fb_ct (fun k => G.2.1.1 (G.2.1.2.2 k)) (k + 1)) = fb_ct (fun k => G.2.1.1 (G.2.1.2.2 k)) k := by omega
      have e3 := sg_at (T := G.2.1.1) (o := G.2.1.2.2) hk hT
      have hl := leftOf_run X h htk (v2 := v) (L := lsb (sg G.2.1.1 G.2.1.2.2) (fb_ct (fun k => G.2.1.1 (G.2.1.2.2 k)) 6) (fb_ct (fun k => G.2.1.1 (G.2.1.2.2 k)) 6 - fb_ct (fun k => G.2.1.1 (G.2.1.2.2 k)) (k + 1))) (fun b hb => hv b (by omega)) (fun b _ hb => LS_T (fun i hi => (sg_ok ho hi).2) _ (by omega) b hb)
      rw [lf_all ok] at hl
      rw [ck_N, hl, r1_s, nI_add, e1]
      refine ⟨(nI (lsum G.2.1.2.1 (sg G.2.1.1 G.2.1.2.2) (fb_ct (fun k => G.2.1.1 (G.2.1.2.2 k)) 6) (fb_ct (fun k => G.2.1.1 (G.2.1.2.2 k)) 6 - fb_ct (fun k => G.2.1.1 (G.2.1.2.2 k)) (k + 1) + 1)), v ||| (nI 1 <<< (nI (G.2.1.2.2 k) &&& 31))), ⟨rfl, fun b hb => ?_⟩, ?_⟩
      · show bt (v ||| (nI 1 <<< (nI (G.2.1.2.2 k) &&& 31))) b = (lsb _ _ _ b || decide (b = sg G.2.1.1 G.2.1.2.2 (fb_ct (fun k => G.2.1.1 (G.2.1.2.2 k)) 6 - 1 - (fb_ct (fun k => G.2.1.1 (G.2.1.2.2 k)) 6 - fb_ct (fun k => G.2.1.1 (G.2.1.2.2 k)) (k + 1)))))
        rw [b_or, hv b hb, b_one _ (by omega) b hb, e2, e3]
      · show _ = rn 243 6 [some (.ref 3), some (.int (nI (lsum G.2.1.2.1 (sg G.2.1.1 G.2.1.2.2) (fb_ct (fun k => G.2.1.1 (G.2.1.2.2 k)) 6) (fb_ct (fun k => G.2.1.1 (G.2.1.2.2 k)) 6 - fb_ct (fun k => G.2.1.1 (G.2.1.2.2 k)) (k + 1)) + fb_sm (wl G.2.1.2.1 (sg G.2.1.1 G.2.1.2.2 (fb_ct (fun k => G.2.1.1 (G.2.1.2.2 k)) 6 - 1 - (fb_ct (fun k => G.2.1.1 (G.2.1.2.2 k)) 6 - fb_ct (fun k => G.2.1.1 (G.2.1.2.2 k)) (k + 1)))) (lsb (sg G.2.1.1 G.2.1.2.2) (fb_ct (fun k => G.2.1.1 (G.2.1.2.2 k)) 6) (fb_ct (fun k => G.2.1.1 (G.2.1.2.2 k)) 6 - fb_ct (fun k => G.2.1.1 (G.2.1.2.2 k)) (k + 1)))) 400))), some (.int (v ||| (nI 1 <<< (nI (G.2.1.2.2 k) &&& 31)))), some (.int (nI k + (-1))), none] [] (mk X s)
        rw [e2, e3]) (x := (nI 0, nI 0)) ⟨by rw [Nat.sub_self]; rfl, fun b hb => by rw [Nat.sub_self, b_n0]; rfl⟩
  dsimp only at hw e
  rw [e_Pile_leftOfOrder_0, show (nI 5 : Int32) = nI 6 + (-1) by decide, e, e_Pile_leftOfOrder_6, if_pos (by decide), hw]
  rfl

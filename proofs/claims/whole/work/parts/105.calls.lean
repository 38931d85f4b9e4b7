/-! a call of the small machine is a call of the model's: by the contract that the shorter runs give -/
def qz_rm (a mc ms : Nat) : Room := { frames := (qz_in a).2.1, cells := mc, slots := ms, locals := (qz_in a).2.2.1 }
def qz_Pc (X : qz_X) (xs : List Value) (w : qz_W) : Array Value → State → Prop := va_Pc (xs.map (qz_v X)) (fun U => U.heap.size = X.2.2.2.1 + w.2.1 ∧ qz_Wd X U.heap w ∧ qz_St X U)
def qz_Qc (X : qz_X) (v : Option Value) (w : qz_W) : Array Value → State → Outcome → State → Prop := fun _ st oc t => oc = .returned (v.map (qz_v X)) ∧ qz_Wd X t.heap w ∧ va_F (qz_A X) st t
def qz_wm (a : Nat) : List Cond := Cond.code (qz_in a).1.1 (qz_in a).1.2.1 (qz_in a).1.2.2.1 (qz_in a).1.2.2.2 :: qz_TW
theorem qz_lg_len (X : qz_X) : ∀ (xs : List Value), (lg_sl (xs.map (qz_v X))).length = qz_cat xs
  | [] => rfl
  | v :: xs => by
    have ih := qz_lg_len X xs
    unfold lg_sl at ih ⊢
    rw [List.map_cons, List.flatMap_cons, List.length_append, ih, qz_v_cat]
    show _ = v.category + qz_cat xs
    congr 1
    cases v <;> rfl
theorem qz_pl_none (X : qz_X) : ∀ (n i : Nat), qz_pl X i (List.replicate n none) = []
  | 0, _ => rfl
  | n + 1, i => by
    show qz_pl X (i + 1) (List.replicate n none) = []
    exact qz_pl_none X n (i + 1)
theorem qz_pl_sl (X : qz_X) (pad : Nat) : ∀ (xs : List Value) (i : Nat), qz_pl X i (qz_sl xs pad) = lv_args i (xs.map (qz_v X))
  | [], i => qz_pl_none X pad i
  | .long x :: xs, i => by
    show (i, _) :: qz_pl X (i + 2) (qz_sl xs pad) = (i, _) :: lv_args (i + 2) (xs.map (qz_v X))
    rw [qz_pl_sl X pad xs]
  | .double x :: xs, i => by
    show (i, _) :: qz_pl X (i + 2) (qz_sl xs pad) = (i, _) :: lv_args (i + 2) (xs.map (qz_v X))
    rw [qz_pl_sl X pad xs]
  | .int x :: xs, i => by
    show (i, _) :: qz_pl X (i + 1) (qz_sl xs pad) = (i, _) :: lv_args (i + 1) (xs.map (qz_v X))
    rw [qz_pl_sl X pad xs]
  | .float x :: xs, i => by
    show (i, _) :: qz_pl X (i + 1) (qz_sl xs pad) = (i, _) :: lv_args (i + 1) (xs.map (qz_v X))
    rw [qz_pl_sl X pad xs]
  | .null :: xs, i => by
    show (i, _) :: qz_pl X (i + 1) (qz_sl xs pad) = (i, _) :: lv_args (i + 1) (xs.map (qz_v X))
    rw [qz_pl_sl X pad xs]
  | .ref x :: xs, i => by
    show (i, _) :: qz_pl X (i + 1) (qz_sl xs pad) = (i, _) :: lv_args (i + 1) (xs.map (qz_v X))
    rw [qz_pl_sl X pad xs]
  | .retAddr x :: xs, i => by
    show (i, _) :: qz_pl X (i + 1) (qz_sl xs pad) = (i, _) :: lv_args (i + 1) (xs.map (qz_v X))
    rw [qz_pl_sl X pad xs]
set_option maxHeartbeats 1000000 in
theorem qz_met {X : qz_X} {l : Launch} {f a pad : Nat} (ih : qz_IH X l f) {xs : List Value} {w w1 : qz_W} {v1 : Option Value} (hvm : qz_vm a) (hpl : plainName (qz_in a).1.1.cls = true) (hslots : qz_cat xs ≤ (qz_in a).1.2.2.1) (g5 : qz_x qz_cd f a 0 (qz_sl xs pad) [] w = some (v1, w1)) (hold : w1.2.1 ≤ qz_old) :
    Met l (qz_in a).1.1 (qz_wm a) (qz_rm a (w1.2.1 - w.2.1) (w1.2.2 - w.2.2)) (qz_Pc X xs w) (qz_Qc X v1 w1) (w1.2.1 - w.2.1) (w1.2.2 - w.2.2) (qz_A X) := by
  refine Met.ofW (cc := (qz_in a).1.2.1) (maxL := (qz_in a).1.2.2.1) (ret := (qz_in a).1.2.2.2) hpl rfl ?_
  intro p e s m args below meth c s₁ B hml hv
  obtain ⟨rfl, hsz, hW, hSt⟩ := hv
  have hts := atoms_spec (ws := qz_wm a) B.pre
  have hown := findClass_of_methodNamed B.named
  have hnm := (name_of_methodNamed B.named B.method).1
  have hL := lv_entry (xs.map (qz_v X)) (n := (qz_in a).1.2.2.1) (by rw [qz_lg_len]; exact hslots)
  rw [lg_entry_eq]
  generalize (lg_sl (xs.map (qz_v X)) ++ List.replicate ((qz_in a).1.2.2.1 - (lg_sl (xs.map (qz_v X))).length) Slot.unset).toArray = ls at hL ⊢
  rw [← qz_pl_sl X pad xs 0, ← hml] at hL
  have hF : qz_Fr X l a p e (headSpec (qz_wm a) (qz_rm a (w1.2.1 - w.2.1) (w1.2.2 - w.2.2))).room s m (xs.map (qz_v X)).toArray below meth c w.2.1 w.2.2 v1 w1 (MQ below (qz_Qc X v1 w1) (xs.map (qz_v X)).toArray s (w1.2.1 - w.2.1) (w1.2.2 - w.2.2) (qz_A X)) := by
    refine ⟨⟨B.exec, B.bytes, B.returns, B.notSynchronized, hml, by rw [← hvm.2.2.2.2.1]; exact hown, fun w hw => hts w (List.mem_cons_of_mem _ hw), hSt, fun hk => ?_, Nat.le_refl _, Nat.le_refl _⟩, hsz, Nat.le_refl _, Nat.le_refl _, fun pc ls H locs hre hW1 hS1 => ?_⟩
    · rcases hvm.2.2.2.2.2 with ⟨h, -⟩ | ⟨h, -⟩ | ⟨-, -, h, -⟩
      · omega
      · omega
      · rw [hnm]; exact h
    · rcases hre with ⟨x, ty, rfl, hd, hrt, hn⟩ | ⟨x, rfl, hd, hrt⟩ | ⟨x, rfl, hx, hd, hrt⟩ | ⟨rfl, hd, hrt⟩
      · exact W.zret B.exec B.bytes (B.returns.trans hrt) hn (fun t ht _ => ⟨rfl, by rw [ht]; exact hW1, hS1.F ht⟩) hS1.2.2 hd B.notSynchronized
      · exact W.lret B.exec B.bytes (B.returns.trans hrt) (fun t ht _ => ⟨rfl, by rw [ht]; exact hW1, hS1.F ht⟩) hS1.2.2 hd B.notSynchronized
      · refine W.aret B.exec B.bytes (B.returns.trans hrt) (Or.inl ⟨_, rfl⟩) ?_ (fun t ht _ => ⟨rfl, by rw [ht]; exact hW1, hS1.F ht⟩) hS1.2.2 hd B.notSynchronized
        rcases hx with rfl | ⟨q, rfl⟩
        · exact Or.inl rfl
        · exact Or.inr ⟨_, rfl⟩
      · exact W.vret B.exec B.bytes (B.returns.trans hrt) (fun t ht _ => ⟨rfl, by rw [ht]; exact hW1, hS1.F ht⟩) hS1.2.2 hd B.notSynchronized
  have := ih a 0 (qz_sl xs pad) [] w v1 w1 g5 hold p e _ s m _ below meth c w.2.1 w.2.2 _ hF s.heap [] ls ⟨hW, va_S.rf, hL, Nat.le_refl _, Nat.le_refl _⟩
  rw [Nat.sub_self, Nat.sub_self] at this
  exact this
theorem qz_math : ∀ a, a < 296 → (qz_in a).1.1.cls = "java/lang/Math" → a = 136 ∨ a = 162 ∨ a = 260 := by decide +kernel
theorem qz_good (a : Nat) (hvm : qz_vm a) : GoodIn qz_TW (qz_wm a) := by
  intro w hw
  rcases List.mem_cons.mp hw with rfl | hw
  · exact ⟨qz_tw hvm.1 rfl, good_of_word rfl⟩
  · exact ⟨hw, good_of_word (List.mem_filter.mp hw).2⟩
theorem qz_good_cons {w : Cond} {ws : List Cond} (h : w ∈ qz_TW) (hs : GoodIn qz_TW ws) : GoodIn qz_TW (w :: ws) := by
  intro u hu
  rcases List.mem_cons.mp hu with rfl | hu
  · exact ⟨h, good_of_word (List.mem_filter.mp h).2⟩
  · exact hs u hu
theorem qz_mi_c : Cond.code Lib.Math.min.name Lib.Math.min.code 2 (some .int) ∈ tables_1 ∧ Cond.static Lib.Math.min.name ∈ tables_1 := ⟨tm_4 (List.mem_of_getElem? (i := 99) (by decide +kernel)), tm_4 (List.mem_of_getElem? (i := 98) (by decide +kernel))⟩
theorem qz_ma_c : Cond.code Lib.Math.max.name Lib.Math.max.code 2 (some .int) ∈ tables_1 ∧ Cond.static Lib.Math.max.name ∈ tables_1 := ⟨tm_4 (List.mem_of_getElem? (i := 141) (by decide +kernel)), tm_4 (List.mem_of_getElem? (i := 140) (by decide +kernel))⟩
theorem qz_ml_c : Cond.code Lib.MathLoose.min_long.x Lib.MathLoose.min_long.code 4 (some .long) ∈ tables_1 ∧ Cond.static Lib.MathLoose.min_long.x ∈ tables_1 := ⟨tm_5 (List.mem_of_getElem? (i := 172) (by decide +kernel)), tm_5 (List.mem_of_getElem? (i := 171) (by decide +kernel))⟩
theorem qz_mat_i : Cond.initialized "java/lang/Math" ∈ tables_1 := tm_1 (List.mem_of_getElem? (i := 21) (by decide +kernel))
theorem qz_oc_lt : ∀ a, a < 296 → (qz_in a).2.2.2.1 < 19 := by decide +kernel
theorem qz_nm_136 : (qz_in 136).1.1 = Lib.Math.min.name := by decide +kernel
theorem qz_nm_162 : (qz_in 162).1.1 = Lib.Math.max.name := by decide +kernel
theorem qz_nm_260 : (qz_in 260).1.1 = Lib.MathLoose.min_long.x := by decide +kernel
theorem qz_mh_no : ∀ q ∈ qz_mh, q.2.2 ≠ 136 ∧ q.2.2 ≠ 162 ∧ q.2.2 ≠ 260 := by decide +kernel
theorem qz_lcmp_pos (x y : Int64) : (0 < lg_cmp x y) ↔ y < x := by
  unfold lg_cmp
  by_cases h : x > y
  · rw [if_pos h]; exact ⟨fun _ => h, fun _ => by decide⟩
  · rw [if_neg h]
    by_cases h2 : x = y
    · rw [if_pos h2]; exact ⟨fun a => absurd a (by decide), fun a => absurd a h⟩
    · rw [if_neg h2]; exact ⟨fun a => absurd a (by decide), fun a => absurd a h⟩
section QZD
variable {X : qz_X} {l : Launch} {m : Nat} {p : Program} {e : Env} {R : Room} {s : State} {mid : MethodId} {args : Array Value} {below : List Frame} {meth : Method} {c : Code} {n0 s0 : Nat} {v0 : Option Value} {w' : qz_W} {Qf Q : State → Prop} {H : Heap} {locs : List Loc} {cells slots : Nat} {w : qz_W} {pc : Nat} {ls : Array Slot} {t : List Value}
theorem qz_after {a : Array Value} {mc ms : Nat} {st0 rest : List Value} {v1 : Option Value} {w1 : qz_W} (hr : va_Run p l e R s mid args below meth c H locs cells slots mc ms (F0 mid pc ls st0) rest (qz_Qc X v1 w1 a) (qz_A X)) (hS : va_S (qz_A X) s.heap H locs)
    (kk : ∀ (H1 : Heap) (locs1 : List Loc), qz_Wd X H1 w1 → va_S (qz_A X) s.heap H1 locs1 → W p l e R s mid args below meth c H1 locs1 (cells + mc) (slots + ms) Q (F0 mid (pc + 3) ls ((v1.map (qz_v X)).toList ++ rest))) : W p l e R s mid args below meth c H locs cells slots Q (F0 mid pc ls st0) := by
  intro T hT X0
  obtain ⟨v, st₀, u, T', L, h0, X1, hL, e1, e2, ⟨hv, hw, hz, hk⟩, st⟩ := hr T hT X0
  have hv : v = v1.map (qz_v X) := by cases hv; rfl
  subst hv
  rw [h0] at hz hk
  obtain ⟨t2, a1, b1⟩ := kk T'.heap (locs ++ L) (by rw [e1]; exact hw) ⟨Nat.le_trans hS.1 (by rw [e1]; exact hz), fun q h1 h2 => by rw [e1, hk q (Nat.lt_of_lt_of_le h1 hS.1) h2]; exact hS.2.1 q h1 h2, fun q hq => by
    rcases List.mem_append.mp hq with h | h
    · exact hS.2.2 q h
    · exact hL q h⟩ T' rfl X1
  exact ⟨t2, st t2 a1, b1⟩
theorem qz_recv {o ci : Nat} {fs : List Value} (hSt : qz_St X s) (hW : qz_Wd X H w) (hS : va_S (qz_A X) s.heap H locs) (hw : w.1 o = .inr (ci, fs)) (hci : ci < 14) : ∃ cell : Cell, H[qz_ad X o]? = some cell ∧ cell.vm.isStatics = false ∧ s.vm.findClass (qz_gd "" qz_on ci) = some cell.cls := by
  rcases Nat.lt_or_ge ci 13 with h | h
  · have ho := qz_obj_in hW hw h
    obtain ⟨r, hr1⟩ := qz_cl_lt h
    obtain ⟨ty, ⟨o1, -⟩, -⟩ := qz_okcs ci r hr1
    have ha := qz_ws_at (X := X) ho
    rw [hw] at ha
    rw [qz_ad_in hW ho, qz_on_cn ci h, qz_gd_at _ _ _ o1]
    exact va_recv hSt.1 hW.1 hr1 ha
  · have hci : ci = 13 := by omega
    subst hci
    have ho : ¬ o < w.2.1 := by
      intro ho
      have h1 := hW.1 o _ (qz_ws_at ho)
      rw [hw] at h1
      obtain ⟨r, h2, -⟩ := h1
      have := qz_cl_ge h2
      omega
    obtain ⟨i, rfl, hi, hoc⟩ := qz_old_at hW ho (by rw [hw]; exact fun z => by cases z)
    rw [hw] at hoc
    match i, hi, hoc with
    | 0, _, h => cases h
    | 1, _, h => cases h
    | 2, _, h => cases h
    | 3, _, _ =>
      rw [qz_ad_old]
      obtain ⟨cell, h1, h2, h3, -⟩ := hSt.2.2.2.2.2.2.2.2.2.2.2.2.1.kept hS.2.1
      exact ⟨cell, h1, h2, h3⟩
    | 4, _, h => cases h
theorem qz_int_of {P : Nat → qz_B} {k : Nat} {L : qz_L} (hP : qz_lk (P k) 0 = some (qa (.iload_n 0) 1)) {w : qz_W} {r : qz_R} (h : qz_run P k 0 L [] w = some r) : ∃ x, qz_at L 0 = some (some (.int x)) := by
  rw [qz_run_step] at h
  unfold qz_G at h
  rw [hP] at h
  obtain ⟨x, h1, -⟩ := qz_li_i h
  exact ⟨x, h1⟩
set_option maxHeartbeats 2000000 in
set_option maxRecDepth 20000 in
theorem qz_call_ok {f a b j pad kd : Nat} {L : qz_L} {st xs : List Value} {v1 : Option Value} {w1 : qz_W} (ih : qz_IH X l f) (hF : qz_Fr X l m p e R s mid args below meth c n0 s0 v0 w' Qf) (hW : qz_Wd X H w) (hS : va_S (qz_A X) s.heap H locs) (hL : lv_has ls c.maxLocals (qz_pl X 0 L)) (hn0 : n0 ≤ w.2.1) (hs0 : s0 ≤ w.2.2) (hold : w'.2.1 ≤ qz_old) (hk : qz_cok m j a b kd = true) (g1 : st = xs.reverse ++ t) (g2 : xs.length = b) (g3 : qz_cat t ≤ 8) (g3b : qz_cat xs + pad ≤ (qz_in a).1.2.2.1)
    (g4 : kd ≠ 0 → ∃ o ys fs, xs = .ref o :: ys ∧ w.1 o = .inr ((qz_in a).2.2.2.1, fs)) (g5 : qz_x qz_cd f a 0 (qz_sl xs pad) [] w = some (v1, w1)) (hgr : w1.2.1 ≤ w'.2.1 ∧ w1.2.2 ≤ w'.2.2)
    (hd : (kd = 1 ∧ decode (qz_in m).1.2.1 pc = .ok (.invokevirtual j, 3)) ∨ (kd = 2 ∧ decode (qz_in m).1.2.1 pc = .ok (.invokespecial j, 3)) ∨ (kd = 0 ∧ decode (qz_in m).1.2.1 pc = .ok (.invokestatic j, 3)))
    (kk : ∀ (H1 : Heap) (locs1 : List Loc), qz_Wd X H1 w1 → va_S (qz_A X) s.heap H1 locs1 → n0 ≤ w1.2.1 → s0 ≤ w1.2.2 → W p l e R s mid args below meth c H1 locs1 (w1.2.1 - n0) (w1.2.2 - s0) Q (F0 mid (pc + 3) ls ((v1.toList ++ t).map (qz_v X)))) : W p l e R s mid args below meth c H locs (w.2.1 - n0) (w.2.2 - s0) Q (F0 mid pc ls (st.map (qz_v X))) := by
  obtain ⟨⟨hx, hb, hr, hlk, hml, hown, hts, hSt, hin, hfr, hlo⟩, hz, hce, hsl, -⟩ := hF
  unfold qz_cok at hk
  simp only [Bool.and_eq_true, Bool.or_eq_true, decide_eq_true_eq] at hk
  obtain ⟨⟨⟨⟨⟨⟨⟨hlink, h40⟩, h1f⟩, ha⟩, hkd⟩, hb2⟩, hfr2⟩, hlo2⟩ := hk
  have hvm := qz_vms a ha
  have hg0 := qz_x_gr qz_cd f _ _ _ _ _ _ g5
  dsimp only at hg0
  have hrm : (qz_rm a (w1.2.1 - w.2.1) (w1.2.2 - w.2.2)).frames + 1 ≤ R.frames ∧ 8 + ((qz_in a).1.2.2.1 + 11) + (qz_rm a (w1.2.1 - w.2.1) (w1.2.2 - w.2.2)).locals ≤ R.locals := ⟨Nat.le_trans hfr2 hfr, Nat.le_trans hlo2 hlo⟩
  have hroom : w.2.1 - n0 + (w1.2.1 - w.2.1) ≤ R.cells ∧ w.2.2 - s0 + (w1.2.2 - w.2.2) ≤ R.slots := ⟨by omega, by omega⟩
  have hc8 : ((t.map (qz_v X)).map fun v => v.category).sum ≤ 8 := by rw [qz_cat_sum]; exact g3
  have kk2 : ∀ (H1 : Heap) (locs1 : List Loc), qz_Wd X H1 w1 → va_S (qz_A X) s.heap H1 locs1 → W p l e R s mid args below meth c H1 locs1 (w.2.1 - n0 + (w1.2.1 - w.2.1)) (w.2.2 - s0 + (w1.2.2 - w.2.2)) Q (F0 mid (pc + 3) ls ((v1.map (qz_v X)).toList ++ t.map (qz_v X))) := by
    intro H1 locs1 hW1 hS1
    have := kk H1 locs1 hW1 hS1 (by omega) (by omega)
    refine W.cs (cells' := w1.2.1 - n0) (slots' := w1.2.2 - s0) (by omega) (by omega) ?_
    cases v1 <;> exact this
  rcases hvm.2.2.1 with hpl | hmath
  · refine qz_size fun hsz => ?_
    have hHs : H.size = X.2.2.2.1 + w.2.1 := by
      have hup : H.size ≤ X.2.2.2.1 + w.2.1 := by omega
      have hlow : X.2.2.2.1 + w.2.1 ≤ H.size := by
        rcases Nat.lt_or_ge n0 w.2.1 with h | h
        · have := (hW.1 (w.2.1 - 1) _ (qz_ws_at (show w.2.1 - 1 < w.2.1 by omega))).lt
          dsimp only at this
          omega
        · have := hS.1
          omega
      omega
    have hM := qz_met (X := X) (l := l) ih hvm hpl (Nat.le_trans (Nat.le_add_right _ _) g3b) g5 (Nat.le_trans hgr.1 hold)
    have hG := qz_good a hvm
    have hblind : FrameBlind (qz_Pc X xs w) := fun a' U g mk q => ⟨q.1, q.2.1, q.2.2.1, q.2.2.2.to (U := U.calling g mk a') (State.WarmedH.refl U) (fun _ _ _ => rfl)⟩
    have hPre : ∀ U : State, U.heap = H → s.WarmedH U.vm → qz_Pc X xs w (xs.map (qz_v X)).toArray U := fun U hU hWm => ⟨rfl, by rw [hU]; exact hHs, by rw [hU]; exact hW, hSt.to hWm (fun q h1 h2 => by rw [hU]; exact hS.2.1 q h1 h2)⟩
    have hini : Cond.initialized (qz_in a).1.1.cls ∈ qz_TW := qz_tw hvm.2.1 rfl
    rcases hd with ⟨rfl, hd⟩ | ⟨rfl, hd⟩ | ⟨rfl, hd⟩
    · obtain ⟨o, ys, fs, rfl, hw⟩ := g4 (by decide)
      have hinst : Cond.instanceMethod (qz_in a).1.1 ∈ qz_TW ∧ Cond.selects (qz_in a).1.1.cls (qz_in a).1.1 (qz_in a).1.1 ∈ qz_TW := by
        rcases hvm.2.2.2.2.2 with ⟨h, -⟩ | ⟨-, h1, h2⟩ | ⟨h, -⟩
        · omega
        · exact ⟨qz_tw h1 rfl, List.mem_filter.mpr ⟨h2, rfl⟩⟩
        · omega
      have hci : (qz_in a).2.2.2.1 < 14 := by
        rcases Nat.lt_or_ge (qz_in a).2.2.2.1 14 with h | h
        · exact h
        · exfalso
          by_cases ho : o < w.2.1
          · have h1 := hW.1 o _ (qz_ws_at ho)
            rw [hw] at h1
            obtain ⟨r, h2, -⟩ := h1
            have := qz_cl_ge h2
            omega
          · by_cases hjk : w.1 o = qz_jk
            · rw [hw] at hjk
              have h999 : (qz_in a).2.2.2.1 = 999 := by
                have := congrArg (fun e : qz_E => match e with | .inr (c, _) => c | _ => 0) hjk
                exact this
              have := qz_oc_lt a ha
              omega
            · obtain ⟨i, rfl, hi, hoc⟩ := qz_old_at hW ho hjk
              rw [hw] at hoc
              match i, hi, hoc with
              | 0, _, h => cases h
              | 1, _, h => cases h
              | 2, _, h => cases h
              | 3, _, h0 =>
                have := congrArg (fun e : qz_E => match e with | .inr (c, _) => c | _ => 0) h0
                have h13 : (qz_in a).2.2.2.1 = 13 := this
                omega
              | 4, _, h => cases h
      have hrecv := qz_recv hSt hW hS hw hci
      rw [← hvm.2.2.2.2.1] at hrecv
      have hst : st.map (qz_v X) = (ys.map (qz_v X)).reverse ++ .ref (qz_ad X o) :: t.map (qz_v X) := by
        rw [g1]
        simp [List.map_reverse, qz_v]
      have hnl : (ys.map (qz_v X)).length = (qz_in a).2.2.2.2.2 := by
        rw [List.length_map]
        have : ys.length + 1 = b := g2
        rw [hb2] at this
        simpa using this
      rcases hlink with hlink | hlink
      · have cw := cwV (R := R) (s := s) (args := args) (C := (qz_in a).1.1.cls) (mc := w1.2.1 - w.2.1) (ms := w1.2.2 - w.2.2) (rm := qz_rm a (w1.2.1 - w.2.1) (w1.2.2 - w.2.2)) (qz_in a).2.2.2.2.2 hts (own := qz_gd "" qz_on (qz_in m).2.2.2.1) (index := j) (y := (qz_in a).1.1) (ws := qz_wm a) (qz_good_cons (qz_tw (qz_ml_ok _ hlink) rfl) (qz_good_cons hinst.1 (qz_good_cons hinst.2 (qz_good_cons hini hG)))) rfl rfl rfl ⟨rfl, hvm.2.2.2.1⟩ hrm
        rw [hst]
        exact qz_after (va_runV (b := qz_ad X o) (As := ys.map (qz_v X)) (rest := t.map (qz_v X)) ⟨hx, hb, hml, hown, hts⟩ hM cw ⟨hblind, hrecv, hPre⟩ rfl hnl (hL.1.trans hml) rfl (lv_room hc8) hd hroom) hS kk2
      · have cw := va_cnB (R := R) (s := s) (args := args) (mc := w1.2.1 - w.2.1) (ms := w1.2.2 - w.2.2) (rm := qz_rm a (w1.2.1 - w.2.1) (w1.2.2 - w.2.2)) (qz_in a).2.2.2.2.2 hts hG rfl rfl rfl (hSt.2.1 _ hlink) (hts _ hini) hvm.2.2.2.1 hrm
        rw [hst]
        exact qz_after (va_runVN (b := qz_ad X o) (As := ys.map (qz_v X)) (rest := t.map (qz_v X)) ⟨hx, hb, hml, hown, hts⟩ hM ⟨cw, hts _ hinst.1, hts _ hinst.2⟩ ⟨hblind, hrecv, hPre⟩ rfl hnl (hL.1.trans hml) rfl (lv_room hc8) hd hroom) hS kk2
    · obtain ⟨o, ys, fs, rfl, hw⟩ := g4 (by decide)
      have hinst : Cond.instanceMethod (qz_in a).1.1 ∈ qz_TW ∧ (qz_in a).1.1.name = "<init>" ∧ (qz_in a).1.2.2.2 = none := by
        rcases hvm.2.2.2.2.2 with ⟨h, -⟩ | ⟨h, -⟩ | ⟨-, h1, h2, h3⟩
        · omega
        · omega
        · exact ⟨qz_tw h1 rfl, h2, h3⟩
      have hst : st.map (qz_v X) = (ys.map (qz_v X)).reverse ++ .ref (qz_ad X o) :: t.map (qz_v X) := by
        rw [g1]
        simp [List.map_reverse, qz_v]
      have hnl : (ys.map (qz_v X)).length = (qz_in a).2.2.2.2.2 := by
        rw [List.length_map]
        have : ys.length + 1 = b := g2
        rw [hb2] at this
        simpa using this
      have hwm : qz_wm a = Cond.code (qz_in a).1.1 (qz_in a).1.2.1 (qz_in a).1.2.2.1 none :: qz_TW := by
        unfold qz_wm
        rw [hinst.2.2]
      rcases hlink with hlink | hlink
      · have cw := cwI (R := R) (s := s) (args := args) (mc := w1.2.1 - w.2.1) (ms := w1.2.2 - w.2.2) (rm := qz_rm a (w1.2.1 - w.2.1) (w1.2.2 - w.2.2)) (qz_in a).2.2.2.2.2 hts hG hwm rfl rfl (hts _ hini) (hts _ (qz_tw (qz_ml_ok _ hlink) rfl)) (hts _ hinst.1) hinst.2.1 hvm.2.2.2.1 hrm
        rw [hst]
        exact qz_after (va_runI (b := qz_ad X o) (As := ys.map (qz_v X)) (rest := t.map (qz_v X)) ⟨hx, hb, hml, hown, hts⟩ hM cw ⟨hblind, hPre⟩ rfl hnl (hL.1.trans hml) rfl (lv_room hc8) hd hroom) hS kk2
      · have cw := va_cnB (R := R) (s := s) (args := args) (mc := w1.2.1 - w.2.1) (ms := w1.2.2 - w.2.2) (rm := qz_rm a (w1.2.1 - w.2.1) (w1.2.2 - w.2.2)) (qz_in a).2.2.2.2.2 hts hG hwm rfl rfl (hSt.2.1 _ hlink) (hts _ hini) hvm.2.2.2.1 hrm
        rw [hst]
        exact qz_after (va_runIN (b := qz_ad X o) (As := ys.map (qz_v X)) (rest := t.map (qz_v X)) ⟨hx, hb, hml, hown, hts⟩ hM ⟨cw, hinst.2.1, hts _ hinst.1⟩ ⟨hblind, hPre⟩ rfl hnl (hL.1.trans hml) rfl (lv_room hc8) hd hroom) hS kk2
    · have hstat : Cond.static (qz_in a).1.1 ∈ qz_TW := by
        rcases hvm.2.2.2.2.2 with ⟨-, h⟩ | ⟨h, -⟩ | ⟨h, -⟩
        · exact qz_tw h rfl
        · omega
        · omega
      have hst : st.map (qz_v X) = (xs.map (qz_v X)).reverse ++ t.map (qz_v X) := by
        rw [g1]
        simp [List.map_reverse]
      have hnl : (xs.map (qz_v X)).length = (qz_in a).2.2.2.2.2 := by
        rw [List.length_map, g2, hb2]
        simp
      rcases hlink with hlink | hlink
      · have cw := va_cwS (R := R) (s := s) (args := args) (mc := w1.2.1 - w.2.1) (ms := w1.2.2 - w.2.2) (rm := qz_rm a (w1.2.1 - w.2.1) (w1.2.2 - w.2.2)) (qz_in a).2.2.2.2.2 hts (own := qz_gd "" qz_on (qz_in m).2.2.2.1) (index := j) (y := (qz_in a).1.1) (ws := qz_wm a) (qz_good_cons (qz_tw (qz_ml_ok _ hlink) rfl) (qz_good_cons hstat (qz_good_cons hini hG))) rfl rfl rfl hvm.2.2.2.1 hrm
        rw [hst]
        exact qz_after (va_runS (As := xs.map (qz_v X)) (rest := t.map (qz_v X)) ⟨hx, hb, hml, hown, hts⟩ hM cw ⟨hblind, hPre⟩ rfl hnl (hL.1.trans hml) rfl (lv_room hc8) hd hroom) hS kk2
      · have cw := va_cnB (R := R) (s := s) (args := args) (mc := w1.2.1 - w.2.1) (ms := w1.2.2 - w.2.2) (rm := qz_rm a (w1.2.1 - w.2.1) (w1.2.2 - w.2.2)) (qz_in a).2.2.2.2.2 hts hG rfl rfl rfl (hSt.2.1 _ hlink) (hts _ hini) hvm.2.2.2.1 hrm
        rw [hst]
        exact qz_after (va_runSN (As := xs.map (qz_v X)) (rest := t.map (qz_v X)) ⟨hx, hb, hml, hown, hts⟩ hM ⟨cw, hts _ hstat, trivial⟩ ⟨hblind, hPre⟩ rfl hnl (hL.1.trans hml) rfl (lv_room hc8) hd hroom) hS kk2
  · rcases qz_math a ha hmath with rfl | rfl | rfl
    · have hk0 : kd = 0 := hkd.symm.trans rfl
      subst hk0
      have hl2 : xs.length = 2 := by rw [g2, hb2]; rfl
      have hdd : decode (qz_in m).1.2.1 pc = .ok (.invokestatic j, 3) := by
        rcases hd with ⟨h, -⟩ | ⟨h, -⟩ | ⟨-, h⟩
        · cases h
        · cases h
        · exact h
      have hli : ((qz_in m).2.2.2.1, j, 136) ∈ qz_ml := by
        rcases hlink with h | h
        · exact h
        · exact absurd rfl (qz_mh_no _ h).1
      have hrun : qz_run qz_cd 136 0 (qz_sl xs pad) [] w = some (v1, w1) := (qz_run_iff qz_cd).mpr ⟨f, g5⟩
      match xs, hl2 with
      | [.int x, .int y], _ =>
        have ev : qz_run qz_cd 136 0 (qz_sl [.int x, .int y] pad) [] w = (if y < x then some (some (.int y), w) else some (some (.int x), w)) := (qz_blk qz_cd [] 8 136 0 _ _ _).trans rfl
        have ev2 : some (v1, w1) = (some (some (.int (if y < x then y else x)), w) : Option qz_R) := by
          rw [← hrun, ev]
          split <;> rfl
        obtain ⟨rfl, rfl⟩ := Prod.mk.inj (Option.some.inj ev2)
        subst g1
        have hl3 : Cond.methodLink (qz_gd "" qz_on (qz_in m).2.2.2.1) j Lib.Math.min.name ∈ tables_1 := by
          have h := qz_ml_ok _ hli
          unfold qz_mlw at h
          dsimp only at h
          rw [qz_nm_136] at h
          exact h
        show W _ _ _ _ _ _ _ _ _ _ _ _ _ _ _ (F0 mid pc ls (.int y :: .int x :: t.map (qz_v X)))
        refine va_mmin (rest := t.map (qz_v X)) hx hb hL.1.symm hown (hts _ (qz_tw hl3 rfl)) (hts _ (qz_tw qz_mi_c.2 rfl)) (hts _ (qz_tw qz_mat_i rfl)) (hts _ (qz_tw qz_mi_c.1 rfl)) (by omega) (by omega) (by omega) (by omega) hdd ?_
        exact kk H locs hW hS hn0 hs0
      | [.long a1, y0], _ =>
        have ev : qz_run qz_cd 136 0 (qz_sl [.long a1, y0] pad) [] w = none := (qz_blk qz_cd [] 8 136 0 _ _ _).trans rfl
        rw [ev] at hrun
        cases hrun
      | [.float a1, y0], _ =>
        have ev : qz_run qz_cd 136 0 (qz_sl [.float a1, y0] pad) [] w = none := (qz_blk qz_cd [] 8 136 0 _ _ _).trans rfl
        rw [ev] at hrun
        cases hrun
      | [.double a1, y0], _ =>
        have ev : qz_run qz_cd 136 0 (qz_sl [.double a1, y0] pad) [] w = none := (qz_blk qz_cd [] 8 136 0 _ _ _).trans rfl
        rw [ev] at hrun
        cases hrun
      | [.null, y0], _ =>
        have ev : qz_run qz_cd 136 0 (qz_sl [.null, y0] pad) [] w = none := (qz_blk qz_cd [] 8 136 0 _ _ _).trans rfl
        rw [ev] at hrun
        cases hrun
      | [.ref a1, y0], _ =>
        have ev : qz_run qz_cd 136 0 (qz_sl [.ref a1, y0] pad) [] w = none := (qz_blk qz_cd [] 8 136 0 _ _ _).trans rfl
        rw [ev] at hrun
        cases hrun
      | [.retAddr a1, y0], _ =>
        have ev : qz_run qz_cd 136 0 (qz_sl [.retAddr a1, y0] pad) [] w = none := (qz_blk qz_cd [] 8 136 0 _ _ _).trans rfl
        rw [ev] at hrun
        cases hrun
      | [.int x0, .long a1], _ =>
        have ev : qz_run qz_cd 136 0 (qz_sl [.int x0, .long a1] pad) [] w = none := (qz_blk qz_cd [] 8 136 0 _ _ _).trans rfl
        rw [ev] at hrun
        cases hrun
      | [.int x0, .float a1], _ =>
        have ev : qz_run qz_cd 136 0 (qz_sl [.int x0, .float a1] pad) [] w = none := (qz_blk qz_cd [] 8 136 0 _ _ _).trans rfl
        rw [ev] at hrun
        cases hrun
      | [.int x0, .double a1], _ =>
        have ev : qz_run qz_cd 136 0 (qz_sl [.int x0, .double a1] pad) [] w = none := (qz_blk qz_cd [] 8 136 0 _ _ _).trans rfl
        rw [ev] at hrun
        cases hrun
      | [.int x0, .null], _ =>
        have ev : qz_run qz_cd 136 0 (qz_sl [.int x0, .null] pad) [] w = none := (qz_blk qz_cd [] 8 136 0 _ _ _).trans rfl
        rw [ev] at hrun
        cases hrun
      | [.int x0, .ref a1], _ =>
        have ev : qz_run qz_cd 136 0 (qz_sl [.int x0, .ref a1] pad) [] w = none := (qz_blk qz_cd [] 8 136 0 _ _ _).trans rfl
        rw [ev] at hrun
        cases hrun
      | [.int x0, .retAddr a1], _ =>
        have ev : qz_run qz_cd 136 0 (qz_sl [.int x0, .retAddr a1] pad) [] w = none := (qz_blk qz_cd [] 8 136 0 _ _ _).trans rfl
        rw [ev] at hrun
        cases hrun
    · have hk0 : kd = 0 := hkd.symm.trans rfl
      subst hk0
      have hl2 : xs.length = 2 := by rw [g2, hb2]; rfl
      have hdd : decode (qz_in m).1.2.1 pc = .ok (.invokestatic j, 3) := by
        rcases hd with ⟨h, -⟩ | ⟨h, -⟩ | ⟨-, h⟩
        · cases h
        · cases h
        · exact h
      have hli : ((qz_in m).2.2.2.1, j, 162) ∈ qz_ml := by
        rcases hlink with h | h
        · exact h
        · exact absurd rfl (qz_mh_no _ h).2.1
      have hrun : qz_run qz_cd 162 0 (qz_sl xs pad) [] w = some (v1, w1) := (qz_run_iff qz_cd).mpr ⟨f, g5⟩
      match xs, hl2 with
      | [.int x, .int y], _ =>
        have ev : qz_run qz_cd 162 0 (qz_sl [.int x, .int y] pad) [] w = (if x < y then some (some (.int y), w) else some (some (.int x), w)) := (qz_blk qz_cd [] 8 162 0 _ _ _).trans rfl
        have ev2 : some (v1, w1) = (some (some (.int (if x < y then y else x)), w) : Option qz_R) := by
          rw [← hrun, ev]
          split <;> rfl
        obtain ⟨rfl, rfl⟩ := Prod.mk.inj (Option.some.inj ev2)
        subst g1
        have hl3 : Cond.methodLink (qz_gd "" qz_on (qz_in m).2.2.2.1) j Lib.Math.max.name ∈ tables_1 := by
          have h := qz_ml_ok _ hli
          unfold qz_mlw at h
          dsimp only at h
          rw [qz_nm_162] at h
          exact h
        show W _ _ _ _ _ _ _ _ _ _ _ _ _ _ _ (F0 mid pc ls (.int y :: .int x :: t.map (qz_v X)))
        refine va_mmax (rest := t.map (qz_v X)) hx hb hL.1.symm hown (hts _ (qz_tw hl3 rfl)) (hts _ (qz_tw qz_ma_c.2 rfl)) (hts _ (qz_tw qz_mat_i rfl)) (hts _ (qz_tw qz_ma_c.1 rfl)) (by omega) (by omega) (by omega) (by omega) hdd ?_
        exact kk H locs hW hS hn0 hs0
      | [.long a1, y0], _ =>
        have ev : qz_run qz_cd 162 0 (qz_sl [.long a1, y0] pad) [] w = none := (qz_blk qz_cd [] 8 162 0 _ _ _).trans rfl
        rw [ev] at hrun
        cases hrun
      | [.float a1, y0], _ =>
        have ev : qz_run qz_cd 162 0 (qz_sl [.float a1, y0] pad) [] w = none := (qz_blk qz_cd [] 8 162 0 _ _ _).trans rfl
        rw [ev] at hrun
        cases hrun
      | [.double a1, y0], _ =>
        have ev : qz_run qz_cd 162 0 (qz_sl [.double a1, y0] pad) [] w = none := (qz_blk qz_cd [] 8 162 0 _ _ _).trans rfl
        rw [ev] at hrun
        cases hrun
      | [.null, y0], _ =>
        have ev : qz_run qz_cd 162 0 (qz_sl [.null, y0] pad) [] w = none := (qz_blk qz_cd [] 8 162 0 _ _ _).trans rfl
        rw [ev] at hrun
        cases hrun
      | [.ref a1, y0], _ =>
        have ev : qz_run qz_cd 162 0 (qz_sl [.ref a1, y0] pad) [] w = none := (qz_blk qz_cd [] 8 162 0 _ _ _).trans rfl
        rw [ev] at hrun
        cases hrun
      | [.retAddr a1, y0], _ =>
        have ev : qz_run qz_cd 162 0 (qz_sl [.retAddr a1, y0] pad) [] w = none := (qz_blk qz_cd [] 8 162 0 _ _ _).trans rfl
        rw [ev] at hrun
        cases hrun
      | [.int x0, .long a1], _ =>
        have ev : qz_run qz_cd 162 0 (qz_sl [.int x0, .long a1] pad) [] w = none := (qz_blk qz_cd [] 8 162 0 _ _ _).trans rfl
        rw [ev] at hrun
        cases hrun
      | [.int x0, .float a1], _ =>
        have ev : qz_run qz_cd 162 0 (qz_sl [.int x0, .float a1] pad) [] w = none := (qz_blk qz_cd [] 8 162 0 _ _ _).trans rfl
        rw [ev] at hrun
        cases hrun
      | [.int x0, .double a1], _ =>
        have ev : qz_run qz_cd 162 0 (qz_sl [.int x0, .double a1] pad) [] w = none := (qz_blk qz_cd [] 8 162 0 _ _ _).trans rfl
        rw [ev] at hrun
        cases hrun
      | [.int x0, .null], _ =>
        have ev : qz_run qz_cd 162 0 (qz_sl [.int x0, .null] pad) [] w = none := (qz_blk qz_cd [] 8 162 0 _ _ _).trans rfl
        rw [ev] at hrun
        cases hrun
      | [.int x0, .ref a1], _ =>
        have ev : qz_run qz_cd 162 0 (qz_sl [.int x0, .ref a1] pad) [] w = none := (qz_blk qz_cd [] 8 162 0 _ _ _).trans rfl
        rw [ev] at hrun
        cases hrun
      | [.int x0, .retAddr a1], _ =>
        have ev : qz_run qz_cd 162 0 (qz_sl [.int x0, .retAddr a1] pad) [] w = none := (qz_blk qz_cd [] 8 162 0 _ _ _).trans rfl
        rw [ev] at hrun
        cases hrun
    · have hk0 : kd = 0 := hkd.symm.trans rfl
      subst hk0
      have hl2 : xs.length = 2 := by rw [g2, hb2]; rfl
      have hdd : decode (qz_in m).1.2.1 pc = .ok (.invokestatic j, 3) := by
        rcases hd with ⟨h, -⟩ | ⟨h, -⟩ | ⟨-, h⟩
        · cases h
        · cases h
        · exact h
      have hli : ((qz_in m).2.2.2.1, j, 260) ∈ qz_ml := by
        rcases hlink with h | h
        · exact h
        · exact absurd rfl (qz_mh_no _ h).2.2
      have hrun : qz_run qz_cd 260 0 (qz_sl xs pad) [] w = some (v1, w1) := (qz_run_iff qz_cd).mpr ⟨f, g5⟩
      match xs, hl2 with
      | [.long x, .long y], _ =>
        have ev : qz_run qz_cd 260 0 (qz_sl [.long x, .long y] pad) [] w = (if 0 < lg_cmp x y then some (some (.long y), w) else some (some (.long x), w)) := (qz_blk qz_cd [] 9 260 0 _ _ _).trans rfl
        have ev2 : some (v1, w1) = (some (some (.long (if y < x then y else x)), w) : Option qz_R) := by
          rw [← hrun, ev]
          simp only [qz_lcmp_pos]
          split <;> rfl
        obtain ⟨rfl, rfl⟩ := Prod.mk.inj (Option.some.inj ev2)
        subst g1
        have hl3 : Cond.methodLink (qz_gd "" qz_on (qz_in m).2.2.2.1) j Lib.MathLoose.min_long.x ∈ tables_1 := by
          have h := qz_ml_ok _ hli
          unfold qz_mlw at h
          dsimp only at h
          rw [qz_nm_260] at h
          exact h
        show W _ _ _ _ _ _ _ _ _ _ _ _ _ _ _ (F0 mid pc ls (.long y :: .long x :: t.map (qz_v X)))
        refine va_mmin_long (rest := t.map (qz_v X)) hx hb hL.1.symm hown (hts _ (qz_tw hl3 rfl)) (hts _ (qz_tw qz_ml_c.2 rfl)) (hts _ (qz_tw qz_mat_i rfl)) (hts _ (qz_tw qz_ml_c.1 rfl)) (by omega) (by omega) (by omega) (by omega) hdd ?_
        exact kk H locs hW hS hn0 hs0
      | [.int a1, y0], _ =>
        have ev : qz_run qz_cd 260 0 (qz_sl [.int a1, y0] pad) [] w = none := (qz_blk qz_cd [] 9 260 0 _ _ _).trans rfl
        rw [ev] at hrun
        cases hrun
      | [.float a1, y0], _ =>
        have ev : qz_run qz_cd 260 0 (qz_sl [.float a1, y0] pad) [] w = none := (qz_blk qz_cd [] 9 260 0 _ _ _).trans rfl
        rw [ev] at hrun
        cases hrun
      | [.double a1, y0], _ =>
        have ev : qz_run qz_cd 260 0 (qz_sl [.double a1, y0] pad) [] w = none := (qz_blk qz_cd [] 9 260 0 _ _ _).trans rfl
        rw [ev] at hrun
        cases hrun
      | [.null, y0], _ =>
        have ev : qz_run qz_cd 260 0 (qz_sl [.null, y0] pad) [] w = none := (qz_blk qz_cd [] 9 260 0 _ _ _).trans rfl
        rw [ev] at hrun
        cases hrun
      | [.ref a1, y0], _ =>
        have ev : qz_run qz_cd 260 0 (qz_sl [.ref a1, y0] pad) [] w = none := (qz_blk qz_cd [] 9 260 0 _ _ _).trans rfl
        rw [ev] at hrun
        cases hrun
      | [.retAddr a1, y0], _ =>
        have ev : qz_run qz_cd 260 0 (qz_sl [.retAddr a1, y0] pad) [] w = none := (qz_blk qz_cd [] 9 260 0 _ _ _).trans rfl
        rw [ev] at hrun
        cases hrun
      | [.long x0, .int a1], _ =>
        have ev : qz_run qz_cd 260 0 (qz_sl [.long x0, .int a1] pad) [] w = none := (qz_blk qz_cd [] 9 260 0 _ _ _).trans rfl
        rw [ev] at hrun
        cases hrun
      | [.long x0, .float a1], _ =>
        have ev : qz_run qz_cd 260 0 (qz_sl [.long x0, .float a1] pad) [] w = none := (qz_blk qz_cd [] 9 260 0 _ _ _).trans rfl
        rw [ev] at hrun
        cases hrun
      | [.long x0, .double a1], _ =>
        have ev : qz_run qz_cd 260 0 (qz_sl [.long x0, .double a1] pad) [] w = none := (qz_blk qz_cd [] 9 260 0 _ _ _).trans rfl
        rw [ev] at hrun
        cases hrun
      | [.long x0, .null], _ =>
        have ev : qz_run qz_cd 260 0 (qz_sl [.long x0, .null] pad) [] w = none := (qz_blk qz_cd [] 9 260 0 _ _ _).trans rfl
        rw [ev] at hrun
        cases hrun
      | [.long x0, .ref a1], _ =>
        have ev : qz_run qz_cd 260 0 (qz_sl [.long x0, .ref a1] pad) [] w = none := (qz_blk qz_cd [] 9 260 0 _ _ _).trans rfl
        rw [ev] at hrun
        cases hrun
      | [.long x0, .retAddr a1], _ =>
        have ev : qz_run qz_cd 260 0 (qz_sl [.long x0, .retAddr a1] pad) [] w = none := (qz_blk qz_cd [] 9 260 0 _ _ _).trans rfl
        rw [ev] at hrun
        cases hrun
end QZD

/-! the rows of the step that are long -/
theorem qz_gd_at {α : Type} {d : α} : ∀ (l : List α) (i : Nat) (x : α), qz_at l i = some x → qz_gd d l i = x
  | [], _, _, h => by cases h
  | _ :: _, 0, _, h => Option.some.inj h
  | _ :: l, i + 1, x, h => qz_gd_at l i x h
theorem qz_cl_lt {ci : Nat} (h : ci < 13) : ∃ r : vw_C, qz_cl[ci]? = some r := by
  have hl : qz_cl.length = 13 := rfl
  exact ⟨qz_cl[ci]'(by rw [hl]; exact h), List.getElem?_eq_getElem _⟩
theorem qz_cl_ge {ci : Nat} {r : vw_C} (h : qz_cl[ci]? = some r) : ci < 13 := (List.getElem?_eq_some_iff.mp h).1
theorem qz_on_cn : ∀ a, a < 13 → qz_gd "" qz_on a = qz_gd "" qz_cn a := by decide +kernel
theorem qz_lay_good {C : String} {T : u_T} {N : Nat} {w : Cond} (h : w ∈ u_ws C T N) : goodWord w = true := by
  unfold u_ws at h
  obtain ⟨k, -, rfl⟩ := List.mem_map.mp h
  unfold u_lay
  split <;> rfl
theorem qz_sw_i {x : Int32} {f : Nat → Option qz_R} {d : Nat} {r : qz_R} : ∀ (ts : List Nat) (j : Nat), qz_sw x f d j ts = some r → (∃ i t, ts[i]? = some t ∧ x = nI (j + i) ∧ f t = some r) ∨ ((∀ i, i < ts.length → x ≠ nI (j + i)) ∧ f d = some r)
  | [], j, h => Or.inr ⟨fun i hi => absurd hi (Nat.not_lt_zero i), h⟩
  | t :: ts, j, h => by
    unfold qz_sw at h
    by_cases hx : x = nI j
    · rw [if_pos hx] at h
      exact Or.inl ⟨0, t, rfl, hx, h⟩
    · rw [if_neg hx] at h
      rcases qz_sw_i ts (j + 1) h with ⟨i, u, h1, h2, h3⟩ | ⟨h1, h2⟩
      · exact Or.inl ⟨i + 1, u, h1, by rw [h2]; congr 1; omega, h3⟩
      · refine Or.inr ⟨fun i hi => ?_, h2⟩
        cases i with
        | zero => exact hx
        | succ i =>
          have := h1 i (Nat.lt_of_succ_lt_succ hi)
          rw [show j + (i + 1) = j + 1 + i by omega]
          exact this
theorem qz_nz {x : Int32} (h : qz_z x = true) : narrow .boolean (.int x) = .int x ∧ fits .boolean (.int x) = true := by
  have h1 : x.toBitVec.toNat ≤ 1 := Nat.le_of_ble_eq_true h
  have h2 : x = 0 ∨ x = 1 := by
    rcases (show x.toBitVec.toNat = 0 ∨ x.toBitVec.toNat = 1 by omega) with h | h
    · left
      apply Int32.toBitVec_inj.mp
      apply BitVec.eq_of_toNat_eq
      rw [h]; rfl
    · right
      apply Int32.toBitVec_inj.mp
      apply BitVec.eq_of_toNat_eq
      rw [h]; rfl
  rcases h2 with rfl | rfl <;> exact ⟨by decide, by decide⟩
theorem qz_fk_int {X : qz_X} {ty : FieldType} (h : qz_fk ty 0 = true) (x : Int32) : narrow ty (qz_v X (.int x)) = qz_v X (.int x) ∧ fits ty (qz_v X (.int x)) = true := by
  cases ty <;> simp [qz_fk] at h
  exact ⟨rfl, rfl⟩
theorem qz_fk_boo {X : qz_X} {ty : FieldType} (h : qz_fk ty 2 = true) {x : Int32} (hz : qz_z x = true) : narrow ty (qz_v X (.int x)) = qz_v X (.int x) ∧ fits ty (qz_v X (.int x)) = true := by
  cases ty <;> simp [qz_fk] at h
  exact qz_nz hz
theorem qz_fk_ref {X : qz_X} {ty : FieldType} (h : qz_fk ty 1 = true) (q : Nat) : narrow ty (qz_v X (.ref q)) = qz_v X (.ref q) ∧ fits ty (qz_v X (.ref q)) = true := by
  cases ty <;> simp [qz_fk] at h
  · exact ⟨rfl, rfl⟩
  · exact ⟨rfl, rfl⟩
theorem qz_fk_no {ty : FieldType} (n : Nat) : ¬ qz_fk ty (n + 3) = true := by
  cases ty <;> simp [qz_fk]
theorem qz_arr_in {X : qz_X} {H : Heap} {w : qz_W} {o : Nat} {ty : FieldType} {a : vp_A} (h : qz_Wd X H w) (hw : w.1 o = .inl (ty, a)) (ht : ty ≠ .float ∧ ty ≠ .double) : o < w.2.1 := by
  refine qz_in_w h (by rw [hw]; exact fun q => by cases q) fun i => ?_
  rw [hw]
  refine qz_oc_cases (X := X) (fun e => (.inl (ty, a) : qz_E) ≠ e) ?_ ?_ ?_ ?_ ?_ ?_ i
  · exact fun q => by cases q; exact ht.1 rfl
  · exact fun q => by cases q; exact ht.1 rfl
  · exact fun q => by cases q; exact ht.1 rfl
  · exact fun q => by cases q
  · exact fun q => by cases q; exact ht.2 rfl
  · exact fun q => by cases q
theorem qz_obj_in {X : qz_X} {H : Heap} {w : qz_W} {o ci : Nat} {fs : List Value} (h : qz_Wd X H w) (hw : w.1 o = .inr (ci, fs)) (hc : ci < 13) : o < w.2.1 := by
  refine qz_in_w h (by rw [hw]; exact fun q => by cases q; omega) fun i => ?_
  rw [hw]
  refine qz_oc_cases (X := X) (fun e => (.inr (ci, fs) : qz_E) ≠ e) ?_ ?_ ?_ ?_ ?_ ?_ i
  · exact fun q => by cases q
  · exact fun q => by cases q
  · exact fun q => by cases q
  · exact fun q => by cases q; omega
  · exact fun q => by cases q
  · exact fun q => by cases q; omega
/-- an old cell is at one of the five places -/
theorem qz_old_at {X : qz_X} {H : Heap} {w : qz_W} {o : Nat} (h : qz_Wd X H w) (h1 : ¬ o < w.2.1) (h2 : w.1 o ≠ qz_jk) : ∃ i, o = qz_old + i ∧ i < 5 ∧ w.1 o = qz_oc X i := by
  rcases Nat.lt_or_ge o qz_old with r | r
  · exact absurd (h.2.2.1 o (Nat.not_lt.mp h1) r) h2
  · have e := h.2.2.2.1 (o - qz_old)
    rw [show qz_old + (o - qz_old) = o by omega] at e
    refine ⟨o - qz_old, by omega, ?_, e⟩
    rcases Nat.lt_or_ge (o - qz_old) 5 with q | q
    · exact q
    · exfalso
      apply h2
      rw [e]
      unfold qz_oc
      split <;> first | omega | rfl
theorem qz_tag_no {X : qz_X} {H : Heap} {w : qz_W} {o : Nat} {ty : FieldType} {a : vp_A} (h : qz_Wd X H w) (hw : w.1 o = .inl (ty, a)) (ht : ty = .float ∨ ty = .double) : ¬ o < w.2.1 := by
  intro ho
  have := h.2.2.2.2 o ho
  rw [hw] at this
  rcases this with e | e | e | e | e <;> rcases ht with t | t <;> (rw [t] at e; cases e)
section QZR
variable {X : qz_X} {l : Launch} {m : Nat} {p : Program} {e : Env} {R : Room} {s : State} {mid : MethodId} {args : Array Value} {below : List Frame} {meth : Method} {c : Code} {n0 s0 : Nat} {v0 : Option Value} {w' : qz_W} {Qf Q : State → Prop} {H : Heap} {locs : List Loc} {cells slots : Nat} {w : qz_W} {pc : Nat} {ls : Array Slot} {t : List Value}
theorem qz_sw_ok {cc : ByteArray} {d lo hi : Int} {offs : Array Int} {n a b : Nat} {tl : List Nat} {x : Int32} {F : Nat → Option qz_R} {r : qz_R} {rest : List Value} (hx : p.tables.exec = Jvm.exec) (hb : c.code = cc) (hd : decode cc pc = .ok (.tableswitch d lo hi offs, n)) (ht : (pc : Int) + d = (a : Int)) (hlo : lo = (b : Int)) (hhi : hi + 1 = (b : Int) + (tl.length : Int)) (hof : offs.toList.map (fun x => (pc : Int) + x) = tl.map (fun (t : Nat) => (t : Int))) (hbd : b + tl.length < 100) (g : qz_sw x F a b tl = some r)
    (kk : ∀ tgt, F tgt = some r → W p l e R s mid args below meth c H locs cells slots Q (F0 mid tgt ls rest)) : W p l e R s mid args below meth c H locs cells slots Q (F0 mid pc ls (.int x :: rest)) := by
  rcases qz_sw_i tl b g with ⟨i, u, h1, h2, h3⟩ | ⟨h1, h2⟩
  · have hi' : i < tl.length := (List.getElem?_eq_some_iff.mp h1).1
    have hxi : x.toInt = ((b + i : Nat) : Int) := by rw [h2]; exact nI_toInt (by omega)
    have h4 : (offs.toList.map (fun x => (pc : Int) + x))[i]? = some (u : Int) := by rw [hof, List.getElem?_map, h1]; rfl
    rw [List.getElem?_map] at h4
    cases ho : offs.toList[i]? with
    | none => rw [ho] at h4; cases h4
    | some off =>
      rw [ho] at h4
      have h5 : (pc : Int) + off = (u : Int) := Option.some.inj h4
      refine lv_tableIn (off := off) (tgt := u) hx hb hd (by rw [hxi, hlo]; omega) (by rw [hxi]; omega) ?_ h5 (kk u h3)
      rw [show (x.toInt - lo).toNat = i by rw [hxi, hlo]; omega, ← Array.getElem?_toList]
      exact ho
  · refine lv_tableOut (tgt := a) hx hb hd ?_ ht (kk a h2)
    rcases Int.lt_or_le x.toInt lo with q | q
    · exact Or.inl q
    · rcases Int.lt_or_le hi x.toInt with q2 | q2
      · exact Or.inr q2
      · exfalso
        have hneg : ¬ x < 0 := by
          intro hh
          have := Int32.lt_iff_toInt_lt.mp hh
          simp at this
          omega
        obtain ⟨j, hj, hxj⟩ := nI_of hneg
        have hxi : x.toInt = (j : Int) := by rw [hxj]; exact nI_toInt hj
        refine h1 (j - b) (by omega) ?_
        rw [hxj]
        congr 1
        omega
theorem qz_get_ok {j a b q : Nat} {fs : List Value} {x : Value} (hF : qz_Fr X l m p e R s mid args below meth c n0 s0 v0 w' Qf) (hW : qz_Wd X H w) (hS : va_S (qz_A X) s.heap H locs) (hd : decode (qz_in m).1.2.1 pc = .ok (.getfield j, 3)) (hk : (decide (a = 13 ∧ (qz_in m).2.2.2.1 = 13 ∧ (b = 0 ∧ j = 15 ∨ b = 1 ∧ j = 9)) || decide (((qz_in m).2.2.2.1, j, a, b) ∈ qz_fl)) = true) (g2 : w.1 q = .inr (a, fs)) (g3 : fs[b]? = some x)
    (kk : W p l e R s mid args below meth c H locs cells slots Q (F0 mid (pc + 3) ls (qz_v X x :: t.map (qz_v X)))) : W p l e R s mid args below meth c H locs cells slots Q (F0 mid pc ls (.ref (qz_ad X q) :: t.map (qz_v X))) := by
  obtain ⟨⟨hx, hb, hr, hlk, hml, hown, hts, hSt, hin, hfr, hlo⟩, -⟩ := hF
  rw [Bool.or_eq_true, decide_eq_true_eq, decide_eq_true_eq] at hk
  rcases hk with ⟨rfl, k1, k2⟩ | hk
  · have ho : ¬ q < w.2.1 := by
      intro ho
      have h1 := hW.1 q _ (qz_ws_at ho)
      rw [g2] at h1
      obtain ⟨r, h2, -⟩ := h1
      have := qz_cl_ge h2
      omega
    obtain ⟨i, rfl, hi, hoc⟩ := qz_old_at hW ho (by rw [g2]; exact fun z => by cases z)
    rw [g2] at hoc
    have hi3 : i = 3 := by
      match i, hi, hoc with
      | 0, _, h => cases h
      | 1, _, h => cases h
      | 2, _, h => cases h
      | 3, _, _ => rfl
      | 4, _, h => cases h
    subst hi3
    cases hoc
    rw [k1] at hown
    rw [qz_ad_old]
    rcases k2 with ⟨rfl, rfl⟩ | ⟨rfl, rfl⟩
    · cases g3
      exact vk_getf (own := "java/lang/String") (ref := "java/lang/String") hx hb hSt.2.2.2.2.2.2.2.2.2.2.2.2.2.1 hS hown (hts _ (qz_tw qz_sf4 rfl)) (fun _ h => h) hd kk
    · cases g3
      have kk : W p l e R s mid args below meth c H locs cells slots Q (F0 mid (pc + 3) ls (.ref (qz_ad X (qz_old + 4)) :: t.map (qz_v X))) := kk
      rw [qz_ad_old] at kk
      exact vk_getf (own := "java/lang/String") (ref := "java/lang/String") hx hb hSt.2.2.2.2.2.2.2.2.2.2.2.2.2.2.1 hS hown (hts _ (qz_tw qz_sf3 rfl)) (fun _ h => h) hd kk
  · obtain ⟨f1, f2, f3⟩ := qz_fl_ok _ hk
    dsimp only at f1 f2 f3
    have ho := qz_obj_in hW g2 f3
    obtain ⟨r, hr1⟩ := qz_cl_lt f3
    obtain ⟨ty, ⟨o1, o2, o3, o4, o5, o6, o7⟩, o8⟩ := qz_okcs a r hr1
    rw [o8, qz_gd_at _ _ _ o1] at f1
    rw [o8] at f2
    have ha := qz_ws_at (X := X) ho
    rw [g2] at ha
    rw [qz_ad_in hW ho]
    exact va_get (C := r.1) (T := r.2.1) (N := r.2.2) (ref := r.1) hx hb hts (fun w hw => qz_tw (o2 w hw) (qz_lay_good hw)) hown hSt.1 hW.1 q ha hr1 b f2 (hts _ (qz_tw f1 rfl)) (fun y hy => by rw [o5 b f2] at hy; exact hy) (v := qz_v X x) (by rw [List.getElem?_map, g3]; rfl) hd kk
theorem qz_put_ok {j a b q : Nat} {fs : List Value} {v : Value} (hF : qz_Fr X l m p e R s mid args below meth c n0 s0 v0 w' Qf) (hW : qz_Wd X H w) (hS : va_S (qz_A X) s.heap H locs) (hd : decode (qz_in m).1.2.1 pc = .ok (.putfield j, 3)) (hk : ((qz_in m).2.2.2.1, j, a, b) ∈ qz_fl)
    (hfi : (decide (((qz_gd (cT_0, cY_0, 0) qz_ct a).1 b).2.2.2 = false) || decide ((qz_in m).2.2.2.2.1 = 2 ∧ (qz_in m).2.2.2.1 = a)) = true) (hty : narrow ((qz_gd (cT_0, cY_0, 0) qz_ct a).2.1 b) (qz_v X v) = qz_v X v ∧ fits ((qz_gd (cT_0, cY_0, 0) qz_ct a).2.1 b) (qz_v X v) = true) (g2 : w.1 q = .inr (a, fs))
    (kk : ∀ (H1 : Heap) (locs1 : List Loc), qz_Wd X H1 (va_up w.1 q (.inr (a, fs.set b v)), w.2) → va_S (qz_A X) s.heap H1 locs1 → W p l e R s mid args below meth c H1 locs1 cells slots Q (F0 mid (pc + 3) ls (t.map (qz_v X)))) : W p l e R s mid args below meth c H locs cells slots Q (F0 mid pc ls (qz_v X v :: .ref (qz_ad X q) :: t.map (qz_v X))) := by
  obtain ⟨⟨hx, hb, hr, hlk, hml, hown, hts, hSt, hin, hfr, hlo⟩, -⟩ := hF
  obtain ⟨f1, f2, f3⟩ := qz_fl_ok _ hk
  dsimp only at f1 f2 f3
  have ho := qz_obj_in hW g2 f3
  obtain ⟨r, hr1⟩ := qz_cl_lt f3
  obtain ⟨ty, ⟨o1, o2, o3, o4, o5, o6, o7⟩, o8⟩ := qz_okcs a r hr1
  rw [o8, qz_gd_at _ _ _ o1] at f1
  have hlen : fs.length = r.2.2 := by
    have := hW.2.2.2.2 q ho
    rw [g2] at this
    exact this.trans (by rw [o8])
  rw [o8] at f2 hfi hty
  have ha := qz_ws_at (X := X) ho
  rw [g2] at ha
  rw [qz_ad_in hW ho]
  have hup : ∀ (H1 : Heap), va_P X.1 qz_cl ((qz_ws X w).set q (X.2.2.2.1 + q, .inr (a, (fs.map (qz_v X)).set b (qz_v X v)))) H1 → qz_Wd X H1 (va_up w.1 q (.inr (a, fs.set b v)), w.2) := by
    intro H1 hP1
    refine hW.up ho ?_ ?_
    · show (fs.set b v).length = _
      rw [List.length_set, hlen, o8]
    · show va_P X.1 qz_cl ((qz_ws X w).set q (X.2.2.2.1 + q, .inr (a, (fs.set b v).map (qz_v X)))) H1
      rw [List.map_set]
      exact hP1
  have hl : b < (fs.map (qz_v X)).length := by rw [List.length_map, hlen]; exact f2
  rw [Bool.or_eq_true, decide_eq_true_eq, decide_eq_true_eq] at hfi
  rcases hfi with hfi | ⟨h1, h2⟩
  · exact va_put (C := r.1) (T := r.2.1) (N := r.2.2) (ref := r.1) hx hb hts (fun w hw => qz_tw (o2 w hw) (qz_lay_good hw)) ty o3 o4 hown hSt.1 hW.1 qz_ws_D hS q ha hr1 b f2 (hts _ (qz_tw f1 rfl)) (fun y hy => by rw [o5 b f2] at hy; exact hy) hfi (o3 b f2) hty.1 hty.2 hl hd (fun H1 locs1 hP1 _ hS1 => kk H1 locs1 (hup H1 hP1) hS1)
  · cases hfin : (r.2.1 b).2.2.2 with
    | false => exact va_put (C := r.1) (T := r.2.1) (N := r.2.2) (ref := r.1) hx hb hts (fun w hw => qz_tw (o2 w hw) (qz_lay_good hw)) ty o3 o4 hown hSt.1 hW.1 qz_ws_D hS q ha hr1 b f2 (hts _ (qz_tw f1 rfl)) (fun y hy => by rw [o5 b f2] at hy; exact hy) hfin (o3 b f2) hty.1 hty.2 hl hd (fun H1 locs1 hP1 _ hS1 => kk H1 locs1 (hup H1 hP1) hS1)
    | true => exact va_putF (C := r.1) (T := r.2.1) (N := r.2.2) (ref := r.1) hx hb hts (fun w hw => qz_tw (o2 w hw) (qz_lay_good hw)) ty o3 o4 hown hSt.1 hW.1 qz_ws_D hS q ha hr1 b f2 (hts _ (qz_tw f1 rfl)) (fun y hy => by rw [o5 b f2] at hy; exact hy) hfin (hin h1) (by rw [o5 b f2, h2, qz_on_cn a f3, qz_gd_at _ _ _ o1]) (o3 b f2) hty.1 hty.2 hl hd (fun H1 locs1 hP1 _ hS1 => kk H1 locs1 (hup H1 hP1) hS1)
theorem qz_iaload_ok {q n1 : Nat} {g : Nat → Int32} {j : Int32} (hF : qz_Fr X l m p e R s mid args below meth c n0 s0 v0 w' Qf) (hW : qz_Wd X H w) (hS : va_S (qz_A X) s.heap H locs) (hd : decode (qz_in m).1.2.1 pc = .ok (.iaload, 1)) (g2 : w.1 q = .inl (.int, n1, .inl g) ∨ w.1 q = .inl (.float, n1, .inl g)) (g3 : vp_in j n1)
    (kk : W p l e R s mid args below meth c H locs cells slots Q (F0 mid (pc + 1) ls (.int (g j.toNatClampNeg) :: t.map (qz_v X)))) : W p l e R s mid args below meth c H locs cells slots Q (F0 mid pc ls (.int j :: .ref (qz_ad X q) :: t.map (qz_v X))) := by
  obtain ⟨⟨hx, hb, hr, hlk, hml, hown, hts, hSt, hin, hfr, hlo⟩, -⟩ := hF
  rcases g2 with g2 | g2
  · have ho := qz_arr_in hW g2 ⟨by decide, by decide⟩
    have ha := qz_ws_at (X := X) ho
    rw [g2] at ha
    rw [qz_ad_in hW ho]
    exact va_iald hx hb hSt.1 hW.1 q 0 ha rfl g3 hd kk
  · have ho := qz_tag_no hW g2 (Or.inl rfl)
    obtain ⟨i, rfl, hi, hoc⟩ := qz_old_at hW ho (by rw [g2]; exact fun z => by cases z)
    rw [g2] at hoc
    rw [qz_ad_old]
    match i, hi, hoc with
    | 0, _, h => cases h; exact va_ti hx hb hSt.2.2.2.2.2.2.2.2.2.1 hS g3 rfl hd kk
    | 1, _, h => cases h; exact va_ti hx hb hSt.2.2.2.2.2.2.2.2.2.2.1 hS g3 rfl hd kk
    | 2, _, h => cases h; exact va_ti hx hb hSt.2.2.2.2.2.2.2.2.2.2.2.1 hS g3 rfl hd kk
    | 3, _, h => cases h
    | 4, _, h => cases h
theorem qz_baload_ok {q n1 : Nat} {g : Nat → Int32} {j : Int32} (hF : qz_Fr X l m p e R s mid args below meth c n0 s0 v0 w' Qf) (hW : qz_Wd X H w) (hS : va_S (qz_A X) s.heap H locs) (hd : decode (qz_in m).1.2.1 pc = .ok (.baload, 1)) (g2 : w.1 q = .inl (.byte, n1, .inl g) ∨ w.1 q = .inl (.double, n1, .inl g)) (g3 : vp_in j n1)
    (kk : W p l e R s mid args below meth c H locs cells slots Q (F0 mid (pc + 1) ls (.int (g j.toNatClampNeg) :: t.map (qz_v X)))) : W p l e R s mid args below meth c H locs cells slots Q (F0 mid pc ls (.int j :: .ref (qz_ad X q) :: t.map (qz_v X))) := by
  obtain ⟨⟨hx, hb, hr, hlk, hml, hown, hts, hSt, hin, hfr, hlo⟩, -⟩ := hF
  rcases g2 with g2 | g2
  · have ho := qz_arr_in hW g2 ⟨by decide, by decide⟩
    have ha := qz_ws_at (X := X) ho
    rw [g2] at ha
    rw [qz_ad_in hW ho]
    exact va_bald hx hb hSt.1 hW.1 q 2 ha rfl g3 hd kk
  · have ho := qz_tag_no hW g2 (Or.inr rfl)
    obtain ⟨i, rfl, hi, hoc⟩ := qz_old_at hW ho (by rw [g2]; exact fun z => by cases z)
    rw [g2] at hoc
    rw [qz_ad_old]
    match i, hi, hoc with
    | 0, _, h => cases h
    | 1, _, h => cases h
    | 2, _, h => cases h
    | 3, _, h => cases h
    | 4, _, h => cases h; exact va_tb hx hb hSt.2.2.2.2.2.2.2.2.2.2.2.2.2.2.2.1 hS g3 rfl hd kk
theorem qz_ty_at {C : String} (hW : qz_Wd X H w) {q n1 : Nat} {g : Nat → Option Nat} (g2 : w.1 q = .inl (.object C, n1, .inr (.inr (.inr (.inr g))))) : ∃ t0 : Nat, (qz_tys X)[t0]? = some (X.2.1 (.object C), .object C) := by
  have ho := qz_arr_in hW g2 ⟨fun h => (by cases h), fun h => (by cases h)⟩
  have h := hW.2.2.2.2 q ho
  rw [g2] at h
  rcases h with h | h | h | h | h
  · cases h
  · cases h
  · cases h
  · cases h; exact ⟨3, rfl⟩
  · cases h; exact ⟨4, rfl⟩
theorem qz_aaload_ok {C : String} {q n1 y : Nat} {g : Nat → Option Nat} {j : Int32} (hF : qz_Fr X l m p e R s mid args below meth c n0 s0 v0 w' Qf) (hW : qz_Wd X H w) (hS : va_S (qz_A X) s.heap H locs) (hd : decode (qz_in m).1.2.1 pc = .ok (.aaload, 1)) (g2 : w.1 q = .inl (.object C, n1, .inr (.inr (.inr (.inr g))))) (g3 : vp_in j n1) (g5 : g j.toNatClampNeg = some y)
    (kk : W p l e R s mid args below meth c H locs cells slots Q (F0 mid (pc + 1) ls (.ref (qz_ad X y) :: t.map (qz_v X)))) : W p l e R s mid args below meth c H locs cells slots Q (F0 mid pc ls (.int j :: .ref (qz_ad X q) :: t.map (qz_v X))) := by
  obtain ⟨⟨hx, hb, hr, hlk, hml, hown, hts, hSt, hin, hfr, hlo⟩, -⟩ := hF
  have ho := qz_arr_in hW g2 ⟨fun h => (by cases h), fun h => (by cases h)⟩
  obtain ⟨t0, ht0⟩ := qz_ty_at hW g2
  have ha := qz_ws_at (X := X) ho
  rw [g2] at ha
  rw [qz_ad_in hW ho]
  refine va_aldq (f := fun j => (g j).map (qz_ad X)) hx hb hSt.1 hW.1 q t0 ha ht0 g3 hd ?_
  rw [g5]
  exact kk
theorem qz_aastore_ok {C : String} {q n1 y ci : Nat} {vs : List Value} {g : Nat → Option Nat} {j : Int32} (hF : qz_Fr X l m p e R s mid args below meth c n0 s0 v0 w' Qf) (hW : qz_Wd X H w) (hS : va_S (qz_A X) s.heap H locs) (hd : decode (qz_in m).1.2.1 pc = .ok (.aastore, 1)) (g2 : w.1 q = .inl (.object C, n1, .inr (.inr (.inr (.inr g))))) (g3 : vp_in j n1) (g5 : w.1 y = .inr (ci, vs)) (g6 : qz_at qz_cn ci = some C)
    (kk : ∀ (H1 : Heap) (locs1 : List Loc), qz_Wd X H1 (va_up w.1 q (.inl (.object C, n1, .inr (.inr (.inr (.inr (va_up g j.toNatClampNeg (some y))))))), w.2) → va_S (qz_A X) s.heap H1 locs1 → W p l e R s mid args below meth c H1 locs1 cells slots Q (F0 mid (pc + 1) ls (t.map (qz_v X)))) : W p l e R s mid args below meth c H locs cells slots Q (F0 mid pc ls (.ref (qz_ad X y) :: .int j :: .ref (qz_ad X q) :: t.map (qz_v X))) := by
  obtain ⟨⟨hx, hb, hr, hlk, hml, hown, hts, hSt, hin, hfr, hlo⟩, -⟩ := hF
  have ho := qz_arr_in hW g2 ⟨fun h => (by cases h), fun h => (by cases h)⟩
  obtain ⟨t0, ht0⟩ := qz_ty_at hW g2
  have hce := hW.2.2.2.2 q ho
  rw [g2] at hce
  have hci : ci < 13 := by
    have h1 := qz_at_mem _ _ _ g6
    exact (List.getElem?_eq_some_iff.mp h1).1
  have hoy := qz_obj_in hW g5 hci
  obtain ⟨r, hr1⟩ := qz_cl_lt hci
  obtain ⟨ty, ⟨o1, -⟩, -⟩ := qz_okcs ci r hr1
  have hC : r.1 = C := Option.some.inj (o1.symm.trans g6)
  have ha := qz_ws_at (X := X) ho
  have hy := qz_ws_at (X := X) hoy
  rw [g2] at ha
  rw [g5] at hy
  rw [qz_ad_in hW ho, qz_ad_in hW hoy]
  subst hC
  refine va_astq (f := fun j => (g j).map (qz_ad X)) hx hb hSt.1 hW.1 qz_ws_D hS q t0 y ci ha ht0 hy hr1 g3 hd (fun H1 locs1 hP1 _ hS1 => kk H1 locs1 (hW.up ho hce ?_) hS1)
  show va_P X.1 qz_cl ((qz_ws X w).set q (X.2.2.2.1 + q, .inl (X.2.1 (.object r.1), n1, .inr (.inr (.inr (.inr (fun k => (va_up g j.toNatClampNeg (some y) k).map (qz_ad X)))))))) H1
  have e1 : (fun k => (va_up g j.toNatClampNeg (some y) k).map (qz_ad X)) = va_up (fun j => (g j).map (qz_ad X)) j.toNatClampNeg (some (X.2.2.2.1 + y)) := by
    funext k
    unfold va_up
    split
    · show some (qz_ad X y) = _
      rw [qz_ad_in hW hoy]
    · rfl
  rw [e1]
  exact hP1
theorem qz_alen_ok {q n1 : Nat} {ty : FieldType} {a : (Nat → Int32) ⊕ (Nat → Int64) ⊕ (Nat → UInt32) ⊕ (Nat → UInt64) ⊕ (Nat → Option Nat)} (hF : qz_Fr X l m p e R s mid args below meth c n0 s0 v0 w' Qf) (hW : qz_Wd X H w) (hS : va_S (qz_A X) s.heap H locs) (hd : decode (qz_in m).1.2.1 pc = .ok (.arraylength, 1)) (g2 : w.1 q = .inl (ty, n1, a))
    (kk : W p l e R s mid args below meth c H locs cells slots Q (F0 mid (pc + 1) ls (.int (nI n1) :: t.map (qz_v X)))) : W p l e R s mid args below meth c H locs cells slots Q (F0 mid pc ls (.ref (qz_ad X q) :: t.map (qz_v X))) := by
  obtain ⟨⟨hx, hb, hr, hlk, hml, hown, hts, hSt, hin, hfr, hlo⟩, -⟩ := hF
  by_cases ho : q < w.2.1
  · have ha := qz_ws_at (X := X) ho
    have hce := hW.2.2.2.2 q ho
    rw [g2] at ha hce
    rw [qz_ad_in hW ho]
    have htt : ∃ t0 : Nat, (qz_tys X)[t0]? = some (X.2.1 ty, ty) := by
      rcases hce with h | h | h | h | h <;> subst h
      · exact ⟨0, rfl⟩
      · exact ⟨1, rfl⟩
      · exact ⟨2, rfl⟩
      · exact ⟨3, rfl⟩
      · exact ⟨4, rfl⟩
    obtain ⟨t0, ht0⟩ := htt
    rcases a with g | g | g | g | g
    · exact va_alen hx hb hSt.1 hW.1 q t0 ha ht0 rfl hd kk
    · exact va_alen hx hb hSt.1 hW.1 q t0 ha ht0 rfl hd kk
    · exact va_alen hx hb hSt.1 hW.1 q t0 ha ht0 rfl hd kk
    · exact va_alen hx hb hSt.1 hW.1 q t0 ha ht0 rfl hd kk
    · exact va_alen hx hb hSt.1 hW.1 q t0 ha ht0 rfl hd kk
  · obtain ⟨i, rfl, hi, hoc⟩ := qz_old_at hW ho (by rw [g2]; exact fun z => by cases z)
    rw [g2] at hoc
    rw [qz_ad_old]
    match i, hi, hoc with
    | 0, _, h => cases h; exact va_tlen hx hb hSt.2.2.2.2.2.2.2.2.2.1 hS rfl hd kk
    | 1, _, h => cases h; exact va_tlen hx hb hSt.2.2.2.2.2.2.2.2.2.2.1 hS rfl hd kk
    | 2, _, h => cases h; exact va_tlen hx hb hSt.2.2.2.2.2.2.2.2.2.2.2.1 hS rfl hd kk
    | 3, _, h => cases h
    | 4, _, h => cases h; exact va_tlen hx hb hSt.2.2.2.2.2.2.2.2.2.2.2.2.2.2.2.1 hS rfl hd kk
/-- the new cell's place: the first free one -/
theorem qz_place {q : Nat} {x : va_E} {H1 : Heap} (hP : va_P X.1 qz_cl (qz_ws X w ++ [(q, x)]) H1) (hD : va_D (qz_A X) (qz_ws X w ++ [(q, x)])) (hs : H1.size ≤ X.2.2.2.1 + w.2.1 + 1) : q = X.2.2.2.1 + w.2.1 := by
  have hlast : (qz_ws X w ++ [(q, x)])[w.2.1]? = some (q, x) := by
    rw [List.getElem?_append_right (by rw [qz_ws_len]; exact Nat.le_refl _), qz_ws_len]
    simp
  have h1 : X.2.2.2.1 ≤ q := hD.2 _ _ hlast
  have h2 : q < H1.size := (hP _ _ hlast).lt
  rcases Nat.lt_or_ge q (X.2.2.2.1 + w.2.1) with h | h
  · exfalso
    have hi : q - X.2.2.2.1 < w.2.1 := by omega
    have hat : (qz_ws X w ++ [(q, x)])[q - X.2.2.2.1]? = some (X.2.2.2.1 + (q - X.2.2.2.1), qz_e X (w.1 (q - X.2.2.2.1))) := by
      rw [List.getElem?_append_left (by rw [qz_ws_len]; exact hi)]
      exact qz_ws_at hi
    have := hD.1 _ _ _ _ hat hlast (by show X.2.2.2.1 + (q - X.2.2.2.1) = q; omega)
    omega
  · omega
theorem qz_Wd.push {H1 : Heap} {x : qz_E} {k : Nat} (h : qz_Wd X H w) (hc : qz_ce x) (ho : w.2.1 + 1 ≤ qz_old) (hP : va_P X.1 qz_cl (qz_ws X w ++ [(X.2.2.2.1 + w.2.1, qz_e X x)]) H1) : qz_Wd X H1 (qz_new w x k) := by
  refine ⟨by rw [qz_ws_push]; exact hP, ho, fun i hi hj => ?_, fun i => ?_, fun i hi => ?_⟩
  · show va_up w.1 w.2.1 x i = qz_jk
    have hi : w.2.1 + 1 ≤ i := hi
    unfold va_up
    rw [if_neg (by omega)]
    exact h.2.2.1 i (by omega) hj
  · show va_up w.1 w.2.1 x (qz_old + i) = _
    unfold va_up
    rw [if_neg (by omega)]
    exact h.2.2.2.1 i
  · show qz_ce (va_up w.1 w.2.1 x i)
    have hi : i < w.2.1 + 1 := hi
    unfold va_up
    by_cases hio : i = w.2.1
    · rw [if_pos hio]; exact hc
    · rw [if_neg hio]; exact h.2.2.2.2 i (by omega)
theorem qz_ad_new (ho : w.2.1 + 1 ≤ qz_old) : qz_ad X w.2.1 = X.2.2.2.1 + w.2.1 := by
  unfold qz_ad
  rw [if_pos (by omega)]
theorem qz_nclass {u : State} {c1 c2 : ClassId} {ty : FieldType} (h1 : va_RA u c1 ty) (h2 : va_RA u c2 ty) : c1 = c2 := by
  cases ty
  case object C =>
    obtain ⟨_, _, _, _, _, a⟩ := h1
    obtain ⟨_, _, _, _, _, b⟩ := h2
    exact Option.some.inj (a.symm.trans b)
  all_goals exact Option.some.inj (h1.symm.trans h2)
theorem qz_newa_ok {ty : ArrayType} {x : Int32} (hF : qz_Fr X l m p e R s mid args below meth c n0 s0 v0 w' Qf) (hW : qz_Wd X H w) (hS : va_S (qz_A X) s.heap H locs) (hn0 : n0 ≤ w.2.1) (hs0 : s0 ≤ w.2.2) (hold : w'.2.1 ≤ qz_old) (hgr : (qz_new w (qz_na ty x.toNatClampNeg) x.toNatClampNeg).2.1 ≤ w'.2.1 ∧ (qz_new w (qz_na ty x.toNatClampNeg) x.toNatClampNeg).2.2 ≤ w'.2.2) (g2 : ¬ (x < 0 ∨ 60000 < x.toNatClampNeg)) (g3 : qz_nt ty = true) (hd : decode (qz_in m).1.2.1 pc = .ok (.newarray ty, 2))
    (kk : ∀ (H1 : Heap), qz_Wd X H1 (qz_new w (qz_na ty x.toNatClampNeg) x.toNatClampNeg) → va_S (qz_A X) s.heap H1 locs → n0 ≤ (qz_new w (qz_na ty x.toNatClampNeg) x.toNatClampNeg).2.1 → s0 ≤ (qz_new w (qz_na ty x.toNatClampNeg) x.toNatClampNeg).2.2 → W p l e R s mid args below meth c H1 locs ((qz_new w (qz_na ty x.toNatClampNeg) x.toNatClampNeg).2.1 - n0) ((qz_new w (qz_na ty x.toNatClampNeg) x.toNatClampNeg).2.2 - s0) Q (F0 mid (pc + 2) ls (.ref (qz_ad X w.2.1) :: t.map (qz_v X)))) : W p l e R s mid args below meth c H locs (w.2.1 - n0) (w.2.2 - s0) Q (F0 mid pc ls (.int x :: t.map (qz_v X))) := by
  obtain ⟨⟨hx, hb, hr, hlk, hml, hown, hts, hSt, hin, hfr, hlo⟩, hz, hce, hsl, -⟩ := hF
  have e1 : w.2.1 + 1 ≤ w'.2.1 := hgr.1
  have e2 : w.2.2 + x.toNatClampNeg ≤ w'.2.2 := hgr.2
  have key : ∀ (ft : FieldType) (a0 : vp_A) (t0 : Nat), newarray.typeOf ty = ft → qz_na ty x.toNatClampNeg = .inl (ft, a0) → (qz_tys X)[t0]? = some (X.2.1 ft, ft) → qz_e X (.inl (ft, a0)) = .inl (X.2.1 ft, a0) → qz_ce (.inl (ft, a0)) → (∀ cA : ClassId, vp_cell cA a0 = arrV cA x.toNatClampNeg (fun _ => defaultValue ft)) → componentBytes ft ≤ 8 → Cond.arrayClass ft ∈ tables_1 → W p l e R s mid args below meth c H locs (w.2.1 - n0) (w.2.2 - s0) Q (F0 mid pc ls (.int x :: t.map (qz_v X))) := by
    intro ft a0 t0 k1 k2 k3 k4 k5 k6 k7 k8
    refine va_newa (ty := ft) (a0 := a0) (N' := x.toNatClampNeg) hx hb (by rw [k1]; exact hts _ (qz_tw k8 rfl)) k1 hSt.1 hW.1 qz_ws_D hS (fun q hq => by show X.2.2.2.1 ≤ q; omega) k6 (fun h => g2 (Or.inl h)) rfl (by
      have : ¬ 60000 < x.toNatClampNeg := fun h => g2 (Or.inr h)
      have := Nat.mul_le_mul (show x.toNatClampNeg ≤ 60000 by omega) k7
      omega) (by omega) (by omega) hd (fun q cA H1 hK1 hP1 hD1 hS1 => ?_)
    refine qz_size fun hsz => ?_
    have hcA : cA = X.2.1 ft := by
      have h1 := (hK1.2 (qz_tys X).length (cA, ft) (by simp)).2
      have h2 := (hSt.1.2 t0 _ k3).2
      exact qz_nclass h1 h2
    subst hcA
    have hq := qz_place hP1 hD1 (by omega)
    subst hq
    rw [k2] at kk
    have hW1 : qz_Wd X H1 (qz_new w (.inl (ft, a0)) x.toNatClampNeg) := hW.push k5 (by omega) (by rw [k4]; exact hP1)
    have := kk H1 hW1 hS1 (by show n0 ≤ w.2.1 + 1; omega) (by show s0 ≤ w.2.2 + _; omega)
    rw [qz_ad_new (by omega)] at this
    refine W.cs ?_ ?_ this
    · show w.2.1 - n0 + 1 = w.2.1 + 1 - n0; omega
    · show w.2.2 - s0 + x.toNatClampNeg = w.2.2 + x.toNatClampNeg - s0; omega
  cases ty
  case int => exact key .int _ 0 rfl rfl rfl rfl (Or.inl rfl) (fun cA => rfl) (by decide) qz_ar_int
  case long => exact key .long _ 1 rfl rfl rfl rfl (Or.inr (Or.inl rfl)) (fun cA => rfl) (by decide) qz_ar_long
  case byte => exact key .byte _ 2 rfl rfl rfl rfl (Or.inr (Or.inr (Or.inl rfl))) (fun cA => rfl) (by decide) qz_ar_byte
  all_goals cases g3
theorem qz_newq_ok {a j : Nat} {C : String} {x : Int32} (hF : qz_Fr X l m p e R s mid args below meth c n0 s0 v0 w' Qf) (hW : qz_Wd X H w) (hS : va_S (qz_A X) s.heap H locs) (hn0 : n0 ≤ w.2.1) (hs0 : s0 ≤ w.2.2) (hold : w'.2.1 ≤ qz_old) (hgr : (qz_new w (.inl (.object C, x.toNatClampNeg, .inr (.inr (.inr (.inr (fun _ => none)))))) x.toNatClampNeg).2.1 ≤ w'.2.1 ∧ (qz_new w (.inl (.object C, x.toNatClampNeg, .inr (.inr (.inr (.inr (fun _ => none)))))) x.toNatClampNeg).2.2 ≤ w'.2.2) (g2 : ¬ (x < 0 ∨ 60000 < x.toNatClampNeg)) (hk : ((qz_in m).2.2.2.1, j, a) ∈ qz_kc) (hk2 : a = 8 ∨ a = 6) (hC : qz_at qz_cn a = some C) (hd : decode (qz_in m).1.2.1 pc = .ok (.anewarray j, 3))
    (kk : ∀ (H1 : Heap), qz_Wd X H1 (qz_new w (.inl (.object C, x.toNatClampNeg, .inr (.inr (.inr (.inr (fun _ => none)))))) x.toNatClampNeg) → va_S (qz_A X) s.heap H1 locs → n0 ≤ (qz_new w (.inl (.object C, x.toNatClampNeg, .inr (.inr (.inr (.inr (fun _ => none)))))) x.toNatClampNeg).2.1 → s0 ≤ (qz_new w (.inl (.object C, x.toNatClampNeg, .inr (.inr (.inr (.inr (fun _ => none)))))) x.toNatClampNeg).2.2 → W p l e R s mid args below meth c H1 locs ((qz_new w (.inl (.object C, x.toNatClampNeg, .inr (.inr (.inr (.inr (fun _ => none)))))) x.toNatClampNeg).2.1 - n0) ((qz_new w (.inl (.object C, x.toNatClampNeg, .inr (.inr (.inr (.inr (fun _ => none)))))) x.toNatClampNeg).2.2 - s0) Q (F0 mid (pc + 3) ls (.ref (qz_ad X w.2.1) :: t.map (qz_v X)))) : W p l e R s mid args below meth c H locs (w.2.1 - n0) (w.2.2 - s0) Q (F0 mid pc ls (.int x :: t.map (qz_v X))) := by
  obtain ⟨⟨hx, hb, hr, hlk, hml, hown, hts, hSt, hin, hfr, hlo⟩, hz, hce, hsl, -⟩ := hF
  have e1 : w.2.1 + 1 ≤ w'.2.1 := hgr.1
  have e2 : w.2.2 + x.toNatClampNeg ≤ w'.2.2 := hgr.2
  have hkl := qz_kc_ok _ hk
  unfold qz_klw at hkl
  dsimp only at hkl
  rw [qz_gd_at _ _ _ hC] at hkl
  have hov : va_AO C s ∧ qz_ce (.inl (.object C, x.toNatClampNeg, .inr (.inr (.inr (.inr (fun _ => none)))))) ∧ ∃ t0 : Nat, (qz_tys X)[t0]? = some (X.2.1 (.object C), .object C) := by
    rcases hk2 with rfl | rfl
    · cases hC
      exact ⟨hSt.2.2.2.1, Or.inr (Or.inr (Or.inr (Or.inl rfl))), 3, rfl⟩
    · cases hC
      exact ⟨hSt.2.2.2.2.1, Or.inr (Or.inr (Or.inr (Or.inr rfl))), 4, rfl⟩
  obtain ⟨k1, k5, t0, k3⟩ := hov
  refine va_newq (C := C) (N' := x.toNatClampNeg) hx hb hown (hts _ (qz_tw hkl rfl)) k1 hSt.1 hW.1 qz_ws_D hS (fun q hq => by show X.2.2.2.1 ≤ q; omega) (fun h => g2 (Or.inl h)) rfl (by
    have : ¬ 60000 < x.toNatClampNeg := fun h => g2 (Or.inr h)
    omega) (by omega) (by omega) hd (fun q cA H1 hK1 hP1 hD1 hS1 => ?_)
  refine qz_size fun hsz => ?_
  have hcA : cA = X.2.1 (.object C) := by
    have h1 := (hK1.2 (qz_tys X).length (cA, .object C) (by simp)).2
    have h2 := (hSt.1.2 t0 _ k3).2
    exact qz_nclass h1 h2
  subst hcA
  have hq := qz_place hP1 hD1 (by omega)
  subst hq
  have hW1 : qz_Wd X H1 (qz_new w (.inl (.object C, x.toNatClampNeg, .inr (.inr (.inr (.inr (fun _ => none)))))) x.toNatClampNeg) := hW.push k5 (by omega) hP1
  have := kk H1 hW1 hS1 (by show n0 ≤ w.2.1 + 1; omega) (by show s0 ≤ w.2.2 + _; omega)
  rw [qz_ad_new (by omega)] at this
  refine W.cs ?_ ?_ this
  · show w.2.1 - n0 + 1 = w.2.1 + 1 - n0; omega
  · show w.2.2 - s0 + x.toNatClampNeg = w.2.2 + x.toNatClampNeg - s0; omega
theorem qz_nf_at : ∀ (tl : List Nat) (i k : Nat), tl[i]? = some k → (qz_nf tl)[i]? = some (if k = 0 then Value.int 0 else .null)
  | [], _, _, h => by simp at h
  | 0 :: l, 0, k, h => by simp at h; subst h; rfl
  | (q + 1) :: l, 0, k, h => by simp at h; subst h; rfl
  | 0 :: l, i + 1, k, h => by
    show (qz_nf l)[i]? = _
    exact qz_nf_at l i k (by simpa using h)
  | (q + 1) :: l, i + 1, k, h => by
    show (qz_nf l)[i]? = _
    exact qz_nf_at l i k (by simpa using h)
theorem qz_nf_len : ∀ (tl : List Nat), (qz_nf tl).length = tl.length
  | [] => rfl
  | 0 :: l => congrArg Nat.succ (qz_nf_len l)
  | (_ + 1) :: l => congrArg Nat.succ (qz_nf_len l)
theorem qz_new_ok {a b j : Nat} {tl : List Nat} (hF : qz_Fr X l m p e R s mid args below meth c n0 s0 v0 w' Qf) (hW : qz_Wd X H w) (hS : va_S (qz_A X) s.heap H locs) (hn0 : n0 ≤ w.2.1) (hs0 : s0 ≤ w.2.2) (hold : w'.2.1 ≤ qz_old) (hgr : (qz_new w (.inr (a, qz_nf tl)) b).2.1 ≤ w'.2.1 ∧ (qz_new w (.inr (a, qz_nf tl)) b).2.2 ≤ w'.2.2) (hk : ((qz_in m).2.2.2.1, j, a) ∈ qz_kc) (hk2 : b = (qz_gd (cT_0, cY_0, 0) qz_ct a).2.2) (hk3 : tl = (List.range b).map (fun x => qz_kd ((qz_gd (cT_0, cY_0, 0) qz_ct a).2.1 x))) (hk4 : a < 13) (hk5 : 7 ∉ tl) (hd : decode (qz_in m).1.2.1 pc = .ok (.new j, 3))
    (kk : ∀ (H1 : Heap), qz_Wd X H1 (qz_new w (.inr (a, qz_nf tl)) b) → va_S (qz_A X) s.heap H1 locs → n0 ≤ (qz_new w (.inr (a, qz_nf tl)) b).2.1 → s0 ≤ (qz_new w (.inr (a, qz_nf tl)) b).2.2 → W p l e R s mid args below meth c H1 locs ((qz_new w (.inr (a, qz_nf tl)) b).2.1 - n0) ((qz_new w (.inr (a, qz_nf tl)) b).2.2 - s0) Q (F0 mid (pc + 3) ls (.ref (qz_ad X w.2.1) :: t.map (qz_v X)))) : W p l e R s mid args below meth c H locs (w.2.1 - n0) (w.2.2 - s0) Q (F0 mid pc ls (t.map (qz_v X))) := by
  obtain ⟨⟨hx, hb, hr, hlk, hml, hown, hts, hSt, hin, hfr, hlo⟩, hz, hce, hsl, -⟩ := hF
  have e1 : w.2.1 + 1 ≤ w'.2.1 := hgr.1
  have e2 : w.2.2 + b ≤ w'.2.2 := hgr.2
  obtain ⟨r, hr1⟩ := qz_cl_lt hk4
  obtain ⟨ty, ⟨o1, o2, o3, o4, o5, o6, o7⟩, o8⟩ := qz_okcs a r hr1
  have hkl := qz_kc_ok _ hk
  unfold qz_klw at hkl
  dsimp only at hkl
  rw [qz_gd_at _ _ _ o1] at hkl
  have hb2 : b = r.2.2 := by rw [hk2, o8]
  rw [o8] at hk3
  dsimp only at hk3
  subst hb2
  have hlen : tl.length = r.2.2 := by rw [hk3]; simp
  refine va_new (ci := a) (fs := (qz_nf tl).map (qz_v X)) (C := r.1) (T := r.2.1) (N := r.2.2) hx hb hts (fun w hw => qz_tw (o2 w hw) (qz_lay_good hw)) ty o3 hown (hts _ (qz_tw hkl rfl)) (hts _ (qz_tw o6 rfl)) (hts _ (qz_tw o7 rfl)) hSt.1 hW.1 qz_ws_D hS (fun q hq => by show X.2.2.2.1 ≤ q; omega) hr1 (fun i hi => ?_) (by omega) (by omega) hd (fun q H1 hP1 hD1 hS1 => ?_)
  · have hti : tl[i]? = some (qz_kd (ty i)) := by rw [hk3]; simp [hi]
    have hn7 : qz_kd (ty i) ≠ 7 := fun h => hk5 (by rw [← h]; exact List.mem_of_getElem? hti)
    have hat := qz_nf_at tl i _ hti
    show _ = ((qz_nf tl).map (qz_v X)).getD i .null
    rw [List.getD_eq_getElem?_getD, List.getElem?_map, hat]
    cases hty : ty i <;> rw [hty] at hn7 <;> simp [qz_kd] at hn7 ⊢ <;> rfl
  · refine qz_size fun hsz => ?_
    have hq := qz_place hP1 hD1 (by omega)
    subst hq
    have hW1 : qz_Wd X H1 (qz_new w (.inr (a, qz_nf tl)) r.2.2) := hW.push (by show (qz_nf tl).length = _; rw [qz_nf_len, hlen, o8]) (by omega) hP1
    have := kk H1 hW1 hS1 (by show n0 ≤ w.2.1 + 1; omega) (by show s0 ≤ w.2.2 + _; omega)
    rw [qz_ad_new (by omega)] at this
    refine W.cs ?_ ?_ this
    · show w.2.1 - n0 + 1 = w.2.1 + 1 - n0; omega
    · show w.2.2 - s0 + r.2.2 = w.2.2 + r.2.2 - s0; omega
theorem qz_cat_sum (X : qz_X) : ∀ (t : List Value), ((t.map (qz_v X)).map fun v => v.category).sum = qz_cat t
  | [] => rfl
  | v :: t => by
    show (qz_v X v).category + ((t.map (qz_v X)).map fun v => v.category).sum = v.category + qz_cat t
    rw [qz_v_cat, qz_cat_sum X t]
theorem qz_obj_ok {j q : Nat} {L : qz_L} (hF : qz_Fr X l m p e R s mid args below meth c n0 s0 v0 w' Qf) (hL : lv_has ls c.maxLocals (qz_pl X 0 L)) (hk : ((qz_in m).2.2.2.1, j) ∈ qz_oi ∧ 40 ≤ (qz_in m).2.2.1 ∧ 1 ≤ (qz_in m).2.1) (hc8 : qz_cat t ≤ 8) (hd : decode (qz_in m).1.2.1 pc = .ok (.invokespecial j, 3))
    (kk : W p l e R s mid args below meth c H locs cells slots Q (F0 mid (pc + 3) ls (t.map (qz_v X)))) : W p l e R s mid args below meth c H locs cells slots Q (F0 mid pc ls (.ref (qz_ad X q) :: t.map (qz_v X))) := by
  obtain ⟨⟨hx, hb, hr, hlk, hml, hown, hts, hSt, hin, hfr, hlo⟩, -⟩ := hF
  refine W.objInit hx hb hown (hts _ (qz_tw (qz_oi_ok _ hk.1) rfl)) (hts _ (qz_tw qz_oi2.1 rfl)) (hts _ (qz_tw qz_oi2.2 rfl)) (a := qz_ad X q) (rest := t.map (qz_v X)) rfl hL.1 rfl hd (by omega) ?_ kk
  rw [qz_cat_sum]
  show 2 * 0 + qz_cat t + 12 ≤ R.locals
  omega
theorem qz_copy_ok {j o q n1 n2 : Nat} {g g1 : Nat → Int32} {sp dp z : Int32} {L : qz_L} (hF : qz_Fr X l m p e R s mid args below meth c n0 s0 v0 w' Qf) (hW : qz_Wd X H w) (hS : va_S (qz_A X) s.heap H locs) (hL : lv_has ls c.maxLocals (qz_pl X 0 L)) (hk : ((qz_in m).2.2.2.1, j) ∈ qz_ac ∧ 40 ≤ (qz_in m).2.2.1 ∧ 1 ≤ (qz_in m).2.1) (hc8 : qz_cat t ≤ 8) (e1 : w.1 o = .inl (.int, n1, .inl g)) (e2 : w.1 q = .inl (.int, n2, .inl g1)) (e3 : ¬ sp < 0 ∧ ¬ dp < 0 ∧ ¬ z < 0 ∧ sp.toNatClampNeg + z.toNatClampNeg ≤ n1 ∧ dp.toNatClampNeg + z.toNatClampNeg ≤ n2) (hd : decode (qz_in m).1.2.1 pc = .ok (.invokestatic j, 3))
    (kk : ∀ (H1 : Heap) (locs1 : List Loc), qz_Wd X H1 (va_up w.1 q (.inl (.int, n2, .inl (va_cpy g g1 sp.toNatClampNeg dp.toNatClampNeg z.toNatClampNeg))), w.2) → va_S (qz_A X) s.heap H1 locs1 → W p l e R s mid args below meth c H1 locs1 cells slots Q (F0 mid (pc + 3) ls (t.map (qz_v X)))) : W p l e R s mid args below meth c H locs cells slots Q (F0 mid pc ls (.int z :: .int dp :: .ref (qz_ad X q) :: .int sp :: .ref (qz_ad X o) :: t.map (qz_v X))) := by
  obtain ⟨⟨hx, hb, hr, hlk, hml, hown, hts, hSt, hin, hfr, hlo⟩, -⟩ := hF
  have ho := qz_arr_in hW e1 ⟨by decide, by decide⟩
  have hq := qz_arr_in hW e2 ⟨by decide, by decide⟩
  have ha := qz_ws_at (X := X) ho
  have hb2 := qz_ws_at (X := X) hq
  rw [e1] at ha
  rw [e2] at hb2
  rw [qz_ad_in hW ho, qz_ad_in hW hq]
  refine va_copyi (ty := .int) hx hb hL.1.symm hown (hts _ (qz_tw (qz_ac_ok _ hk.1) rfl)) (hts _ (qz_tw qz_ac2.1 rfl)) (hts _ (qz_tw qz_ac2.2.1 rfl)) (hts _ (qz_tw qz_ac2.2.2 rfl)) hSt.1 hW.1 qz_ws_D hS o q 0 0 ha hb2 rfl rfl rfl e3.1 e3.2.1 e3.2.2.1 e3.2.2.2.1 e3.2.2.2.2 (fun _ _ => rfl) (by omega) ?_ hd (fun H1 locs1 hP1 _ hS1 => kk H1 locs1 (hW.up hq (Or.inl rfl) hP1) hS1)
  rw [qz_cat_sum]
  show qz_cat t + (7 + 11) ≤ R.locals
  omega
end QZR

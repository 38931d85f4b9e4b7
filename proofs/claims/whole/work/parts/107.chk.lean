/-! String.checkIndex within its bounds: a step that changes nothing -/
def ci_pre : MethodName := ⟨"jdk/internal/util/Preconditions", "checkIndex", "(IILjava/util/function/BiFunction;)I"⟩
def ci_chk : MethodName := ⟨"java/lang/String", "checkIndex", "(II)V"⟩
def ci_wp : List Cond := Cond.code ci_pre prog_22_method_11_code 3 (some .int) :: qz_TW
def ci_wc : List Cond := Cond.code ci_chk prog_17_method_155_code 2 none :: qz_TW
theorem ci_p : Cond.code ci_pre prog_22_method_11_code 3 (some .int) ∈ tables_1 ∧ Cond.static ci_pre ∈ tables_1 ∧ Cond.initialized "jdk/internal/util/Preconditions" ∈ tables_1 ∧ Cond.methodLink "java/lang/String" 1059 ci_pre ∈ tables_1 := ⟨tm_3 (List.mem_of_getElem? (i := 44) (by decide +kernel)), tm_3 (List.mem_of_getElem? (i := 43) (by decide +kernel)), tm_1 (List.mem_of_getElem? (i := 17) (by decide +kernel)), tm_3 (List.mem_of_getElem? (i := 42) (by decide +kernel))⟩
theorem ci_c : Cond.code ci_chk prog_17_method_155_code 2 none ∈ tables_1 ∧ Cond.static ci_chk ∈ tables_1 ∧ Cond.initialized "java/lang/String" ∈ tables_1 ∧ Cond.methodLink "java/lang/StringLatin1" 9 ci_chk ∈ tables_1 := ⟨tm_3 (List.mem_of_getElem? (i := 39) (by decide +kernel)), tm_3 (List.mem_of_getElem? (i := 38) (by decide +kernel)), tm_1 (List.mem_of_getElem? (i := 15) (by decide +kernel)), tm_3 (List.mem_of_getElem? (i := 37) (by decide +kernel))⟩
theorem ci_f : Cond.fieldLink "java/lang/String" 1053 "jdk/internal/util/Preconditions" "SIOOBE_FORMATTER" "Ljava/util/function/BiFunction;" ∈ tables_1 := tm_3 (List.mem_of_getElem? (i := 40) (by decide +kernel))
theorem ci_p0 : decode prog_22_method_11_code 0 = .ok (.iload_n 0, 1) := by decide +kernel
theorem ci_p1 : decode prog_22_method_11_code 1 = .ok (.ifCond .lt 8, 3) := by decide +kernel
theorem ci_p4 : decode prog_22_method_11_code 4 = .ok (.iload_n 0, 1) := by decide +kernel
theorem ci_p5 : decode prog_22_method_11_code 5 = .ok (.iload_n 1, 1) := by decide +kernel
theorem ci_p6 : decode prog_22_method_11_code 6 = .ok (.if_icmp .lt 10, 3) := by decide +kernel
theorem ci_p16 : decode prog_22_method_11_code 16 = .ok (.iload_n 0, 1) := by decide +kernel
theorem ci_p17 : decode prog_22_method_11_code 17 = .ok (.ireturn, 1) := by decide +kernel
theorem ci_c0 : decode prog_17_method_155_code 0 = .ok (.iload_n 0, 1) := by decide +kernel
theorem ci_c1 : decode prog_17_method_155_code 1 = .ok (.iload_n 1, 1) := by decide +kernel
theorem ci_c2 : decode prog_17_method_155_code 2 = .ok (.getstatic 1053, 3) := by decide +kernel
theorem ci_c5 : decode prog_17_method_155_code 5 = .ok (.invokestatic 1059, 3) := by decide +kernel
theorem ci_c8 : decode prog_17_method_155_code 8 = .ok (.pop, 1) := by decide +kernel
theorem ci_c9 : decode prog_17_method_155_code 9 = .ok (.return_, 1) := by decide +kernel
def ci_Q (v : Option Value) : Array Value → State → Outcome → State → Prop := fun _ st oc t => oc = .returned v ∧ t.heap = st.heap
theorem ci_gp : GoodIn qz_TW ci_wp := by
  intro w hw
  rcases List.mem_cons.mp hw with rfl | hw
  · exact ⟨qz_tw ci_p.1 rfl, good_of_word rfl⟩
  · exact ⟨hw, good_of_word (List.mem_filter.mp hw).2⟩
theorem ci_gc : GoodIn qz_TW ci_wc := by
  intro w hw
  rcases List.mem_cons.mp hw with rfl | hw
  · exact ⟨qz_tw ci_c.1 rfl, good_of_word rfl⟩
  · exact ⟨hw, good_of_word (List.mem_filter.mp hw).2⟩
def ci_r0 : Room := { frames := 0, cells := 0, slots := 0, locals := 0 }
def ci_r1 : Room := { frames := 1, cells := 0, slots := 0, locals := 30 }
theorem ci_pre_met (l : Launch) (i z : Int32) (v : Value) (hv0 : v = .null ∨ ∃ q, v = .ref q) (hi : ¬ i < 0) (hz : i < z) : Met l ci_pre ci_wp ci_r0 (va_Pc [.int i, .int z, v] (fun _ => True)) (ci_Q (some (.int i))) 0 0 (fun _ => False) := by
  refine Met.ofW (cc := prog_22_method_11_code) (maxL := 3) (ret := some .int) (by decide) rfl ?_
  intro p e s m args below meth c s₁ B hml hv
  obtain ⟨rfl, -⟩ := hv
  have hx := B.exec
  have hb := B.bytes
  have hr := B.returns
  have hlocks := B.notSynchronized
  have hl := lv_entry ([.int i, .int z, v]) (n := 3) (by rcases hv0 with rfl | ⟨q, rfl⟩ <;> exact Nat.le_of_ble_eq_true rfl)
  rw [lg_entry_eq]
  generalize (lg_sl ([.int i, .int z, v]) ++ List.replicate (3 - (lg_sl ([.int i, .int z, v])).length) Slot.unset).toArray = ls at hl ⊢
  have hl : lv_has ls 3 [(0, .int i), (1, .int z), (2, v)] := hl
  refine lv_iload_n hx hb ci_p0 rfl (lv_at hl 0 rfl) ?_
  refine lv_if_lt hx hb ci_p1 (tgt := 9) (by decide) (fun h => absurd h hi) (fun _ => ?_)
  refine lv_iload_n hx hb ci_p4 rfl (lv_at hl 0 rfl) ?_
  refine lv_iload_n hx hb ci_p5 rfl (lv_at hl 1 rfl) ?_
  refine lv_icmp_lt hx hb ci_p6 (tgt := 16) (by decide) (fun _ => ?_) (fun h => absurd hz h)
  refine lv_iload_n hx hb ci_p16 rfl (lv_at hl 0 rfl) ?_
  exact W.iret hx hb hr (fun t ht _ => ⟨rfl, ht⟩) (fun _ h => absurd h List.not_mem_nil) ci_p17
section CIQ
variable {l : Launch} {p : Program} {e : Env} {R : Room} {s : State} {mid : MethodId} {args : Array Value} {below : List Frame} {meth : Method} {c : Code} {Q : State → Prop} {H : Heap} {locs : List Loc} {cells slots : Nat} {pc : Nat} {ls : Array Slot}
theorem ci_after {a : Array Value} {mc ms : Nat} {st0 rest : List Value} {v1 : Option Value} (hr : va_Run p l e R s mid args below meth c H locs cells slots mc ms (F0 mid pc ls st0) rest (ci_Q v1 a) (fun _ => False))
    (kk : W p l e R s mid args below meth c H locs (cells + mc) (slots + ms) Q (F0 mid (pc + 3) ls (v1.toList ++ rest))) : W p l e R s mid args below meth c H locs cells slots Q (F0 mid pc ls st0) := by
  intro T hT X0
  obtain ⟨v, st₀, u, T', L, h0, X1, hL, e1, e2, ⟨hv, hw⟩, st⟩ := hr T hT X0
  have hv : v = v1 := by cases hv; rfl
  subst hv
  have hLn : L = [] := by
    cases L with
    | nil => rfl
    | cons q L => exact absurd (hL q List.mem_cons_self) id
  subst hLn
  rw [List.append_nil] at X1
  obtain ⟨t2, a1, b1⟩ := kk T' (by rw [e1, hw, h0]) X1
  exact ⟨t2, st t2 a1, b1⟩
end CIQ
theorem ci_chk_met (l : Launch) (X : qz_X) (i z : Int32) (hi : ¬ i < 0) (hz : i < z) : Met l ci_chk ci_wc ci_r1 (va_Pc [.int i, .int z] (fun U => qz_St X U)) (ci_Q none) 0 0 (fun _ => False) := by
  refine Met.ofW (cc := prog_17_method_155_code) (maxL := 2) (ret := none) (by decide) rfl ?_
  intro p e s m args below meth c s₁ B hml hv
  obtain ⟨rfl, hSt⟩ := hv
  have hx := B.exec
  have hb := B.bytes
  have hr := B.returns
  have hlocks := B.notSynchronized
  have hts0 := atoms_spec (ws := ci_wc) B.pre
  have hts : ∀ w ∈ qz_TW, w.before ([.int i, .int z] : List Value).toArray s = true := fun w h => hts0 w (List.mem_cons_of_mem _ h)
  have hown : s.vm.findClass "java/lang/String" = some m.cls := findClass_of_methodNamed B.named
  have hS : va_S (qz_A X) s.heap s.heap [] := va_S.rf
  have hl := lv_entry ([.int i, .int z]) (n := 2) (Nat.le_of_ble_eq_true rfl)
  rw [lg_entry_eq]
  generalize (lg_sl ([.int i, .int z]) ++ List.replicate (2 - (lg_sl ([.int i, .int z])).length) Slot.unset).toArray = ls at hl ⊢
  have hl : lv_has ls 2 [(0, .int i), (1, .int z)] := hl
  obtain ⟨v, hv0, hZ⟩ : ∃ v : Value, (v = .null ∨ ∃ q, v = .ref q) ∧ va_Z "jdk/internal/util/Preconditions" "SIOOBE_FORMATTER" "Ljava/util/function/BiFunction;" v (qz_A X) s s.heap := by
    rcases hSt.2.2.2.2.2.2.2.2.2.2.2.2.2.2.2.2 with h | ⟨t, h⟩
    · exact ⟨_, Or.inl rfl, h⟩
    · exact ⟨_, Or.inr ⟨t, rfl⟩, h⟩
  refine lv_iload_n hx hb ci_c0 rfl (lv_at hl 0 rfl) ?_
  refine lv_iload_n hx hb ci_c1 rfl (lv_at hl 1 rfl) ?_
  refine va_gets hx hb hZ hS hown (hts _ (qz_tw ci_f rfl)) (fun _ h => h) ci_c2 ?_
  refine ci_after (va_runS (As := [.int i, .int z, v]) (rest := []) ⟨hx, hb, hml, hown, hts⟩ (ci_pre_met l i z v hv0 hi hz) (va_cwS 3 hts (own := "java/lang/String") (index := 1059) (y := ci_pre) (ws := ci_wp) (qz_good_cons (qz_tw ci_p.2.2.2 rfl) (qz_good_cons (qz_tw ci_p.2.1 rfl) (qz_good_cons (qz_tw ci_p.2.2.1 rfl) ci_gp))) rfl rfl rfl (by decide +kernel) ⟨Nat.le_of_ble_eq_true rfl, Nat.le_of_ble_eq_true rfl⟩) ⟨fun a U g mk q => ⟨q.1, trivial⟩, fun U hU hW => ⟨rfl, trivial⟩⟩ rfl rfl hl.1 rfl (lv_room (Nat.le_of_ble_eq_true rfl)) ci_c5 ⟨Nat.zero_le _, Nat.zero_le _⟩) ?_
  refine lv_pop (va := .int i) (rest := []) hx hb ci_c8 rfl ?_
  exact W.vret hx hb hr (fun t ht _ => ⟨rfl, ht⟩) (fun _ h => absurd h List.not_mem_nil) ci_c9
section CIR
variable {X : qz_X} {l : Launch} {m : Nat} {p : Program} {e : Env} {R : Room} {s : State} {mid : MethodId} {args : Array Value} {below : List Frame} {meth : Method} {c : Code} {n0 s0 : Nat} {v0 : Option Value} {w' : qz_W} {Qf Q : State → Prop} {H : Heap} {locs : List Loc} {cells slots : Nat} {w : qz_W} {pc : Nat} {ls : Array Slot} {t : List Value}
theorem qz_chk_ok {j : Nat} {i z : Int32} {L : qz_L} (hF : qz_Fr X l m p e R s mid args below meth c n0 s0 v0 w' Qf) (hS : va_S (qz_A X) s.heap H locs) (hL : lv_has ls c.maxLocals (qz_pl X 0 L)) (hk : (qz_in m).2.2.2.1 = 14 ∧ j = 9 ∧ 90 ≤ (qz_in m).2.2.1 ∧ 3 ≤ (qz_in m).2.1) (hc : qz_cat t ≤ 8) (hni : ¬ (i < 0 ∨ z ≤ i)) (hd : decode (qz_in m).1.2.1 pc = .ok (.invokestatic j, 3)) (hgr : w.2.1 ≤ w'.2.1 ∧ w.2.2 ≤ w'.2.2)
    (kk : W p l e R s mid args below meth c H locs (w.2.1 - n0) (w.2.2 - s0) Q (F0 mid (pc + 3) ls (t.map (qz_v X)))) : W p l e R s mid args below meth c H locs (w.2.1 - n0) (w.2.2 - s0) Q (F0 mid pc ls ((.int z :: .int i :: t).map (qz_v X))) := by
  obtain ⟨⟨hx, hb, hr, hlk, hml, hown, hts, hSt, hin, hfr, hlo⟩, hz, hce, hsl, -⟩ := hF
  obtain ⟨hk1, rfl, hk2, hk3⟩ := hk
  rw [hk1] at hown
  have hi : ¬ i < 0 := fun h => hni (Or.inl h)
  have hz' : i < z := Int32.not_le.mp (fun h => hni (Or.inr h))
  have hfr3 : 3 ≤ R.frames := Nat.le_trans hk3 hfr
  have hlo3 : 90 ≤ R.locals := Nat.le_trans hk2 hlo
  have cw := va_cwS (R := R) (s := s) (args := args) (mc := 0) (ms := 0) (rm := ci_r1) 2 hts (own := "java/lang/StringLatin1") (index := 9) (y := ci_chk) (ws := ci_wc) (qz_good_cons (qz_tw ci_c.2.2.2 rfl) (qz_good_cons (qz_tw ci_c.2.1 rfl) (qz_good_cons (qz_tw ci_c.2.2.1 rfl) ci_gc))) rfl rfl rfl (by decide +kernel) ⟨by show 1 + 1 ≤ R.frames; omega, by show 8 + (2 + 11) + 30 ≤ R.locals; omega⟩
  exact ci_after (va_runS (As := [.int i, .int z]) (rest := t.map (qz_v X)) ⟨hx, hb, hml, hown, hts⟩ (ci_chk_met l X i z hi hz') cw ⟨fun a U g mk q => ⟨q.1, q.2.to (U := U.calling g mk a) (State.WarmedH.refl U) (fun _ _ _ => rfl)⟩, fun U hU hWm => ⟨rfl, hSt.to hWm (fun q h1 h2 => by rw [hU]; exact hS.2.1 q h1 h2)⟩⟩ rfl rfl (hL.1.trans hml) rfl (lv_room (by rw [qz_cat_sum]; exact hc)) hd ⟨by omega, by omega⟩) kk
end CIR

/-! the law's start: what the statement gives, as a world of the small machine -/
theorem qz_fh_ok : ∀ q ∈ qz_fh, Cond.fieldLinkNest (qz_gd "" qz_on q.1) q.2.1 "TinStencils" q.2.2 "[I" "TinStencils" ∈ tables_1 := List.forall_mem_cons.mpr ⟨tm_3 (List.mem_of_getElem? (i := 200) (by decide +kernel)), List.forall_mem_cons.mpr ⟨tm_3 (List.mem_of_getElem? (i := 202) (by decide +kernel)), List.forall_mem_cons.mpr ⟨tm_3 (List.mem_of_getElem? (i := 212) (by decide +kernel)), List.forall_mem_cons.mpr ⟨tm_3 (List.mem_of_getElem? (i := 213) (by decide +kernel)), (fun _ h => absurd h List.not_mem_nil)⟩⟩⟩⟩
theorem qz_tel : ∀ j, j < 115 → (flatC (Jvm.Cond.and given_1 narrow_1))[53 + j]? = some (Cond.eq (.elem (.field (.string "TinStencils$Tokens" 55) "java/lang/String" "value" "[B") (.int (Int32.ofNat j))) (.int (qz_by.getD j 0))) := by decide +kernel
set_option maxHeartbeats 2000000 in
theorem qz_start {p : Program} {s : State} {m : MethodId} {meth : Method} {c : Code} {b L : Nat} {xs : Nat → Int32} (C0 : lw_At p s m meth c b L xs) : ∃ X : qz_X, X.2.2.2.1 = s.heap.size ∧ X.2.2.2.2.1 = L ∧ X.2.2.2.2.2 = xs ∧ X.2.2.1 0 = b ∧ qz_St X s := by
  obtain ⟨hx, hb, hr, hml, hown, hts, hX, hbl, hlocks, hgv⟩ := id C0
  have hT : ∀ w ∈ tables_1, w.before #[Value.ref b] s = true := fun w hw => hts w (List.mem_append_right _ hw)
  have hN := flat_of_before _ hgv
  have hA : ∀ a : Nat, a < s.heap.size → ¬ (fun q : Nat => s.heap.size ≤ q) a := fun a h => Nat.not_le.mpr h
  obtain ⟨c0, iS0, hK0⟩ := u_known (C := "TinStencils$Bridges") (T := cT_0) (N := 6) (n := 6) hT cI_0 (hT _ cJ_0.1)
  obtain ⟨c1, iS1, hK1⟩ := u_known (C := "TinStencils$Choosing") (T := cT_1) (N := 3) (n := 3) hT cI_1 (hT _ cJ_1.1)
  obtain ⟨c2, iS2, hK2⟩ := u_known (C := "TinStencils$Cutting") (T := cT_2) (N := 6) (n := 6) hT cI_2 (hT _ cJ_2.1)
  obtain ⟨c3, iS3, hK3⟩ := u_known (C := "TinStencils$Hanging") (T := cT_3) (N := 10) (n := 10) hT cI_3 (hT _ cJ_3.1)
  obtain ⟨c4, iS4, hK4⟩ := u_known (C := "TinStencils$Joining") (T := cT_4) (N := 4) (n := 4) hT cI_4 (hT _ cJ_4.1)
  obtain ⟨c5, iS5, hK5⟩ := u_known (C := "TinStencils$Parts") (T := cT_5) (N := 7) (n := 7) hT cI_5 (hT _ cJ_5.1)
  obtain ⟨c6, iS6, hK6⟩ := u_known (C := "TinStencils$Pile") (T := cT_6) (N := 3) (n := 3) hT cI_6 (hT _ cJ_6.1)
  obtain ⟨c7, iS7, hK7⟩ := u_known (C := "TinStencils$Reading") (T := cT_7) (N := 7) (n := 7) hT cI_7 (hT _ cJ_7.1)
  obtain ⟨c8, iS8, hK8⟩ := u_known (C := "TinStencils$Sheet") (T := cT_8) (N := 14) (n := 14) hT cI_8 (hT _ cJ_8.1)
  obtain ⟨c9, iS9, hK9⟩ := u_known (C := "TinStencils$Teller") (T := cT_9) (N := 8) (n := 8) hT cI_9 (hT _ cJ_9.1)
  obtain ⟨c10, iS10, hK10⟩ := u_known (C := "TinStencils$Tokens") (T := cT_10) (N := 6) (n := 6) hT cI_10 (hT _ cJ_10.1)
  obtain ⟨c11, iS11, hK11⟩ := u_known (C := "TinStencils") (T := cT_11) (N := 17) (n := 17) hT cI_11 (hT _ cJ_11.1)
  obtain ⟨c12, iS12, hK12⟩ := u_known (C := "TinStencilsModel") (T := cT_12) (N := 65) (n := 65) hT cI_12 (hT _ cJ_12.1)
  obtain ⟨aI, kI, oI, i1, i2, i3⟩ := Cond.arrayClass_spec (hT _ qz_ar_int)
  obtain ⟨aL, kL, oL, l1, l2, l3⟩ := Cond.arrayClass_spec (hT _ qz_ar_long)
  obtain ⟨aB, kB, oB, b1, b2, b3⟩ := Cond.arrayClass_spec (hT _ qz_ar_byte)
  have hov1 := hT _ (show Cond.arrayOver (.object "TinStencils$Sheet") ∈ tables_1 from tm_1 (List.mem_of_getElem? (i := 37) (by decide +kernel)))
  have hov2 := hT _ (show Cond.arrayOver (.object "TinStencils$Pile") ∈ tables_1 from tm_1 (List.mem_of_getElem? (i := 174) (by decide +kernel)))
  obtain ⟨oS, aS, kS, s1, s2, s3, s4, s5⟩ := Cond.arrayOver_spec hov1
  obtain ⟨oP, aP, kP, p1, p2, p3, p4, p5⟩ := Cond.arrayOver_spec hov2
  obtain ⟨tX, hX1, hX2⟩ := va_Tof (tm := .static "TinStencils" "STEP_X" "[I") (ty := .int) (N := 4) (f := fun j => .int (qz_sx j)) (A := fun q : Nat => s.heap.size ≤ q) (by decide) (hN _ (List.mem_of_getElem? (i := 10) (by decide +kernel))) (va_eqt (hN _ (List.mem_of_getElem? (i := 11) (by decide +kernel)))) (fun j hj => by
    match j, hj with
    | 0, _ => exact va_eqt (hN _ (List.mem_of_getElem? (i := 12) (by decide +kernel)))
    | 1, _ => exact va_eqt (hN _ (List.mem_of_getElem? (i := 13) (by decide +kernel)))
    | 2, _ => exact va_eqt (hN _ (List.mem_of_getElem? (i := 14) (by decide +kernel)))
    | 3, _ => exact va_eqt (hN _ (List.mem_of_getElem? (i := 15) (by decide +kernel)))) hA
  obtain ⟨tY, hY1, hY2⟩ := va_Tof (tm := .static "TinStencils" "STEP_Y" "[I") (ty := .int) (N := 4) (f := fun j => .int (qz_sy j)) (A := fun q : Nat => s.heap.size ≤ q) (by decide) (hN _ (List.mem_of_getElem? (i := 17) (by decide +kernel))) (va_eqt (hN _ (List.mem_of_getElem? (i := 18) (by decide +kernel)))) (fun j hj => by
    match j, hj with
    | 0, _ => exact va_eqt (hN _ (List.mem_of_getElem? (i := 19) (by decide +kernel)))
    | 1, _ => exact va_eqt (hN _ (List.mem_of_getElem? (i := 20) (by decide +kernel)))
    | 2, _ => exact va_eqt (hN _ (List.mem_of_getElem? (i := 21) (by decide +kernel)))
    | 3, _ => exact va_eqt (hN _ (List.mem_of_getElem? (i := 22) (by decide +kernel)))) hA
  obtain ⟨adK, adV, hvS, hvE⟩ := vk_Sof (args := #[Value.ref b]) (s := s) (N := 1) (tm := fun _ => .string "TinStencils$Tokens" 55) (len := [115]) (byt := [qz_by]) (A := fun q : Nat => s.heap.size ≤ q) (fun i hi => by rw [show i = 0 by omega]; decide) (fun i hi => hN _ (List.mem_of_getElem? (i := 49) (by decide +kernel))) (fun i hi => hN _ (List.mem_of_getElem? (i := 50) (by decide +kernel))) (fun i hi => hN _ (List.mem_of_getElem? (i := 51) (by decide +kernel))) (fun i hi => by rw [show i = 0 by omega]; exact hN _ (List.mem_of_getElem? (i := 52) (by decide +kernel)))
    (fun i hi j hj => by
      have h0 : i = 0 := by omega
      subst h0
      exact hN _ (List.mem_of_getElem? (qz_tel j hj))) (fun i j hi hj h => absurd (show i = j by omega) h) hA
  have hE0 := hvE 0 (by decide)
  obtain ⟨q1, q2, q3, q4⟩ := hvS.1 0 (by decide)
  refine ⟨((fun k => qz_gd c0 [c0, c1, c2, c3, c4, c5, c6, c7, c8, c9, c10, c11, c12] k, fun k => qz_gd iS0 [iS0, iS1, iS2, iS3, iS4, iS5, iS6, iS7, iS8, iS9, iS10, iS11, iS12] k), (fun ty => match ty with
    | .int => aI
    | .long => aL
    | .byte => aB
    | .object n => if n = "TinStencils$Sheet" then aS else aP
    | _ => aI), (fun i => match i with
    | 0 => b
    | 1 => tX
    | 2 => tY
    | 3 => adK 0
    | _ => adV 0), s.heap.size, L, xs), rfl, rfl, rfl, rfl, ?_⟩
  refine ⟨⟨?_, ?_⟩, fun q hq => va_Nw.of rfl (hT _ (qz_mh_ok q hq)), fun q hq => va_Nw.of rfl (hT _ (qz_fh_ok q hq)), va_AO.of hov1, va_AO.of hov2, vk_R.of (hT _ (show Cond.stringRef "TinStencils$Tokens" 55 qz_tx ∈ tables_1 from tm_3 (List.mem_of_getElem? (i := 15) (by decide +kernel)))) hE0, va_Zref (hT _ (show Cond.laysStatic "TinStencils" "STEP_X" "[I" ∈ tables_1 from tm_3 (List.mem_of_getElem? (i := 201) (by decide +kernel)))) (hT _ cJ_11.2) hX1 hA, va_Zref (hT _ (show Cond.laysStatic "TinStencils" "STEP_Y" "[I" ∈ tables_1 from tm_3 (List.mem_of_getElem? (i := 203) (by decide +kernel)))) (hT _ cJ_11.2) hY1 hA, va_Zof (hT _ (show Cond.laysStatic "java/lang/String" "COMPACT_STRINGS" "Z" ∈ tables_1 from tm_3 (List.mem_of_getElem? (i := 25) (by decide +kernel)))) (hT _ (show Cond.initialized "java/lang/String" ∈ tables_1 from tm_1 (List.mem_of_getElem? (i := 15) (by decide +kernel)))) (va_eqt (hN _ (List.mem_of_getElem? (i := 4) (by decide +kernel)))) hA, ?_, hX2, hY2, q1, q2, q3, q4, va_Zqof (hT _ (show Cond.laysStatic "jdk/internal/util/Preconditions" "SIOOBE_FORMATTER" "Ljava/util/function/BiFunction;" ∈ tables_1 from tm_3 (List.mem_of_getElem? (i := 41) (by decide +kernel)))) (hT _ (show Cond.initialized "jdk/internal/util/Preconditions" ∈ tables_1 from tm_1 (List.mem_of_getElem? (i := 17) (by decide +kernel)))) (hN _ (List.mem_of_getElem? (i := 5) (by decide +kernel))) hA⟩
  · intro k q hq
    match k, hq with
    | 0, hq => cases hq; exact hK0
    | 1, hq => cases hq; exact hK1
    | 2, hq => cases hq; exact hK2
    | 3, hq => cases hq; exact hK3
    | 4, hq => cases hq; exact hK4
    | 5, hq => cases hq; exact hK5
    | 6, hq => cases hq; exact hK6
    | 7, hq => cases hq; exact hK7
    | 8, hq => cases hq; exact hK8
    | 9, hq => cases hq; exact hK9
    | 10, hq => cases hq; exact hK10
    | 11, hq => cases hq; exact hK11
    | 12, hq => cases hq; exact hK12
    | k + 13, hq => simp [qz_cl] at hq
  · intro k q hq
    match k, hq with
    | 0, hq => cases hq; exact ⟨fun n z => ⟨fun k h => (by cases h), kI, i2, oI, i3⟩, i1⟩
    | 1, hq => cases hq; exact ⟨fun n z => ⟨fun k h => (by cases h), kL, l2, oL, l3⟩, l1⟩
    | 2, hq => cases hq; exact ⟨fun n z => ⟨fun k h => (by cases h), kB, b2, oB, b3⟩, b1⟩
    | 3, hq => cases hq; exact ⟨fun n z => ⟨fun k h => (by cases h), kS, s3, oS, s4⟩, kS, oS, s3, s4, s1, s5⟩
    | 4, hq => cases hq; exact ⟨fun n z => ⟨fun k h => (by cases h), kP, p3, oP, p4⟩, kP, oP, p3, p4, p1, p5⟩
    | k + 5, hq => simp [qz_tys] at hq
  · obtain ⟨scr, h1, h2, h3, h4, h5⟩ := hX
    exact ⟨scr, h1, h2, h3, Nat.le_of_eq h4.symm, by rw [h4], h5, Nat.not_le.mpr hbl⟩
/-- the world at the law's start: no cell is made -/
def qz_w0 (X : qz_X) : qz_W := (fun i => if i < qz_old then qz_jk else qz_oc X (i - qz_old), 0, 0)
/-- WHAT IS LEFT, over the small machine alone: on every script the law's run ends with 1, within the room -/
def qz_law : Prop := ∀ X : qz_X, X.2.2.2.2.1 ≤ 3072 → ∃ w', rn 296 0 [some (.ref qz_old), none, none, none] [] (qz_w0 X) = some (some (.int 1), w') ∧ w'.2.1 ≤ 600000 ∧ w'.2.2 ≤ 7302250
theorem qz_w0_Wd (X : qz_X) (H : Heap) : qz_Wd X H (qz_w0 X) := by
  refine ⟨fun k q h => ?_, Nat.zero_le _, fun i _ h => ?_, fun i => ?_, fun i h => absurd h (Nat.not_lt_zero i)⟩
  · have := (qz_ws_inv h).1
    exact absurd this (Nat.not_lt_zero k)
  · show (if i < qz_old then qz_jk else _) = _
    rw [if_pos h]
  · show (if qz_old + i < qz_old then qz_jk else qz_oc X (qz_old + i - qz_old)) = _
    rw [if_neg (by omega), show qz_old + i - qz_old = i by omega]
set_option maxHeartbeats 1000000 in
/-- the law, from its entry, over what is left -/
theorem whole_start_open (hlaw : qz_law) {p : Program} {e : Env} {s : State} {m : MethodId} {below : List Frame} {meth : Method} {c : Code} (l : Launch) {b L : Nat} {xs : Nat → Int32} (hL : L ≤ 3072) (C0 : lw_At p s m meth c b L xs) : W p l e room_1 s m #[Value.ref b] below meth c s.heap [] 0 0 (lw_Z below #[Value.ref b] s) (entryFrame m ([Value.ref b] : List Value).toArray 4) := by
  obtain ⟨hx, hb, hr, hml, hown, hts, hX, hbl, hlocks, hgv⟩ := id C0
  obtain ⟨X, hz, hXL, hXx, hXb, hSt⟩ := qz_start C0
  obtain ⟨w', hrun, hc1, hc2⟩ := hlaw X (by rw [hXL]; exact hL)
  obtain ⟨f, hf⟩ := (qz_run_iff qz_cd).mp hrun
  have hl := lv_entry ([.ref b]) (n := 4) (Nat.le_of_ble_eq_true rfl)
  rw [lg_entry_eq]
  generalize (lg_sl ([.ref b]) ++ List.replicate (4 - (lg_sl ([.ref b])).length) Slot.unset).toArray = ls at hl ⊢
  have hb0 : qz_ad X qz_old = b := (qz_ad_old X 0).trans hXb
  have hL2 : lv_has ls c.maxLocals (qz_pl X 0 [some (.ref qz_old), none, none, none]) := by
    rw [hml]
    show lv_has ls 4 [(0, .ref (qz_ad X qz_old))]
    rw [hb0]
    exact hl
  have hF : qz_Fr X l 296 p e room_1 s m #[Value.ref b] below meth c 0 0 (some (.int 1)) w' (lw_Z below #[Value.ref b] s) := by
    refine ⟨⟨hx, hb, hr, hlocks, hml, hown, fun w hw => hts w (List.mem_filter.mp hw).1, hSt, fun h => absurd h (by decide), by decide, by decide⟩, hz.symm, hc1, hc2, fun pc ls H locs hre hW1 hS1 => ?_⟩
    have hd : decode code pc = .ok (.ireturn, 1) := by
      rcases hre with ⟨x, ty, h1, hd, -⟩ | ⟨x, h1, -⟩ | ⟨x, h1, h2, -⟩ | ⟨h1, -⟩
      · exact hd
      · cases h1
      · cases h1
        rcases h2 with h2 | ⟨q, h2⟩ <;> cases h2
      · cases h1
    refine va_forget (fun q hq => by have := hS1.2.2 q hq; rw [← hz]; exact this) ?_
    exact W.widen hc1 hc2 (lw_ret hx hb hr hlocks hd)
  have := qz_sound X l qz_hv f 296 0 _ [] (qz_w0 X) _ w' hf (Nat.le_trans hc1 (by decide)) p e room_1 s m _ below meth c 0 0 _ hF s.heap [] ls ⟨qz_w0_Wd X _, va_S.rf, hL2, Nat.le_refl _, Nat.le_refl _⟩
  exact this

/-! the world as numbers, longs, and the places of the seven sheets that plate moves (0 to 5: the sheets, 6: the draft) -/
abbrev sT : Type := (Nat → Nat → Int32) × (Nat → Nat → Int64) × (Nat → Nat)
def rf_0 : List (List Nat) := [[1, 0, 0, 2, 3, 67, 0, 68, 78, 86, 96, 103, 107, 110, 117, 124, 125], [], [], [4, 5, 6], [7, 17, 27, 37, 47, 57], [], [], [0, 0, 0, 0, 0, 0, 0, 8, 9, 10, 0, 14, 15, 16], [], [], [0, 0, 0, 11, 12, 13], [], [], [], [], []]
def rf_1 : List (List Nat) := [[], [0, 0, 0, 0, 0, 0, 0, 18, 19, 20, 0, 24, 25, 26], [], [], [0, 0, 0, 21, 22, 23], [], [], [], [], [], [], [0, 0, 0, 0, 0, 0, 0, 28, 29, 30, 0, 34, 35, 36], [], [], [0, 0, 0, 31, 32, 33], []]
def rf_2 : List (List Nat) := [[], [], [], [], [], [0, 0, 0, 0, 0, 0, 0, 38, 39, 40, 0, 44, 45, 46], [], [], [0, 0, 0, 41, 42, 43], [], [], [], [], [], [], [0, 0, 0, 0, 0, 0, 0, 48, 49, 50, 0, 54, 55, 56]]
def rf_3 : List (List Nat) := [[], [], [0, 0, 0, 51, 52, 53], [], [], [], [], [], [], [0, 0, 0, 0, 0, 0, 0, 58, 59, 60, 0, 64, 65, 66], [], [], [0, 0, 0, 61, 62, 63], [], [], []]
def rf_4 : List (List Nat) := [[], [], [], [126, 190, 254], [0, 0, 0, 0, 0, 0, 0, 69, 70, 71, 0, 75, 76, 77], [], [], [0, 0, 0, 72, 73, 74], [], [], [], [], [], [], [79, 85, 0, 0, 0, 0, 0, 0], [80, 81, 82, 83, 84, 0]]
def rf_5 : List (List Nat) := [[], [], [], [], [], [], [87, 88, 89, 90, 0, 91, 92, 93, 94, 95], [], [], [], [], [], [], [], [], []]
def rf_6 : List (List Nat) := [[0, 97, 98, 99, 100, 101, 102], [], [], [], [], [], [], [104, 105, 106, 0], [], [], [], [108, 109, 0], [], [], [111, 112, 113, 114, 115, 116, 0], []]
def rf_7 : List (List Nat) := [[], [], [], [], [], [118, 119, 120, 121, 122, 123], [], [], [], [], [], [], [], [], [127, 128, 129], [130, 140, 150, 160, 170, 180]]
def rf_8 : List (List Nat) := [[], [], [0, 0, 0, 0, 0, 0, 0, 131, 132, 133, 0, 137, 138, 139], [], [], [0, 0, 0, 134, 135, 136], [], [], [], [], [], [], [0, 0, 0, 0, 0, 0, 0, 141, 142, 143, 0, 147, 148, 149], [], [], [0, 0, 0, 144, 145, 146]]
def rf_9 : List (List Nat) := [[], [], [], [], [], [], [0, 0, 0, 0, 0, 0, 0, 151, 152, 153, 0, 157, 158, 159], [], [], [0, 0, 0, 154, 155, 156], [], [], [], [], [], []]
def rf_10 : List (List Nat) := [[0, 0, 0, 0, 0, 0, 0, 161, 162, 163, 0, 167, 168, 169], [], [], [0, 0, 0, 164, 165, 166], [], [], [], [], [], [], [0, 0, 0, 0, 0, 0, 0, 171, 172, 173, 0, 177, 178, 179], [], [], [0, 0, 0, 174, 175, 176], [], []]
def rf_11 : List (List Nat) := [[], [], [], [], [0, 0, 0, 0, 0, 0, 0, 181, 182, 183, 0, 187, 188, 189], [], [], [0, 0, 0, 184, 185, 186], [], [], [], [], [], [], [191, 192, 193], [194, 204, 214, 224, 234, 244]]
def rf_12 : List (List Nat) := [[], [], [0, 0, 0, 0, 0, 0, 0, 195, 196, 197, 0, 201, 202, 203], [], [], [0, 0, 0, 198, 199, 200], [], [], [], [], [], [], [0, 0, 0, 0, 0, 0, 0, 205, 206, 207, 0, 211, 212, 213], [], [], [0, 0, 0, 208, 209, 210]]
def rf_13 : List (List Nat) := [[], [], [], [], [], [], [0, 0, 0, 0, 0, 0, 0, 215, 216, 217, 0, 221, 222, 223], [], [], [0, 0, 0, 218, 219, 220], [], [], [], [], [], []]
def rf_14 : List (List Nat) := [[0, 0, 0, 0, 0, 0, 0, 225, 226, 227, 0, 231, 232, 233], [], [], [0, 0, 0, 228, 229, 230], [], [], [], [], [], [], [0, 0, 0, 0, 0, 0, 0, 235, 236, 237, 0, 241, 242, 243], [], [], [0, 0, 0, 238, 239, 240], [], []]
def rf_15 : List (List Nat) := [[], [], [], [], [0, 0, 0, 0, 0, 0, 0, 245, 246, 247, 0, 251, 252, 253], [], [], [0, 0, 0, 248, 249, 250], [], [], [], [], [], [], [255, 256, 257], [258, 268, 278, 288, 298, 308]]
def rf_16 : List (List Nat) := [[], [], [0, 0, 0, 0, 0, 0, 0, 259, 260, 261, 0, 265, 266, 267], [], [], [0, 0, 0, 262, 263, 264], [], [], [], [], [], [], [0, 0, 0, 0, 0, 0, 0, 269, 270, 271, 0, 275, 276, 277], [], [], [0, 0, 0, 272, 273, 274]]
def rf_17 : List (List Nat) := [[], [], [], [], [], [], [0, 0, 0, 0, 0, 0, 0, 279, 280, 281, 0, 285, 286, 287], [], [], [0, 0, 0, 282, 283, 284], [], [], [], [], [], []]
def rf_18 : List (List Nat) := [[0, 0, 0, 0, 0, 0, 0, 289, 290, 291, 0, 295, 296, 297], [], [], [0, 0, 0, 292, 293, 294], [], [], [], [], [], [], [0, 0, 0, 0, 0, 0, 0, 299, 300, 301, 0, 305, 306, 307], [], [], [0, 0, 0, 302, 303, 304], [], []]
def rf_19 : List (List Nat) := [[], [], [], [], [0, 0, 0, 0, 0, 0, 0, 309, 310, 311, 0, 315, 316, 317], [], [], [0, 0, 0, 312, 313, 314], [], [], [], [], [], [], [319, 0, 320, 321, 322, 323, 324, 325, 326, 327, 328, 329, 330, 331, 0, 0, 0, 0, 332, 333, 0, 0, 0, 0, 0, 0, 0, 0, 0, 334, 335, 336, 337, 338, 339, 340, 0, 341, 0, 0, 0, 0, 342, 343, 344, 345, 346, 347, 348, 349, 350, 351, 0, 352, 353, 354, 355, 356, 357, 358, 359, 0, 0, 360, 361], []]
def rf_20 : List (List Nat) := [[], [], [], [], [], [], [], [], [], [], [], [], [], [], [], []]
def rf_21 : List (List Nat) := [[], [], [], [], [], [], [], [], [], [], [], [], [], [], [], []]
def rf_22 : List (List Nat) := [[], [], [], [], [], [], [], [], [], []]
def rf_tab : List (List (List Nat)) := [rf_0, rf_1, rf_2, rf_3, rf_4, rf_5, rf_6, rf_7, rf_8, rf_9, rf_10, rf_11, rf_12, rf_13, rf_14, rf_15, rf_16, rf_17, rf_18, rf_19, rf_20, rf_21, rf_22]
def rf (p : Nat → Nat) (i j : Nat) : Nat := if i = 4 then p j else if i = 0 ∧ j = 7 then p 6 else qz_gd 0 (qz_gd [] (qz_gd [] rf_tab (i / 16)) (i % 16)) j
def mk (X : qz_X) (s : sT) : qz_W := mkw X (s.1, s.2.1, rf s.2.2)
/-- one number, one row changed -/
def su (s : sT) (o k : Nat) (x : Int32) : sT := (fun i j => if i = o ∧ j = k then x else s.1 i j, s.2)
def sa (s : sT) (o : Nat) (g : Nat → Int32) : sT := (fun i => if i = o then g else s.1 i, s.2)
def sl (s : sT) (o k : Nat) (x : Int64) : sT := (s.1, fun i j => if i = o ∧ j = k then x else s.2.1 i j, s.2.2)
theorem su_1 (s : sT) (o k : Nat) (x : Int32) (i j : Nat) : (su s o k x).1 i j = if i = o ∧ j = k then x else s.1 i j := rfl
theorem su_2 (s : sT) (o k : Nat) (x : Int32) : (su s o k x).2 = s.2 := rfl
theorem sa_1 (s : sT) (o : Nat) (g : Nat → Int32) (i : Nat) : (sa s o g).1 i = if i = o then g else s.1 i := rfl
theorem sa_2 (s : sT) (o : Nat) (g : Nat → Int32) : (sa s o g).2 = s.2 := rfl
theorem sl_1 (s : sT) (o k : Nat) (x : Int64) : (sl s o k x).1 = s.1 := rfl
theorem sl_2 (s : sT) (o k : Nat) (x : Int64) (i j : Nat) : (sl s o k x).2.1 i j = if i = o ∧ j = k then x else s.2.1 i j := rfl
theorem sl_3 (s : sT) (o k : Nat) (x : Int64) : (sl s o k x).2.2 = s.2.2 := rfl
theorem mk_su (X : qz_X) (s : sT) (o k : Nat) (x : Int32) : mk X (su s o k x) = mkw X (ms_u (s.1, s.2.1, rf s.2.2) o k x) := rfl
section MKW
variable {X : qz_X} {s : sT} {o ci k n j : Nat} {x : Int32}
theorem mk_ia {f : Int32 → Option qz_R} (hS : ms_S o = (0, n)) (ho : o < 362) (hn : n < 2 ^ 31) (hj : j < n) : qz_ia (mk X s).1 o (nI j) f = f (s.1 o j) := mkw_ia hS ho hj hn
theorem mk_is {f : qz_W → Option qz_R} (hS : ms_S o = (0, n)) (ho : o < 362) (hn : n < 2 ^ 31) (hj : j < n) : qz_is (mk X s) o (nI j) x f = f (mk X (su s o j x)) := (mkw_is hS ho hj hn).trans rfl
theorem mk_gi {f : Int32 → Option qz_R} {y : Int32} (hS : ms_S o = (3, ci)) (ho : o < 362) (hx : qz_at (ms_f ci (s.1 o) (rf s.2.2 o)) k = some (.int y)) : qz_gi (mk X s).1 o ci k f = f y := mkw_gi hS ho hx
theorem mk_ga {f : Nat → Option qz_R} {y : Nat} (hS : ms_S o = (3, ci)) (ho : o < 362) (hx : qz_at (ms_f ci (s.1 o) (rf s.2.2 o)) k = some (.ref y)) : qz_ga (mk X s).1 o ci k f = f y := mkw_ga hS ho hx
theorem mk_pi {f : qz_W → Option qz_R} (hS : ms_S o = (3, ci)) (ho : o < 362) (hx : (ms_f ci (s.1 o) (rf s.2.2 o)).set k (.int x) = ms_f ci ((su s o k x).1 o) (rf s.2.2 o)) : qz_pf (mk X s) o ci k (.int x) f = f (mk X (su s o k x)) := (mkw_pi hS ho hx).trans rfl
theorem mk_ck {f : Option qz_R} (hS : ms_S o = (3, ci)) (ho : o < 362) : qz_ck (mk X s).1 o ci f = f := by
  unfold qz_ck
  rw [show (mk X s).1 o = _ from mkw_at ho]
  unfold ms_c
  rw [hS]
  show cond (Nat.beq ci ci) f none = f
  rw [Nat.beq_refl]
  rfl
theorem mk_ba {f : Int32 → Option qz_R} (hS : ms_S o = (1, n)) (ho : o < 362) (hn : n < 2 ^ 31) (hj : j < n) : qz_ba (mk X s).1 o (nI j) f = f (s.1 o j) := by
  unfold qz_ba
  rw [show (mk X s).1 o = _ from mkw_at ho]
  unfold ms_c
  rw [hS]
  show (if nI j < 0 ∨ n ≤ (nI j).toNatClampNeg then none else f (s.1 o (nI j).toNatClampNeg)) = _
  rw [if_neg (nI_in hj hn), nI_clamp (by omega)]
theorem mk_ja {f : Int64 → Option qz_R} (hS : ms_S o = (2, n)) (ho : o < 362) (hn : n < 2 ^ 31) (hj : j < n) : qz_ja (mk X s).1 o (nI j) f = f (s.2.1 o j) := by
  unfold qz_ja
  rw [show (mk X s).1 o = _ from mkw_at ho]
  unfold ms_c
  rw [hS]
  show (if nI j < 0 ∨ n ≤ (nI j).toNatClampNeg then none else f (s.2.1 o (nI j).toNatClampNeg)) = _
  rw [if_neg (nI_in hj hn), nI_clamp (by omega)]
theorem mk_aa {f : Nat → Option qz_R} (hS : ms_S o = (4, n)) (ho : o < 362) (hn : n < 2 ^ 31) (hj : j < n) : qz_aa (mk X s).1 o (nI j) f = f (rf s.2.2 o j) := by
  unfold qz_aa
  rw [show (mk X s).1 o = _ from mkw_at ho]
  unfold ms_c
  rw [hS]
  show (if nI j < 0 ∨ n ≤ (nI j).toNatClampNeg then none else match (if (nI j).toNatClampNeg < n then some (rf s.2.2 o (nI j).toNatClampNeg) else none) with
    | some q => f q
    | none => none) = _
  rw [if_neg (nI_in hj hn), nI_clamp (by omega), if_pos hj]
theorem mk_ap {f : Nat → Option qz_R} (hS : ms_S o = (5, n)) (ho : o < 362) (hn : n < 2 ^ 31) (hj : j < n) : qz_aa (mk X s).1 o (nI j) f = f (rf s.2.2 o j) := by
  unfold qz_aa
  rw [show (mk X s).1 o = _ from mkw_at ho]
  unfold ms_c
  rw [hS]
  show (if nI j < 0 ∨ n ≤ (nI j).toNatClampNeg then none else match (if (nI j).toNatClampNeg < n then some (rf s.2.2 o (nI j).toNatClampNeg) else none) with
    | some q => f q
    | none => none) = _
  rw [if_neg (nI_in hj hn), nI_clamp (by omega), if_pos hj]
/-- a cell of the world changed -/
theorem mk_up {s' : sT} {e : qz_E} (ho : o < 362) (he : ms_c (s'.1, s'.2.1, rf s'.2.2) o = e) (hn : ∀ i, i ≠ o → i < 362 → ms_c (s'.1, s'.2.1, rf s'.2.2) i = ms_c (s.1, s.2.1, rf s.2.2) i) (hg : ∀ i, 362 ≤ i → ms_c (s'.1, s'.2.1, rf s'.2.2) i = ms_c (s.1, s.2.1, rf s.2.2) i) : (va_up (mk X s).1 o e, (mk X s).2) = mk X s' := by
  refine Prod.ext ?_ rfl
  funext i
  unfold va_up mk mkw
  dsimp only
  by_cases hi : i = o
  · subst hi
    rw [if_pos rfl, if_pos (Nat.lt_of_lt_of_le ho (by decide)), he]
  · rw [if_neg hi]
    by_cases hq : i < qz_old
    · rw [if_pos hq, if_pos hq]
      rcases Nat.lt_or_ge i 362 with h | h
      · exact (hn i hi h).symm
      · exact (hg i h).symm
    · rw [if_neg hq, if_neg hq]
theorem mk_bs {f : qz_W → Option qz_R} (hS : ms_S o = (1, n)) (ho : o < 362) (hn : n < 2 ^ 31) (hj : j < n) : qz_bs (mk X s) o (nI j) x f = f (mk X (su s o j (vp_nar .byte x))) := by
  unfold qz_bs
  rw [show (mk X s).1 o = _ from mkw_at ho]
  unfold ms_c
  rw [hS]
  show (if nI j < 0 ∨ n ≤ (nI j).toNatClampNeg then none else f (va_up (mk X s).1 o (.inl (.byte, n, .inl (upd (s.1 o) (nI j).toNatClampNeg (vp_nar .byte x)))), (mk X s).2)) = _
  rw [if_neg (nI_in hj hn), nI_clamp (by omega)]
  congr 1
  refine mk_up ho ?_ (fun i hi _ => ?_) (fun i hi => ?_)
  · unfold ms_c
    rw [hS]
    show (.inl (.byte, n, .inl ((su s o j (vp_nar .byte x)).1 o)) : qz_E) = _
    have e : (su s o j (vp_nar .byte x)).1 o = upd (s.1 o) j (vp_nar .byte x) := by
      funext k
      simp [upd, su]
    rw [e]
  · unfold ms_c su
    dsimp only
    simp only [hi, false_and, if_false]
  · unfold ms_c su
    dsimp only
    simp only [show ¬ i = o by omega, false_and, if_false]
theorem mk_js {f : qz_W → Option qz_R} {y : Int64} (hS : ms_S o = (2, n)) (ho : o < 362) (hn : n < 2 ^ 31) (hj : j < n) : qz_js (mk X s) o (nI j) y f = f (mk X (sl s o j y)) := by
  unfold qz_js
  rw [show (mk X s).1 o = _ from mkw_at ho]
  unfold ms_c
  rw [hS]
  show (if nI j < 0 ∨ n ≤ (nI j).toNatClampNeg then none else f (va_up (mk X s).1 o (.inl (.long, n, .inr (.inl (vp_updL (s.2.1 o) (nI j).toNatClampNeg y)))), (mk X s).2)) = _
  rw [if_neg (nI_in hj hn), nI_clamp (by omega)]
  congr 1
  refine mk_up ho ?_ (fun i hi _ => ?_) (fun i hi => ?_)
  · unfold ms_c
    rw [hS]
    show (.inl (.long, n, .inr (.inl ((sl s o j y).2.1 o))) : qz_E) = _
    have e : (sl s o j y).2.1 o = vp_updL (s.2.1 o) j y := by
      funext k
      simp [vp_updL, sl]
    rw [e]
  · unfold ms_c sl
    dsimp only
    simp only [hi, false_and, if_false]
  · unfold ms_c sl
    dsimp only
    simp only [show ¬ i = o by omega, false_and, if_false]
/-- a row copied to a row -/
theorem mk_cp {f : qz_W → Option qz_R} {q n2 c : Nat} (hS : ms_S o = (0, n)) (ho : o < 362) (hn : n < 2 ^ 31) (hS2 : ms_S q = (0, n2)) (hq : q < 362) (hn2 : n2 < 2 ^ 31) (hc : c ≤ n) (hc2 : c ≤ n2) : qz_cp (mk X s) o q (nI 0) (nI 0) (nI c) f = f (mk X (sa s q (fun j => if j < c then s.1 o j else s.1 q j))) := by
  unfold qz_cp
  rw [show (mk X s).1 o = _ from mkw_at ho, show (mk X s).1 q = _ from mkw_at hq]
  unfold ms_c
  rw [hS, hS2]
  show (if nI 0 < 0 ∨ nI 0 < 0 ∨ nI c < 0 ∨ n < (nI 0).toNatClampNeg + (nI c).toNatClampNeg ∨ n2 < (nI 0).toNatClampNeg + (nI c).toNatClampNeg then none else f (va_up (mk X s).1 q (.inl (.int, n2, .inl (va_cpy (s.1 o) (s.1 q) (nI 0).toNatClampNeg (nI 0).toNatClampNeg (nI c).toNatClampNeg))), (mk X s).2)) = _
  rw [nI_clamp (show c < 2 ^ 31 by omega), nI_clamp (show 0 < 2 ^ 31 by omega), if_neg (by
    have h0 : ¬ nI 0 < 0 := nI_pos (by omega)
    have h1 : ¬ nI c < 0 := nI_pos (by omega)
    rintro (h | h | h | h | h)
    · exact h0 h
    · exact h0 h
    · exact h1 h
    · omega
    · omega)]
  congr 1
  refine mk_up hq ?_ (fun i hi _ => ?_) (fun i hi => ?_)
  · unfold ms_c
    rw [hS2]
    show (.inl (.int, n2, .inl ((sa s q _).1 q)) : qz_E) = _
    rw [sa_1, if_pos rfl]
    congr 4
    funext j
    unfold va_cpy
    simp
  · unfold ms_c sa
    dsimp only
    rw [if_neg hi]
  · unfold ms_c sa
    dsimp only
    rw [if_neg (show ¬ i = q by omega)]
theorem ck_C {f : Option qz_R} : qz_ck (mk X s).1 0 11 f = f := mk_ck rfl (by decide)
theorem g_C_tape {f : Nat → Option qz_R} : qz_ga (mk X s).1 0 11 0 f = f (1) := mk_ga rfl (by decide) rfl
theorem i_C_tape {f : Int32 → Option qz_R} (hj : j < 1200) : qz_ia (mk X s).1 1 (nI j) f = f (s.1 1 j) := mk_ia rfl (by decide) (by decide) hj
theorem w_C_tape {f : qz_W → Option qz_R} (hj : j < 1200) : qz_is (mk X s) 1 (nI j) x f = f (mk X (su s 1 j x)) := mk_is rfl (by decide) (by decide) hj
theorem g_C_tapeLength {f : Int32 → Option qz_R} : qz_gi (mk X s).1 0 11 1 f = f (s.1 0 1) := mk_gi rfl (by decide) rfl
theorem p_C_tapeLength {f : qz_W → Option qz_R} : qz_pf (mk X s) 0 11 1 (.int x) f = f (mk X (su s 0 1 x)) := mk_pi rfl (by decide) rfl
theorem g_C_faultPlace {f : Int32 → Option qz_R} : qz_gi (mk X s).1 0 11 2 f = f (s.1 0 2) := mk_gi rfl (by decide) rfl
theorem p_C_faultPlace {f : qz_W → Option qz_R} : qz_pf (mk X s) 0 11 2 (.int x) f = f (mk X (su s 0 2 x)) := mk_pi rfl (by decide) rfl
theorem g_C_refused {f : Nat → Option qz_R} : qz_ga (mk X s).1 0 11 3 f = f (2) := mk_ga rfl (by decide) rfl
theorem i_C_refused {f : Int32 → Option qz_R} (hj : j < 3) : qz_ia (mk X s).1 2 (nI j) f = f (s.1 2 j) := mk_ia rfl (by decide) (by decide) hj
theorem w_C_refused {f : qz_W → Option qz_R} (hj : j < 3) : qz_is (mk X s) 2 (nI j) x f = f (mk X (su s 2 j x)) := mk_is rfl (by decide) (by decide) hj
theorem g_C_now {f : Nat → Option qz_R} : qz_ga (mk X s).1 0 11 4 f = f (3) := mk_ga rfl (by decide) rfl
theorem g_C_images {f : Nat → Option qz_R} : qz_ga (mk X s).1 0 11 5 f = f (67) := mk_ga rfl (by decide) rfl
theorem i_C_images {f : Nat → Option qz_R} (hj : j < 3) : qz_aa (mk X s).1 67 (nI j) f = f (rf s.2.2 67 j) := mk_ap rfl (by decide) (by decide) hj
theorem g_C_imageCount {f : Int32 → Option qz_R} : qz_gi (mk X s).1 0 11 6 f = f (s.1 0 6) := mk_gi rfl (by decide) rfl
theorem p_C_imageCount {f : qz_W → Option qz_R} : qz_pf (mk X s) 0 11 6 (.int x) f = f (mk X (su s 0 6 x)) := mk_pi rfl (by decide) rfl
theorem g_C_draft {f : Nat → Option qz_R} : qz_ga (mk X s).1 0 11 7 f = f (s.2.2 6) := mk_ga rfl (by decide) rfl
theorem g_C_teller {f : Nat → Option qz_R} : qz_ga (mk X s).1 0 11 8 f = f (78) := mk_ga rfl (by decide) rfl
theorem g_C_hanging {f : Nat → Option qz_R} : qz_ga (mk X s).1 0 11 9 f = f (86) := mk_ga rfl (by decide) rfl
theorem g_C_parts {f : Nat → Option qz_R} : qz_ga (mk X s).1 0 11 10 f = f (96) := mk_ga rfl (by decide) rfl
theorem g_C_joining {f : Nat → Option qz_R} : qz_ga (mk X s).1 0 11 11 f = f (103) := mk_ga rfl (by decide) rfl
theorem g_C_choosing {f : Nat → Option qz_R} : qz_ga (mk X s).1 0 11 12 f = f (107) := mk_ga rfl (by decide) rfl
theorem g_C_reading {f : Nat → Option qz_R} : qz_ga (mk X s).1 0 11 13 f = f (110) := mk_ga rfl (by decide) rfl
theorem g_C_cutting {f : Nat → Option qz_R} : qz_ga (mk X s).1 0 11 14 f = f (117) := mk_ga rfl (by decide) rfl
theorem g_C_anchors {f : Nat → Option qz_R} : qz_ga (mk X s).1 0 11 15 f = f (124) := mk_ga rfl (by decide) rfl
theorem i_C_anchors {f : Int32 → Option qz_R} (hj : j < 20) : qz_ia (mk X s).1 124 (nI j) f = f (s.1 124 j) := mk_ia rfl (by decide) (by decide) hj
theorem w_C_anchors {f : qz_W → Option qz_R} (hj : j < 20) : qz_is (mk X s) 124 (nI j) x f = f (mk X (su s 124 j x)) := mk_is rfl (by decide) (by decide) hj
theorem g_C_open {f : Nat → Option qz_R} : qz_ga (mk X s).1 0 11 16 f = f (125) := mk_ga rfl (by decide) rfl
theorem i_C_open {f : Int32 → Option qz_R} (hj : j < 20) : qz_ia (mk X s).1 125 (nI j) f = f (s.1 125 j) := mk_ia rfl (by decide) (by decide) hj
theorem w_C_open {f : qz_W → Option qz_R} (hj : j < 20) : qz_is (mk X s) 125 (nI j) x f = f (mk X (su s 125 j x)) := mk_is rfl (by decide) (by decide) hj
theorem ck_N {f : Option qz_R} : qz_ck (mk X s).1 3 6 f = f := mk_ck rfl (by decide)
theorem g_N_sheets {f : Nat → Option qz_R} : qz_ga (mk X s).1 3 6 0 f = f (4) := mk_ga rfl (by decide) rfl
theorem i_N_sheets {f : Nat → Option qz_R} (hj : j < 6) : qz_aa (mk X s).1 4 (nI j) f = f (s.2.2 j) := mk_aa rfl (by decide) (by decide) hj
theorem g_N_places {f : Nat → Option qz_R} : qz_ga (mk X s).1 3 6 1 f = f (5) := mk_ga rfl (by decide) rfl
theorem i_N_places {f : Int32 → Option qz_R} (hj : j < 6) : qz_ia (mk X s).1 5 (nI j) f = f (s.1 5 j) := mk_ia rfl (by decide) (by decide) hj
theorem w_N_places {f : qz_W → Option qz_R} (hj : j < 6) : qz_is (mk X s) 5 (nI j) x f = f (mk X (su s 5 j x)) := mk_is rfl (by decide) (by decide) hj
theorem g_N_least {f : Nat → Option qz_R} : qz_ga (mk X s).1 3 6 2 f = f (6) := mk_ga rfl (by decide) rfl
theorem i_N_least {f : Int32 → Option qz_R} (hj : j < 64) : qz_ia (mk X s).1 6 (nI j) f = f (s.1 6 j) := mk_ia rfl (by decide) (by decide) hj
theorem w_N_least {f : qz_W → Option qz_R} (hj : j < 64) : qz_is (mk X s) 6 (nI j) x f = f (mk X (su s 6 j x)) := mk_is rfl (by decide) (by decide) hj
theorem ck_L {f : Option qz_R} : qz_ck (mk X s).1 78 9 f = f := mk_ck rfl (by decide)
theorem g_L_tokens {f : Nat → Option qz_R} : qz_ga (mk X s).1 78 9 0 f = f (79) := mk_ga rfl (by decide) rfl
theorem g_L_names {f : Nat → Option qz_R} : qz_ga (mk X s).1 78 9 1 f = f (85) := mk_ga rfl (by decide) rfl
theorem i_L_names {f : Int64 → Option qz_R} (hj : j < 8) : qz_ja (mk X s).1 85 (nI j) f = f (s.2.1 85 j) := mk_ja rfl (by decide) (by decide) hj
theorem w_L_names {f : qz_W → Option qz_R} {y : Int64} (hj : j < 8) : qz_js (mk X s) 85 (nI j) y f = f (mk X (sl s 85 j y)) := mk_js rfl (by decide) (by decide) hj
theorem g_L_at {f : Int32 → Option qz_R} : qz_gi (mk X s).1 78 9 2 f = f (s.1 78 2) := mk_gi rfl (by decide) rfl
theorem p_L_at {f : qz_W → Option qz_R} : qz_pf (mk X s) 78 9 2 (.int x) f = f (mk X (su s 78 2 x)) := mk_pi rfl (by decide) rfl
theorem g_L_number {f : Int32 → Option qz_R} : qz_gi (mk X s).1 78 9 3 f = f (s.1 78 3) := mk_gi rfl (by decide) rfl
theorem p_L_number {f : qz_W → Option qz_R} : qz_pf (mk X s) 78 9 3 (.int x) f = f (mk X (su s 78 3 x)) := mk_pi rfl (by decide) rfl
theorem g_L_x {f : Int32 → Option qz_R} : qz_gi (mk X s).1 78 9 4 f = f (s.1 78 4) := mk_gi rfl (by decide) rfl
theorem p_L_x {f : qz_W → Option qz_R} : qz_pf (mk X s) 78 9 4 (.int x) f = f (mk X (su s 78 4 x)) := mk_pi rfl (by decide) rfl
theorem g_L_y {f : Int32 → Option qz_R} : qz_gi (mk X s).1 78 9 5 f = f (s.1 78 5) := mk_gi rfl (by decide) rfl
theorem p_L_y {f : qz_W → Option qz_R} : qz_pf (mk X s) 78 9 5 (.int x) f = f (mk X (su s 78 5 x)) := mk_pi rfl (by decide) rfl
theorem g_L_squares {f : Int32 → Option qz_R} : qz_gi (mk X s).1 78 9 6 f = f (s.1 78 6) := mk_gi rfl (by decide) rfl
theorem p_L_squares {f : qz_W → Option qz_R} : qz_pf (mk X s) 78 9 6 (.int x) f = f (mk X (su s 78 6 x)) := mk_pi rfl (by decide) rfl
theorem g_L_squaresLong {f : Int32 → Option qz_R} : qz_gi (mk X s).1 78 9 7 f = f (s.1 78 7) := mk_gi rfl (by decide) rfl
theorem p_L_squaresLong {f : qz_W → Option qz_R} : qz_pf (mk X s) 78 9 7 (.int x) f = f (mk X (su s 78 7 x)) := mk_pi rfl (by decide) rfl
theorem ck_K {f : Option qz_R} : qz_ck (mk X s).1 79 10 f = f := mk_ck rfl (by decide)
theorem g_K_text {f : Nat → Option qz_R} : qz_ga (mk X s).1 79 10 0 f = f (80) := mk_ga rfl (by decide) rfl
theorem i_K_text {f : Int32 → Option qz_R} (hj : j < 1200) : qz_ia (mk X s).1 80 (nI j) f = f (s.1 80 j) := mk_ia rfl (by decide) (by decide) hj
theorem w_K_text {f : qz_W → Option qz_R} (hj : j < 1200) : qz_is (mk X s) 80 (nI j) x f = f (mk X (su s 80 j x)) := mk_is rfl (by decide) (by decide) hj
theorem g_K_kind {f : Nat → Option qz_R} : qz_ga (mk X s).1 79 10 1 f = f (81) := mk_ga rfl (by decide) rfl
theorem i_K_kind {f : Int32 → Option qz_R} (hj : j < 1201) : qz_ia (mk X s).1 81 (nI j) f = f (s.1 81 j) := mk_ia rfl (by decide) (by decide) hj
theorem w_K_kind {f : qz_W → Option qz_R} (hj : j < 1201) : qz_is (mk X s) 81 (nI j) x f = f (mk X (su s 81 j x)) := mk_is rfl (by decide) (by decide) hj
theorem g_K_start {f : Nat → Option qz_R} : qz_ga (mk X s).1 79 10 2 f = f (82) := mk_ga rfl (by decide) rfl
theorem i_K_start {f : Int32 → Option qz_R} (hj : j < 1201) : qz_ia (mk X s).1 82 (nI j) f = f (s.1 82 j) := mk_ia rfl (by decide) (by decide) hj
theorem w_K_start {f : qz_W → Option qz_R} (hj : j < 1201) : qz_is (mk X s) 82 (nI j) x f = f (mk X (su s 82 j x)) := mk_is rfl (by decide) (by decide) hj
theorem g_K_size {f : Nat → Option qz_R} : qz_ga (mk X s).1 79 10 3 f = f (83) := mk_ga rfl (by decide) rfl
theorem i_K_size {f : Int32 → Option qz_R} (hj : j < 1201) : qz_ia (mk X s).1 83 (nI j) f = f (s.1 83 j) := mk_ia rfl (by decide) (by decide) hj
theorem w_K_size {f : qz_W → Option qz_R} (hj : j < 1201) : qz_is (mk X s) 83 (nI j) x f = f (mk X (su s 83 j x)) := mk_is rfl (by decide) (by decide) hj
theorem g_K_value {f : Nat → Option qz_R} : qz_ga (mk X s).1 79 10 4 f = f (84) := mk_ga rfl (by decide) rfl
theorem i_K_value {f : Int32 → Option qz_R} (hj : j < 1201) : qz_ia (mk X s).1 84 (nI j) f = f (s.1 84 j) := mk_ia rfl (by decide) (by decide) hj
theorem w_K_value {f : qz_W → Option qz_R} (hj : j < 1201) : qz_is (mk X s) 84 (nI j) x f = f (mk X (su s 84 j x)) := mk_is rfl (by decide) (by decide) hj
theorem g_K_number {f : Int32 → Option qz_R} : qz_gi (mk X s).1 79 10 5 f = f (s.1 79 5) := mk_gi rfl (by decide) rfl
theorem p_K_number {f : qz_W → Option qz_R} : qz_pf (mk X s) 79 10 5 (.int x) f = f (mk X (su s 79 5 x)) := mk_pi rfl (by decide) rfl
theorem ck_H {f : Option qz_R} : qz_ck (mk X s).1 86 3 f = f := mk_ck rfl (by decide)
theorem g_H_tin {f : Nat → Option qz_R} : qz_ga (mk X s).1 86 3 0 f = f (87) := mk_ga rfl (by decide) rfl
theorem i_H_tin {f : Int32 → Option qz_R} (hj : j < 20) : qz_ia (mk X s).1 87 (nI j) f = f (s.1 87 j) := mk_ia rfl (by decide) (by decide) hj
theorem w_H_tin {f : qz_W → Option qz_R} (hj : j < 20) : qz_is (mk X s) 87 (nI j) x f = f (mk X (su s 87 j x)) := mk_is rfl (by decide) (by decide) hj
theorem g_H_hung {f : Nat → Option qz_R} : qz_ga (mk X s).1 86 3 1 f = f (88) := mk_ga rfl (by decide) rfl
theorem i_H_hung {f : Int32 → Option qz_R} (hj : j < 20) : qz_ia (mk X s).1 88 (nI j) f = f (s.1 88 j) := mk_ia rfl (by decide) (by decide) hj
theorem w_H_hung {f : qz_W → Option qz_R} (hj : j < 20) : qz_is (mk X s) 88 (nI j) x f = f (mk X (su s 88 j x)) := mk_is rfl (by decide) (by decide) hj
theorem g_H_fallen {f : Nat → Option qz_R} : qz_ga (mk X s).1 86 3 2 f = f (89) := mk_ga rfl (by decide) rfl
theorem i_H_fallen {f : Int32 → Option qz_R} (hj : j < 20) : qz_ia (mk X s).1 89 (nI j) f = f (s.1 89 j) := mk_ia rfl (by decide) (by decide) hj
theorem w_H_fallen {f : qz_W → Option qz_R} (hj : j < 20) : qz_is (mk X s) 89 (nI j) x f = f (mk X (su s 89 j x)) := mk_is rfl (by decide) (by decide) hj
theorem g_H_tongue {f : Nat → Option qz_R} : qz_ga (mk X s).1 86 3 3 f = f (90) := mk_ga rfl (by decide) rfl
theorem i_H_tongue {f : Int32 → Option qz_R} (hj : j < 400) : qz_ia (mk X s).1 90 (nI j) f = f (s.1 90 j) := mk_ia rfl (by decide) (by decide) hj
theorem w_H_tongue {f : qz_W → Option qz_R} (hj : j < 400) : qz_is (mk X s) 90 (nI j) x f = f (mk X (su s 90 j x)) := mk_is rfl (by decide) (by decide) hj
theorem g_H_reached {f : Int32 → Option qz_R} : qz_gi (mk X s).1 86 3 4 f = f (s.1 86 4) := mk_gi rfl (by decide) rfl
theorem p_H_reached {f : qz_W → Option qz_R} : qz_pf (mk X s) 86 3 4 (.int x) f = f (mk X (su s 86 4 x)) := mk_pi rfl (by decide) rfl
theorem g_H_entered {f : Nat → Option qz_R} : qz_ga (mk X s).1 86 3 5 f = f (91) := mk_ga rfl (by decide) rfl
theorem i_H_entered {f : Int32 → Option qz_R} (hj : j < 400) : qz_ia (mk X s).1 91 (nI j) f = f (s.1 91 j) := mk_ia rfl (by decide) (by decide) hj
theorem w_H_entered {f : qz_W → Option qz_R} (hj : j < 400) : qz_is (mk X s) 91 (nI j) x f = f (mk X (su s 91 j x)) := mk_is rfl (by decide) (by decide) hj
theorem g_H_reach {f : Nat → Option qz_R} : qz_ga (mk X s).1 86 3 6 f = f (92) := mk_ga rfl (by decide) rfl
theorem i_H_reach {f : Int32 → Option qz_R} (hj : j < 400) : qz_ia (mk X s).1 92 (nI j) f = f (s.1 92 j) := mk_ia rfl (by decide) (by decide) hj
theorem w_H_reach {f : qz_W → Option qz_R} (hj : j < 400) : qz_is (mk X s) 92 (nI j) x f = f (mk X (su s 92 j x)) := mk_is rfl (by decide) (by decide) hj
theorem g_H_below {f : Nat → Option qz_R} : qz_ga (mk X s).1 86 3 7 f = f (93) := mk_ga rfl (by decide) rfl
theorem i_H_below {f : Int32 → Option qz_R} (hj : j < 400) : qz_ia (mk X s).1 93 (nI j) f = f (s.1 93 j) := mk_ia rfl (by decide) (by decide) hj
theorem w_H_below {f : qz_W → Option qz_R} (hj : j < 400) : qz_is (mk X s) 93 (nI j) x f = f (mk X (su s 93 j x)) := mk_is rfl (by decide) (by decide) hj
theorem g_H_parent {f : Nat → Option qz_R} : qz_ga (mk X s).1 86 3 8 f = f (94) := mk_ga rfl (by decide) rfl
theorem i_H_parent {f : Int32 → Option qz_R} (hj : j < 400) : qz_ia (mk X s).1 94 (nI j) f = f (s.1 94 j) := mk_ia rfl (by decide) (by decide) hj
theorem w_H_parent {f : qz_W → Option qz_R} (hj : j < 400) : qz_is (mk X s) 94 (nI j) x f = f (mk X (su s 94 j x)) := mk_is rfl (by decide) (by decide) hj
theorem g_H_side {f : Nat → Option qz_R} : qz_ga (mk X s).1 86 3 9 f = f (95) := mk_ga rfl (by decide) rfl
theorem i_H_side {f : Int32 → Option qz_R} (hj : j < 400) : qz_ia (mk X s).1 95 (nI j) f = f (s.1 95 j) := mk_ia rfl (by decide) (by decide) hj
theorem w_H_side {f : qz_W → Option qz_R} (hj : j < 400) : qz_is (mk X s) 95 (nI j) x f = f (mk X (su s 95 j x)) := mk_is rfl (by decide) (by decide) hj
theorem ck_P {f : Option qz_R} : qz_ck (mk X s).1 96 5 f = f := mk_ck rfl (by decide)
theorem g_P_number {f : Int32 → Option qz_R} : qz_gi (mk X s).1 96 5 0 f = f (s.1 96 0) := mk_gi rfl (by decide) rfl
theorem p_P_number {f : qz_W → Option qz_R} : qz_pf (mk X s) 96 5 0 (.int x) f = f (mk X (su s 96 0 x)) := mk_pi rfl (by decide) rfl
theorem g_P_partOf {f : Nat → Option qz_R} : qz_ga (mk X s).1 96 5 1 f = f (97) := mk_ga rfl (by decide) rfl
theorem i_P_partOf {f : Int32 → Option qz_R} (hj : j < 400) : qz_ia (mk X s).1 97 (nI j) f = f (s.1 97 j) := mk_ia rfl (by decide) (by decide) hj
theorem w_P_partOf {f : qz_W → Option qz_R} (hj : j < 400) : qz_is (mk X s) 97 (nI j) x f = f (mk X (su s 97 j x)) := mk_is rfl (by decide) (by decide) hj
theorem g_P_size {f : Nat → Option qz_R} : qz_ga (mk X s).1 96 5 2 f = f (98) := mk_ga rfl (by decide) rfl
theorem i_P_size {f : Int32 → Option qz_R} (hj : j < 400) : qz_ia (mk X s).1 98 (nI j) f = f (s.1 98 j) := mk_ia rfl (by decide) (by decide) hj
theorem w_P_size {f : qz_W → Option qz_R} (hj : j < 400) : qz_is (mk X s) 98 (nI j) x f = f (mk X (su s 98 j x)) := mk_is rfl (by decide) (by decide) hj
theorem g_P_start {f : Nat → Option qz_R} : qz_ga (mk X s).1 96 5 3 f = f (99) := mk_ga rfl (by decide) rfl
theorem i_P_start {f : Int32 → Option qz_R} (hj : j < 400) : qz_ia (mk X s).1 99 (nI j) f = f (s.1 99 j) := mk_ia rfl (by decide) (by decide) hj
theorem w_P_start {f : qz_W → Option qz_R} (hj : j < 400) : qz_is (mk X s) 99 (nI j) x f = f (mk X (su s 99 j x)) := mk_is rfl (by decide) (by decide) hj
theorem g_P_queue {f : Nat → Option qz_R} : qz_ga (mk X s).1 96 5 4 f = f (100) := mk_ga rfl (by decide) rfl
theorem i_P_queue {f : Int32 → Option qz_R} (hj : j < 400) : qz_ia (mk X s).1 100 (nI j) f = f (s.1 100 j) := mk_ia rfl (by decide) (by decide) hj
theorem w_P_queue {f : qz_W → Option qz_R} (hj : j < 400) : qz_is (mk X s) 100 (nI j) x f = f (mk X (su s 100 j x)) := mk_is rfl (by decide) (by decide) hj
theorem g_P_region {f : Nat → Option qz_R} : qz_ga (mk X s).1 96 5 5 f = f (101) := mk_ga rfl (by decide) rfl
theorem i_P_region {f : Int32 → Option qz_R} (hj : j < 20) : qz_ia (mk X s).1 101 (nI j) f = f (s.1 101 j) := mk_ia rfl (by decide) (by decide) hj
theorem w_P_region {f : qz_W → Option qz_R} (hj : j < 20) : qz_is (mk X s) 101 (nI j) x f = f (mk X (su s 101 j x)) := mk_is rfl (by decide) (by decide) hj
theorem g_P_border {f : Nat → Option qz_R} : qz_ga (mk X s).1 96 5 6 f = f (102) := mk_ga rfl (by decide) rfl
theorem i_P_border {f : Int32 → Option qz_R} (hj : j < 20) : qz_ia (mk X s).1 102 (nI j) f = f (s.1 102 j) := mk_ia rfl (by decide) (by decide) hj
theorem w_P_border {f : qz_W → Option qz_R} (hj : j < 20) : qz_is (mk X s) 102 (nI j) x f = f (mk X (su s 102 j x)) := mk_is rfl (by decide) (by decide) hj
theorem ck_J {f : Option qz_R} : qz_ck (mk X s).1 103 4 f = f := mk_ck rfl (by decide)
theorem g_J_cost {f : Nat → Option qz_R} : qz_ga (mk X s).1 103 4 0 f = f (104) := mk_ga rfl (by decide) rfl
theorem i_J_cost {f : Int32 → Option qz_R} (hj : j < 51328) : qz_ia (mk X s).1 104 (nI j) f = f (s.1 104 j) := mk_ia rfl (by decide) (by decide) hj
theorem w_J_cost {f : qz_W → Option qz_R} (hj : j < 51328) : qz_is (mk X s) 104 (nI j) x f = f (mk X (su s 104 j x)) := mk_is rfl (by decide) (by decide) hj
theorem g_J_price {f : Nat → Option qz_R} : qz_ga (mk X s).1 103 4 1 f = f (105) := mk_ga rfl (by decide) rfl
theorem i_J_price {f : Int32 → Option qz_R} (hj : j < 401) : qz_ia (mk X s).1 105 (nI j) f = f (s.1 105 j) := mk_ia rfl (by decide) (by decide) hj
theorem w_J_price {f : qz_W → Option qz_R} (hj : j < 401) : qz_is (mk X s) 105 (nI j) x f = f (mk X (su s 105 j x)) := mk_is rfl (by decide) (by decide) hj
theorem g_J_rim {f : Nat → Option qz_R} : qz_ga (mk X s).1 103 4 2 f = f (106) := mk_ga rfl (by decide) rfl
theorem i_J_rim {f : Int32 → Option qz_R} (hj : j < 20) : qz_ia (mk X s).1 106 (nI j) f = f (s.1 106 j) := mk_ia rfl (by decide) (by decide) hj
theorem w_J_rim {f : qz_W → Option qz_R} (hj : j < 20) : qz_is (mk X s) 106 (nI j) x f = f (mk X (su s 106 j x)) := mk_is rfl (by decide) (by decide) hj
theorem g_J_all {f : Int32 → Option qz_R} : qz_gi (mk X s).1 103 4 3 f = f (s.1 103 3) := mk_gi rfl (by decide) rfl
theorem p_J_all {f : qz_W → Option qz_R} : qz_pf (mk X s) 103 4 3 (.int x) f = f (mk X (su s 103 3 x)) := mk_pi rfl (by decide) rfl
theorem ck_O {f : Option qz_R} : qz_ck (mk X s).1 107 1 f = f := mk_ck rfl (by decide)
theorem g_O_within {f : Nat → Option qz_R} : qz_ga (mk X s).1 107 1 0 f = f (108) := mk_ga rfl (by decide) rfl
theorem i_O_within {f : Int32 → Option qz_R} (hj : j < 4096) : qz_ia (mk X s).1 108 (nI j) f = f (s.1 108 j) := mk_ia rfl (by decide) (by decide) hj
theorem w_O_within {f : qz_W → Option qz_R} (hj : j < 4096) : qz_is (mk X s) 108 (nI j) x f = f (mk X (su s 108 j x)) := mk_is rfl (by decide) (by decide) hj
theorem g_O_state {f : Nat → Option qz_R} : qz_ga (mk X s).1 107 1 1 f = f (109) := mk_ga rfl (by decide) rfl
theorem i_O_state {f : Int32 → Option qz_R} (hj : j < 4096) : qz_ia (mk X s).1 109 (nI j) f = f (s.1 109 j) := mk_ia rfl (by decide) (by decide) hj
theorem w_O_state {f : qz_W → Option qz_R} (hj : j < 4096) : qz_is (mk X s) 109 (nI j) x f = f (mk X (su s 109 j x)) := mk_is rfl (by decide) (by decide) hj
theorem g_O_all {f : Int32 → Option qz_R} : qz_gi (mk X s).1 107 1 2 f = f (s.1 107 2) := mk_gi rfl (by decide) rfl
theorem p_O_all {f : qz_W → Option qz_R} : qz_pf (mk X s) 107 1 2 (.int x) f = f (mk X (su s 107 2 x)) := mk_pi rfl (by decide) rfl
theorem ck_R {f : Option qz_R} : qz_ck (mk X s).1 110 7 f = f := mk_ck rfl (by decide)
theorem g_R_open {f : Nat → Option qz_R} : qz_ga (mk X s).1 110 7 0 f = f (111) := mk_ga rfl (by decide) rfl
theorem i_R_open {f : Int32 → Option qz_R} (hj : j < 8) : qz_ia (mk X s).1 111 (nI j) f = f (s.1 111 j) := mk_ia rfl (by decide) (by decide) hj
theorem w_R_open {f : qz_W → Option qz_R} (hj : j < 8) : qz_is (mk X s) 111 (nI j) x f = f (mk X (su s 111 j x)) := mk_is rfl (by decide) (by decide) hj
theorem g_R_cost {f : Nat → Option qz_R} : qz_ga (mk X s).1 110 7 1 f = f (112) := mk_ga rfl (by decide) rfl
theorem i_R_cost {f : Int32 → Option qz_R} (hj : j < 21) : qz_ia (mk X s).1 112 (nI j) f = f (s.1 112 j) := mk_ia rfl (by decide) (by decide) hj
theorem w_R_cost {f : qz_W → Option qz_R} (hj : j < 21) : qz_is (mk X s) 112 (nI j) x f = f (mk X (su s 112 j x)) := mk_is rfl (by decide) (by decide) hj
theorem g_R_used {f : Nat → Option qz_R} : qz_ga (mk X s).1 110 7 2 f = f (113) := mk_ga rfl (by decide) rfl
theorem i_R_used {f : Int32 → Option qz_R} (hj : j < 21) : qz_ia (mk X s).1 113 (nI j) f = f (s.1 113 j) := mk_ia rfl (by decide) (by decide) hj
theorem w_R_used {f : qz_W → Option qz_R} (hj : j < 21) : qz_is (mk X s) 113 (nI j) x f = f (mk X (su s 113 j x)) := mk_is rfl (by decide) (by decide) hj
theorem g_R_ways {f : Nat → Option qz_R} : qz_ga (mk X s).1 110 7 3 f = f (114) := mk_ga rfl (by decide) rfl
theorem i_R_ways {f : Int64 → Option qz_R} (hj : j < 21) : qz_ja (mk X s).1 114 (nI j) f = f (s.2.1 114 j) := mk_ja rfl (by decide) (by decide) hj
theorem w_R_ways {f : qz_W → Option qz_R} {y : Int64} (hj : j < 21) : qz_js (mk X s) 114 (nI j) y f = f (mk X (sl s 114 j y)) := mk_js rfl (by decide) (by decide) hj
theorem g_R_shape {f : Nat → Option qz_R} : qz_ga (mk X s).1 110 7 4 f = f (115) := mk_ga rfl (by decide) rfl
theorem i_R_shape {f : Int32 → Option qz_R} (hj : j < 20) : qz_ia (mk X s).1 115 (nI j) f = f (s.1 115 j) := mk_ia rfl (by decide) (by decide) hj
theorem w_R_shape {f : qz_W → Option qz_R} (hj : j < 20) : qz_is (mk X s) 115 (nI j) x f = f (mk X (su s 115 j x)) := mk_is rfl (by decide) (by decide) hj
theorem g_R_column {f : Nat → Option qz_R} : qz_ga (mk X s).1 110 7 5 f = f (116) := mk_ga rfl (by decide) rfl
theorem i_R_column {f : Int32 → Option qz_R} (hj : j < 20) : qz_ia (mk X s).1 116 (nI j) f = f (s.1 116 j) := mk_ia rfl (by decide) (by decide) hj
theorem w_R_column {f : qz_W → Option qz_R} (hj : j < 20) : qz_is (mk X s) 116 (nI j) x f = f (mk X (su s 116 j x)) := mk_is rfl (by decide) (by decide) hj
theorem g_R_number {f : Int32 → Option qz_R} : qz_gi (mk X s).1 110 7 6 f = f (s.1 110 6) := mk_gi rfl (by decide) rfl
theorem p_R_number {f : qz_W → Option qz_R} : qz_pf (mk X s) 110 7 6 (.int x) f = f (mk X (su s 110 6 x)) := mk_pi rfl (by decide) rfl
theorem ck_U {f : Option qz_R} : qz_ck (mk X s).1 117 2 f = f := mk_ck rfl (by decide)
theorem g_U_places {f : Nat → Option qz_R} : qz_ga (mk X s).1 117 2 0 f = f (118) := mk_ga rfl (by decide) rfl
theorem i_U_places {f : Int32 → Option qz_R} (hj : j < 8) : qz_ia (mk X s).1 118 (nI j) f = f (s.1 118 j) := mk_ia rfl (by decide) (by decide) hj
theorem w_U_places {f : qz_W → Option qz_R} (hj : j < 8) : qz_is (mk X s) 118 (nI j) x f = f (mk X (su s 118 j x)) := mk_is rfl (by decide) (by decide) hj
theorem g_U_holes {f : Nat → Option qz_R} : qz_ga (mk X s).1 117 2 1 f = f (119) := mk_ga rfl (by decide) rfl
theorem i_U_holes {f : Int32 → Option qz_R} (hj : j < 160) : qz_ia (mk X s).1 119 (nI j) f = f (s.1 119 j) := mk_ia rfl (by decide) (by decide) hj
theorem w_U_holes {f : qz_W → Option qz_R} (hj : j < 160) : qz_is (mk X s) 119 (nI j) x f = f (mk X (su s 119 j x)) := mk_is rfl (by decide) (by decide) hj
theorem g_U_loose {f : Nat → Option qz_R} : qz_ga (mk X s).1 117 2 2 f = f (120) := mk_ga rfl (by decide) rfl
theorem i_U_loose {f : Int32 → Option qz_R} (hj : j < 256) : qz_ia (mk X s).1 120 (nI j) f = f (s.1 120 j) := mk_ia rfl (by decide) (by decide) hj
theorem w_U_loose {f : qz_W → Option qz_R} (hj : j < 256) : qz_is (mk X s) 120 (nI j) x f = f (mk X (su s 120 j x)) := mk_is rfl (by decide) (by decide) hj
theorem g_U_ahead {f : Nat → Option qz_R} : qz_ga (mk X s).1 117 2 3 f = f (121) := mk_ga rfl (by decide) rfl
theorem i_U_ahead {f : Int32 → Option qz_R} (hj : j < 256) : qz_ia (mk X s).1 121 (nI j) f = f (s.1 121 j) := mk_ia rfl (by decide) (by decide) hj
theorem w_U_ahead {f : qz_W → Option qz_R} (hj : j < 256) : qz_is (mk X s) 121 (nI j) x f = f (mk X (su s 121 j x)) := mk_is rfl (by decide) (by decide) hj
theorem g_U_tin {f : Nat → Option qz_R} : qz_ga (mk X s).1 117 2 4 f = f (122) := mk_ga rfl (by decide) rfl
theorem i_U_tin {f : Int32 → Option qz_R} (hj : j < 20) : qz_ia (mk X s).1 122 (nI j) f = f (s.1 122 j) := mk_ia rfl (by decide) (by decide) hj
theorem w_U_tin {f : qz_W → Option qz_R} (hj : j < 20) : qz_is (mk X s) 122 (nI j) x f = f (mk X (su s 122 j x)) := mk_is rfl (by decide) (by decide) hj
theorem g_U_anchors {f : Nat → Option qz_R} : qz_ga (mk X s).1 117 2 5 f = f (123) := mk_ga rfl (by decide) rfl
theorem i_U_anchors {f : Int32 → Option qz_R} (hj : j < 20) : qz_ia (mk X s).1 123 (nI j) f = f (s.1 123 j) := mk_ia rfl (by decide) (by decide) hj
theorem w_U_anchors {f : qz_W → Option qz_R} (hj : j < 20) : qz_is (mk X s) 123 (nI j) x f = f (mk X (su s 123 j x)) := mk_is rfl (by decide) (by decide) hj
theorem ck_M {f : Option qz_R} : qz_ck (mk X s).1 318 12 f = f := mk_ck rfl (by decide)
theorem g_M_refused {f : Nat → Option qz_R} : qz_ga (mk X s).1 318 12 0 f = f (319) := mk_ga rfl (by decide) rfl
theorem i_M_refused {f : Int32 → Option qz_R} (hj : j < 3) : qz_ia (mk X s).1 319 (nI j) f = f (s.1 319 j) := mk_ia rfl (by decide) (by decide) hj
theorem w_M_refused {f : qz_W → Option qz_R} (hj : j < 3) : qz_is (mk X s) 319 (nI j) x f = f (mk X (su s 319 j x)) := mk_is rfl (by decide) (by decide) hj
theorem g_M_orderDigits {f : Int32 → Option qz_R} : qz_gi (mk X s).1 318 12 1 f = f (s.1 318 1) := mk_gi rfl (by decide) rfl
theorem p_M_orderDigits {f : qz_W → Option qz_R} : qz_pf (mk X s) 318 12 1 (.int x) f = f (mk X (su s 318 1 x)) := mk_pi rfl (by decide) rfl
theorem g_M_about {f : Nat → Option qz_R} : qz_ga (mk X s).1 318 12 2 f = f (320) := mk_ga rfl (by decide) rfl
theorem i_M_about {f : Int32 → Option qz_R} (hj : j < 112) : qz_ia (mk X s).1 320 (nI j) f = f (s.1 320 j) := mk_ia rfl (by decide) (by decide) hj
theorem w_M_about {f : qz_W → Option qz_R} (hj : j < 112) : qz_is (mk X s) 320 (nI j) x f = f (mk X (su s 320 j x)) := mk_is rfl (by decide) (by decide) hj
theorem g_M_isTold {f : Nat → Option qz_R} : qz_ga (mk X s).1 318 12 3 f = f (321) := mk_ga rfl (by decide) rfl
theorem i_M_isTold {f : Int32 → Option qz_R} (hj : j < 6) : qz_ia (mk X s).1 321 (nI j) f = f (s.1 321 j) := mk_ia rfl (by decide) (by decide) hj
theorem w_M_isTold {f : qz_W → Option qz_R} (hj : j < 6) : qz_is (mk X s) 321 (nI j) x f = f (mk X (su s 321 j x)) := mk_is rfl (by decide) (by decide) hj
theorem g_M_through {f : Nat → Option qz_R} : qz_ga (mk X s).1 318 12 4 f = f (322) := mk_ga rfl (by decide) rfl
theorem i_M_through {f : Int32 → Option qz_R} (hj : j < 2800) : qz_ia (mk X s).1 322 (nI j) f = f (s.1 322 j) := mk_ia rfl (by decide) (by decide) hj
theorem w_M_through {f : qz_W → Option qz_R} (hj : j < 2800) : qz_is (mk X s) 322 (nI j) x f = f (mk X (su s 322 j x)) := mk_is rfl (by decide) (by decide) hj
theorem g_M_worth {f : Nat → Option qz_R} : qz_ga (mk X s).1 318 12 5 f = f (323) := mk_ga rfl (by decide) rfl
theorem i_M_worth {f : Int32 → Option qz_R} (hj : j < 2800) : qz_ia (mk X s).1 323 (nI j) f = f (s.1 323 j) := mk_ia rfl (by decide) (by decide) hj
theorem w_M_worth {f : qz_W → Option qz_R} (hj : j < 2800) : qz_is (mk X s) 323 (nI j) x f = f (mk X (su s 323 j x)) := mk_is rfl (by decide) (by decide) hj
theorem g_M_bridgeAt {f : Nat → Option qz_R} : qz_ga (mk X s).1 318 12 6 f = f (324) := mk_ga rfl (by decide) rfl
theorem i_M_bridgeAt {f : Int32 → Option qz_R} (hj : j < 2800) : qz_ia (mk X s).1 324 (nI j) f = f (s.1 324 j) := mk_ia rfl (by decide) (by decide) hj
theorem w_M_bridgeAt {f : qz_W → Option qz_R} (hj : j < 2800) : qz_is (mk X s) 324 (nI j) x f = f (mk X (su s 324 j x)) := mk_is rfl (by decide) (by decide) hj
theorem g_M_shapeWide {f : Nat → Option qz_R} : qz_ga (mk X s).1 318 12 7 f = f (325) := mk_ga rfl (by decide) rfl
theorem i_M_shapeWide {f : Int32 → Option qz_R} (hj : j < 56) : qz_ia (mk X s).1 325 (nI j) f = f (s.1 325 j) := mk_ia rfl (by decide) (by decide) hj
theorem w_M_shapeWide {f : qz_W → Option qz_R} (hj : j < 56) : qz_is (mk X s) 325 (nI j) x f = f (mk X (su s 325 j x)) := mk_is rfl (by decide) (by decide) hj
theorem g_M_shapeHigh {f : Nat → Option qz_R} : qz_ga (mk X s).1 318 12 8 f = f (326) := mk_ga rfl (by decide) rfl
theorem i_M_shapeHigh {f : Int32 → Option qz_R} (hj : j < 56) : qz_ia (mk X s).1 326 (nI j) f = f (s.1 326 j) := mk_ia rfl (by decide) (by decide) hj
theorem w_M_shapeHigh {f : qz_W → Option qz_R} (hj : j < 56) : qz_is (mk X s) 326 (nI j) x f = f (mk X (su s 326 j x)) := mk_is rfl (by decide) (by decide) hj
theorem g_M_shapeRow {f : Nat → Option qz_R} : qz_ga (mk X s).1 318 12 9 f = f (327) := mk_ga rfl (by decide) rfl
theorem i_M_shapeRow {f : Int32 → Option qz_R} (hj : j < 448) : qz_ia (mk X s).1 327 (nI j) f = f (s.1 327 j) := mk_ia rfl (by decide) (by decide) hj
theorem w_M_shapeRow {f : qz_W → Option qz_R} (hj : j < 448) : qz_is (mk X s) 327 (nI j) x f = f (mk X (su s 327 j x)) := mk_is rfl (by decide) (by decide) hj
theorem g_M_bridgeKind {f : Nat → Option qz_R} : qz_ga (mk X s).1 318 12 10 f = f (328) := mk_ga rfl (by decide) rfl
theorem i_M_bridgeKind {f : Int32 → Option qz_R} (hj : j < 84) : qz_ia (mk X s).1 328 (nI j) f = f (s.1 328 j) := mk_ia rfl (by decide) (by decide) hj
theorem w_M_bridgeKind {f : qz_W → Option qz_R} (hj : j < 84) : qz_is (mk X s) 328 (nI j) x f = f (mk X (su s 328 j x)) := mk_is rfl (by decide) (by decide) hj
theorem g_M_bridgeHidden {f : Nat → Option qz_R} : qz_ga (mk X s).1 318 12 11 f = f (329) := mk_ga rfl (by decide) rfl
theorem i_M_bridgeHidden {f : Int32 → Option qz_R} (hj : j < 84) : qz_ia (mk X s).1 329 (nI j) f = f (s.1 329 j) := mk_ia rfl (by decide) (by decide) hj
theorem w_M_bridgeHidden {f : qz_W → Option qz_R} (hj : j < 84) : qz_is (mk X s) 329 (nI j) x f = f (mk X (su s 329 j x)) := mk_is rfl (by decide) (by decide) hj
theorem g_M_bridgeLasts {f : Nat → Option qz_R} : qz_ga (mk X s).1 318 12 12 f = f (330) := mk_ga rfl (by decide) rfl
theorem i_M_bridgeLasts {f : Int32 → Option qz_R} (hj : j < 84) : qz_ia (mk X s).1 330 (nI j) f = f (s.1 330 j) := mk_ia rfl (by decide) (by decide) hj
theorem w_M_bridgeLasts {f : qz_W → Option qz_R} (hj : j < 84) : qz_is (mk X s) 330 (nI j) x f = f (mk X (su s 330 j x)) := mk_is rfl (by decide) (by decide) hj
theorem g_M_shapeName {f : Nat → Option qz_R} : qz_ga (mk X s).1 318 12 13 f = f (331) := mk_ga rfl (by decide) rfl
theorem i_M_shapeName {f : Int64 → Option qz_R} (hj : j < 56) : qz_ja (mk X s).1 331 (nI j) f = f (s.2.1 331 j) := mk_ja rfl (by decide) (by decide) hj
theorem w_M_shapeName {f : qz_W → Option qz_R} {y : Int64} (hj : j < 56) : qz_js (mk X s) 331 (nI j) y f = f (mk X (sl s 331 j y)) := mk_js rfl (by decide) (by decide) hj
theorem g_M_taped {f : Int32 → Option qz_R} : qz_gi (mk X s).1 318 12 14 f = f (s.1 318 14) := mk_gi rfl (by decide) rfl
theorem p_M_taped {f : qz_W → Option qz_R} : qz_pf (mk X s) 318 12 14 (.int x) f = f (mk X (su s 318 14 x)) := mk_pi rfl (by decide) rfl
theorem g_M_size {f : Int32 → Option qz_R} : qz_gi (mk X s).1 318 12 15 f = f (s.1 318 15) := mk_gi rfl (by decide) rfl
theorem p_M_size {f : qz_W → Option qz_R} : qz_pf (mk X s) 318 12 15 (.int x) f = f (mk X (su s 318 15 x)) := mk_pi rfl (by decide) rfl
theorem g_M_at {f : Int32 → Option qz_R} : qz_gi (mk X s).1 318 12 16 f = f (s.1 318 16) := mk_gi rfl (by decide) rfl
theorem p_M_at {f : qz_W → Option qz_R} : qz_pf (mk X s) 318 12 16 (.int x) f = f (mk X (su s 318 16 x)) := mk_pi rfl (by decide) rfl
theorem g_M_fault {f : Int32 → Option qz_R} : qz_gi (mk X s).1 318 12 17 f = f (s.1 318 17) := mk_gi rfl (by decide) rfl
theorem p_M_fault {f : qz_W → Option qz_R} : qz_pf (mk X s) 318 12 17 (.int x) f = f (mk X (su s 318 17 x)) := mk_pi rfl (by decide) rfl
theorem g_M_tape {f : Nat → Option qz_R} : qz_ga (mk X s).1 318 12 18 f = f (332) := mk_ga rfl (by decide) rfl
theorem i_M_tape {f : Int32 → Option qz_R} (hj : j < 1200) : qz_ba (mk X s).1 332 (nI j) f = f (s.1 332 j) := mk_ba rfl (by decide) (by decide) hj
theorem w_M_tape {f : qz_W → Option qz_R} (hj : j < 1200) : qz_bs (mk X s) 332 (nI j) x f = f (mk X (su s 332 j (vp_nar .byte x))) := mk_bs rfl (by decide) (by decide) hj
theorem g_M_text {f : Nat → Option qz_R} : qz_ga (mk X s).1 318 12 19 f = f (333) := mk_ga rfl (by decide) rfl
theorem i_M_text {f : Int32 → Option qz_R} (hj : j < 1200) : qz_ba (mk X s).1 333 (nI j) f = f (s.1 333 j) := mk_ba rfl (by decide) (by decide) hj
theorem w_M_text {f : qz_W → Option qz_R} (hj : j < 1200) : qz_bs (mk X s) 333 (nI j) x f = f (mk X (su s 333 j (vp_nar .byte x))) := mk_bs rfl (by decide) (by decide) hj
theorem g_M_wordEnd {f : Int32 → Option qz_R} : qz_gi (mk X s).1 318 12 20 f = f (s.1 318 20) := mk_gi rfl (by decide) rfl
theorem p_M_wordEnd {f : qz_W → Option qz_R} : qz_pf (mk X s) 318 12 20 (.int x) f = f (mk X (su s 318 20 x)) := mk_pi rfl (by decide) rfl
theorem g_M_read {f : Int32 → Option qz_R} : qz_gi (mk X s).1 318 12 21 f = f (s.1 318 21) := mk_gi rfl (by decide) rfl
theorem p_M_read {f : qz_W → Option qz_R} : qz_pf (mk X s) 318 12 21 (.int x) f = f (mk X (su s 318 21 x)) := mk_pi rfl (by decide) rfl
theorem g_M_squaresMany {f : Int32 → Option qz_R} : qz_gi (mk X s).1 318 12 22 f = f (s.1 318 22) := mk_gi rfl (by decide) rfl
theorem p_M_squaresMany {f : qz_W → Option qz_R} : qz_pf (mk X s) 318 12 22 (.int x) f = f (mk X (su s 318 22 x)) := mk_pi rfl (by decide) rfl
theorem g_M_squaresBits {f : Int32 → Option qz_R} : qz_gi (mk X s).1 318 12 23 f = f (s.1 318 23) := mk_gi rfl (by decide) rfl
theorem p_M_squaresBits {f : qz_W → Option qz_R} : qz_pf (mk X s) 318 12 23 (.int x) f = f (mk X (su s 318 23 x)) := mk_pi rfl (by decide) rfl
theorem g_M_side {f : Int32 → Option qz_R} : qz_gi (mk X s).1 318 12 24 f = f (s.1 318 24) := mk_gi rfl (by decide) rfl
theorem p_M_side {f : qz_W → Option qz_R} : qz_pf (mk X s) 318 12 24 (.int x) f = f (mk X (su s 318 24 x)) := mk_pi rfl (by decide) rfl
theorem g_M_toldX {f : Int32 → Option qz_R} : qz_gi (mk X s).1 318 12 25 f = f (s.1 318 25) := mk_gi rfl (by decide) rfl
theorem p_M_toldX {f : qz_W → Option qz_R} : qz_pf (mk X s) 318 12 25 (.int x) f = f (mk X (su s 318 25 x)) := mk_pi rfl (by decide) rfl
theorem g_M_toldY {f : Int32 → Option qz_R} : qz_gi (mk X s).1 318 12 26 f = f (s.1 318 26) := mk_gi rfl (by decide) rfl
theorem p_M_toldY {f : qz_W → Option qz_R} : qz_pf (mk X s) 318 12 26 (.int x) f = f (mk X (su s 318 26 x)) := mk_pi rfl (by decide) rfl
theorem g_M_endX {f : Int32 → Option qz_R} : qz_gi (mk X s).1 318 12 27 f = f (s.1 318 27) := mk_gi rfl (by decide) rfl
theorem p_M_endX {f : qz_W → Option qz_R} : qz_pf (mk X s) 318 12 27 (.int x) f = f (mk X (su s 318 27 x)) := mk_pi rfl (by decide) rfl
theorem g_M_endY {f : Int32 → Option qz_R} : qz_gi (mk X s).1 318 12 28 f = f (s.1 318 28) := mk_gi rfl (by decide) rfl
theorem p_M_endY {f : qz_W → Option qz_R} : qz_pf (mk X s) 318 12 28 (.int x) f = f (mk X (su s 318 28 x)) := mk_pi rfl (by decide) rfl
theorem g_M_tin {f : Nat → Option qz_R} : qz_ga (mk X s).1 318 12 29 f = f (334) := mk_ga rfl (by decide) rfl
theorem i_M_tin {f : Int32 → Option qz_R} (hj : j < 400) : qz_ia (mk X s).1 334 (nI j) f = f (s.1 334 j) := mk_ia rfl (by decide) (by decide) hj
theorem w_M_tin {f : qz_W → Option qz_R} (hj : j < 400) : qz_is (mk X s) 334 (nI j) x f = f (mk X (su s 334 j x)) := mk_is rfl (by decide) (by decide) hj
theorem g_M_hangs {f : Nat → Option qz_R} : qz_ga (mk X s).1 318 12 30 f = f (335) := mk_ga rfl (by decide) rfl
theorem i_M_hangs {f : Int32 → Option qz_R} (hj : j < 400) : qz_ia (mk X s).1 335 (nI j) f = f (s.1 335 j) := mk_ia rfl (by decide) (by decide) hj
theorem w_M_hangs {f : qz_W → Option qz_R} (hj : j < 400) : qz_is (mk X s) 335 (nI j) x f = f (mk X (su s 335 j x)) := mk_is rfl (by decide) (by decide) hj
theorem g_M_queue {f : Nat → Option qz_R} : qz_ga (mk X s).1 318 12 31 f = f (336) := mk_ga rfl (by decide) rfl
theorem i_M_queue {f : Int32 → Option qz_R} (hj : j < 400) : qz_ia (mk X s).1 336 (nI j) f = f (s.1 336 j) := mk_ia rfl (by decide) (by decide) hj
theorem w_M_queue {f : qz_W → Option qz_R} (hj : j < 400) : qz_is (mk X s) 336 (nI j) x f = f (mk X (su s 336 j x)) := mk_is rfl (by decide) (by decide) hj
theorem g_M_piece {f : Nat → Option qz_R} : qz_ga (mk X s).1 318 12 32 f = f (337) := mk_ga rfl (by decide) rfl
theorem i_M_piece {f : Int32 → Option qz_R} (hj : j < 400) : qz_ia (mk X s).1 337 (nI j) f = f (s.1 337 j) := mk_ia rfl (by decide) (by decide) hj
theorem w_M_piece {f : qz_W → Option qz_R} (hj : j < 400) : qz_is (mk X s) 337 (nI j) x f = f (mk X (su s 337 j x)) := mk_is rfl (by decide) (by decide) hj
theorem g_M_pieceFirst {f : Nat → Option qz_R} : qz_ga (mk X s).1 318 12 33 f = f (338) := mk_ga rfl (by decide) rfl
theorem i_M_pieceFirst {f : Int32 → Option qz_R} (hj : j < 400) : qz_ia (mk X s).1 338 (nI j) f = f (s.1 338 j) := mk_ia rfl (by decide) (by decide) hj
theorem w_M_pieceFirst {f : qz_W → Option qz_R} (hj : j < 400) : qz_is (mk X s) 338 (nI j) x f = f (mk X (su s 338 j x)) := mk_is rfl (by decide) (by decide) hj
theorem g_M_pieceMany {f : Nat → Option qz_R} : qz_ga (mk X s).1 318 12 34 f = f (339) := mk_ga rfl (by decide) rfl
theorem i_M_pieceMany {f : Int32 → Option qz_R} (hj : j < 400) : qz_ia (mk X s).1 339 (nI j) f = f (s.1 339 j) := mk_ia rfl (by decide) (by decide) hj
theorem w_M_pieceMany {f : qz_W → Option qz_R} (hj : j < 400) : qz_is (mk X s) 339 (nI j) x f = f (mk X (su s 339 j x)) := mk_is rfl (by decide) (by decide) hj
theorem g_M_kept {f : Nat → Option qz_R} : qz_ga (mk X s).1 318 12 35 f = f (340) := mk_ga rfl (by decide) rfl
theorem i_M_kept {f : Int32 → Option qz_R} (hj : j < 400) : qz_ia (mk X s).1 340 (nI j) f = f (s.1 340 j) := mk_ia rfl (by decide) (by decide) hj
theorem w_M_kept {f : qz_W → Option qz_R} (hj : j < 400) : qz_is (mk X s) 340 (nI j) x f = f (mk X (su s 340 j x)) := mk_is rfl (by decide) (by decide) hj
theorem g_M_pieces {f : Int32 → Option qz_R} : qz_gi (mk X s).1 318 12 36 f = f (s.1 318 36) := mk_gi rfl (by decide) rfl
theorem p_M_pieces {f : qz_W → Option qz_R} : qz_pf (mk X s) 318 12 36 (.int x) f = f (mk X (su s 318 36 x)) := mk_pi rfl (by decide) rfl
theorem g_M_steps {f : Nat → Option qz_R} : qz_ga (mk X s).1 318 12 37 f = f (341) := mk_ga rfl (by decide) rfl
theorem i_M_steps {f : Int32 → Option qz_R} (hj : j < 400) : qz_ia (mk X s).1 341 (nI j) f = f (s.1 341 j) := mk_ia rfl (by decide) (by decide) hj
theorem w_M_steps {f : qz_W → Option qz_R} (hj : j < 400) : qz_is (mk X s) 341 (nI j) x f = f (mk X (su s 341 j x)) := mk_is rfl (by decide) (by decide) hj
theorem g_M_gapSheet {f : Int32 → Option qz_R} : qz_gi (mk X s).1 318 12 38 f = f (s.1 318 38) := mk_gi rfl (by decide) rfl
theorem p_M_gapSheet {f : qz_W → Option qz_R} : qz_pf (mk X s) 318 12 38 (.int x) f = f (mk X (su s 318 38 x)) := mk_pi rfl (by decide) rfl
theorem g_M_neckMany {f : Int32 → Option qz_R} : qz_gi (mk X s).1 318 12 39 f = f (s.1 318 39) := mk_gi rfl (by decide) rfl
theorem p_M_neckMany {f : qz_W → Option qz_R} : qz_pf (mk X s) 318 12 39 (.int x) f = f (mk X (su s 318 39 x)) := mk_pi rfl (by decide) rfl
theorem g_M_greatest {f : Int32 → Option qz_R} : qz_gi (mk X s).1 318 12 40 f = f (s.1 318 40) := mk_gi rfl (by decide) rfl
theorem p_M_greatest {f : qz_W → Option qz_R} : qz_pf (mk X s) 318 12 40 (.int x) f = f (mk X (su s 318 40 x)) := mk_pi rfl (by decide) rfl
theorem g_M_aboveMany {f : Int32 → Option qz_R} : qz_gi (mk X s).1 318 12 41 f = f (s.1 318 41) := mk_gi rfl (by decide) rfl
theorem p_M_aboveMany {f : qz_W → Option qz_R} : qz_pf (mk X s) 318 12 41 (.int x) f = f (mk X (su s 318 41 x)) := mk_pi rfl (by decide) rfl
theorem g_M_doesHang {f : Nat → Option qz_R} : qz_ga (mk X s).1 318 12 42 f = f (342) := mk_ga rfl (by decide) rfl
theorem i_M_doesHang {f : Int32 → Option qz_R} (hj : j < 4096) : qz_ia (mk X s).1 342 (nI j) f = f (s.1 342 j) := mk_ia rfl (by decide) (by decide) hj
theorem w_M_doesHang {f : qz_W → Option qz_R} (hj : j < 4096) : qz_is (mk X s) 342 (nI j) x f = f (mk X (su s 342 j x)) := mk_is rfl (by decide) (by decide) hj
theorem g_M_joined {f : Nat → Option qz_R} : qz_ga (mk X s).1 318 12 43 f = f (343) := mk_ga rfl (by decide) rfl
theorem i_M_joined {f : Int32 → Option qz_R} (hj : j < 51200) : qz_ia (mk X s).1 343 (nI j) f = f (s.1 343 j) := mk_ia rfl (by decide) (by decide) hj
theorem w_M_joined {f : qz_W → Option qz_R} (hj : j < 51200) : qz_is (mk X s) 343 (nI j) x f = f (mk X (su s 343 j x)) := mk_is rfl (by decide) (by decide) hj
theorem g_M_byRoot {f : Nat → Option qz_R} : qz_ga (mk X s).1 318 12 44 f = f (344) := mk_ga rfl (by decide) rfl
theorem i_M_byRoot {f : Int32 → Option qz_R} (hj : j < 128) : qz_ia (mk X s).1 344 (nI j) f = f (s.1 344 j) := mk_ia rfl (by decide) (by decide) hj
theorem w_M_byRoot {f : qz_W → Option qz_R} (hj : j < 128) : qz_is (mk X s) 344 (nI j) x f = f (mk X (su s 344 j x)) := mk_is rfl (by decide) (by decide) hj
theorem g_M_cost {f : Nat → Option qz_R} : qz_ga (mk X s).1 318 12 45 f = f (345) := mk_ga rfl (by decide) rfl
theorem i_M_cost {f : Int32 → Option qz_R} (hj : j < 400) : qz_ia (mk X s).1 345 (nI j) f = f (s.1 345 j) := mk_ia rfl (by decide) (by decide) hj
theorem w_M_cost {f : qz_W → Option qz_R} (hj : j < 400) : qz_is (mk X s) 345 (nI j) x f = f (mk X (su s 345 j x)) := mk_is rfl (by decide) (by decide) hj
theorem g_M_done {f : Nat → Option qz_R} : qz_ga (mk X s).1 318 12 46 f = f (346) := mk_ga rfl (by decide) rfl
theorem i_M_done {f : Int32 → Option qz_R} (hj : j < 400) : qz_ia (mk X s).1 346 (nI j) f = f (s.1 346 j) := mk_ia rfl (by decide) (by decide) hj
theorem w_M_done {f : qz_W → Option qz_R} (hj : j < 400) : qz_is (mk X s) 346 (nI j) x f = f (mk X (su s 346 j x)) := mk_is rfl (by decide) (by decide) hj
theorem g_M_turn {f : Nat → Option qz_R} : qz_ga (mk X s).1 318 12 47 f = f (347) := mk_ga rfl (by decide) rfl
theorem i_M_turn {f : Int32 → Option qz_R} (hj : j < 6) : qz_ia (mk X s).1 347 (nI j) f = f (s.1 347 j) := mk_ia rfl (by decide) (by decide) hj
theorem w_M_turn {f : qz_W → Option qz_R} (hj : j < 6) : qz_is (mk X s) 347 (nI j) x f = f (mk X (su s 347 j x)) := mk_is rfl (by decide) (by decide) hj
theorem g_M_bestTurn {f : Nat → Option qz_R} : qz_ga (mk X s).1 318 12 48 f = f (348) := mk_ga rfl (by decide) rfl
theorem i_M_bestTurn {f : Int32 → Option qz_R} (hj : j < 6) : qz_ia (mk X s).1 348 (nI j) f = f (s.1 348 j) := mk_ia rfl (by decide) (by decide) hj
theorem w_M_bestTurn {f : qz_W → Option qz_R} (hj : j < 6) : qz_is (mk X s) 348 (nI j) x f = f (mk X (su s 348 j x)) := mk_is rfl (by decide) (by decide) hj
theorem g_M_paints {f : Nat → Option qz_R} : qz_ga (mk X s).1 318 12 49 f = f (349) := mk_ga rfl (by decide) rfl
theorem i_M_paints {f : Int32 → Option qz_R} (hj : j < 400) : qz_ia (mk X s).1 349 (nI j) f = f (s.1 349 j) := mk_ia rfl (by decide) (by decide) hj
theorem w_M_paints {f : qz_W → Option qz_R} (hj : j < 400) : qz_is (mk X s) 349 (nI j) x f = f (mk X (su s 349 j x)) := mk_is rfl (by decide) (by decide) hj
theorem g_M_leaves {f : Nat → Option qz_R} : qz_ga (mk X s).1 318 12 50 f = f (350) := mk_ga rfl (by decide) rfl
theorem i_M_leaves {f : Int32 → Option qz_R} (hj : j < 400) : qz_ia (mk X s).1 350 (nI j) f = f (s.1 350 j) := mk_ia rfl (by decide) (by decide) hj
theorem w_M_leaves {f : qz_W → Option qz_R} (hj : j < 400) : qz_is (mk X s) 350 (nI j) x f = f (mk X (su s 350 j x)) := mk_is rfl (by decide) (by decide) hj
theorem g_M_toldOnes {f : Nat → Option qz_R} : qz_ga (mk X s).1 318 12 51 f = f (351) := mk_ga rfl (by decide) rfl
theorem i_M_toldOnes {f : Int32 → Option qz_R} (hj : j < 6) : qz_ia (mk X s).1 351 (nI j) f = f (s.1 351 j) := mk_ia rfl (by decide) (by decide) hj
theorem w_M_toldOnes {f : qz_W → Option qz_R} (hj : j < 6) : qz_is (mk X s) 351 (nI j) x f = f (mk X (su s 351 j x)) := mk_is rfl (by decide) (by decide) hj
theorem g_M_toldMany {f : Int32 → Option qz_R} : qz_gi (mk X s).1 318 12 52 f = f (s.1 318 52) := mk_gi rfl (by decide) rfl
theorem p_M_toldMany {f : qz_W → Option qz_R} : qz_pf (mk X s) 318 12 52 (.int x) f = f (mk X (su s 318 52 x)) := mk_pi rfl (by decide) rfl
theorem g_M_readCost {f : Nat → Option qz_R} : qz_ga (mk X s).1 318 12 53 f = f (352) := mk_ga rfl (by decide) rfl
theorem i_M_readCost {f : Int32 → Option qz_R} (hj : j < 21) : qz_ia (mk X s).1 352 (nI j) f = f (s.1 352 j) := mk_ia rfl (by decide) (by decide) hj
theorem w_M_readCost {f : qz_W → Option qz_R} (hj : j < 21) : qz_is (mk X s) 352 (nI j) x f = f (mk X (su s 352 j x)) := mk_is rfl (by decide) (by decide) hj
theorem g_M_readShapes {f : Nat → Option qz_R} : qz_ga (mk X s).1 318 12 54 f = f (353) := mk_ga rfl (by decide) rfl
theorem i_M_readShapes {f : Int32 → Option qz_R} (hj : j < 21) : qz_ia (mk X s).1 353 (nI j) f = f (s.1 353 j) := mk_ia rfl (by decide) (by decide) hj
theorem w_M_readShapes {f : qz_W → Option qz_R} (hj : j < 21) : qz_is (mk X s) 353 (nI j) x f = f (mk X (su s 353 j x)) := mk_is rfl (by decide) (by decide) hj
theorem g_M_readShape {f : Nat → Option qz_R} : qz_ga (mk X s).1 318 12 55 f = f (354) := mk_ga rfl (by decide) rfl
theorem i_M_readShape {f : Int32 → Option qz_R} (hj : j < 21) : qz_ia (mk X s).1 354 (nI j) f = f (s.1 354 j) := mk_ia rfl (by decide) (by decide) hj
theorem w_M_readShape {f : qz_W → Option qz_R} (hj : j < 21) : qz_is (mk X s) 354 (nI j) x f = f (mk X (su s 354 j x)) := mk_is rfl (by decide) (by decide) hj
theorem g_M_ways {f : Nat → Option qz_R} : qz_ga (mk X s).1 318 12 56 f = f (355) := mk_ga rfl (by decide) rfl
theorem i_M_ways {f : Int64 → Option qz_R} (hj : j < 21) : qz_ja (mk X s).1 355 (nI j) f = f (s.2.1 355 j) := mk_ja rfl (by decide) (by decide) hj
theorem w_M_ways {f : qz_W → Option qz_R} {y : Int64} (hj : j < 21) : qz_js (mk X s) 355 (nI j) y f = f (mk X (sl s 355 j y)) := mk_js rfl (by decide) (by decide) hj
theorem g_M_loose {f : Nat → Option qz_R} : qz_ga (mk X s).1 318 12 57 f = f (356) := mk_ga rfl (by decide) rfl
theorem i_M_loose {f : Int32 → Option qz_R} (hj : j < 256) : qz_ia (mk X s).1 356 (nI j) f = f (s.1 356 j) := mk_ia rfl (by decide) (by decide) hj
theorem w_M_loose {f : qz_W → Option qz_R} (hj : j < 256) : qz_is (mk X s) 356 (nI j) x f = f (mk X (su s 356 j x)) := mk_is rfl (by decide) (by decide) hj
theorem g_M_onward {f : Nat → Option qz_R} : qz_ga (mk X s).1 318 12 58 f = f (357) := mk_ga rfl (by decide) rfl
theorem i_M_onward {f : Int32 → Option qz_R} (hj : j < 256) : qz_ia (mk X s).1 357 (nI j) f = f (s.1 357 j) := mk_ia rfl (by decide) (by decide) hj
theorem w_M_onward {f : qz_W → Option qz_R} (hj : j < 256) : qz_is (mk X s) 357 (nI j) x f = f (mk X (su s 357 j x)) := mk_is rfl (by decide) (by decide) hj
theorem g_M_holeOf {f : Nat → Option qz_R} : qz_ga (mk X s).1 318 12 59 f = f (358) := mk_ga rfl (by decide) rfl
theorem i_M_holeOf {f : Int32 → Option qz_R} (hj : j < 400) : qz_ia (mk X s).1 358 (nI j) f = f (s.1 358 j) := mk_ia rfl (by decide) (by decide) hj
theorem w_M_holeOf {f : qz_W → Option qz_R} (hj : j < 400) : qz_is (mk X s) 358 (nI j) x f = f (mk X (su s 358 j x)) := mk_is rfl (by decide) (by decide) hj
theorem g_M_plan {f : Nat → Option qz_R} : qz_ga (mk X s).1 318 12 60 f = f (359) := mk_ga rfl (by decide) rfl
theorem i_M_plan {f : Int32 → Option qz_R} (hj : j < 8) : qz_ia (mk X s).1 359 (nI j) f = f (s.1 359 j) := mk_ia rfl (by decide) (by decide) hj
theorem w_M_plan {f : qz_W → Option qz_R} (hj : j < 8) : qz_is (mk X s) 359 (nI j) x f = f (mk X (su s 359 j x)) := mk_is rfl (by decide) (by decide) hj
theorem g_M_images {f : Int32 → Option qz_R} : qz_gi (mk X s).1 318 12 61 f = f (s.1 318 61) := mk_gi rfl (by decide) rfl
theorem p_M_images {f : qz_W → Option qz_R} : qz_pf (mk X s) 318 12 61 (.int x) f = f (mk X (su s 318 61 x)) := mk_pi rfl (by decide) rfl
theorem g_M_place {f : Int32 → Option qz_R} : qz_gi (mk X s).1 318 12 62 f = f (s.1 318 62) := mk_gi rfl (by decide) rfl
theorem p_M_place {f : qz_W → Option qz_R} : qz_pf (mk X s) 318 12 62 (.int x) f = f (mk X (su s 318 62 x)) := mk_pi rfl (by decide) rfl
theorem g_M_image {f : Nat → Option qz_R} : qz_ga (mk X s).1 318 12 63 f = f (360) := mk_ga rfl (by decide) rfl
theorem i_M_image {f : Int32 → Option qz_R} (hj : j < 24300) : qz_ia (mk X s).1 360 (nI j) f = f (s.1 360 j) := mk_ia rfl (by decide) (by decide) hj
theorem w_M_image {f : qz_W → Option qz_R} (hj : j < 24300) : qz_is (mk X s) 360 (nI j) x f = f (mk X (su s 360 j x)) := mk_is rfl (by decide) (by decide) hj
theorem g_M_imageOrder {f : Nat → Option qz_R} : qz_ga (mk X s).1 318 12 64 f = f (361) := mk_ga rfl (by decide) rfl
theorem i_M_imageOrder {f : Int32 → Option qz_R} (hj : j < 3) : qz_ia (mk X s).1 361 (nI j) f = f (s.1 361 j) := mk_ia rfl (by decide) (by decide) hj
theorem w_M_imageOrder {f : qz_W → Option qz_R} (hj : j < 3) : qz_is (mk X s) 361 (nI j) x f = f (mk X (su s 361 j x)) := mk_is rfl (by decide) (by decide) hj
def sh_l : List Nat := [7, 17, 27, 37, 47, 57, 68, 130, 140, 150, 160, 170, 180, 194, 204, 214, 224, 234, 244, 258, 268, 278, 288, 298, 308]
/-- a place of a sheet -/
def isS (q : Nat) : Prop := q ∈ sh_l
theorem isS_lt : ∀ q ∈ sh_l, q + 9 < 318 ∧ 7 ≤ q := by decide
theorem isS_S : ∀ q ∈ sh_l, ms_S q = (3, 8) ∧ ms_S (q + 3) = (3, 0) ∧ ms_S (q + 1) = (0, 20) ∧ ms_S (q + 2) = (0, 400) ∧ ms_S (q + 4) = (0, 12) ∧ ms_S (q + 5) = (0, 12) ∧ ms_S (q + 6) = (0, 240) ∧ ms_S (q + 7) = (0, 8) ∧ ms_S (q + 8) = (0, 8) ∧ ms_S (q + 9) = (0, 64) := by decide
theorem isS_r (p : Nat → Nat) : ∀ q ∈ sh_l, rf p q 7 = q + 1 ∧ rf p q 8 = q + 2 ∧ rf p q 9 = q + 3 ∧ rf p q 11 = q + 7 ∧ rf p q 12 = q + 8 ∧ rf p q 13 = q + 9 ∧ rf p (q + 3) 3 = q + 4 ∧ rf p (q + 3) 4 = q + 5 ∧ rf p (q + 3) 5 = q + 6 := by
  unfold rf
  have h : ∀ q ∈ sh_l, ¬ q = 4 ∧ ¬ q + 3 = 4 ∧ ¬ q = 0 ∧ ¬ q + 3 = 0 := by decide
  have h2 : ∀ q ∈ sh_l, qz_gd 0 (qz_gd [] (qz_gd [] rf_tab (q / 16)) (q % 16)) 7 = q + 1 ∧ qz_gd 0 (qz_gd [] (qz_gd [] rf_tab (q / 16)) (q % 16)) 8 = q + 2 ∧ qz_gd 0 (qz_gd [] (qz_gd [] rf_tab (q / 16)) (q % 16)) 9 = q + 3 ∧ qz_gd 0 (qz_gd [] (qz_gd [] rf_tab (q / 16)) (q % 16)) 11 = q + 7 ∧ qz_gd 0 (qz_gd [] (qz_gd [] rf_tab (q / 16)) (q % 16)) 12 = q + 8 ∧ qz_gd 0 (qz_gd [] (qz_gd [] rf_tab (q / 16)) (q % 16)) 13 = q + 9 ∧ qz_gd 0 (qz_gd [] (qz_gd [] rf_tab ((q + 3) / 16)) ((q + 3) % 16)) 3 = q + 4 ∧ qz_gd 0 (qz_gd [] (qz_gd [] rf_tab ((q + 3) / 16)) ((q + 3) % 16)) 4 = q + 5 ∧ qz_gd 0 (qz_gd [] (qz_gd [] rf_tab ((q + 3) / 16)) ((q + 3) % 16)) 5 = q + 6 := by decide +kernel
  intro q hq
  obtain ⟨a, b, c, d⟩ := h q hq
  simp only [a, b, c, d, false_and, if_false]
  exact h2 q hq
variable {q : Nat}
theorem ck_S {f : Option qz_R} (hq : isS q) : qz_ck (mk X s).1 q 8 f = f := mk_ck (isS_S q hq).1 (by have := isS_lt q hq; omega)
theorem ck_B {f : Option qz_R} (hq : isS q) : qz_ck (mk X s).1 (q + 3) 0 f = f := mk_ck (isS_S q hq).2.1 (by have := isS_lt q hq; omega)
theorem g_S_told {f : Int32 → Option qz_R} (hq : isS q) : qz_gi (mk X s).1 q 8 0 f = f (s.1 q 0) := mk_gi (isS_S q hq).1 (by have := isS_lt q hq; omega) rfl
theorem p_S_told {f : qz_W → Option qz_R} (hq : isS q) : qz_pf (mk X s) q 8 0 (.int x) f = f (mk X (su s q 0 x)) := mk_pi (isS_S q hq).1 (by have := isS_lt q hq; omega) (by simp [ms_f, qz_gd, ms_f8, su, List.set])
theorem g_S_wide {f : Int32 → Option qz_R} (hq : isS q) : qz_gi (mk X s).1 q 8 1 f = f (s.1 q 1) := mk_gi (isS_S q hq).1 (by have := isS_lt q hq; omega) rfl
theorem p_S_wide {f : qz_W → Option qz_R} (hq : isS q) : qz_pf (mk X s) q 8 1 (.int x) f = f (mk X (su s q 1 x)) := mk_pi (isS_S q hq).1 (by have := isS_lt q hq; omega) (by simp [ms_f, qz_gd, ms_f8, su, List.set])
theorem g_S_high {f : Int32 → Option qz_R} (hq : isS q) : qz_gi (mk X s).1 q 8 2 f = f (s.1 q 2) := mk_gi (isS_S q hq).1 (by have := isS_lt q hq; omega) rfl
theorem p_S_high {f : qz_W → Option qz_R} (hq : isS q) : qz_pf (mk X s) q 8 2 (.int x) f = f (mk X (su s q 2 x)) := mk_pi (isS_S q hq).1 (by have := isS_lt q hq; omega) (by simp [ms_f, qz_gd, ms_f8, su, List.set])
theorem g_S_statements {f : Int32 → Option qz_R} (hq : isS q) : qz_gi (mk X s).1 q 8 3 f = f (s.1 q 3) := mk_gi (isS_S q hq).1 (by have := isS_lt q hq; omega) rfl
theorem p_S_statements {f : qz_W → Option qz_R} (hq : isS q) : qz_pf (mk X s) q 8 3 (.int x) f = f (mk X (su s q 3 x)) := mk_pi (isS_S q hq).1 (by have := isS_lt q hq; omega) (by simp [ms_f, qz_gd, ms_f8, su, List.set])
theorem g_S_held {f : Int32 → Option qz_R} (hq : isS q) : qz_gi (mk X s).1 q 8 4 f = f (s.1 q 4) := mk_gi (isS_S q hq).1 (by have := isS_lt q hq; omega) rfl
theorem p_S_held {f : qz_W → Option qz_R} (hq : isS q) : qz_pf (mk X s) q 8 4 (.int x) f = f (mk X (su s q 4 x)) := mk_pi (isS_S q hq).1 (by have := isS_lt q hq; omega) (by simp [ms_f, qz_gd, ms_f8, su, List.set])
theorem g_S_brush {f : Int32 → Option qz_R} (hq : isS q) : qz_gi (mk X s).1 q 8 5 f = f (s.1 q 5) := mk_gi (isS_S q hq).1 (by have := isS_lt q hq; omega) rfl
theorem p_S_brush {f : qz_W → Option qz_R} (hq : isS q) : qz_pf (mk X s) q 8 5 (.int x) f = f (mk X (su s q 5 x)) := mk_pi (isS_S q hq).1 (by have := isS_lt q hq; omega) (by simp [ms_f, qz_gd, ms_f8, su, List.set])
theorem g_S_wear {f : Int32 → Option qz_R} (hq : isS q) : qz_gi (mk X s).1 q 8 6 f = f (s.1 q 6) := mk_gi (isS_S q hq).1 (by have := isS_lt q hq; omega) rfl
theorem p_S_wear {f : qz_W → Option qz_R} (hq : isS q) : qz_pf (mk X s) q 8 6 (.int x) f = f (mk X (su s q 6 x)) := mk_pi (isS_S q hq).1 (by have := isS_lt q hq; omega) (by simp [ms_f, qz_gd, ms_f8, su, List.set])
theorem g_S_through {f : Nat → Option qz_R} (hq : isS q) : qz_ga (mk X s).1 q 8 7 f = f (q + 1) := by
  have := isS_lt q hq
  refine (mk_ga (y := rf s.2.2 q 7) (isS_S q hq).1 (by omega) rfl).trans ?_
  rw [(isS_r s.2.2 q hq).1]
theorem i_S_through {f : Int32 → Option qz_R} (hq : isS q) (hj : j < 20) : qz_ia (mk X s).1 (q + 1) (nI j) f = f (s.1 (q + 1) j) := mk_ia (isS_S q hq).2.2.1 (by have := isS_lt q hq; omega) (by decide) hj
theorem w_S_through {f : qz_W → Option qz_R} (hq : isS q) (hj : j < 20) : qz_is (mk X s) (q + 1) (nI j) x f = f (mk X (su s (q + 1) j x)) := mk_is (isS_S q hq).2.2.1 (by have := isS_lt q hq; omega) (by decide) hj
theorem g_S_worth {f : Nat → Option qz_R} (hq : isS q) : qz_ga (mk X s).1 q 8 8 f = f (q + 2) := by
  have := isS_lt q hq
  refine (mk_ga (y := rf s.2.2 q 8) (isS_S q hq).1 (by omega) rfl).trans ?_
  rw [(isS_r s.2.2 q hq).2.1]
theorem i_S_worth {f : Int32 → Option qz_R} (hq : isS q) (hj : j < 400) : qz_ia (mk X s).1 (q + 2) (nI j) f = f (s.1 (q + 2) j) := mk_ia (isS_S q hq).2.2.2.1 (by have := isS_lt q hq; omega) (by decide) hj
theorem w_S_worth {f : qz_W → Option qz_R} (hq : isS q) (hj : j < 400) : qz_is (mk X s) (q + 2) (nI j) x f = f (mk X (su s (q + 2) j x)) := mk_is (isS_S q hq).2.2.2.1 (by have := isS_lt q hq; omega) (by decide) hj
theorem g_S_bridges {f : Nat → Option qz_R} (hq : isS q) : qz_ga (mk X s).1 q 8 9 f = f (q + 3) := by
  have := isS_lt q hq
  refine (mk_ga (y := rf s.2.2 q 9) (isS_S q hq).1 (by omega) rfl).trans ?_
  rw [(isS_r s.2.2 q hq).2.2.1]
theorem g_S_shapeNumber {f : Int32 → Option qz_R} (hq : isS q) : qz_gi (mk X s).1 q 8 10 f = f (s.1 q 10) := mk_gi (isS_S q hq).1 (by have := isS_lt q hq; omega) rfl
theorem p_S_shapeNumber {f : qz_W → Option qz_R} (hq : isS q) : qz_pf (mk X s) q 8 10 (.int x) f = f (mk X (su s q 10 x)) := mk_pi (isS_S q hq).1 (by have := isS_lt q hq; omega) (by simp [ms_f, qz_gd, ms_f8, su, List.set])
theorem g_S_shapeWide {f : Nat → Option qz_R} (hq : isS q) : qz_ga (mk X s).1 q 8 11 f = f (q + 7) := by
  have := isS_lt q hq
  refine (mk_ga (y := rf s.2.2 q 11) (isS_S q hq).1 (by omega) rfl).trans ?_
  rw [(isS_r s.2.2 q hq).2.2.2.1]
theorem i_S_shapeWide {f : Int32 → Option qz_R} (hq : isS q) (hj : j < 8) : qz_ia (mk X s).1 (q + 7) (nI j) f = f (s.1 (q + 7) j) := mk_ia (isS_S q hq).2.2.2.2.2.2.2.1 (by have := isS_lt q hq; omega) (by decide) hj
theorem w_S_shapeWide {f : qz_W → Option qz_R} (hq : isS q) (hj : j < 8) : qz_is (mk X s) (q + 7) (nI j) x f = f (mk X (su s (q + 7) j x)) := mk_is (isS_S q hq).2.2.2.2.2.2.2.1 (by have := isS_lt q hq; omega) (by decide) hj
theorem g_S_shapeHigh {f : Nat → Option qz_R} (hq : isS q) : qz_ga (mk X s).1 q 8 12 f = f (q + 8) := by
  have := isS_lt q hq
  refine (mk_ga (y := rf s.2.2 q 12) (isS_S q hq).1 (by omega) rfl).trans ?_
  rw [(isS_r s.2.2 q hq).2.2.2.2.1]
theorem i_S_shapeHigh {f : Int32 → Option qz_R} (hq : isS q) (hj : j < 8) : qz_ia (mk X s).1 (q + 8) (nI j) f = f (s.1 (q + 8) j) := mk_ia (isS_S q hq).2.2.2.2.2.2.2.2.1 (by have := isS_lt q hq; omega) (by decide) hj
theorem w_S_shapeHigh {f : qz_W → Option qz_R} (hq : isS q) (hj : j < 8) : qz_is (mk X s) (q + 8) (nI j) x f = f (mk X (su s (q + 8) j x)) := mk_is (isS_S q hq).2.2.2.2.2.2.2.2.1 (by have := isS_lt q hq; omega) (by decide) hj
theorem g_S_shapeRows {f : Nat → Option qz_R} (hq : isS q) : qz_ga (mk X s).1 q 8 13 f = f (q + 9) := by
  have := isS_lt q hq
  refine (mk_ga (y := rf s.2.2 q 13) (isS_S q hq).1 (by omega) rfl).trans ?_
  rw [(isS_r s.2.2 q hq).2.2.2.2.2.1]
theorem i_S_shapeRows {f : Int32 → Option qz_R} (hq : isS q) (hj : j < 64) : qz_ia (mk X s).1 (q + 9) (nI j) f = f (s.1 (q + 9) j) := mk_ia (isS_S q hq).2.2.2.2.2.2.2.2.2 (by have := isS_lt q hq; omega) (by decide) hj
theorem w_S_shapeRows {f : qz_W → Option qz_R} (hq : isS q) (hj : j < 64) : qz_is (mk X s) (q + 9) (nI j) x f = f (mk X (su s (q + 9) j x)) := mk_is (isS_S q hq).2.2.2.2.2.2.2.2.2 (by have := isS_lt q hq; omega) (by decide) hj
theorem g_B_number {f : Int32 → Option qz_R} (hq : isS q) : qz_gi (mk X s).1 (q + 3) 0 0 f = f (s.1 (q + 3) 0) := mk_gi (isS_S q hq).2.1 (by have := isS_lt q hq; omega) rfl
theorem p_B_number {f : qz_W → Option qz_R} (hq : isS q) : qz_pf (mk X s) (q + 3) 0 0 (.int x) f = f (mk X (su s (q + 3) 0 x)) := mk_pi (isS_S q hq).2.1 (by have := isS_lt q hq; omega) (by simp [ms_f, qz_gd, ms_f0, su, List.set])
theorem g_B_in {f : Int32 → Option qz_R} (hq : isS q) : qz_gi (mk X s).1 (q + 3) 0 1 f = f (s.1 (q + 3) 1) := mk_gi (isS_S q hq).2.1 (by have := isS_lt q hq; omega) rfl
theorem p_B_in {f : qz_W → Option qz_R} (hq : isS q) : qz_pf (mk X s) (q + 3) 0 1 (.int x) f = f (mk X (su s (q + 3) 1 x)) := mk_pi (isS_S q hq).2.1 (by have := isS_lt q hq; omega) (by simp [ms_f, qz_gd, ms_f0, su, List.set])
theorem g_B_hidden {f : Int32 → Option qz_R} (hq : isS q) : qz_gi (mk X s).1 (q + 3) 0 2 f = f (s.1 (q + 3) 2) := mk_gi (isS_S q hq).2.1 (by have := isS_lt q hq; omega) rfl
theorem p_B_hidden {f : qz_W → Option qz_R} (hq : isS q) : qz_pf (mk X s) (q + 3) 0 2 (.int x) f = f (mk X (su s (q + 3) 2 x)) := mk_pi (isS_S q hq).2.1 (by have := isS_lt q hq; omega) (by simp [ms_f, qz_gd, ms_f0, su, List.set])
theorem g_B_kind {f : Nat → Option qz_R} (hq : isS q) : qz_ga (mk X s).1 (q + 3) 0 3 f = f (q + 4) := by
  have := isS_lt q hq
  refine (mk_ga (y := rf s.2.2 (q + 3) 3) (isS_S q hq).2.1 (by omega) rfl).trans ?_
  rw [(isS_r s.2.2 q hq).2.2.2.2.2.2.1]
theorem i_B_kind {f : Int32 → Option qz_R} (hq : isS q) (hj : j < 12) : qz_ia (mk X s).1 (q + 4) (nI j) f = f (s.1 (q + 4) j) := mk_ia (isS_S q hq).2.2.2.2.1 (by have := isS_lt q hq; omega) (by decide) hj
theorem w_B_kind {f : qz_W → Option qz_R} (hq : isS q) (hj : j < 12) : qz_is (mk X s) (q + 4) (nI j) x f = f (mk X (su s (q + 4) j x)) := mk_is (isS_S q hq).2.2.2.2.1 (by have := isS_lt q hq; omega) (by decide) hj
theorem g_B_lasts {f : Nat → Option qz_R} (hq : isS q) : qz_ga (mk X s).1 (q + 3) 0 4 f = f (q + 5) := by
  have := isS_lt q hq
  refine (mk_ga (y := rf s.2.2 (q + 3) 4) (isS_S q hq).2.1 (by omega) rfl).trans ?_
  rw [(isS_r s.2.2 q hq).2.2.2.2.2.2.2.1]
theorem i_B_lasts {f : Int32 → Option qz_R} (hq : isS q) (hj : j < 12) : qz_ia (mk X s).1 (q + 5) (nI j) f = f (s.1 (q + 5) j) := mk_ia (isS_S q hq).2.2.2.2.2.1 (by have := isS_lt q hq; omega) (by decide) hj
theorem w_B_lasts {f : qz_W → Option qz_R} (hq : isS q) (hj : j < 12) : qz_is (mk X s) (q + 5) (nI j) x f = f (mk X (su s (q + 5) j x)) := mk_is (isS_S q hq).2.2.2.2.2.1 (by have := isS_lt q hq; omega) (by decide) hj
theorem g_B_rows {f : Nat → Option qz_R} (hq : isS q) : qz_ga (mk X s).1 (q + 3) 0 5 f = f (q + 6) := by
  have := isS_lt q hq
  refine (mk_ga (y := rf s.2.2 (q + 3) 5) (isS_S q hq).2.1 (by omega) rfl).trans ?_
  rw [(isS_r s.2.2 q hq).2.2.2.2.2.2.2.2]
theorem i_B_rows {f : Int32 → Option qz_R} (hq : isS q) (hj : j < 240) : qz_ia (mk X s).1 (q + 6) (nI j) f = f (s.1 (q + 6) j) := mk_ia (isS_S q hq).2.2.2.2.2.2.1 (by have := isS_lt q hq; omega) (by decide) hj
theorem w_B_rows {f : qz_W → Option qz_R} (hq : isS q) (hj : j < 240) : qz_is (mk X s) (q + 6) (nI j) x f = f (mk X (su s (q + 6) j x)) := mk_is (isS_S q hq).2.2.2.2.2.2.1 (by have := isS_lt q hq; omega) (by decide) hj
end MKW

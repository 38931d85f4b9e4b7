def qz_TW : List Cond := lw_tbl.filter goodWord
theorem qz_tw {w : Cond} (h : w ∈ tables_1) (hg : goodWord w = true) : w ∈ qz_TW := List.mem_filter.mpr ⟨List.mem_append_right _ h, hg⟩
def qz_oi : List (Nat × Nat) := [(0, 3), (1, 3), (2, 3), (3, 3), (4, 3), (5, 3), (6, 3), (7, 3), (8, 3), (9, 3), (10, 3), (11, 1), (12, 1)]
theorem qz_oi_ok : ∀ q ∈ qz_oi, Cond.methodLink (qz_gd "" qz_on q.1) q.2 objectInit ∈ tables_1 := List.forall_mem_cons.mpr ⟨tm_1 (List.mem_of_getElem? (i := 48) (by decide +kernel)), List.forall_mem_cons.mpr ⟨tm_2 (List.mem_of_getElem? (i := 100) (by decide +kernel)), List.forall_mem_cons.mpr ⟨tm_2 (List.mem_of_getElem? (i := 144) (by decide +kernel)), List.forall_mem_cons.mpr ⟨tm_2 (List.mem_of_getElem? (i := 4) (by decide +kernel)), List.forall_mem_cons.mpr ⟨tm_2 (List.mem_of_getElem? (i := 80) (by decide +kernel)), List.forall_mem_cons.mpr ⟨tm_2 (List.mem_of_getElem? (i := 46) (by decide +kernel)), List.forall_mem_cons.mpr ⟨tm_1 (List.mem_of_getElem? (i := 35) (by decide +kernel)), List.forall_mem_cons.mpr ⟨tm_2 (List.mem_of_getElem? (i := 116) (by decide +kernel)), List.forall_mem_cons.mpr ⟨tm_1 (List.mem_of_getElem? (i := 42) (by decide +kernel)), List.forall_mem_cons.mpr ⟨tm_1 (List.mem_of_getElem? (i := 182) (by decide +kernel)), List.forall_mem_cons.mpr ⟨tm_1 (List.mem_of_getElem? (i := 188) (by decide +kernel)), List.forall_mem_cons.mpr ⟨tm_1 (List.mem_of_getElem? (i := 27) (by decide +kernel)), List.forall_mem_cons.mpr ⟨tm_6 (List.mem_of_getElem? (i := 26) (by decide +kernel)), (fun _ h => absurd h List.not_mem_nil)⟩⟩⟩⟩⟩⟩⟩⟩⟩⟩⟩⟩⟩
theorem qz_oi2 : Cond.instanceMethod objectInit ∈ tables_1 ∧ Cond.code objectInit ⟨#[0xb1]⟩ 1 none ∈ tables_1 := ⟨tm_1 (List.mem_of_getElem? (i := 28) (by decide +kernel)), tm_1 (List.mem_of_getElem? (i := 29) (by decide +kernel))⟩
def qz_ac : List (Nat × Nat) := [(0, 37), (8, 69), (10, 31)]
theorem qz_ac_ok : ∀ q ∈ qz_ac, Cond.methodLink (qz_gd "" qz_on q.1) q.2 arraycopyName ∈ tables_1 := List.forall_mem_cons.mpr ⟨tm_6 (List.mem_of_getElem? (i := 8) (by decide +kernel)), List.forall_mem_cons.mpr ⟨tm_6 (List.mem_of_getElem? (i := 3) (by decide +kernel)), List.forall_mem_cons.mpr ⟨tm_2 (List.mem_of_getElem? (i := 237) (by decide +kernel)), (fun _ h => absurd h List.not_mem_nil)⟩⟩⟩
theorem qz_ac2 : Cond.native arraycopyName ∈ tables_1 ∧ Cond.static arraycopyName ∈ tables_1 ∧ Cond.initialized "java/lang/System" ∈ tables_1 := ⟨tm_2 (List.mem_of_getElem? (i := 239) (by decide +kernel)), tm_2 (List.mem_of_getElem? (i := 238) (by decide +kernel)), tm_1 (List.mem_of_getElem? (i := 14) (by decide +kernel))⟩
theorem qz_sf0 : Cond.fieldLink "TinStencils" 373 "TinStencils" "STEP_X" "[I" ∈ tables_1 := tm_4 (List.mem_of_getElem? (i := 72) (by decide +kernel))
theorem qz_sf1 : Cond.fieldLink "TinStencils" 376 "TinStencils" "STEP_Y" "[I" ∈ tables_1 := tm_4 (List.mem_of_getElem? (i := 73) (by decide +kernel))
theorem qz_sf2 : Cond.fieldLink "java/lang/String" 38 "java/lang/String" "COMPACT_STRINGS" "Z" ∈ tables_1 := tm_3 (List.mem_of_getElem? (i := 24) (by decide +kernel))
theorem qz_sf3 : Cond.fieldLink "java/lang/String" 9 "java/lang/String" "value" "[B" ∈ tables_1 := tm_8 (List.mem_of_getElem? (i := 217) (by decide +kernel))
theorem qz_sf4 : Cond.fieldLink "java/lang/String" 15 "java/lang/String" "coder" "B" ∈ tables_1 := tm_8 (List.mem_of_getElem? (i := 218) (by decide +kernel))
theorem qz_ar_int : Cond.arrayClass .int ∈ tables_1 := tm_1 (List.mem_of_getElem? (i := 80) (by decide +kernel))
theorem qz_ar_long : Cond.arrayClass .long ∈ tables_1 := tm_1 (List.mem_of_getElem? (i := 238) (by decide +kernel))
theorem qz_ar_byte : Cond.arrayClass .byte ∈ tables_1 := tm_4 (List.mem_of_getElem? (i := 5) (by decide +kernel))
def qz_kd (t : FieldType) : Nat := match t with
  | .int => 0
  | .boolean => 0
  | .object _ => 1
  | .array _ => 1
  | _ => 7
def qz_fk (t : FieldType) (c : Nat) : Bool := match t with
  | .int => Nat.beq c 0
  | .boolean => Nat.beq c 2
  | .object _ => Nat.beq c 1
  | .array _ => Nat.beq c 1
  | _ => false
def qz_cok (m j a b kind : Nat) : Bool := (decide (((qz_in m).2.2.2.1, j, a) ∈ qz_ml) || decide (((qz_in m).2.2.2.1, j, a) ∈ qz_mh)) && decide (40 ≤ (qz_in m).2.2.1) && decide (1 ≤ (qz_in m).2.1) && decide (a < 296) && decide ((qz_in a).2.2.2.2.1 = kind) && decide (b = (qz_in a).2.2.2.2.2 + (if kind = 0 then 0 else 1)) && decide ((qz_in a).2.1 + 1 ≤ (qz_in m).2.1) && decide (8 + ((qz_in a).1.2.2.1 + 11) + (qz_in a).2.2.1 ≤ (qz_in m).2.2.1)
/-- a row of a method's table is right: it is what the bytes say, and its numbers are what the tables' words say -/
def qz_ok (m pc : Nat) (en : qz_I) : Bool := match en with
  | ((i, n), (a, b, c), (k, kl), _, tl) => decide (decode (qz_in m).1.2.1 pc = .ok (i, n)) && (match i with
    | .iconst v => decide (n = 1) && decide (Int32.ofInt v = k)
    | .bipush v => decide (n = 2) && decide ((Int8.ofInt v).toInt32 = k)
    | .sipush v => decide (n = 3) && decide ((Int16.ofInt v).toInt32 = k)
    | .ldc j => decide (n = 2) && (match c with
      | 0 => decide (((qz_in m).2.2.2.1, j, k) ∈ qz_ki)
      | _ => decide ((qz_in m).2.2.2.1 = 10 ∧ j = 55 ∧ a = qz_old + 3))
    | .ldc_w j => decide (n = 3) && decide (((qz_in m).2.2.2.1, j, k) ∈ qz_ki)
    | .lconst j => decide (n = 1) && decide (Int64.ofNat j.val = kl)
    | .ldc2_w j => decide (n = 3) && decide (((qz_in m).2.2.2.1, j, kl) ∈ qz_kj)
    | .iload _ => decide (n = 2)
    | .lload _ => decide (n = 2)
    | .aload _ => decide (n = 2)
    | .istore j => decide (n = 2) && decide (j < (qz_in m).1.2.2.1)
    | .lstore j => decide (n = 2) && decide (j + 1 < (qz_in m).1.2.2.1)
    | .astore j => decide (n = 2) && decide (j < (qz_in m).1.2.2.1)
    | .istore_n j => decide (n = 1) && decide (j.val < (qz_in m).1.2.2.1)
    | .lstore_n j => decide (n = 1) && decide (j.val + 1 < (qz_in m).1.2.2.1)
    | .astore_n j => decide (n = 1) && decide (j.val < (qz_in m).1.2.2.1)
    | .iinc j v => decide (n = 3) && (decide (Int32.ofInt v = k) && decide (j < (qz_in m).1.2.2.1))
    | .goto d => decide (n = 3) && decide ((pc : Int) + d = (a : Int))
    | .if_icmp _ d => decide (n = 3) && decide ((pc : Int) + d = (a : Int))
    | .ifCond _ d => decide (n = 3) && decide ((pc : Int) + d = (a : Int))
    | .ifnull d => decide (n = 3) && decide ((pc : Int) + d = (a : Int))
    | .ifnonnull d => decide (n = 3) && decide ((pc : Int) + d = (a : Int))
    | .tableswitch d lo hi offs => decide ((pc : Int) + d = (a : Int)) && (decide (lo = (b : Int)) && (decide (hi + 1 = (b : Int) + (tl.length : Int)) && (decide (offs.toList.map (fun x => (pc : Int) + x) = tl.map (fun (t : Nat) => (t : Int))) && decide (b + tl.length < 100))))
    | .getfield j => decide (n = 3) && (decide (a = 13 ∧ (qz_in m).2.2.2.1 = 13 ∧ (b = 0 ∧ j = 15 ∨ b = 1 ∧ j = 9)) || decide (((qz_in m).2.2.2.1, j, a, b) ∈ qz_fl))
    | .putfield j => decide (n = 3) && (decide (((qz_in m).2.2.2.1, j, a, b) ∈ qz_fl) && (qz_fk ((qz_gd (cT_0, cY_0, 0) qz_ct a).2.1 b) c && (decide (((qz_gd (cT_0, cY_0, 0) qz_ct a).1 b).2.2.2 = false) || decide ((qz_in m).2.2.2.2.1 = 2 ∧ (qz_in m).2.2.2.1 = a))))
    | .getstatic j => decide (n = 3) && (match c with
      | 0 => decide ((qz_in m).2.2.2.1 = 13 ∧ j = 38 ∧ k = 1)
      | _ => decide (a = qz_old + 1 ∧ ((qz_in m).2.2.2.1 = 11 ∧ j = 373 ∨ ((qz_in m).2.2.2.1, j, "STEP_X") ∈ qz_fh)) || decide (a = qz_old + 2 ∧ ((qz_in m).2.2.2.1 = 11 ∧ j = 376 ∨ ((qz_in m).2.2.2.1, j, "STEP_Y") ∈ qz_fh)))
    | .newarray _ => decide (n = 2)
    | .anewarray j => decide (n = 3) && (decide (((qz_in m).2.2.2.1, j, a) ∈ qz_kc) && decide (a = 8 ∨ a = 6))
    | .new j => decide (n = 3) && (decide (((qz_in m).2.2.2.1, j, a) ∈ qz_kc) && (decide (b = (qz_gd (cT_0, cY_0, 0) qz_ct a).2.2) && (decide (tl = (List.range b).map (fun x => qz_kd ((qz_gd (cT_0, cY_0, 0) qz_ct a).2.1 x))) && (decide (a < 13) && decide (7 ∉ tl)))))
    | .invokevirtual j => decide (n = 3) && (match tl with
      | [_, mx, ci] => decide (ci = (qz_in a).2.2.2.1 ∧ mx = (qz_in a).1.2.2.1) && qz_cok m j a b 1
      | _ => false)
    | .invokespecial j => decide (n = 3) && (match tl with
      | [_, mx, ci] => decide (ci = (qz_in a).2.2.2.1 ∧ mx = (qz_in a).1.2.2.1) && qz_cok m j a b 2
      | [] => decide (((qz_in m).2.2.2.1, j) ∈ qz_oi ∧ 40 ≤ (qz_in m).2.2.1 ∧ 1 ≤ (qz_in m).2.1)
      | _ => false)
    | .invokestatic j => decide (n = 3) && (match tl with
      | [_, mx] => decide (mx = (qz_in a).1.2.2.1) && qz_cok m j a b 0
      | [] => decide (((qz_in m).2.2.2.1, j) ∈ qz_ac ∧ 40 ≤ (qz_in m).2.2.1 ∧ 1 ≤ (qz_in m).2.1)
      | [_] => decide ((qz_in m).2.2.2.1 = 14 ∧ j = 9 ∧ 90 ≤ (qz_in m).2.2.1 ∧ 3 ≤ (qz_in m).2.1)
      | _ => false)
    | .ireturn => decide (n = 1) && (match c with
      | 0 => decide ((qz_in m).1.2.2.2 = some .int)
      | 1 => decide ((qz_in m).1.2.2.2 = some .boolean)
      | 2 => decide ((qz_in m).1.2.2.2 = some .char)
      | 3 => decide ((qz_in m).1.2.2.2 = some .byte)
      | _ => false)
    | .lreturn => decide (n = 1) && decide ((qz_in m).1.2.2.2 = some .long)
    | .areturn => decide (n = 1) && decide ((qz_in m).1.2.2.2 = some (.object "TinStencils$Sheet"))
    | .return_ => decide (n = 1) && decide ((qz_in m).1.2.2.2 = none)
    | _ => decide (n = 1))
/-- the frame of a method: its machine, its code, the words, the room -/
def qz_Cx (X : qz_X) (m : Nat) (p : Program) (R : Room) (s : State) (mid : MethodId) (args : Array Value) (meth : Method) (c : Code) : Prop :=
  p.tables.exec = Jvm.exec ∧ c.code = (qz_in m).1.2.1 ∧ meth.sig.returnType = (qz_in m).1.2.2.2 ∧ meth.locks = false ∧ c.maxLocals = (qz_in m).1.2.2.1 ∧ s.vm.findClass (qz_gd "" qz_on (qz_in m).2.2.2.1) = some mid.cls ∧ (∀ w ∈ qz_TW, w.before args s = true) ∧ qz_St X s ∧ ((qz_in m).2.2.2.2.1 = 2 → meth.name = "<init>") ∧ (qz_in m).2.1 ≤ R.frames ∧ (qz_in m).2.2.1 ≤ R.locals
/-- the end of a method stands at pc, with the answer v -/
def qz_re (m pc : Nat) (v : Option Value) : Prop :=
  (∃ (x : Int32) (ty : FieldType), v = some (.int x) ∧ decode (qz_in m).1.2.1 pc = .ok (.ireturn, 1) ∧ (qz_in m).1.2.2.2 = some ty ∧ narrow ty (.int x) = .int x) ∨
  (∃ x : Int64, v = some (.long x) ∧ decode (qz_in m).1.2.1 pc = .ok (.lreturn, 1) ∧ (qz_in m).1.2.2.2 = some .long) ∨
  (∃ x : Value, v = some x ∧ (x = .null ∨ ∃ q, x = .ref q) ∧ decode (qz_in m).1.2.1 pc = .ok (.areturn, 1) ∧ (qz_in m).1.2.2.2 = some (.object "TinStencils$Sheet")) ∨
  (v = none ∧ decode (qz_in m).1.2.1 pc = .ok (.return_, 1) ∧ (qz_in m).1.2.2.2 = none)
def qz_Fr (X : qz_X) (l : Launch) (m : Nat) (p : Program) (e : Env) (R : Room) (s : State) (mid : MethodId) (args : Array Value) (below : List Frame) (meth : Method) (c : Code) (n0 s0 : Nat) (v : Option Value) (w' : qz_W) (Qf : State → Prop) : Prop :=
  qz_Cx X m p R s mid args meth c ∧ s.heap.size = X.2.2.2.1 + n0 ∧ w'.2.1 - n0 ≤ R.cells ∧ w'.2.2 - s0 ≤ R.slots ∧
  ∀ (pc : Nat) (ls : Array Slot) (H : Heap) (locs : List Loc), qz_re m pc v → qz_Wd X H w' → va_S (qz_A X) s.heap H locs → W p l e R s mid args below meth c H locs (w'.2.1 - n0) (w'.2.2 - s0) Qf (F0 mid pc ls (v.toList.map (qz_v X)))
def qz_Sd (X : qz_X) (s : State) (c : Code) (L : qz_L) (w : qz_W) (n0 s0 : Nat) (H : Heap) (locs : List Loc) (ls : Array Slot) : Prop := qz_Wd X H w ∧ va_S (qz_A X) s.heap H locs ∧ lv_has ls c.maxLocals (qz_pl X 0 L) ∧ n0 ≤ w.2.1 ∧ s0 ≤ w.2.2
def qz_IH (X : qz_X) (l : Launch) (f : Nat) : Prop := ∀ (m pc : Nat) (L : qz_L) (st : List Value) (w : qz_W) (v : Option Value) (w' : qz_W), qz_x qz_cd f m pc L st w = some (v, w') → w'.2.1 ≤ qz_old → ∀ (p : Program) (e : Env) (R : Room) (s : State) (mid : MethodId) (args : Array Value) (below : List Frame) (meth : Method) (c : Code) (n0 s0 : Nat) (Qf : State → Prop), qz_Fr X l m p e R s mid args below meth c n0 s0 v w' Qf → ∀ (H : Heap) (locs : List Loc) (ls : Array Slot), qz_Sd X s c L w n0 s0 H locs ls → W p l e R s mid args below meth c H locs (w.2.1 - n0) (w.2.2 - s0) Qf (F0 mid pc ls (st.map (qz_v X)))

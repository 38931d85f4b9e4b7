/-- an array as it is made: by the kind of its elements -/
def qz_na (t : ArrayType) (n : Nat) : qz_E := match t with
  | .long => .inl (.long, n, .inr (.inl (fun _ => 0)))
  | .byte => .inl (.byte, n, .inl (fun _ => 0))
  | _ => .inl (.int, n, .inl (fun _ => 0))
def qz_nt (t : ArrayType) : Bool := match t with
  | .long => true
  | .byte => true
  | .int => true
  | _ => false
/-- fields as they are made: by their kinds (0: a number, 1: a cell) -/
def qz_nf : List Nat → List Value
  | [] => []
  | 0 :: l => .int 0 :: qz_nf l
  | _ :: l => .null :: qz_nf l
/-- a copy between two int arrays that are not the same cell, or within one -/
def qz_cp (w : qz_W) (o q : Nat) (sp dp n : Int32) (f : qz_W → Option qz_R) : Option qz_R := match w.1 o with
  | .inl (.int, n0, .inl g) => match w.1 q with
    | .inl (.int, n1, .inl g1) => if sp < 0 ∨ dp < 0 ∨ n < 0 ∨ n0 < sp.toNatClampNeg + n.toNatClampNeg ∨ n1 < dp.toNatClampNeg + n.toNatClampNeg then none else
        f (va_up w.1 q (.inl (.int, n1, .inl (va_cpy g g1 sp.toNatClampNeg dp.toNatClampNeg n.toNatClampNeg))), w.2)
    | _ => none
  | _ => none
/-- the return of a call: 0 nothing, 1 an int, 2 a long, else a cell or null -/
def qz_rt (c : Nat) (o : Option qz_R) (r : List Value) (f : List Value → qz_W → Option qz_R) : Option qz_R := match c with
  | 0 => qz_r0 o (fun w => f r w)
  | 1 => qz_r1 o (fun x w => f (.int x :: r) w)
  | 2 => qz_r2 o (fun x w => f (.long x :: r) w)
  | _ => qz_r3 o (fun w => f (.null :: r) w) (fun q w => f (.ref q :: r) w)
def qz_iv (go : qz_K) (a b c pad mx : Nat) (ck : Option Nat) (st : List Value) (w : qz_W) (f : List Value → qz_W → Option qz_R) : Option qz_R :=
  qz_sp b st [] (fun as r => cond (Nat.ble (qz_cat r) 8 && Nat.ble (qz_cat as + pad) mx) (match ck with
    | none => qz_rt c (go a 0 (qz_sl as pad) [] w) r f
    | some ci => match as with
      | .ref o :: _ => qz_ck w.1 o ci (qz_rt c (go a 0 (qz_sl as pad) [] w) r f)
      | _ => none) none)
def qz_new (w : qz_W) (e : qz_E) (n : Nat) : qz_W := (va_up w.1 w.2.1 e, w.2.1 + 1, w.2.2 + n)
def qz_G (P : Nat → qz_B) (go : qz_K) (m pc : Nat) (L : qz_L) (st : List Value) (w : qz_W) : Option qz_R :=
  match qz_lk (P m) pc with
  | none => none
  | some ((i, n), (a, b, c), (k, kl), (mn, mt), tl) => match i with
    | .iconst _ => go m (pc + n) (qz_m mn L) (.int k :: st) w
    | .bipush _ => go m (pc + n) (qz_m mn L) (.int k :: st) w
    | .sipush _ => go m (pc + n) (qz_m mn L) (.int k :: st) w
    | .ldc _ => match c with
      | 0 => go m (pc + n) (qz_m mn L) (.int k :: st) w
      | _ => go m (pc + n) (qz_m mn L) (.ref a :: st) w
    | .ldc_w _ => go m (pc + n) (qz_m mn L) (.int k :: st) w
    | .lconst _ => go m (pc + n) (qz_m mn L) (.long kl :: st) w
    | .ldc2_w _ => go m (pc + n) (qz_m mn L) (.long kl :: st) w
    | .aconst_null => go m (pc + n) (qz_m mn L) (.null :: st) w
    | .iload j => qz_li L j (fun x => go m (pc + n) (qz_m mn L) (.int x :: st) w)
    | .iload_n j => qz_li L j.val (fun x => go m (pc + n) (qz_m mn L) (.int x :: st) w)
    | .lload j => qz_ll L j (fun x => go m (pc + n) (qz_m mn L) (.long x :: st) w)
    | .lload_n j => qz_ll L j.val (fun x => go m (pc + n) (qz_m mn L) (.long x :: st) w)
    | .aload j => qz_la L j (fun x => go m (pc + n) (qz_m mn L) (x :: st) w)
    | .aload_n j => qz_la L j.val (fun x => go m (pc + n) (qz_m mn L) (x :: st) w)
    | .istore j => qz_p1 st (fun x r => go m (pc + n) (qz_m mn (qz_s1 L j (.int x))) r w)
    | .istore_n j => qz_p1 st (fun x r => go m (pc + n) (qz_m mn (qz_s1 L j.val (.int x))) r w)
    | .lstore j => qz_q1 st (fun x r => go m (pc + n) (qz_m mn (qz_s2 L j (.long x))) r w)
    | .lstore_n j => qz_q1 st (fun x r => go m (pc + n) (qz_m mn (qz_s2 L j.val (.long x))) r w)
    | .astore j => qz_pa st (fun x r => go m (pc + n) (qz_m mn (qz_s1 L j x)) r w)
    | .astore_n j => qz_pa st (fun x r => go m (pc + n) (qz_m mn (qz_s1 L j.val x)) r w)
    | .iinc j _ => qz_li L j (fun x => go m (pc + n) (qz_m mn (qz_s1 L j (.int (x + k)))) st w)
    | .iadd => qz_p2 st (fun x y r => go m (pc + n) (qz_m mn L) (.int (x + y) :: r) w)
    | .isub => qz_p2 st (fun x y r => go m (pc + n) (qz_m mn L) (.int (x - y) :: r) w)
    | .imul => qz_p2 st (fun x y r => go m (pc + n) (qz_m mn L) (.int (x * y) :: r) w)
    | .iand => qz_p2 st (fun x y r => go m (pc + n) (qz_m mn L) (.int (x &&& y) :: r) w)
    | .ior => qz_p2 st (fun x y r => go m (pc + n) (qz_m mn L) (.int (x ||| y) :: r) w)
    | .ixor => qz_p2 st (fun x y r => go m (pc + n) (qz_m mn L) (.int (x ^^^ y) :: r) w)
    | .ishl => qz_p2 st (fun x y r => go m (pc + n) (qz_m mn L) (.int (x <<< (y &&& 31)) :: r) w)
    | .ishr => qz_p2 st (fun x y r => go m (pc + n) (qz_m mn L) (.int (x >>> (y &&& 31)) :: r) w)
    | .iushr => qz_p2 st (fun x y r => go m (pc + n) (qz_m mn L) (.int (x.toUInt32 >>> (y.toUInt32 &&& Int32.toUInt32 31)).toInt32 :: r) w)
    | .idiv => qz_p2 st (fun x y r => if y = 0 then none else go m (pc + n) (qz_m mn L) (.int (x / y) :: r) w)
    | .irem => qz_p2 st (fun x y r => if y = 0 then none else go m (pc + n) (qz_m mn L) (.int (x - x / y * y) :: r) w)
    | .ladd => qz_q2 st (fun x y r => go m (pc + n) (qz_m mn L) (.long (x + y) :: r) w)
    | .lsub => qz_q2 st (fun x y r => go m (pc + n) (qz_m mn L) (.long (x - y) :: r) w)
    | .lmul => qz_q2 st (fun x y r => go m (pc + n) (qz_m mn L) (.long (x * y) :: r) w)
    | .lor => qz_q2 st (fun x y r => go m (pc + n) (qz_m mn L) (.long (x ||| y) :: r) w)
    | .lcmp => qz_q2 st (fun x y r => go m (pc + n) (qz_m mn L) (.int (lg_cmp x y) :: r) w)
    | .lshl => qz_p1 st (fun y r => qz_q1 r (fun x r => go m (pc + n) (qz_m mn L) (.long (x <<< (y.toInt64 &&& 63)) :: r) w))
    | .i2l => qz_p1 st (fun x r => go m (pc + n) (qz_m mn L) (.long x.toInt64 :: r) w)
    | .i2b => qz_p1 st (fun x r => go m (pc + n) (qz_m mn L) (.int x.toInt8.toInt32 :: r) w)
    | .i2c => qz_p1 st (fun x r => go m (pc + n) (qz_m mn L) (.int (x.toUInt32 % 65536).toInt32 :: r) w)
    | .pop => match st with
      | v :: r => cond (Nat.beq v.category 1) (go m (pc + n) (qz_m mn L) r w) none
      | _ => none
    | .dup => match st with
      | v :: r => cond (Nat.beq v.category 1) (go m (pc + n) (qz_m mn L) (v :: v :: r) w) none
      | _ => none
    | .dup2 => match st with
      | v :: u :: r => cond (Nat.beq v.category 1 && Nat.beq u.category 1) (go m (pc + n) (qz_m mn L) (v :: u :: v :: u :: r) w) none
      | _ => none
    | .goto _ => go m a (qz_m mt L) st w
    | .if_icmp d _ => qz_p2 st (fun x y r => qz_bra d x y (go m a (qz_m mt L) r w) (go m (pc + n) (qz_m mn L) r w))
    | .ifCond d _ => qz_p1 st (fun x r => qz_bra d x 0 (go m a (qz_m mt L) r w) (go m (pc + n) (qz_m mn L) r w))
    | .ifnull _ => match st with
      | .null :: r => go m a (qz_m mt L) r w
      | .ref _ :: r => go m (pc + n) (qz_m mn L) r w
      | _ => none
    | .ifnonnull _ => match st with
      | .null :: r => go m (pc + n) (qz_m mn L) r w
      | .ref _ :: r => go m a (qz_m mt L) r w
      | _ => none
    | .tableswitch _ _ _ _ => qz_p1 st (fun x r => qz_sw x (fun t => go m t (qz_m mt L) r w) a b tl)
    | .getfield _ => match c with
      | 1 => qz_pr st (fun o r => qz_ga w.1 o a b (fun q => go m (pc + n) (qz_m mn L) (.ref q :: r) w))
      | _ => qz_pr st (fun o r => qz_gi w.1 o a b (fun x => go m (pc + n) (qz_m mn L) (.int x :: r) w))
    | .putfield _ => match c with
      | 1 => qz_pr st (fun q r => qz_pr r (fun o r => qz_pf w o a b (.ref q) (fun w => go m (pc + n) (qz_m mn L) r w)))
      | 2 => qz_p1 st (fun x r => qz_pr r (fun o r => cond (qz_z x) (qz_pf w o a b (.int x) (fun w => go m (pc + n) (qz_m mn L) r w)) none))
      | _ => qz_p1 st (fun x r => qz_pr r (fun o r => qz_pf w o a b (.int x) (fun w => go m (pc + n) (qz_m mn L) r w)))
    | .getstatic _ => match c with
      | 0 => go m (pc + n) (qz_m mn L) (.int k :: st) w
      | _ => go m (pc + n) (qz_m mn L) (.ref a :: st) w
    | .iaload => qz_p1 st (fun j r => qz_pr r (fun o r => qz_ia w.1 o j (fun x => go m (pc + n) (qz_m mn L) (.int x :: r) w)))
    | .baload => qz_p1 st (fun j r => qz_pr r (fun o r => qz_ba w.1 o j (fun x => go m (pc + n) (qz_m mn L) (.int x :: r) w)))
    | .laload => qz_p1 st (fun j r => qz_pr r (fun o r => qz_ja w.1 o j (fun x => go m (pc + n) (qz_m mn L) (.long x :: r) w)))
    | .aaload => qz_p1 st (fun j r => qz_pr r (fun o r => qz_aa w.1 o j (fun q => go m (pc + n) (qz_m mn L) (.ref q :: r) w)))
    | .iastore => qz_p2 st (fun j x r => qz_pr r (fun o r => qz_is w o j x (fun w => go m (pc + n) (qz_m mn L) r w)))
    | .bastore => qz_p2 st (fun j x r => qz_pr r (fun o r => qz_bs w o j x (fun w => go m (pc + n) (qz_m mn L) r w)))
    | .lastore => qz_q1 st (fun x r => qz_p1 r (fun j r => qz_pr r (fun o r => qz_js w o j x (fun w => go m (pc + n) (qz_m mn L) r w))))
    | .aastore => qz_pr st (fun v r => qz_p1 r (fun j r => qz_pr r (fun o r => qz_as w o j v (fun w => go m (pc + n) (qz_m mn L) r w))))
    | .arraylength => qz_pr st (fun o r => qz_len w.1 o (fun x => go m (pc + n) (qz_m mn L) (.int x :: r) w))
    | .newarray t => qz_p1 st (fun x r => if x < 0 ∨ 60000 < x.toNatClampNeg then none else cond (qz_nt t) (go m (pc + n) (qz_m mn L) (.ref w.2.1 :: r) (qz_new w (qz_na t x.toNatClampNeg) x.toNatClampNeg)) none)
    | .anewarray _ => qz_p1 st (fun x r => if x < 0 ∨ 60000 < x.toNatClampNeg then none else match qz_at qz_cn a with
      | none => none
      | some C => go m (pc + n) (qz_m mn L) (.ref w.2.1 :: r) (qz_new w (.inl (.object C, x.toNatClampNeg, .inr (.inr (.inr (.inr (fun _ => none)))))) x.toNatClampNeg))
    | .new _ => go m (pc + n) (qz_m mn L) (.ref w.2.1 :: st) (qz_new w (.inr (a, qz_nf tl)) b)
    | .invokevirtual _ => match tl with
      | [pad, mx, ci] => qz_iv go a b c pad mx (some ci) st w (fun st w => go m (pc + n) (qz_m mn L) st w)
      | _ => none
    | .invokespecial _ => match tl with
      | [pad, mx, ci] => qz_iv go a b c pad mx (some ci) st w (fun st w => go m (pc + n) (qz_m mn L) st w)
      | [] => qz_pr st (fun _ r => cond (Nat.ble (qz_cat r) 8) (go m (pc + n) (qz_m mn L) r w) none)
      | _ => none
    | .invokestatic _ => match tl with
      | [pad, mx] => qz_iv go a b c pad mx none st w (fun st w => go m (pc + n) (qz_m mn L) st w)
      | [] => match st with
        | .int z :: .int dp :: .ref q :: .int sp :: .ref o :: r => cond (Nat.ble (qz_cat r) 8) (qz_cp w o q sp dp z (fun w => go m (pc + n) (qz_m mn L) r w)) none
        | _ => none
      | [_] => match st with
        | .int z :: .int i :: r => if i < 0 ∨ z ≤ i then none else cond (Nat.ble (qz_cat r) 8) (go m (pc + n) (qz_m mn L) r w) none
        | _ => none
      | _ => none
    | .ireturn => match st with
      | [.int x] => match c with
        | 1 => cond (qz_z x) (some (some (.int x), w)) none
        | 2 => if x = (x.toUInt32 % 65536).toInt32 then some (some (.int x), w) else none
        | 3 => if x = x.toInt8.toInt32 then some (some (.int x), w) else none
        | _ => some (some (.int x), w)
      | _ => none
    | .lreturn => match st with
      | [.long x] => some (some (.long x), w)
      | _ => none
    | .areturn => match st with
      | [.null] => some (some .null, w)
      | [.ref q] => some (some (.ref q), w)
      | _ => none
    | .return_ => match st with
      | [] => some (none, w)
      | _ => none
    | _ => none
def qz_x (P : Nat → qz_B) : Nat → qz_K
  | 0 => fun _ _ _ _ _ => none
  | f + 1 => qz_G P (qz_x P f)

set_option maxRecDepth 100000 in
theorem e_C_feedNumber_0 (v0 : Nat) (v1 : Int32) (w : qz_W) : rn 13 0 [some (.ref v0), some (.int v1), none] [] w =
    rn 13 3 [some (.ref v0), some (.int v1), some (.int (nI 24))] [] w :=
  (qz_blk qz_cd [3] 4 13 0 _ _ _).trans rfl
set_option maxRecDepth 100000 in
theorem e_C_feedNumber_3 (v0 : Nat) (v1 : Int32) (v2 : Int32) (w : qz_W) : rn 13 3 [some (.ref v0), some (.int v1), some (.int v2)] [] w =
    (if v2 < 0 then some (none, w) else qz_gi w.1 v0 11 1 (fun x1 => (if (nI 1200) ≤ x1 then some (none, w) else qz_ga w.1 v0 11 0 (fun q2 => qz_gi w.1 v0 11 1 (fun x3 => qz_is w q2 x3 ((v1.toUInt32 >>> (v2.toUInt32 &&& Int32.toUInt32 31)).toInt32 &&& (nI 255)) (fun w4 => qz_gi w4.1 v0 11 1 (fun x5 => qz_pf w4 v0 11 1 (.int (x5 + (nI 1))) (fun w6 => rn 13 3 [some (.ref v0), some (.int v1), some (.int (v2 + (-8)))] [] w6)))))))) :=
  (qz_blk qz_cd [3] 26 13 3 _ _ _).trans rfl
set_option maxRecDepth 100000 in
theorem e_C_feed_0 (v0 : Nat) (v1 : Int32) (v2 : Int32) (v3 : Int32) (v4 : Int32) (v5 : Int32) (w : qz_W) : rn 14 0 [some (.ref v0), some (.int v1), some (.int v2), some (.int v3), some (.int v4), some (.int v5)] [] w =
    qz_gi w.1 v0 11 1 (fun x1 => (if x1 ≤ (nI 1180) then qz_ck w.1 v0 11 (qz_r0 (rn 13 0 [some (.ref v0), some (.int v1), none] [] w) (fun w2 => qz_ck w2.1 v0 11 (qz_r0 (rn 13 0 [some (.ref v0), some (.int v2), none] [] w2) (fun w3 => qz_ck w3.1 v0 11 (qz_r0 (rn 13 0 [some (.ref v0), some (.int v3), none] [] w3) (fun w4 => qz_ck w4.1 v0 11 (qz_r0 (rn 13 0 [some (.ref v0), some (.int v4), none] [] w4) (fun w5 => qz_ck w5.1 v0 11 (qz_r0 (rn 13 0 [some (.ref v0), some (.int v5), none] [] w5) (fun w6 => qz_gi w6.1 v0 11 1 (fun x7 => some (some (.int x7), w6)))))))))))) else some (some (.int (-1)), w))) :=
  (qz_blk qz_cd [] 24 14 0 _ _ _).trans rfl
set_option maxRecDepth 100000 in
theorem e_M_four_0 (v0 : Nat) (v1 : Int32) (w : qz_W) : rn 15 0 [some (.ref v0), some (.int v1), none] [] w =
    rn 15 3 [some (.ref v0), some (.int v1), some (.int (nI 24))] [] w :=
  (qz_blk qz_cd [3] 4 15 0 _ _ _).trans rfl
set_option maxRecDepth 100000 in
theorem e_M_four_3 (v0 : Nat) (v1 : Int32) (v2 : Int32) (w : qz_W) : rn 15 3 [some (.ref v0), some (.int v1), some (.int v2)] [] w =
    (if v2 < 0 then some (none, w) else qz_ga w.1 v0 12 18 (fun q1 => qz_gi w.1 v0 12 14 (fun x2 => qz_bs w q1 x2 (v1 >>> (v2 &&& 31)).toInt8.toInt32 (fun w3 => qz_gi w3.1 v0 12 14 (fun x4 => qz_pf w3 v0 12 14 (.int (x4 + (nI 1))) (fun w5 => rn 15 3 [some (.ref v0), some (.int v1), some (.int (v2 + (-8)))] [] w5)))))) :=
  (qz_blk qz_cd [3] 21 15 3 _ _ _).trans rfl
set_option maxRecDepth 100000 in
theorem e_M_feed_0 (v0 : Nat) (v1 : Int32) (v2 : Int32) (v3 : Int32) (v4 : Int32) (v5 : Int32) (w : qz_W) : rn 16 0 [some (.ref v0), some (.int v1), some (.int v2), some (.int v3), some (.int v4), some (.int v5)] [] w =
    qz_gi w.1 v0 12 14 (fun x1 => (if x1 + (nI 20) ≤ (nI 1200) then qz_ck w.1 v0 12 (qz_r0 (rn 15 0 [some (.ref v0), some (.int v1), none] [] w) (fun w2 => qz_ck w2.1 v0 12 (qz_r0 (rn 15 0 [some (.ref v0), some (.int v2), none] [] w2) (fun w3 => qz_ck w3.1 v0 12 (qz_r0 (rn 15 0 [some (.ref v0), some (.int v3), none] [] w3) (fun w4 => qz_ck w4.1 v0 12 (qz_r0 (rn 15 0 [some (.ref v0), some (.int v4), none] [] w4) (fun w5 => qz_ck w5.1 v0 12 (qz_r0 (rn 15 0 [some (.ref v0), some (.int v5), none] [] w5) (fun w6 => qz_gi w6.1 v0 12 14 (fun x7 => some (some (.int x7), w6)))))))))))) else some (some (.int (-1)), w))) :=
  (qz_blk qz_cd [] 26 16 0 _ _ _).trans rfl
set_option maxRecDepth 100000 in
theorem e_Tokens_kindOf_0 (v0 : Int32) (w : qz_W) : rn 17 0 [some (.int v0)] [] w =
    (if v0 < (nI 97) then (if v0 < (nI 48) then some (some (.int (nI 3)), w) else (if (nI 57) < v0 then some (some (.int (nI 3)), w) else some (some (.int (nI 2)), w))) else (if (nI 122) < v0 then (if v0 < (nI 48) then some (some (.int (nI 3)), w) else (if (nI 57) < v0 then some (some (.int (nI 3)), w) else some (some (.int (nI 2)), w))) else some (some (.int (nI 1)), w))) :=
  (qz_blk qz_cd [] 17 17 0 _ _ _).trans rfl
set_option maxRecDepth 100000 in
theorem e_Tokens_lengthAt_0 (v0 : Nat) (v1 : Int32) (v2 : Int32) (w : qz_W) : rn 18 0 [some (.ref v0), some (.int v1), some (.int v2), none, none] [] w =
    qz_ga w.1 v0 10 0 (fun q1 => qz_ia w.1 q1 v1 (fun x2 => qz_r1 (rn 17 0 [some (.int x2)] [] w) (fun x4 w3 => (if x4 = (nI 3) then some (some (.int (nI 1)), w3) else rn 18 22 [some (.ref v0), some (.int v1), some (.int v2), some (.int x4), some (.int (v1 + (nI 1)))] [] w3)))) :=
  (qz_blk qz_cd [22] 15 18 0 _ _ _).trans rfl
set_option maxRecDepth 100000 in
theorem e_Tokens_lengthAt_22 (v0 : Nat) (v1 : Int32) (v2 : Int32) (v3 : Int32) (v4 : Int32) (w : qz_W) : rn 18 22 [some (.ref v0), some (.int v1), some (.int v2), some (.int v3), some (.int v4)] [] w =
    (if v2 ≤ v4 then some (some (.int (v4 - v1)), w) else qz_ga w.1 v0 10 0 (fun q1 => qz_ia w.1 q1 v4 (fun x2 => qz_r1 (rn 17 0 [some (.int x2)] [] w) (fun x4 w3 => (if x4 = v3 then rn 18 22 [some (.ref v0), some (.int v1), some (.int v2), some (.int v3), some (.int (v4 + (nI 1)))] [] w3 else some (some (.int (v4 - v1)), w3)))))) :=
  (qz_blk qz_cd [22] 16 18 22 _ _ _).trans rfl
set_option maxRecDepth 100000 in
theorem e_String_coder_0 (v0 : Nat) (w : qz_W) : rn 19 0 [some (.ref v0)] [] w =
    (if (nI 1) = 0 then if (nI 1) = (nI 1).toInt8.toInt32 then some (some (.int (nI 1)), w) else none else qz_gi w.1 v0 13 0 (fun x1 => if x1 = x1.toInt8.toInt32 then some (some (.int x1), w) else none)) :=
  (qz_blk qz_cd [] 8 19 0 _ _ _).trans rfl
set_option maxRecDepth 100000 in
theorem e_String_length_0 (v0 : Nat) (w : qz_W) : rn 20 0 [some (.ref v0)] [] w =
    qz_ga w.1 v0 13 1 (fun q1 => qz_len w.1 q1 (fun x2 => qz_ck w.1 v0 13 (qz_r1 (rn 19 0 [some (.ref v0)] [] w) (fun x4 w3 => some (some (.int (x2 >>> (x4 &&& 31))), w3))))) :=
  (qz_blk qz_cd [] 9 20 0 _ _ _).trans rfl
set_option maxRecDepth 100000 in
theorem e_String_isLatin1_0 (v0 : Nat) (w : qz_W) : rn 21 0 [some (.ref v0)] [] w =
    (if (nI 1) = 0 then some (some (.int (nI 0)), w) else qz_gi w.1 v0 13 0 (fun x1 => (if x1 = 0 then some (some (.int (nI 1)), w) else some (some (.int (nI 0)), w)))) :=
  (qz_blk qz_cd [] 10 21 0 _ _ _).trans rfl
set_option maxRecDepth 100000 in
theorem e_StringLatin1_charAt_0 (v0 : Nat) (v1 : Int32) (w : qz_W) : rn 22 0 [some (.ref v0), some (.int v1)] [] w =
    qz_len w.1 v0 (fun x1 => (if v1 < 0 ∨ x1 ≤ v1 then none else qz_ba w.1 v0 v1 (fun x2 => if ((x2 &&& (nI 255)).toUInt32 % 65536).toInt32 = (((x2 &&& (nI 255)).toUInt32 % 65536).toInt32.toUInt32 % 65536).toInt32 then some (some (.int ((x2 &&& (nI 255)).toUInt32 % 65536).toInt32), w) else none))) :=
  (qz_blk qz_cd [] 13 22 0 _ _ _).trans rfl
set_option maxRecDepth 100000 in
theorem e_String_charAt_0 (v0 : Nat) (v1 : Int32) (w : qz_W) : rn 23 0 [some (.ref v0), some (.int v1)] [] w =
    qz_ck w.1 v0 13 (qz_r1 (rn 21 0 [some (.ref v0)] [] w) (fun x2 w1 => (if x2 = 0 then qz_ga w1.1 v0 13 1 (fun q3 => none) else qz_ga w1.1 v0 13 1 (fun q4 => qz_r1 (rn 22 0 [some (.ref q4), some (.int v1)] [] w1) (fun x6 w5 => if x6 = (x6.toUInt32 % 65536).toInt32 then some (some (.int x6), w5) else none))))) :=
  (qz_blk qz_cd [] 10 23 0 _ _ _).trans rfl
set_option maxRecDepth 100000 in
theorem e_Tokens_isKeyword_0 (v0 : Nat) (v1 : Int32) (v2 : Int32) (v3 : Int32) (w : qz_W) : rn 24 0 [some (.ref v0), some (.int v1), some (.int v2), some (.int v3), none] [] w =
    rn 24 3 [some (.ref v0), some (.int v1), some (.int v2), some (.int v3), some (.int (nI 0))] [] w :=
  (qz_blk qz_cd [3] 4 24 0 _ _ _).trans rfl
set_option maxRecDepth 100000 in
theorem e_Tokens_isKeyword_3 (v0 : Nat) (v1 : Int32) (v2 : Int32) (v3 : Int32) (v4 : Int32) (w : qz_W) : rn 24 3 [some (.ref v0), some (.int v1), some (.int v2), some (.int v3), some (.int v4)] [] w =
    (if v3 ≤ v4 then some (some (.int (nI 1)), w) else qz_ga w.1 v0 10 0 (fun q1 => qz_ia w.1 q1 (v1 + v4) (fun x2 => qz_ck w.1 1000003 13 (qz_r1 (rn 23 0 [some (.ref 1000003), some (.int (v2 + v4))] [] w) (fun x4 w3 => (if x2 = x4 then rn 24 3 [some (.ref v0), some (.int v1), some (.int v2), some (.int v3), some (.int (v4 + (nI 1)))] [] w3 else some (some (.int (nI 0)), w3))))))) :=
  (qz_blk qz_cd [3] 19 24 3 _ _ _).trans rfl
set_option maxRecDepth 100000 in
theorem e_Tokens_keywordAt_0 (v0 : Nat) (v1 : Int32) (v2 : Int32) (w : qz_W) : rn 25 0 [some (.ref v0), some (.int v1), some (.int v2), none, none, none] [] w =
    rn 25 8 [some (.ref v0), some (.int v1), some (.int v2), some (.int (nI 0)), some (.int (nI 0)), some (.int (nI 0))] [] w :=
  (qz_blk qz_cd [8] 8 25 0 _ _ _).trans rfl
set_option maxRecDepth 100000 in
theorem e_Tokens_keywordAt_8 (v0 : Nat) (v1 : Int32) (v2 : Int32) (v3 : Int32) (v4 : Int32) (v5 : Int32) (w : qz_W) : rn 25 8 [some (.ref v0), some (.int v1), some (.int v2), some (.int v3), some (.int v4), some (.int v5)] [] w =
    qz_ck w.1 1000003 13 (qz_r1 (rn 20 0 [some (.ref 1000003)] [] w) (fun x2 w1 => (if x2 ≤ v5 then some (some (.int (-1)), w1) else qz_ck w1.1 1000003 13 (qz_r1 (rn 23 0 [some (.ref 1000003), some (.int v5)] [] w1) (fun x4 w3 => (if x4 = (nI 32) then (if v5 - v4 = v2 then qz_ck w3.1 v0 10 (qz_r1 (rn 24 0 [some (.ref v0), some (.int v1), some (.int v4), some (.int v2), none] [] w3) (fun x6 w5 => (if x6 = 0 then rn 25 8 [some (.ref v0), some (.int v1), some (.int v2), some (.int (v3 + (nI 1))), some (.int (v5 + (nI 1))), some (.int (v5 + (nI 1)))] [] w5 else some (some (.int v3), w5)))) else rn 25 8 [some (.ref v0), some (.int v1), some (.int v2), some (.int (v3 + (nI 1))), some (.int (v5 + (nI 1))), some (.int (v5 + (nI 1)))] [] w3) else rn 25 8 [some (.ref v0), some (.int v1), some (.int v2), some (.int v3), some (.int v4), some (.int (v5 + (nI 1)))] [] w3)))))) :=
  (qz_blk qz_cd [8] 29 25 8 _ _ _).trans rfl
set_option maxRecDepth 100000 in
theorem e_Tokens_numberAt_0 (v0 : Nat) (v1 : Int32) (v2 : Int32) (w : qz_W) : rn 26 0 [some (.ref v0), some (.int v1), some (.int v2), none, none] [] w =
    (if v2 ≤ (nI 4) then rn 26 12 [some (.ref v0), some (.int v1), some (.int v2), some (.int (nI 0)), some (.int v1)] [] w else some (some (.int (-1)), w)) :=
  (qz_blk qz_cd [12] 9 26 0 _ _ _).trans rfl
set_option maxRecDepth 100000 in
theorem e_Tokens_numberAt_12 (v0 : Nat) (v1 : Int32) (v2 : Int32) (v3 : Int32) (v4 : Int32) (w : qz_W) : rn 26 12 [some (.ref v0), some (.int v1), some (.int v2), some (.int v3), some (.int v4)] [] w =
    (if v1 + v2 ≤ v4 then some (some (.int v3), w) else qz_ga w.1 v0 10 0 (fun q1 => qz_ia w.1 q1 v4 (fun x2 => rn 26 12 [some (.ref v0), some (.int v1), some (.int v2), some (.int (((v3 * (nI 10)) + x2) - (nI 48))), some (.int (v4 + (nI 1)))] [] w))) :=
  (qz_blk qz_cd [12] 20 26 12 _ _ _).trans rfl
set_option maxRecDepth 100000 in
theorem e_Tokens_addToken_0 (v0 : Nat) (v1 : Int32) (v2 : Int32) (w : qz_W) : rn 27 0 [some (.ref v0), some (.int v1), some (.int v2)] [] w =
    qz_ga w.1 v0 10 1 (fun q1 => qz_gi w.1 v0 10 5 (fun x2 => qz_ga w.1 v0 10 0 (fun q3 => qz_ia w.1 q3 v1 (fun x4 => qz_r1 (rn 17 0 [some (.int x4)] [] w) (fun x6 w5 => qz_is w5 q1 x2 x6 (fun w7 => qz_ga w7.1 v0 10 2 (fun q8 => qz_gi w7.1 v0 10 5 (fun x9 => qz_is w7 q8 x9 v1 (fun w10 => qz_ga w10.1 v0 10 3 (fun q11 => qz_gi w10.1 v0 10 5 (fun x12 => qz_is w10 q11 x12 v2 (fun w13 => qz_ga w13.1 v0 10 1 (fun q14 => qz_gi w13.1 v0 10 5 (fun x15 => qz_ia w13.1 q14 x15 (fun x16 => (if x16 = (nI 1) then qz_ga w13.1 v0 10 4 (fun q32 => qz_gi w13.1 v0 10 5 (fun x33 => qz_ck w13.1 v0 10 (qz_r1 (rn 25 0 [some (.ref v0), some (.int v1), some (.int v2), none, none, none] [] w13) (fun x35 w34 => qz_is w34 q32 x33 x35 (fun w36 => qz_gi w36.1 v0 10 5 (fun x37 => qz_pf w36 v0 10 5 (.int (x37 + (nI 1))) (fun w38 => some (none, w38)))))))) else qz_ga w13.1 v0 10 4 (fun q17 => qz_gi w13.1 v0 10 5 (fun x18 => qz_ga w13.1 v0 10 1 (fun q19 => qz_gi w13.1 v0 10 5 (fun x20 => qz_ia w13.1 q19 x20 (fun x21 => (if x21 = (nI 2) then qz_ck w13.1 v0 10 (qz_r1 (rn 26 0 [some (.ref v0), some (.int v1), some (.int v2), none, none] [] w13) (fun x28 w27 => qz_is w27 q17 x18 x28 (fun w29 => qz_gi w29.1 v0 10 5 (fun x30 => qz_pf w29 v0 10 5 (.int (x30 + (nI 1))) (fun w31 => some (none, w31)))))) else qz_ga w13.1 v0 10 0 (fun q22 => qz_ia w13.1 q22 v1 (fun x23 => qz_is w13 q17 x18 x23 (fun w24 => qz_gi w24.1 v0 10 5 (fun x25 => qz_pf w24 v0 10 5 (.int (x25 + (nI 1))) (fun w26 => some (none, w26)))))))))))))))))))))))))))) :=
  (qz_blk qz_cd [] 55 27 0 _ _ _).trans rfl
set_option maxRecDepth 100000 in
theorem e_Tokens_split_0 (v0 : Nat) (v1 : Nat) (v2 : Int32) (w : qz_W) : rn 28 0 [some (.ref v0), some (.ref v1), some (.int v2), none, none] [] w =
    qz_ga w.1 v0 10 0 (fun q1 => qz_cp w v1 q1 (nI 0) (nI 0) v2 (fun w2 => qz_pf w2 v0 10 5 (.int (nI 0)) (fun w3 => rn 28 21 [some (.ref v0), none, some (.int v2), some (.int (nI 0)), some (.int (nI 0))] [] w3))) :=
  (qz_blk qz_cd [21] 16 28 0 _ _ _).trans rfl
set_option maxRecDepth 100000 in
theorem e_Tokens_split_21 (v0 : Nat) (v2 : Int32) (v3 : Int32) (v4 : Int32) (w : qz_W) : rn 28 21 [some (.ref v0), none, some (.int v2), some (.int v3), some (.int v4)] [] w =
    (if v2 ≤ v4 then qz_ga w.1 v0 10 1 (fun q1 => qz_gi w.1 v0 10 5 (fun x2 => qz_is w q1 x2 (nI 0) (fun w3 => qz_ga w3.1 v0 10 2 (fun q4 => qz_gi w3.1 v0 10 5 (fun x5 => qz_is w3 q4 x5 v2 (fun w6 => qz_ga w6.1 v0 10 3 (fun q7 => qz_gi w6.1 v0 10 5 (fun x8 => qz_is w6 q7 x8 (nI 0) (fun w9 => qz_ga w9.1 v0 10 4 (fun q10 => qz_gi w9.1 v0 10 5 (fun x11 => qz_is w9 q10 x11 (-1) (fun w12 => some (none, w12))))))))))))) else (if v4 < v3 then rn 28 21 [some (.ref v0), none, some (.int v2), some (.int v3), some (.int (v4 + (nI 1)))] [] w else qz_ga w.1 v0 10 0 (fun q13 => qz_ia w.1 q13 v4 (fun x14 => (if x14 = (nI 32) then rn 28 21 [some (.ref v0), none, some (.int v2), some (.int v3), some (.int (v4 + (nI 1)))] [] w else qz_ga w.1 v0 10 0 (fun q15 => qz_ia w.1 q15 v4 (fun x16 => (if x16 = (nI 10) then rn 28 21 [some (.ref v0), none, some (.int v2), some (.int v3), some (.int (v4 + (nI 1)))] [] w else qz_ck w.1 v0 10 (qz_r1 (rn 18 0 [some (.ref v0), some (.int v4), some (.int v2), none, none] [] w) (fun x18 w17 => qz_ck w17.1 v0 10 (qz_r0 (rn 27 0 [some (.ref v0), some (.int v4), some (.int ((v4 + x18) - v4))] [] w17) (fun w19 => rn 28 21 [some (.ref v0), none, some (.int v2), some (.int (v4 + x18)), some (.int (v4 + (nI 1)))] [] w19)))))))))))) :=
  (qz_blk qz_cd [21] 35 28 21 _ _ _).trans rfl
set_option maxRecDepth 100000 in
theorem e_Teller_takeKeyword_0 (v0 : Nat) (v1 : Int32) (w : qz_W) : rn 29 0 [some (.ref v0), some (.int v1)] [] w =
    qz_ga w.1 v0 9 0 (fun q1 => qz_ga w.1 q1 10 1 (fun q2 => qz_gi w.1 v0 9 2 (fun x3 => qz_ia w.1 q2 x3 (fun x4 => (if x4 = (nI 1) then qz_ga w.1 v0 9 0 (fun q5 => qz_ga w.1 q5 10 4 (fun q6 => qz_gi w.1 v0 9 2 (fun x7 => qz_ia w.1 q6 x7 (fun x8 => (if x8 = v1 then qz_gi w.1 v0 9 2 (fun x9 => qz_pf w v0 9 2 (.int (x9 + (nI 1))) (fun w10 => some (some (.int (nI 1)), w10))) else some (some (.int (nI 0)), w)))))) else some (some (.int (nI 0)), w)))))) :=
  (qz_blk qz_cd [] 26 29 0 _ _ _).trans rfl
set_option maxRecDepth 100000 in
theorem e_Teller_takeNumber_0 (v0 : Nat) (v1 : Int32) (v2 : Int32) (w : qz_W) : rn 30 0 [some (.ref v0), some (.int v1), some (.int v2), none] [] w =
    qz_ga w.1 v0 9 0 (fun q1 => qz_ga w.1 q1 10 4 (fun q2 => qz_gi w.1 v0 9 2 (fun x3 => qz_ia w.1 q2 x3 (fun x4 => qz_ga w.1 v0 9 0 (fun q5 => qz_ga w.1 q5 10 1 (fun q6 => qz_gi w.1 v0 9 2 (fun x7 => qz_ia w.1 q6 x7 (fun x8 => (if x8 = (nI 2) then (if x4 < v1 then some (some (.int (nI 0)), w) else (if x4 ≤ v2 then qz_pf w v0 9 3 (.int x4) (fun w9 => qz_gi w9.1 v0 9 2 (fun x10 => qz_pf w9 v0 9 2 (.int (x10 + (nI 1))) (fun w11 => some (some (.int (nI 1)), w11)))) else some (some (.int (nI 0)), w))) else some (some (.int (nI 0)), w)))))))))) :=
  (qz_blk qz_cd [] 34 30 0 _ _ _).trans rfl
set_option maxRecDepth 100000 in
theorem e_Arrays_fill_0 (v0 : Nat) (v1 : Int32) (w : qz_W) : rn 31 0 [some (.ref v0), some (.int v1), none, none] [] w =
    qz_len w.1 v0 (fun x1 => rn 31 5 [some (.ref v0), some (.int v1), some (.int (nI 0)), some (.int x1)] [] w) :=
  (qz_blk qz_cd [5] 7 31 0 _ _ _).trans rfl
set_option maxRecDepth 100000 in
theorem e_Arrays_fill_5 (v0 : Nat) (v1 : Int32) (v2 : Int32) (v3 : Int32) (w : qz_W) : rn 31 5 [some (.ref v0), some (.int v1), some (.int v2), some (.int v3)] [] w =
    (if v3 ≤ v2 then some (none, w) else qz_is w v0 v2 v1 (fun w1 => rn 31 5 [some (.ref v0), some (.int v1), some (.int (v2 + (nI 1))), some (.int v3)] [] w1)) :=
  (qz_blk qz_cd [5] 11 31 5 _ _ _).trans rfl
set_option maxRecDepth 100000 in
theorem e_Bridges_begin_0 (v0 : Nat) (w : qz_W) : rn 32 0 [some (.ref v0)] [] w =
    qz_pf w v0 0 0 (.int (nI 0)) (fun w1 => qz_pf w1 v0 0 1 (.int (nI 0)) (fun w2 => qz_pf w2 v0 0 2 (.int (nI 0)) (fun w3 => qz_ga w3.1 v0 0 5 (fun q4 => qz_r0 (rn 31 0 [some (.ref q4), some (.int (nI 0)), none, none] [] w3) (fun w5 => some (none, w5)))))) :=
  (qz_blk qz_cd [] 16 32 0 _ _ _).trans rfl
set_option maxRecDepth 100000 in
theorem e_Sheet_begin_0 (v0 : Nat) (v1 : Int32) (v2 : Int32) (w : qz_W) : rn 33 0 [some (.ref v0), some (.int v1), some (.int v2)] [] w =
    qz_pf w v0 8 0 (.int (nI 1)) (fun w1 => qz_pf w1 v0 8 1 (.int v1) (fun w2 => qz_pf w2 v0 8 2 (.int v2) (fun w3 => qz_pf w3 v0 8 3 (.int (nI 0)) (fun w4 => qz_pf w4 v0 8 4 (.int (nI 15)) (fun w5 => qz_pf w5 v0 8 5 (.int (nI 0)) (fun w6 => qz_pf w6 v0 8 6 (.int (nI 0)) (fun w7 => qz_ga w7.1 v0 8 7 (fun q8 => qz_r0 (rn 31 0 [some (.ref q8), some (.int (nI 0)), none, none] [] w7) (fun w9 => qz_ga w9.1 v0 8 8 (fun q10 => qz_r0 (rn 31 0 [some (.ref q10), some (.int (nI 1)), none, none] [] w9) (fun w11 => qz_pf w11 v0 8 10 (.int (nI 0)) (fun w12 => qz_ga w12.1 v0 8 9 (fun q13 => qz_ck w12.1 q13 0 (qz_r0 (rn 32 0 [some (.ref q13)] [] w12) (fun w14 => some (none, w14)))))))))))))))) :=
  (qz_blk qz_cd [] 38 33 0 _ _ _).trans rfl
set_option maxRecDepth 100000 in
theorem e_Teller_takeSign_0 (v0 : Nat) (v1 : Int32) (w : qz_W) : rn 34 0 [some (.ref v0), some (.int v1)] [] w =
    qz_ga w.1 v0 9 0 (fun q1 => qz_ga w.1 q1 10 1 (fun q2 => qz_gi w.1 v0 9 2 (fun x3 => qz_ia w.1 q2 x3 (fun x4 => (if x4 = (nI 3) then qz_ga w.1 v0 9 0 (fun q5 => qz_ga w.1 q5 10 4 (fun q6 => qz_gi w.1 v0 9 2 (fun x7 => qz_ia w.1 q6 x7 (fun x8 => (if x8 = v1 then qz_gi w.1 v0 9 2 (fun x9 => qz_pf w v0 9 2 (.int (x9 + (nI 1))) (fun w10 => some (some (.int (nI 1)), w10))) else some (some (.int (nI 0)), w)))))) else some (some (.int (nI 0)), w)))))) :=
  (qz_blk qz_cd [] 26 34 0 _ _ _).trans rfl
set_option maxRecDepth 100000 in
theorem e_Teller_tellSize_0 (v0 : Nat) (v1 : Nat) (w : qz_W) : rn 35 0 [some (.ref v0), some (.ref v1), none] [] w =
    qz_ck w.1 v0 9 (qz_r1 (rn 29 0 [some (.ref v0), some (.int (nI 0))] [] w) (fun x2 w1 => (if x2 = 0 then some (some (.int (nI 0)), w1) else qz_ck w1.1 v0 9 (qz_r1 (rn 30 0 [some (.ref v0), some (.int (nI 1)), some (.int (nI 20)), none] [] w1) (fun x4 w3 => (if x4 = 0 then some (some (.int (nI 0)), w3) else qz_gi w3.1 v0 9 3 (fun x5 => qz_ck w3.1 v0 9 (qz_r1 (rn 30 0 [some (.ref v0), some (.int (nI 1)), some (.int (nI 20)), none] [] w3) (fun x7 w6 => (if x7 = 0 then some (some (.int (nI 0)), w6) else qz_gi w6.1 v0 9 3 (fun x8 => qz_ck w6.1 v1 8 (qz_r0 (rn 33 0 [some (.ref v1), some (.int x5), some (.int x8)] [] w6) (fun w9 => qz_ck w9.1 v0 9 (qz_r1 (rn 34 0 [some (.ref v0), some (.int (nI 59))] [] w9) (fun x11 w10 => cond (qz_z x11) (some (some (.int x11), w10)) none))))))))))))))) :=
  (qz_blk qz_cd [] 28 35 0 _ _ _).trans rfl
set_option maxRecDepth 100000 in
theorem e_Teller_takeSquares_0 (v0 : Nat) (v1 : Int32) (v2 : Int32) (w : qz_W) : rn 36 0 [some (.ref v0), some (.int v1), some (.int v2), none, none, none, none] [] w =
    qz_ga w.1 v0 9 0 (fun q1 => qz_ga w.1 q1 10 3 (fun q2 => qz_gi w.1 v0 9 2 (fun x3 => qz_ia w.1 q2 x3 (fun x4 => qz_ga w.1 v0 9 0 (fun q5 => qz_ga w.1 q5 10 1 (fun q6 => qz_gi w.1 v0 9 2 (fun x7 => qz_ia w.1 q6 x7 (fun x8 => (if x8 = (nI 1) then (if x4 < v1 then some (some (.int (nI 0)), w) else (if x4 ≤ v2 then rn 36 47 [some (.ref v0), none, none, some (.int x4), some (.int (nI 0)), some (.int (nI 0)), none] [] w else some (some (.int (nI 0)), w))) else some (some (.int (nI 0)), w)))))))))) :=
  (qz_blk qz_cd [47] 27 36 0 _ _ _).trans rfl
set_option maxRecDepth 100000 in
theorem e_Teller_takeSquares_47 (v0 : Nat) (v3 : Int32) (v4 : Int32) (v5 : Int32) (w : qz_W) : rn 36 47 [some (.ref v0), none, none, some (.int v3), some (.int v4), some (.int v5), none] [] w =
    (if v3 ≤ v5 then qz_pf w v0 9 6 (.int v4) (fun w1 => qz_pf w1 v0 9 7 (.int v3) (fun w2 => qz_gi w2.1 v0 9 2 (fun x3 => qz_pf w2 v0 9 2 (.int (x3 + (nI 1))) (fun w4 => some (some (.int (nI 1)), w4))))) else qz_ga w.1 v0 9 0 (fun q5 => qz_ga w.1 q5 10 0 (fun q6 => qz_ga w.1 v0 9 0 (fun q7 => qz_ga w.1 q7 10 2 (fun q8 => qz_gi w.1 v0 9 2 (fun x9 => qz_ia w.1 q8 x9 (fun x10 => qz_ia w.1 q6 (x10 + v5) (fun x11 => (if x11 = (nI 115) then (if x11 = (nI 116) then rn 36 47 [some (.ref v0), none, none, some (.int v3), some (.int (v4 ||| ((nI 1) <<< (v5 &&& 31)))), some (.int (v5 + (nI 1))), none] [] w else rn 36 47 [some (.ref v0), none, none, some (.int v3), some (.int (v4 ||| (nI 0))), some (.int (v5 + (nI 1))), none] [] w) else (if x11 = (nI 116) then (if x11 = (nI 116) then rn 36 47 [some (.ref v0), none, none, some (.int v3), some (.int (v4 ||| ((nI 1) <<< (v5 &&& 31)))), some (.int (v5 + (nI 1))), none] [] w else rn 36 47 [some (.ref v0), none, none, some (.int v3), some (.int (v4 ||| (nI 0))), some (.int (v5 + (nI 1))), none] [] w) else some (some (.int (nI 0)), w))))))))))) :=
  (qz_blk qz_cd [47] 36 36 47 _ _ _).trans rfl
set_option maxRecDepth 100000 in
theorem e_Teller_tellRow_0 (v0 : Nat) (v1 : Nat) (w : qz_W) : rn 37 0 [some (.ref v0), some (.ref v1), none, none] [] w =
    qz_gi w.1 v1 8 2 (fun x1 => qz_ck w.1 v0 9 (qz_r1 (rn 30 0 [some (.ref v0), some (.int (nI 0)), some (.int (x1 - (nI 1))), none] [] w) (fun x3 w2 => (if x3 = 0 then some (some (.int (nI 0)), w2) else qz_gi w2.1 v0 9 3 (fun x4 => qz_gi w2.1 v1 8 1 (fun x5 => qz_ck w2.1 v0 9 (qz_r1 (rn 36 0 [some (.ref v0), some (.int (nI 1)), some (.int x5), none, none, none, none] [] w2) (fun x7 w6 => (if x7 = 0 then some (some (.int (nI 0)), w6) else qz_gi w6.1 v0 9 7 (fun x8 => qz_ga w6.1 v1 8 7 (fun q9 => qz_ga w6.1 v1 8 7 (fun q10 => qz_ia w6.1 q10 x4 (fun x11 => qz_gi w6.1 v0 9 6 (fun x12 => qz_is w6 q9 x4 ((x11 &&& ((((nI 1) <<< (x8 &&& 31)) - (nI 1)) ^^^ (-1))) ||| x12) (fun w13 => some (some (.int (nI 1)), w13)))))))))))))))) :=
  (qz_blk qz_cd [] 43 37 0 _ _ _).trans rfl
set_option maxRecDepth 100000 in
theorem e_Teller_nameHere_0 (v0 : Nat) (w : qz_W) : rn 38 0 [some (.ref v0), none, none, none] [] w =
    qz_ga w.1 v0 9 0 (fun q1 => qz_ga w.1 q1 10 1 (fun q2 => qz_gi w.1 v0 9 2 (fun x3 => qz_ia w.1 q2 x3 (fun x4 => (if x4 = (nI 1) then qz_ga w.1 v0 9 0 (fun q5 => qz_ga w.1 q5 10 3 (fun q6 => qz_gi w.1 v0 9 2 (fun x7 => qz_ia w.1 q6 x7 (fun x8 => (if (nI 8) < x8 then some (some (.long (lN 0)), w) else qz_ga w.1 v0 9 0 (fun q9 => qz_ga w.1 q9 10 4 (fun q10 => qz_gi w.1 v0 9 2 (fun x11 => qz_ia w.1 q10 x11 (fun x12 => (if x12 = (-1) then rn 38 55 [some (.ref v0), some (.long (lN 0)), none, some (.int (nI 0))] [] w else some (some (.long (lN 0)), w))))))))))) else some (some (.long (lN 0)), w)))))) :=
  (qz_blk qz_cd [55] 30 38 0 _ _ _).trans rfl
set_option maxRecDepth 100000 in
theorem e_Teller_nameHere_55 (v0 : Nat) (v1 : Int64) (v3 : Int32) (w : qz_W) : rn 38 55 [some (.ref v0), some (.long v1), none, some (.int v3)] [] w =
    qz_ga w.1 v0 9 0 (fun q1 => qz_ga w.1 q1 10 3 (fun q2 => qz_gi w.1 v0 9 2 (fun x3 => qz_ia w.1 q2 x3 (fun x4 => (if x4 ≤ v3 then some (some (.long v1), w) else qz_ga w.1 v0 9 0 (fun q5 => qz_ga w.1 q5 10 0 (fun q6 => qz_ga w.1 v0 9 0 (fun q7 => qz_ga w.1 q7 10 2 (fun q8 => qz_gi w.1 v0 9 2 (fun x9 => qz_ia w.1 q8 x9 (fun x10 => qz_ia w.1 q6 (x10 + v3) (fun x11 => rn 38 55 [some (.ref v0), some (.long ((((v1 * (lN 27)) + x11.toInt64) - (lN 97)) + (lN 1))), none, some (.int (v3 + (nI 1)))] [] w)))))))))))) :=
  (qz_blk qz_cd [55] 34 38 55 _ _ _).trans rfl
set_option maxRecDepth 100000 in
theorem e_Teller_shapeNamed_0 (v0 : Nat) (v1 : Int64) (v3 : Nat) (w : qz_W) : rn 39 0 [some (.ref v0), some (.long v1), none, some (.ref v3), none] [] w =
    rn 39 3 [some (.ref v0), some (.long v1), none, some (.ref v3), some (.int (nI 0))] [] w :=
  (qz_blk qz_cd [3] 4 39 0 _ _ _).trans rfl
set_option maxRecDepth 100000 in
theorem e_Teller_shapeNamed_3 (v0 : Nat) (v1 : Int64) (v3 : Nat) (v4 : Int32) (w : qz_W) : rn 39 3 [some (.ref v0), some (.long v1), none, some (.ref v3), some (.int v4)] [] w =
    qz_gi w.1 v3 8 10 (fun x1 => (if x1 ≤ v4 then some (some (.int (-1)), w) else qz_ga w.1 v0 9 1 (fun q2 => qz_ja w.1 q2 v4 (fun x3 => (if lg_cmp x3 v1 = 0 then some (some (.int v4), w) else rn 39 3 [some (.ref v0), some (.long v1), none, some (.ref v3), some (.int (v4 + (nI 1)))] [] w))))) :=
  (qz_blk qz_cd [3] 15 39 3 _ _ _).trans rfl
set_option maxRecDepth 100000 in
theorem e_Sheet_openShape_0 (v0 : Nat) (v1 : Int32) (w : qz_W) : rn 40 0 [some (.ref v0), some (.int v1)] [] w =
    qz_gi w.1 v0 8 10 (fun x1 => (if (nI 8) ≤ x1 then some (none, w) else qz_ga w.1 v0 8 11 (fun q2 => qz_gi w.1 v0 8 10 (fun x3 => qz_is w q2 x3 v1 (fun w4 => qz_ga w4.1 v0 8 12 (fun q5 => qz_gi w4.1 v0 8 10 (fun x6 => qz_is w4 q5 x6 (nI 0) (fun w7 => qz_gi w7.1 v0 8 10 (fun x8 => qz_pf w7 v0 8 10 (.int (x8 + (nI 1))) (fun w9 => some (none, w9))))))))))) :=
  (qz_blk qz_cd [] 25 40 0 _ _ _).trans rfl
set_option maxRecDepth 100000 in
theorem e_Sheet_addShapeRow_0 (v0 : Nat) (v1 : Int32) (w : qz_W) : rn 41 0 [some (.ref v0), some (.int v1), none] [] w =
    qz_gi w.1 v0 8 10 (fun x1 => (if x1 - (nI 1) < 0 then some (none, w) else qz_ga w.1 v0 8 12 (fun q2 => qz_ia w.1 q2 (x1 - (nI 1)) (fun x3 => (if (nI 8) ≤ x3 then some (none, w) else qz_ga w.1 v0 8 13 (fun q4 => qz_ga w.1 v0 8 12 (fun q5 => qz_ia w.1 q5 (x1 - (nI 1)) (fun x6 => qz_is w q4 (((x1 - (nI 1)) * (nI 8)) + x6) v1 (fun w7 => qz_ga w7.1 v0 8 12 (fun q8 => qz_ia w7.1 q8 (x1 - (nI 1)) (fun x9 => qz_is w7 q8 (x1 - (nI 1)) (x9 + (nI 1)) (fun w10 => some (none, w10))))))))))))) :=
  (qz_blk qz_cd [] 36 41 0 _ _ _).trans rfl
set_option maxRecDepth 100000 in
theorem e_Teller_tellShape_0 (v0 : Nat) (v1 : Nat) (w : qz_W) : rn 42 0 [some (.ref v0), some (.ref v1), none, none, none, none] [] w =
    qz_ck w.1 v0 9 (qz_r2 (rn 38 0 [some (.ref v0), none, none, none] [] w) (fun x2 w1 => (if lg_cmp x2 (lN 0) = 0 then some (some (.int (nI 0)), w1) else qz_gi w1.1 v1 8 10 (fun x3 => (if (nI 8) ≤ x3 then some (some (.int (nI 0)), w1) else qz_ck w1.1 v0 9 (qz_r1 (rn 39 0 [some (.ref v0), some (.long x2), none, some (.ref v1), none] [] w1) (fun x5 w4 => (if x5 = (-1) then qz_ga w4.1 v0 9 1 (fun q6 => qz_gi w4.1 v1 8 10 (fun x7 => qz_js w4 q6 x7 x2 (fun w8 => qz_gi w8.1 v0 9 2 (fun x9 => qz_pf w8 v0 9 2 (.int (x9 + (nI 1))) (fun w10 => qz_ck w10.1 v0 9 (qz_r1 (rn 36 0 [some (.ref v0), some (.int (nI 1)), some (.int (nI 8)), none, none, none, none] [] w10) (fun x12 w11 => (if x12 = 0 then some (some (.int (nI 0)), w11) else qz_gi w11.1 v0 9 7 (fun x13 => qz_ck w11.1 v1 8 (qz_r0 (rn 40 0 [some (.ref v1), some (.int x13)] [] w11) (fun w14 => qz_gi w14.1 v0 9 6 (fun x15 => qz_ck w14.1 v1 8 (qz_r0 (rn 41 0 [some (.ref v1), some (.int x15), none] [] w14) (fun w16 => rn 42 87 [some (.ref v0), some (.ref v1), none, none, some (.int x13), some (.int (nI 1))] [] w16)))))))))))))) else some (some (.int (nI 0)), w4))))))))) :=
  (qz_blk qz_cd [87] 48 42 0 _ _ _).trans rfl
set_option maxRecDepth 100000 in
theorem e_Teller_tellShape_87 (v0 : Nat) (v1 : Nat) (v4 : Int32) (v5 : Int32) (w : qz_W) : rn 42 87 [some (.ref v0), some (.ref v1), none, none, some (.int v4), some (.int v5)] [] w =
    (if (nI 8) ≤ v5 then some (some (.int (nI 1)), w) else qz_ga w.1 v0 9 0 (fun q1 => qz_ga w.1 q1 10 1 (fun q2 => qz_gi w.1 v0 9 2 (fun x3 => qz_ia w.1 q2 x3 (fun x4 => (if x4 = (nI 1) then qz_ck w.1 v0 9 (qz_r1 (rn 36 0 [some (.ref v0), some (.int v4), some (.int v4), none, none, none, none] [] w) (fun x6 w5 => (if x6 = 0 then some (some (.int (nI 0)), w5) else qz_gi w5.1 v0 9 6 (fun x7 => qz_ck w5.1 v1 8 (qz_r0 (rn 41 0 [some (.ref v1), some (.int x7), none] [] w5) (fun w8 => rn 42 87 [some (.ref v0), some (.ref v1), none, none, some (.int v4), some (.int (v5 + (nI 1)))] [] w8)))))) else some (some (.int (nI 1)), w))))))) :=
  (qz_blk qz_cd [87] 24 42 87 _ _ _).trans rfl
set_option maxRecDepth 100000 in
theorem e_Teller_takePlace_0 (v0 : Nat) (v1 : Nat) (w : qz_W) : rn 43 0 [some (.ref v0), some (.ref v1)] [] w =
    qz_gi w.1 v1 8 1 (fun x1 => qz_ck w.1 v0 9 (qz_r1 (rn 30 0 [some (.ref v0), some (.int (nI 0)), some (.int (x1 - (nI 1))), none] [] w) (fun x3 w2 => (if x3 = 0 then some (some (.int (nI 0)), w2) else qz_gi w2.1 v0 9 3 (fun x4 => qz_pf w2 v0 9 4 (.int x4) (fun w5 => qz_gi w5.1 v1 8 2 (fun x6 => qz_ck w5.1 v0 9 (qz_r1 (rn 30 0 [some (.ref v0), some (.int (nI 0)), some (.int (x6 - (nI 1))), none] [] w5) (fun x8 w7 => (if x8 = 0 then some (some (.int (nI 0)), w7) else qz_gi w7.1 v0 9 3 (fun x9 => qz_pf w7 v0 9 5 (.int x9) (fun w10 => some (some (.int (nI 1)), w10))))))))))))) :=
  (qz_blk qz_cd [] 28 43 0 _ _ _).trans rfl
set_option maxRecDepth 100000 in
theorem e_C_turnedX_0 (v0 : Int32) (v1 : Int32) (v2 : Int32) (v3 : Int32) (v4 : Int32) (w : qz_W) : rn 44 0 [some (.int v0), some (.int v1), some (.int v2), some (.int v3), some (.int v4)] [] w =
    (if v4 = nI 1 then some (some (.int ((v3 - (nI 1)) - v1)), w) else (if v4 = nI 2 then some (some (.int ((v2 - (nI 1)) - v0)), w) else (if v4 = nI 3 then some (some (.int v1), w) else (some (some (.int v0), w))))) :=
  (qz_blk qz_cd [] 10 44 0 _ _ _).trans rfl
set_option maxRecDepth 100000 in
theorem e_C_turnedY_0 (v0 : Int32) (v1 : Int32) (v2 : Int32) (v3 : Int32) (v4 : Int32) (w : qz_W) : rn 45 0 [some (.int v0), some (.int v1), some (.int v2), some (.int v3), some (.int v4)] [] w =
    (if v4 = nI 1 then some (some (.int v0), w) else (if v4 = nI 2 then some (some (.int ((v3 - (nI 1)) - v1)), w) else (if v4 = nI 3 then some (some (.int ((v2 - (nI 1)) - v0)), w) else (some (some (.int v1), w))))) :=
  (qz_blk qz_cd [] 10 45 0 _ _ _).trans rfl
set_option maxRecDepth 100000 in
theorem e_Sheet_has_0 (v0 : Nat) (v1 : Int32) (v2 : Int32) (w : qz_W) : rn 46 0 [some (.ref v0), some (.int v1), some (.int v2)] [] w =
    (if v1 < 0 then some (some (.int (nI 0)), w) else qz_gi w.1 v0 8 1 (fun x1 => (if x1 ≤ v1 then some (some (.int (nI 0)), w) else (if v2 < 0 then some (some (.int (nI 0)), w) else qz_gi w.1 v0 8 2 (fun x2 => (if x2 ≤ v2 then some (some (.int (nI 0)), w) else some (some (.int (nI 1)), w))))))) :=
  (qz_blk qz_cd [] 17 46 0 _ _ _).trans rfl
set_option maxRecDepth 100000 in
theorem e_Sheet_setThrough_0 (v0 : Nat) (v1 : Int32) (v2 : Int32) (v3 : Int32) (w : qz_W) : rn 47 0 [some (.ref v0), some (.int v1), some (.int v2), some (.int v3)] [] w =
    qz_ck w.1 v0 8 (qz_r1 (rn 46 0 [some (.ref v0), some (.int v1), some (.int v2)] [] w) (fun x2 w1 => (if x2 = 0 then some (none, w1) else qz_ga w1.1 v0 8 7 (fun q3 => (if v3 = 0 then qz_ga w1.1 v0 8 7 (fun q4 => qz_ia w1.1 q4 v2 (fun x5 => qz_is w1 q3 v2 (x5 &&& (((nI 1) <<< (v1 &&& 31)) ^^^ (-1))) (fun w6 => some (none, w6)))) else qz_ga w1.1 v0 8 7 (fun q7 => qz_ia w1.1 q7 v2 (fun x8 => qz_is w1 q3 v2 (x8 ||| ((nI 1) <<< (v1 &&& 31))) (fun w9 => some (none, w9))))))))) :=
  (qz_blk qz_cd [] 24 47 0 _ _ _).trans rfl
set_option maxRecDepth 100000 in
theorem e_Sheet_putShape_0 (v0 : Nat) (v1 : Int32) (v2 : Int32) (v3 : Int32) (v4 : Int32) (w : qz_W) : rn 48 0 [some (.ref v0), some (.int v1), some (.int v2), some (.int v3), some (.int v4), none, none, none, none] [] w =
    rn 48 3 [some (.ref v0), some (.int v1), some (.int v2), some (.int v3), some (.int v4), some (.int (nI 0)), none, none, none] [] w :=
  (qz_blk qz_cd [3, 17] 4 48 0 _ _ _).trans rfl
set_option maxRecDepth 100000 in
theorem e_Sheet_putShape_3 (v0 : Nat) (v1 : Int32) (v2 : Int32) (v3 : Int32) (v4 : Int32) (v5 : Int32) (w : qz_W) : rn 48 3 [some (.ref v0), some (.int v1), some (.int v2), some (.int v3), some (.int v4), some (.int v5), none, none, none] [] w =
    qz_ga w.1 v0 8 12 (fun q1 => qz_ia w.1 q1 v1 (fun x2 => (if x2 ≤ v5 then some (none, w) else rn 48 17 [some (.ref v0), some (.int v1), some (.int v2), some (.int v3), some (.int v4), some (.int v5), some (.int (nI 0)), none, none] [] w))) :=
  (qz_blk qz_cd [3, 17] 10 48 3 _ _ _).trans rfl
set_option maxRecDepth 100000 in
theorem e_Sheet_putShape_17 (v0 : Nat) (v1 : Int32) (v2 : Int32) (v3 : Int32) (v4 : Int32) (v5 : Int32) (v6 : Int32) (w : qz_W) : rn 48 17 [some (.ref v0), some (.int v1), some (.int v2), some (.int v3), some (.int v4), some (.int v5), some (.int v6), none, none] [] w =
    qz_ga w.1 v0 8 11 (fun q1 => qz_ia w.1 q1 v1 (fun x2 => (if x2 ≤ v6 then rn 48 3 [some (.ref v0), some (.int v1), some (.int v2), some (.int v3), some (.int v4), some (.int (v5 + (nI 1))), none, none, none] [] w else qz_ga w.1 v0 8 13 (fun q3 => qz_ia w.1 q3 ((v1 * (nI 8)) + v5) (fun x4 => (if (x4 >>> (v6 &&& 31)) &&& (nI 1) = 0 then rn 48 17 [some (.ref v0), some (.int v1), some (.int v2), some (.int v3), some (.int v4), some (.int v5), some (.int (v6 + (nI 1))), none, none] [] w else qz_ga w.1 v0 8 11 (fun q5 => qz_ia w.1 q5 v1 (fun x6 => qz_ga w.1 v0 8 12 (fun q7 => qz_ia w.1 q7 v1 (fun x8 => qz_r1 (rn 44 0 [some (.int v6), some (.int v5), some (.int x6), some (.int x8), some (.int v4)] [] w) (fun x10 w9 => qz_ga w9.1 v0 8 11 (fun q11 => qz_ia w9.1 q11 v1 (fun x12 => qz_ga w9.1 v0 8 12 (fun q13 => qz_ia w9.1 q13 v1 (fun x14 => qz_r1 (rn 45 0 [some (.int v6), some (.int v5), some (.int x12), some (.int x14), some (.int v4)] [] w9) (fun x16 w15 => qz_ck w15.1 v0 8 (qz_r0 (rn 47 0 [some (.ref v0), some (.int (v2 + x10)), some (.int (v3 + x16)), some (.int (nI 1))] [] w15) (fun w17 => rn 48 17 [some (.ref v0), some (.int v1), some (.int v2), some (.int v3), some (.int v4), some (.int v5), some (.int (v6 + (nI 1))), none, none] [] w17)))))))))))))))))) :=
  (qz_blk qz_cd [3, 17] 58 48 17 _ _ _).trans rfl
set_option maxRecDepth 100000 in
theorem e_Teller_tellPut_0 (v0 : Nat) (v1 : Nat) (w : qz_W) : rn 49 0 [some (.ref v0), some (.ref v1), none, none] [] w =
    qz_ck w.1 v0 9 (qz_r2 (rn 38 0 [some (.ref v0), none, none, none] [] w) (fun x2 w1 => qz_ck w1.1 v0 9 (qz_r1 (rn 39 0 [some (.ref v0), some (.long x2), none, some (.ref v1), none] [] w1) (fun x4 w3 => (if x4 = (-1) then some (some (.int (nI 0)), w3) else qz_gi w3.1 v0 9 2 (fun x5 => qz_pf w3 v0 9 2 (.int (x5 + (nI 1))) (fun w6 => qz_ck w6.1 v0 9 (qz_r1 (rn 43 0 [some (.ref v0), some (.ref v1)] [] w6) (fun x8 w7 => (if x8 = 0 then some (some (.int (nI 0)), w7) else qz_ck w7.1 v0 9 (qz_r1 (rn 29 0 [some (.ref v0), some (.int (nI 4))] [] w7) (fun x10 w9 => (if x10 = 0 then qz_gi w9.1 v0 9 4 (fun x11 => qz_gi w9.1 v0 9 5 (fun x12 => qz_ck w9.1 v1 8 (qz_r0 (rn 48 0 [some (.ref v1), some (.int x4), some (.int x11), some (.int x12), some (.int (nI 0)), none, none, none, none] [] w9) (fun w13 => some (some (.int (nI 1)), w13))))) else qz_ck w9.1 v0 9 (qz_r1 (rn 30 0 [some (.ref v0), some (.int (nI 0)), some (.int (nI 3)), none] [] w9) (fun x15 w14 => (if x15 = 0 then some (some (.int (nI 0)), w14) else qz_gi w14.1 v0 9 3 (fun x16 => qz_gi w14.1 v0 9 4 (fun x17 => qz_gi w14.1 v0 9 5 (fun x18 => qz_ck w14.1 v1 8 (qz_r0 (rn 48 0 [some (.ref v1), some (.int x4), some (.int x17), some (.int x18), some (.int x16), none, none, none, none] [] w14) (fun w19 => some (some (.int (nI 1)), w19)))))))))))))))))))))) :=
  (qz_blk qz_cd [] 45 49 0 _ _ _).trans rfl
set_option maxRecDepth 100000 in
theorem e_Teller_takeSide_0 (v0 : Nat) (w : qz_W) : rn 50 0 [some (.ref v0)] [] w =
    qz_ga w.1 v0 9 0 (fun q1 => qz_ga w.1 q1 10 1 (fun q2 => qz_gi w.1 v0 9 2 (fun x3 => qz_ia w.1 q2 x3 (fun x4 => (if x4 = (nI 1) then qz_ga w.1 v0 9 0 (fun q5 => qz_ga w.1 q5 10 4 (fun q6 => qz_gi w.1 v0 9 2 (fun x7 => qz_ia w.1 q6 x7 (fun x8 => (if (nI 16) ≤ x8 then qz_ga w.1 v0 9 0 (fun q9 => qz_ga w.1 q9 10 4 (fun q10 => qz_gi w.1 v0 9 2 (fun x11 => qz_ia w.1 q10 x11 (fun x12 => qz_pf w v0 9 3 (.int (x12 - (nI 16))) (fun w13 => qz_gi w13.1 v0 9 2 (fun x14 => qz_pf w13 v0 9 2 (.int (x14 + (nI 1))) (fun w15 => some (some (.int (nI 1)), w15)))))))) else some (some (.int (nI 0)), w)))))) else some (some (.int (nI 0)), w)))))) :=
  (qz_blk qz_cd [] 36 50 0 _ _ _).trans rfl
set_option maxRecDepth 100000 in
theorem e_Teller_tellHold_0 (v0 : Nat) (v1 : Nat) (w : qz_W) : rn 51 0 [some (.ref v0), some (.ref v1), none] [] w =
    qz_ck w.1 v0 9 (qz_r1 (rn 50 0 [some (.ref v0)] [] w) (fun x2 w1 => (if x2 = 0 then some (some (.int (nI 0)), w1) else qz_gi w1.1 v0 9 3 (fun x3 => qz_pf w1 v1 8 4 (.int ((nI 1) <<< (x3 &&& 31))) (fun w4 => rn 51 21 [some (.ref v0), some (.ref v1), some (.int (nI 0))] [] w4))))) :=
  (qz_blk qz_cd [21] 13 51 0 _ _ _).trans rfl
set_option maxRecDepth 100000 in
theorem e_Teller_tellHold_21 (v0 : Nat) (v1 : Nat) (v2 : Int32) (w : qz_W) : rn 51 21 [some (.ref v0), some (.ref v1), some (.int v2)] [] w =
    (if (nI 1200) ≤ v2 then some (some (.int (nI 1)), w) else qz_ck w.1 v0 9 (qz_r1 (rn 50 0 [some (.ref v0)] [] w) (fun x2 w1 => (if x2 = 0 then some (some (.int (nI 1)), w1) else qz_gi w1.1 v1 8 4 (fun x3 => qz_gi w1.1 v0 9 3 (fun x4 => qz_pf w1 v1 8 4 (.int (x3 ||| ((nI 1) <<< (x4 &&& 31)))) (fun w5 => rn 51 21 [some (.ref v0), some (.ref v1), some (.int (v2 + (nI 1)))] [] w5))))))) :=
  (qz_blk qz_cd [21] 19 51 21 _ _ _).trans rfl
set_option maxRecDepth 100000 in
theorem e_Sheet_setWorth_0 (v0 : Nat) (v1 : Int32) (v2 : Int32) (v3 : Int32) (w : qz_W) : rn 52 0 [some (.ref v0), some (.int v1), some (.int v2), some (.int v3)] [] w =
    qz_ck w.1 v0 8 (qz_r1 (rn 46 0 [some (.ref v0), some (.int v1), some (.int v2)] [] w) (fun x2 w1 => (if x2 = 0 then some (none, w1) else qz_ga w1.1 v0 8 8 (fun q3 => qz_is w1 q3 ((v2 * (nI 20)) + v1) v3 (fun w4 => some (none, w4)))))) :=
  (qz_blk qz_cd [] 17 52 0 _ _ _).trans rfl
set_option maxRecDepth 100000 in
theorem e_Teller_tellWorth_0 (v0 : Nat) (v1 : Nat) (w : qz_W) : rn 53 0 [some (.ref v0), some (.ref v1), none, none, none, none, none, none] [] w =
    qz_ck w.1 v0 9 (qz_r1 (rn 43 0 [some (.ref v0), some (.ref v1)] [] w) (fun x2 w1 => (if x2 = 0 then some (some (.int (nI 0)), w1) else qz_ck w1.1 v0 9 (qz_r1 (rn 29 0 [some (.ref v0), some (.int (nI 7))] [] w1) (fun x4 w3 => (if x4 = 0 then some (some (.int (nI 0)), w3) else qz_gi w3.1 v0 9 4 (fun x5 => qz_gi w3.1 v0 9 5 (fun x6 => qz_gi w3.1 v1 8 1 (fun x7 => qz_ck w3.1 v0 9 (qz_r1 (rn 30 0 [some (.ref v0), some (.int x5), some (.int (x7 - (nI 1))), none] [] w3) (fun x9 w8 => (if x9 = 0 then some (some (.int (nI 0)), w8) else qz_gi w8.1 v0 9 3 (fun x10 => qz_gi w8.1 v1 8 2 (fun x11 => qz_ck w8.1 v0 9 (qz_r1 (rn 30 0 [some (.ref v0), some (.int x6), some (.int (x11 - (nI 1))), none] [] w8) (fun x13 w12 => (if x13 = 0 then some (some (.int (nI 0)), w12) else qz_gi w12.1 v0 9 3 (fun x14 => qz_ck w12.1 v0 9 (qz_r1 (rn 30 0 [some (.ref v0), some (.int (nI 0)), some (.int (nI 99)), none] [] w12) (fun x16 w15 => (if x16 = 0 then some (some (.int (nI 0)), w15) else rn 53 88 [some (.ref v0), some (.ref v1), some (.int x5), none, some (.int x10), some (.int x14), some (.int x6), none] [] w15))))))))))))))))))))) :=
  (qz_blk qz_cd [88, 98] 45 53 0 _ _ _).trans rfl
set_option maxRecDepth 100000 in
theorem e_Teller_tellWorth_88 (v0 : Nat) (v1 : Nat) (v2 : Int32) (v4 : Int32) (v5 : Int32) (v6 : Int32) (w : qz_W) : rn 53 88 [some (.ref v0), some (.ref v1), some (.int v2), none, some (.int v4), some (.int v5), some (.int v6), none] [] w =
    (if v5 < v6 then some (some (.int (nI 1)), w) else rn 53 98 [some (.ref v0), some (.ref v1), some (.int v2), none, some (.int v4), some (.int v5), some (.int v6), some (.int v2)] [] w) :=
  (qz_blk qz_cd [88, 98] 7 53 88 _ _ _).trans rfl
set_option maxRecDepth 100000 in
theorem e_Teller_tellWorth_98 (v0 : Nat) (v1 : Nat) (v2 : Int32) (v4 : Int32) (v5 : Int32) (v6 : Int32) (v7 : Int32) (w : qz_W) : rn 53 98 [some (.ref v0), some (.ref v1), some (.int v2), none, some (.int v4), some (.int v5), some (.int v6), some (.int v7)] [] w =
    (if v4 < v7 then rn 53 88 [some (.ref v0), some (.ref v1), some (.int v2), none, some (.int v4), some (.int v5), some (.int (v6 + (nI 1))), none] [] w else qz_gi w.1 v0 9 3 (fun x1 => qz_ck w.1 v1 8 (qz_r0 (rn 52 0 [some (.ref v1), some (.int v7), some (.int v6), some (.int x1)] [] w) (fun w2 => rn 53 98 [some (.ref v0), some (.ref v1), some (.int v2), none, some (.int v4), some (.int v5), some (.int v6), some (.int (v7 + (nI 1)))] [] w2)))) :=
  (qz_blk qz_cd [88, 98] 13 53 98 _ _ _).trans rfl
set_option maxRecDepth 100000 in
theorem e_Teller_tellBrush_0 (v0 : Nat) (v1 : Nat) (w : qz_W) : rn 54 0 [some (.ref v0), some (.ref v1)] [] w =
    qz_ck w.1 v0 9 (qz_r1 (rn 30 0 [some (.ref v0), some (.int (nI 0)), some (.int (nI 400)), none] [] w) (fun x2 w1 => (if x2 = 0 then some (some (.int (nI 0)), w1) else qz_gi w1.1 v0 9 3 (fun x3 => qz_pf w1 v1 8 5 (.int x3) (fun w4 => some (some (.int (nI 1)), w4)))))) :=
  (qz_blk qz_cd [] 13 54 0 _ _ _).trans rfl
set_option maxRecDepth 100000 in
theorem e_Teller_tellWear_0 (v0 : Nat) (v1 : Nat) (w : qz_W) : rn 55 0 [some (.ref v0), some (.ref v1)] [] w =
    qz_ck w.1 v0 9 (qz_r1 (rn 30 0 [some (.ref v0), some (.int (nI 0)), some (.int (nI 999)), none] [] w) (fun x2 w1 => (if x2 = 0 then some (some (.int (nI 0)), w1) else qz_gi w1.1 v0 9 3 (fun x3 => qz_pf w1 v1 8 6 (.int x3) (fun w4 => some (some (.int (nI 1)), w4)))))) :=
  (qz_blk qz_cd [] 13 55 0 _ _ _).trans rfl
set_option maxRecDepth 100000 in
theorem e_Bridges_open_0 (v0 : Nat) (v1 : Int32) (v2 : Int32) (w : qz_W) : rn 56 0 [some (.ref v0), some (.int v1), some (.int v2)] [] w =
    qz_gi w.1 v0 0 0 (fun x1 => (if (nI 12) ≤ x1 then some (none, w) else qz_ga w.1 v0 0 3 (fun q2 => qz_gi w.1 v0 0 0 (fun x3 => qz_is w q2 x3 v1 (fun w4 => qz_ga w4.1 v0 0 4 (fun q5 => qz_gi w4.1 v0 0 0 (fun x6 => qz_is w4 q5 x6 v2 (fun w7 => qz_gi w7.1 v0 0 1 (fun x8 => qz_gi w7.1 v0 0 0 (fun x9 => qz_pf w7 v0 0 1 (.int (x8 ||| ((nI 1) <<< (x9 &&& 31)))) (fun w10 => qz_gi w10.1 v0 0 0 (fun x11 => qz_pf w10 v0 0 0 (.int (x11 + (nI 1))) (fun w12 => some (none, w12)))))))))))))) :=
  (qz_blk qz_cd [] 34 56 0 _ _ _).trans rfl
set_option maxRecDepth 100000 in
theorem e_Bridges_addSquare_0 (v0 : Nat) (v1 : Int32) (v2 : Int32) (w : qz_W) : rn 57 0 [some (.ref v0), some (.int v1), some (.int v2)] [] w =
    qz_gi w.1 v0 0 0 (fun x1 => (if x1 ≤ 0 then some (none, w) else qz_ga w.1 v0 0 5 (fun q2 => qz_gi w.1 v0 0 0 (fun x3 => qz_ia w.1 q2 (((x3 - (nI 1)) * (nI 20)) + v2) (fun x4 => qz_is w q2 (((x3 - (nI 1)) * (nI 20)) + v2) (x4 ||| ((nI 1) <<< (v1 &&& 31))) (fun w5 => some (none, w5))))))) :=
  (qz_blk qz_cd [] 23 57 0 _ _ _).trans rfl
set_option maxRecDepth 100000 in
theorem e_Sheet_bridgeLine_0 (v0 : Nat) (v1 : Int32) (v2 : Int32) (v3 : Int32) (v4 : Int32) (w : qz_W) : rn 58 0 [some (.ref v0), some (.int v1), some (.int v2), some (.int v3), some (.int v4), none, none, none] [] w =
    rn 58 3 [some (.ref v0), some (.int v1), some (.int v2), some (.int v3), some (.int v4), some (.int (nI 0)), none, none] [] w :=
  (qz_blk qz_cd [3] 4 58 0 _ _ _).trans rfl
set_option maxRecDepth 100000 in
theorem e_Sheet_bridgeLine_3 (v0 : Nat) (v1 : Int32) (v2 : Int32) (v3 : Int32) (v4 : Int32) (v5 : Int32) (w : qz_W) : rn 58 3 [some (.ref v0), some (.int v1), some (.int v2), some (.int v3), some (.int v4), some (.int v5), none, none] [] w =
    (if v4 ≤ v5 then some (none, w) else qz_ia w.1 1000001 v3 (fun x1 => qz_ia w.1 1000002 v3 (fun x2 => qz_ck w.1 v0 8 (qz_r1 (rn 46 0 [some (.ref v0), some (.int (v1 + (v5 * x1))), some (.int (v2 + (v5 * x2)))] [] w) (fun x4 w3 => (if x4 = 0 then rn 58 3 [some (.ref v0), some (.int v1), some (.int v2), some (.int v3), some (.int v4), some (.int (v5 + (nI 1))), none, none] [] w3 else qz_ga w3.1 v0 8 9 (fun q5 => qz_ck w3.1 q5 0 (qz_r0 (rn 57 0 [some (.ref q5), some (.int (v1 + (v5 * x1))), some (.int (v2 + (v5 * x2)))] [] w3) (fun w6 => rn 58 3 [some (.ref v0), some (.int v1), some (.int v2), some (.int v3), some (.int v4), some (.int (v5 + (nI 1))), none, none] [] w6))))))))) :=
  (qz_blk qz_cd [3] 33 58 3 _ _ _).trans rfl
set_option maxRecDepth 100000 in
theorem e_Teller_tellStraight_0 (v0 : Nat) (v1 : Nat) (w : qz_W) : rn 59 0 [some (.ref v0), some (.ref v1), none] [] w =
    qz_ck w.1 v0 9 (qz_r1 (rn 43 0 [some (.ref v0), some (.ref v1)] [] w) (fun x2 w1 => (if x2 = 0 then some (some (.int (nI 0)), w1) else qz_ck w1.1 v0 9 (qz_r1 (rn 50 0 [some (.ref v0)] [] w1) (fun x4 w3 => (if x4 = 0 then some (some (.int (nI 0)), w3) else qz_gi w3.1 v0 9 3 (fun x5 => qz_ck w3.1 v0 9 (qz_r1 (rn 30 0 [some (.ref v0), some (.int (nI 1)), some (.int (nI 20)), none] [] w3) (fun x7 w6 => (if x7 = 0 then some (some (.int (nI 0)), w6) else qz_ga w6.1 v1 8 9 (fun q8 => qz_ck w6.1 q8 0 (qz_r0 (rn 56 0 [some (.ref q8), some (.int (nI 0)), some (.int (nI 100))] [] w6) (fun w9 => qz_gi w9.1 v0 9 4 (fun x10 => qz_gi w9.1 v0 9 5 (fun x11 => qz_gi w9.1 v0 9 3 (fun x12 => qz_ck w9.1 v1 8 (qz_r0 (rn 58 0 [some (.ref v1), some (.int x10), some (.int x11), some (.int x5), some (.int x12), none, none, none] [] w9) (fun w13 => some (some (.int (nI 1)), w13))))))))))))))))))) :=
  (qz_blk qz_cd [] 33 59 0 _ _ _).trans rfl
set_option maxRecDepth 100000 in
theorem e_Teller_tellBroad_0 (v0 : Nat) (v1 : Nat) (w : qz_W) : rn 60 0 [some (.ref v0), some (.ref v1), none, none, none, none] [] w =
    qz_ck w.1 v0 9 (qz_r1 (rn 43 0 [some (.ref v0), some (.ref v1)] [] w) (fun x2 w1 => (if x2 = 0 then some (some (.int (nI 0)), w1) else qz_ck w1.1 v0 9 (qz_r1 (rn 50 0 [some (.ref v0)] [] w1) (fun x4 w3 => (if x4 = 0 then some (some (.int (nI 0)), w3) else qz_gi w3.1 v0 9 3 (fun x5 => qz_ck w3.1 v0 9 (qz_r1 (rn 30 0 [some (.ref v0), some (.int (nI 1)), some (.int (nI 20)), none] [] w3) (fun x7 w6 => (if x7 = 0 then some (some (.int (nI 0)), w6) else qz_gi w6.1 v0 9 3 (fun x8 => qz_ck w6.1 v0 9 (qz_r1 (rn 30 0 [some (.ref v0), some (.int (nI 2)), some (.int (nI 4)), none] [] w6) (fun x10 w9 => (if x10 = 0 then some (some (.int (nI 0)), w9) else qz_ga w9.1 v1 8 9 (fun q11 => qz_gi w9.1 v0 9 3 (fun x12 => qz_ck w9.1 q11 0 (qz_r0 (rn 56 0 [some (.ref q11), some (.int (nI 1)), some (.int ((nI 100) * x12))] [] w9) (fun w13 => if (nI 4) = 0 then none else (rn 60 75 [some (.ref v0), some (.ref v1), some (.int x5), some (.int x8), some (.int ((x5 + (nI 1)) - (x5 + (nI 1)) / (nI 4) * (nI 4))), some (.int (nI 0))] [] w13))))))))))))))))))) :=
  (qz_blk qz_cd [75] 41 60 0 _ _ _).trans rfl
set_option maxRecDepth 100000 in
theorem e_Teller_tellBroad_75 (v0 : Nat) (v1 : Nat) (v2 : Int32) (v3 : Int32) (v4 : Int32) (v5 : Int32) (w : qz_W) : rn 60 75 [some (.ref v0), some (.ref v1), some (.int v2), some (.int v3), some (.int v4), some (.int v5)] [] w =
    qz_gi w.1 v0 9 3 (fun x1 => (if x1 ≤ v5 then some (some (.int (nI 1)), w) else qz_gi w.1 v0 9 4 (fun x2 => qz_ia w.1 1000001 v4 (fun x3 => qz_gi w.1 v0 9 5 (fun x4 => qz_ia w.1 1000002 v4 (fun x5 => qz_ck w.1 v1 8 (qz_r0 (rn 58 0 [some (.ref v1), some (.int (x2 + (v5 * x3))), some (.int (x4 + (v5 * x5))), some (.int v2), some (.int v3), none, none, none] [] w) (fun w6 => rn 60 75 [some (.ref v0), some (.ref v1), some (.int v2), some (.int v3), some (.int v4), some (.int (v5 + (nI 1)))] [] w6)))))))) :=
  (qz_blk qz_cd [75] 28 60 75 _ _ _).trans rfl
set_option maxRecDepth 100000 in
theorem e_Teller_tellCorner_0 (v0 : Nat) (v1 : Nat) (w : qz_W) : rn 61 0 [some (.ref v0), some (.ref v1), none, none, none, none, none] [] w =
    qz_ck w.1 v0 9 (qz_r1 (rn 43 0 [some (.ref v0), some (.ref v1)] [] w) (fun x2 w1 => (if x2 = 0 then some (some (.int (nI 0)), w1) else qz_ck w1.1 v0 9 (qz_r1 (rn 50 0 [some (.ref v0)] [] w1) (fun x4 w3 => (if x4 = 0 then some (some (.int (nI 0)), w3) else qz_gi w3.1 v0 9 3 (fun x5 => qz_ck w3.1 v0 9 (qz_r1 (rn 30 0 [some (.ref v0), some (.int (nI 1)), some (.int (nI 20)), none] [] w3) (fun x7 w6 => (if x7 = 0 then some (some (.int (nI 0)), w6) else qz_gi w6.1 v0 9 3 (fun x8 => qz_ck w6.1 v0 9 (qz_r1 (rn 50 0 [some (.ref v0)] [] w6) (fun x10 w9 => (if x10 = 0 then some (some (.int (nI 0)), w9) else qz_gi w9.1 v0 9 3 (fun x11 => qz_ck w9.1 v0 9 (qz_r1 (rn 30 0 [some (.ref v0), some (.int (nI 1)), some (.int (nI 20)), none] [] w9) (fun x13 w12 => (if x13 = 0 then some (some (.int (nI 0)), w12) else qz_ga w12.1 v1 8 9 (fun q14 => qz_ck w12.1 q14 0 (qz_r0 (rn 56 0 [some (.ref q14), some (.int (nI 2)), some (.int (nI 80))] [] w12) (fun w15 => qz_gi w15.1 v0 9 4 (fun x16 => qz_gi w15.1 v0 9 5 (fun x17 => qz_ck w15.1 v1 8 (qz_r0 (rn 58 0 [some (.ref v1), some (.int x16), some (.int x17), some (.int x5), some (.int x8), none, none, none] [] w15) (fun w18 => qz_gi w18.1 v0 9 4 (fun x19 => qz_ia w18.1 1000001 x5 (fun x20 => qz_gi w18.1 v0 9 5 (fun x21 => qz_ia w18.1 1000002 x5 (fun x22 => qz_ia w18.1 1000001 x11 (fun x23 => qz_ia w18.1 1000002 x11 (fun x24 => qz_gi w18.1 v0 9 3 (fun x25 => qz_ck w18.1 v1 8 (qz_r0 (rn 58 0 [some (.ref v1), some (.int ((x19 + ((x8 - (nI 1)) * x20)) + x23)), some (.int ((x21 + ((x8 - (nI 1)) * x22)) + x24)), some (.int x11), some (.int x25), none, none, none] [] w18) (fun w26 => some (some (.int (nI 1)), w26))))))))))))))))))))))))))))))))))) :=
  (qz_blk qz_cd [] 83 61 0 _ _ _).trans rfl
set_option maxRecDepth 100000 in
theorem e_Integer_bitCount_0 (v0 : Int32) (w : qz_W) : rn 62 0 [some (.int v0)] [] w =
    some (some (.int ((((((((v0 - ((v0.toUInt32 >>> ((nI 1).toUInt32 &&& Int32.toUInt32 31)).toInt32 &&& (nI 1431655765))) &&& (nI 858993459)) + (((v0 - ((v0.toUInt32 >>> ((nI 1).toUInt32 &&& Int32.toUInt32 31)).toInt32 &&& (nI 1431655765))).toUInt32 >>> ((nI 2).toUInt32 &&& Int32.toUInt32 31)).toInt32 &&& (nI 858993459))) + ((((v0 - ((v0.toUInt32 >>> ((nI 1).toUInt32 &&& Int32.toUInt32 31)).toInt32 &&& (nI 1431655765))) &&& (nI 858993459)) + (((v0 - ((v0.toUInt32 >>> ((nI 1).toUInt32 &&& Int32.toUInt32 31)).toInt32 &&& (nI 1431655765))).toUInt32 >>> ((nI 2).toUInt32 &&& Int32.toUInt32 31)).toInt32 &&& (nI 858993459))).toUInt32 >>> ((nI 4).toUInt32 &&& Int32.toUInt32 31)).toInt32) &&& (nI 252645135)) + ((((((v0 - ((v0.toUInt32 >>> ((nI 1).toUInt32 &&& Int32.toUInt32 31)).toInt32 &&& (nI 1431655765))) &&& (nI 858993459)) + (((v0 - ((v0.toUInt32 >>> ((nI 1).toUInt32 &&& Int32.toUInt32 31)).toInt32 &&& (nI 1431655765))).toUInt32 >>> ((nI 2).toUInt32 &&& Int32.toUInt32 31)).toInt32 &&& (nI 858993459))) + ((((v0 - ((v0.toUInt32 >>> ((nI 1).toUInt32 &&& Int32.toUInt32 31)).toInt32 &&& (nI 1431655765))) &&& (nI 858993459)) + (((v0 - ((v0.toUInt32 >>> ((nI 1).toUInt32 &&& Int32.toUInt32 31)).toInt32 &&& (nI 1431655765))).toUInt32 >>> ((nI 2).toUInt32 &&& Int32.toUInt32 31)).toInt32 &&& (nI 858993459))).toUInt32 >>> ((nI 4).toUInt32 &&& Int32.toUInt32 31)).toInt32) &&& (nI 252645135)).toUInt32 >>> ((nI 8).toUInt32 &&& Int32.toUInt32 31)).toInt32) + (((((((v0 - ((v0.toUInt32 >>> ((nI 1).toUInt32 &&& Int32.toUInt32 31)).toInt32 &&& (nI 1431655765))) &&& (nI 858993459)) + (((v0 - ((v0.toUInt32 >>> ((nI 1).toUInt32 &&& Int32.toUInt32 31)).toInt32 &&& (nI 1431655765))).toUInt32 >>> ((nI 2).toUInt32 &&& Int32.toUInt32 31)).toInt32 &&& (nI 858993459))) + ((((v0 - ((v0.toUInt32 >>> ((nI 1).toUInt32 &&& Int32.toUInt32 31)).toInt32 &&& (nI 1431655765))) &&& (nI 858993459)) + (((v0 - ((v0.toUInt32 >>> ((nI 1).toUInt32 &&& Int32.toUInt32 31)).toInt32 &&& (nI 1431655765))).toUInt32 >>> ((nI 2).toUInt32 &&& Int32.toUInt32 31)).toInt32 &&& (nI 858993459))).toUInt32 >>> ((nI 4).toUInt32 &&& Int32.toUInt32 31)).toInt32) &&& (nI 252645135)) + ((((((v0 - ((v0.toUInt32 >>> ((nI 1).toUInt32 &&& Int32.toUInt32 31)).toInt32 &&& (nI 1431655765))) &&& (nI 858993459)) + (((v0 - ((v0.toUInt32 >>> ((nI 1).toUInt32 &&& Int32.toUInt32 31)).toInt32 &&& (nI 1431655765))).toUInt32 >>> ((nI 2).toUInt32 &&& Int32.toUInt32 31)).toInt32 &&& (nI 858993459))) + ((((v0 - ((v0.toUInt32 >>> ((nI 1).toUInt32 &&& Int32.toUInt32 31)).toInt32 &&& (nI 1431655765))) &&& (nI 858993459)) + (((v0 - ((v0.toUInt32 >>> ((nI 1).toUInt32 &&& Int32.toUInt32 31)).toInt32 &&& (nI 1431655765))).toUInt32 >>> ((nI 2).toUInt32 &&& Int32.toUInt32 31)).toInt32 &&& (nI 858993459))).toUInt32 >>> ((nI 4).toUInt32 &&& Int32.toUInt32 31)).toInt32) &&& (nI 252645135)).toUInt32 >>> ((nI 8).toUInt32 &&& Int32.toUInt32 31)).toInt32).toUInt32 >>> ((nI 16).toUInt32 &&& Int32.toUInt32 31)).toInt32) &&& (nI 63))), w) :=
  (qz_blk qz_cd [] 44 62 0 _ _ _).trans rfl
set_option maxRecDepth 100000 in
theorem e_Bridges_squares_0 (v0 : Nat) (v1 : Int32) (w : qz_W) : rn 63 0 [some (.ref v0), some (.int v1), none, none] [] w =
    rn 63 4 [some (.ref v0), some (.int v1), some (.int (nI 0)), some (.int (nI 0))] [] w :=
  (qz_blk qz_cd [4] 6 63 0 _ _ _).trans rfl
set_option maxRecDepth 100000 in
theorem e_Bridges_squares_4 (v0 : Nat) (v1 : Int32) (v2 : Int32) (v3 : Int32) (w : qz_W) : rn 63 4 [some (.ref v0), some (.int v1), some (.int v2), some (.int v3)] [] w =
    (if (nI 20) ≤ v3 then some (some (.int v2), w) else qz_ga w.1 v0 0 5 (fun q1 => qz_ia w.1 q1 ((v1 * (nI 20)) + v3) (fun x2 => qz_r1 (rn 62 0 [some (.int x2)] [] w) (fun x4 w3 => rn 63 4 [some (.ref v0), some (.int v1), some (.int (v2 + x4)), some (.int (v3 + (nI 1)))] [] w3)))) :=
  (qz_blk qz_cd [4] 19 63 4 _ _ _).trans rfl
set_option maxRecDepth 100000 in
theorem e_Bridges_lastBySquares_0 (v0 : Nat) (v1 : Int32) (w : qz_W) : rn 64 0 [some (.ref v0), some (.int v1)] [] w =
    qz_gi w.1 v0 0 0 (fun x1 => (if x1 ≤ 0 then some (none, w) else qz_ga w.1 v0 0 4 (fun q2 => qz_gi w.1 v0 0 0 (fun x3 => qz_gi w.1 v0 0 0 (fun x4 => qz_ck w.1 v0 0 (qz_r1 (rn 63 0 [some (.ref v0), some (.int (x4 - (nI 1))), none, none] [] w) (fun x6 w5 => qz_is w5 q2 (x3 - (nI 1)) (v1 * x6) (fun w7 => some (none, w7))))))))) :=
  (qz_blk qz_cd [] 21 64 0 _ _ _).trans rfl
set_option maxRecDepth 100000 in
theorem e_Teller_tellTold_0 (v0 : Nat) (v1 : Nat) (w : qz_W) : rn 65 0 [some (.ref v0), some (.ref v1), none] [] w =
    qz_ck w.1 v0 9 (qz_r1 (rn 43 0 [some (.ref v0), some (.ref v1)] [] w) (fun x2 w1 => (if x2 = 0 then some (some (.int (nI 0)), w1) else qz_ga w1.1 v1 8 9 (fun q3 => qz_ck w1.1 q3 0 (qz_r0 (rn 56 0 [some (.ref q3), some (.int (nI 3)), some (.int (nI 0))] [] w1) (fun w4 => qz_ga w4.1 v1 8 9 (fun q5 => qz_gi w4.1 v0 9 4 (fun x6 => qz_gi w4.1 v0 9 5 (fun x7 => qz_ck w4.1 q5 0 (qz_r0 (rn 57 0 [some (.ref q5), some (.int x6), some (.int x7)] [] w4) (fun w8 => rn 65 36 [some (.ref v0), some (.ref v1), some (.int (nI 1))] [] w8))))))))))) :=
  (qz_blk qz_cd [36] 20 65 0 _ _ _).trans rfl
set_option maxRecDepth 100000 in
theorem e_Teller_tellTold_36 (v0 : Nat) (v1 : Nat) (v2 : Int32) (w : qz_W) : rn 65 36 [some (.ref v0), some (.ref v1), some (.int v2)] [] w =
    (if (nI 8) ≤ v2 then qz_ga w.1 v1 8 9 (fun q1 => qz_ck w.1 q1 0 (qz_r0 (rn 64 0 [some (.ref q1), some (.int (nI 60))] [] w) (fun w2 => some (some (.int (nI 1)), w2)))) else qz_ck w.1 v0 9 (qz_r1 (rn 34 0 [some (.ref v0), some (.int (nI 44))] [] w) (fun x4 w3 => (if x4 = 0 then qz_ga w3.1 v1 8 9 (fun q5 => qz_ck w3.1 q5 0 (qz_r0 (rn 64 0 [some (.ref q5), some (.int (nI 60))] [] w3) (fun w6 => some (some (.int (nI 1)), w6)))) else qz_ck w3.1 v0 9 (qz_r1 (rn 43 0 [some (.ref v0), some (.ref v1)] [] w3) (fun x8 w7 => (if x8 = 0 then some (some (.int (nI 0)), w7) else qz_ga w7.1 v1 8 9 (fun q9 => qz_gi w7.1 v0 9 4 (fun x10 => qz_gi w7.1 v0 9 5 (fun x11 => qz_ck w7.1 q9 0 (qz_r0 (rn 57 0 [some (.ref q9), some (.int x10), some (.int x11)] [] w7) (fun w12 => rn 65 36 [some (.ref v0), some (.ref v1), some (.int (v2 + (nI 1)))] [] w12)))))))))))) :=
  (qz_blk qz_cd [36] 22 65 36 _ _ _).trans rfl
set_option maxRecDepth 100000 in
theorem e_Bridges_hideNewest_0 (v0 : Nat) (w : qz_W) : rn 66 0 [some (.ref v0)] [] w =
    qz_gi w.1 v0 0 0 (fun x1 => (if x1 ≤ 0 then some (none, w) else qz_gi w.1 v0 0 2 (fun x2 => qz_gi w.1 v0 0 0 (fun x3 => qz_pf w v0 0 2 (.int (x2 ||| ((nI 1) <<< ((x3 - (nI 1)) &&& 31)))) (fun w4 => some (none, w4)))))) :=
  (qz_blk qz_cd [] 17 66 0 _ _ _).trans rfl
set_option maxRecDepth 100000 in
theorem e_Teller_tellBridge_0 (v0 : Nat) (v1 : Nat) (w : qz_W) : rn 67 0 [some (.ref v0), some (.ref v1), none] [] w =
    qz_ck w.1 v0 9 (qz_r1 (rn 29 0 [some (.ref v0), some (.int (nI 11))] [] w) (fun x2 w1 => (if x2 = 0 then qz_ck w1.1 v0 9 (qz_r1 (rn 29 0 [some (.ref v0), some (.int (nI 12))] [] w1) (fun x4 w3 => (if x4 = 0 then qz_ck w3.1 v0 9 (qz_r1 (rn 29 0 [some (.ref v0), some (.int (nI 13))] [] w3) (fun x6 w5 => (if x6 = 0 then qz_ck w5.1 v0 9 (qz_r1 (rn 29 0 [some (.ref v0), some (.int (nI 14))] [] w5) (fun x8 w7 => (if x8 = 0 then (if (nI 0) = 0 then some (some (.int (nI 0)), w7) else qz_ck w7.1 v0 9 (qz_r1 (rn 29 0 [some (.ref v0), some (.int (nI 15))] [] w7) (fun x10 w9 => (if x10 = 0 then some (some (.int (nI 0)), w9) else qz_ga w9.1 v1 8 9 (fun q11 => qz_ck w9.1 q11 0 (qz_r0 (rn 66 0 [some (.ref q11)] [] w9) (fun w12 => some (some (.int (nI 0)), w12)))))))) else qz_ck w7.1 v0 9 (qz_r1 (rn 65 0 [some (.ref v0), some (.ref v1), none] [] w7) (fun x14 w13 => (if x14 = 0 then cond (qz_z x14) (some (some (.int x14), w13)) none else qz_ck w13.1 v0 9 (qz_r1 (rn 29 0 [some (.ref v0), some (.int (nI 15))] [] w13) (fun x16 w15 => (if x16 = 0 then cond (qz_z x14) (some (some (.int x14), w15)) none else qz_ga w15.1 v1 8 9 (fun q17 => qz_ck w15.1 q17 0 (qz_r0 (rn 66 0 [some (.ref q17)] [] w15) (fun w18 => cond (qz_z x14) (some (some (.int x14), w18)) none)))))))))))) else qz_ck w5.1 v0 9 (qz_r1 (rn 61 0 [some (.ref v0), some (.ref v1), none, none, none, none, none] [] w5) (fun x20 w19 => (if x20 = 0 then cond (qz_z x20) (some (some (.int x20), w19)) none else qz_ck w19.1 v0 9 (qz_r1 (rn 29 0 [some (.ref v0), some (.int (nI 15))] [] w19) (fun x22 w21 => (if x22 = 0 then cond (qz_z x20) (some (some (.int x20), w21)) none else qz_ga w21.1 v1 8 9 (fun q23 => qz_ck w21.1 q23 0 (qz_r0 (rn 66 0 [some (.ref q23)] [] w21) (fun w24 => cond (qz_z x20) (some (some (.int x20), w24)) none)))))))))))) else qz_ck w3.1 v0 9 (qz_r1 (rn 60 0 [some (.ref v0), some (.ref v1), none, none, none, none] [] w3) (fun x26 w25 => (if x26 = 0 then cond (qz_z x26) (some (some (.int x26), w25)) none else qz_ck w25.1 v0 9 (qz_r1 (rn 29 0 [some (.ref v0), some (.int (nI 15))] [] w25) (fun x28 w27 => (if x28 = 0 then cond (qz_z x26) (some (some (.int x26), w27)) none else qz_ga w27.1 v1 8 9 (fun q29 => qz_ck w27.1 q29 0 (qz_r0 (rn 66 0 [some (.ref q29)] [] w27) (fun w30 => cond (qz_z x26) (some (some (.int x26), w30)) none)))))))))))) else qz_ck w1.1 v0 9 (qz_r1 (rn 59 0 [some (.ref v0), some (.ref v1), none] [] w1) (fun x32 w31 => (if x32 = 0 then cond (qz_z x32) (some (some (.int x32), w31)) none else qz_ck w31.1 v0 9 (qz_r1 (rn 29 0 [some (.ref v0), some (.int (nI 15))] [] w31) (fun x34 w33 => (if x34 = 0 then cond (qz_z x32) (some (some (.int x32), w33)) none else qz_ga w33.1 v1 8 9 (fun q35 => qz_ck w33.1 q35 0 (qz_r0 (rn 66 0 [some (.ref q35)] [] w33) (fun w36 => cond (qz_z x32) (some (some (.int x32), w36)) none)))))))))))) :=
  (qz_blk qz_cd [] 35 67 0 _ _ _).trans rfl
set_option maxRecDepth 100000 in
theorem e_Teller_tellStatement_0 (v0 : Nat) (v1 : Nat) (w : qz_W) : rn 68 0 [some (.ref v0), some (.ref v1)] [] w =
    qz_ck w.1 v0 9 (qz_r1 (rn 29 0 [some (.ref v0), some (.int (nI 1))] [] w) (fun x2 w1 => (if x2 = 0 then qz_ck w1.1 v0 9 (qz_r1 (rn 29 0 [some (.ref v0), some (.int (nI 2))] [] w1) (fun x4 w3 => (if x4 = 0 then qz_ck w3.1 v0 9 (qz_r1 (rn 29 0 [some (.ref v0), some (.int (nI 3))] [] w3) (fun x6 w5 => (if x6 = 0 then qz_ck w5.1 v0 9 (qz_r1 (rn 29 0 [some (.ref v0), some (.int (nI 5))] [] w5) (fun x8 w7 => (if x8 = 0 then qz_ck w7.1 v0 9 (qz_r1 (rn 29 0 [some (.ref v0), some (.int (nI 6))] [] w7) (fun x10 w9 => (if x10 = 0 then qz_ck w9.1 v0 9 (qz_r1 (rn 29 0 [some (.ref v0), some (.int (nI 8))] [] w9) (fun x12 w11 => (if x12 = 0 then qz_ck w11.1 v0 9 (qz_r1 (rn 29 0 [some (.ref v0), some (.int (nI 9))] [] w11) (fun x14 w13 => (if x14 = 0 then qz_ga w13.1 v1 8 9 (fun q15 => qz_gi w13.1 q15 0 0 (fun x16 => (if (nI 12) ≤ x16 then some (some (.int (nI 0)), w13) else qz_ck w13.1 v0 9 (qz_r1 (rn 29 0 [some (.ref v0), some (.int (nI 10))] [] w13) (fun x18 w17 => (if x18 = 0 then some (some (.int (nI 0)), w17) else qz_ck w17.1 v0 9 (qz_r1 (rn 67 0 [some (.ref v0), some (.ref v1), none] [] w17) (fun x20 w19 => (if x20 = 0 then some (some (.int (nI 0)), w19) else some (some (.int (nI 1)), w19)))))))))) else qz_ck w13.1 v0 9 (qz_r1 (rn 55 0 [some (.ref v0), some (.ref v1)] [] w13) (fun x22 w21 => cond (qz_z x22) (some (some (.int x22), w21)) none))))) else qz_ck w11.1 v0 9 (qz_r1 (rn 54 0 [some (.ref v0), some (.ref v1)] [] w11) (fun x24 w23 => cond (qz_z x24) (some (some (.int x24), w23)) none))))) else qz_ck w9.1 v0 9 (qz_r1 (rn 53 0 [some (.ref v0), some (.ref v1), none, none, none, none, none, none] [] w9) (fun x26 w25 => cond (qz_z x26) (some (some (.int x26), w25)) none))))) else qz_ck w7.1 v0 9 (qz_r1 (rn 51 0 [some (.ref v0), some (.ref v1), none] [] w7) (fun x28 w27 => cond (qz_z x28) (some (some (.int x28), w27)) none))))) else qz_ck w5.1 v0 9 (qz_r1 (rn 49 0 [some (.ref v0), some (.ref v1), none, none] [] w5) (fun x30 w29 => cond (qz_z x30) (some (some (.int x30), w29)) none))))) else qz_ck w3.1 v0 9 (qz_r1 (rn 42 0 [some (.ref v0), some (.ref v1), none, none, none, none] [] w3) (fun x32 w31 => cond (qz_z x32) (some (some (.int x32), w31)) none))))) else qz_ck w1.1 v0 9 (qz_r1 (rn 37 0 [some (.ref v0), some (.ref v1), none, none] [] w1) (fun x34 w33 => cond (qz_z x34) (some (some (.int x34), w33)) none))))) :=
  (qz_blk qz_cd [] 46 68 0 _ _ _).trans rfl
set_option maxRecDepth 100000 in
theorem e_Teller_tell_0 (v0 : Nat) (v1 : Nat) (v2 : Int32) (v3 : Nat) (w : qz_W) : rn 69 0 [some (.ref v0), some (.ref v1), some (.int v2), some (.ref v3), none] [] w =
    qz_ga w.1 v0 9 0 (fun q1 => qz_ck w.1 q1 10 (qz_r0 (rn 28 0 [some (.ref q1), some (.ref v1), some (.int v2), none, none] [] w) (fun w2 => qz_pf w2 v0 9 2 (.int (nI 0)) (fun w3 => qz_ck w3.1 v0 9 (qz_r1 (rn 35 0 [some (.ref v0), some (.ref v3), none] [] w3) (fun x5 w4 => (if x5 = 0 then some (some (.int (nI 0)), w4) else rn 69 27 [some (.ref v0), none, none, some (.ref v3), some (.int (nI 0))] [] w4))))))) :=
  (qz_blk qz_cd [27] 16 69 0 _ _ _).trans rfl
set_option maxRecDepth 100000 in
theorem e_Teller_tell_27 (v0 : Nat) (v3 : Nat) (v4 : Int32) (w : qz_W) : rn 69 27 [some (.ref v0), none, none, some (.ref v3), some (.int v4)] [] w =
    (if (nI 60) ≤ v4 then qz_ga w.1 v0 9 0 (fun q1 => qz_ga w.1 q1 10 1 (fun q2 => qz_gi w.1 v0 9 2 (fun x3 => qz_ia w.1 q2 x3 (fun x4 => (if x4 = 0 then some (some (.int (nI 1)), w) else some (some (.int (nI 0)), w)))))) else qz_ga w.1 v0 9 0 (fun q5 => qz_ga w.1 q5 10 1 (fun q6 => qz_gi w.1 v0 9 2 (fun x7 => qz_ia w.1 q6 x7 (fun x8 => (if x8 = 0 then qz_ga w.1 v0 9 0 (fun q9 => qz_ga w.1 q9 10 1 (fun q10 => qz_gi w.1 v0 9 2 (fun x11 => qz_ia w.1 q10 x11 (fun x12 => (if x12 = 0 then some (some (.int (nI 1)), w) else some (some (.int (nI 0)), w)))))) else qz_ck w.1 v0 9 (qz_r1 (rn 68 0 [some (.ref v0), some (.ref v3)] [] w) (fun x14 w13 => (if x14 = 0 then some (some (.int (nI 0)), w13) else qz_ck w13.1 v0 9 (qz_r1 (rn 34 0 [some (.ref v0), some (.int (nI 59))] [] w13) (fun x16 w15 => (if x16 = 0 then some (some (.int (nI 0)), w15) else qz_gi w15.1 v3 8 3 (fun x17 => qz_pf w15 v3 8 3 (.int (x17 + (nI 1))) (fun w18 => rn 69 27 [some (.ref v0), none, none, some (.ref v3), some (.int (v4 + (nI 1)))] [] w18)))))))))))))) :=
  (qz_blk qz_cd [27] 28 69 27 _ _ _).trans rfl
set_option maxRecDepth 100000 in
theorem e_Teller_place_0 (v0 : Nat) (w : qz_W) : rn 70 0 [some (.ref v0)] [] w =
    qz_ga w.1 v0 9 0 (fun q1 => qz_ga w.1 q1 10 2 (fun q2 => qz_gi w.1 v0 9 2 (fun x3 => qz_ia w.1 q2 x3 (fun x4 => some (some (.int x4), w))))) :=
  (qz_blk qz_cd [] 9 70 0 _ _ _).trans rfl
set_option maxRecDepth 100000 in
theorem e_C_plate_0 (v0 : Nat) (v1 : Int32) (v2 : Int32) (w : qz_W) : rn 71 0 [some (.ref v0), some (.int v1), some (.int v2), none, none] [] w =
    (if v2 < 0 then qz_ga w.1 v0 11 3 (fun q1 => qz_ia w.1 q1 (nI 0) (fun x2 => qz_is w q1 (nI 0) (x2 + (nI 1)) (fun w3 => some (some (.int (-2)), w3)))) else qz_gi w.1 v0 11 1 (fun x4 => (if x4 < v2 then qz_ga w.1 v0 11 3 (fun q5 => qz_ia w.1 q5 (nI 0) (fun x6 => qz_is w q5 (nI 0) (x6 + (nI 1)) (fun w7 => some (some (.int (-2)), w7)))) else (if v1 < 0 then qz_ga w.1 v0 11 3 (fun q8 => qz_ia w.1 q8 (nI 0) (fun x9 => qz_is w q8 (nI 0) (x9 + (nI 1)) (fun w10 => some (some (.int (-2)), w10)))) else (if v1 < (nI 6) then qz_ga w.1 v0 11 8 (fun q11 => qz_ga w.1 v0 11 0 (fun q12 => qz_ga w.1 v0 11 7 (fun q13 => qz_ck w.1 q11 9 (qz_r1 (rn 69 0 [some (.ref q11), some (.ref q12), some (.int v2), some (.ref q13), none] [] w) (fun x15 w14 => qz_pf w14 v0 11 1 (.int (nI 0)) (fun w16 => (if x15 = 0 then qz_ga w16.1 v0 11 8 (fun q30 => qz_ck w16.1 q30 9 (qz_r1 (rn 70 0 [some (.ref q30)] [] w16) (fun x32 w31 => qz_pf w31 v0 11 2 (.int x32) (fun w33 => qz_ga w33.1 v0 11 3 (fun q34 => qz_ia w33.1 q34 (nI 2) (fun x35 => qz_is w33 q34 (nI 2) (x35 + (nI 1)) (fun w36 => some (some (.int (-1)), w36)))))))) else qz_pf w16 v0 11 2 (.int (-1)) (fun w17 => qz_ga w17.1 v0 11 4 (fun q18 => qz_ga w17.1 q18 6 0 (fun q19 => qz_aa w17.1 q19 v1 (fun q20 => qz_ga w17.1 v0 11 4 (fun q21 => qz_ga w17.1 q21 6 0 (fun q22 => qz_ga w17.1 v0 11 7 (fun q23 => qz_as w17 q22 v1 q23 (fun w24 => qz_pf w24 v0 11 7 (.ref q20) (fun w25 => qz_ga w25.1 v0 11 4 (fun q26 => qz_ga w25.1 q26 6 0 (fun q27 => qz_aa w25.1 q27 v1 (fun q28 => qz_gi w25.1 q28 8 3 (fun x29 => some (some (.int x29), w25))))))))))))))))))))) else qz_ga w.1 v0 11 3 (fun q37 => qz_ia w.1 q37 (nI 0) (fun x38 => qz_is w q37 (nI 0) (x38 + (nI 1)) (fun w39 => some (some (.int (-2)), w39))))))))) :=
  (qz_blk qz_cd [] 53 71 0 _ _ _).trans rfl
set_option maxRecDepth 100000 in
theorem e_M_isIn_0 (v0 : Int32) (v1 : Int32) (v2 : Int32) (w : qz_W) : rn 72 0 [some (.int v0), some (.int v1), some (.int v2)] [] w =
    (if v0 < v1 then some (some (.int (nI 0)), w) else (if v2 < v0 then some (some (.int (nI 0)), w) else some (some (.int (nI 1)), w))) :=
  (qz_blk qz_cd [] 11 72 0 _ _ _).trans rfl
set_option maxRecDepth 100000 in
theorem e_M_refuses_0 (v0 : Nat) (v1 : Int32) (v2 : Int32) (w : qz_W) : rn 73 0 [some (.ref v0), some (.int v1), some (.int v2)] [] w =
    qz_ga w.1 v0 12 0 (fun q1 => qz_ia w.1 q1 v1 (fun x2 => qz_is w q1 v1 (x2 + (nI 1)) (fun w3 => some (some (.int v2), w3)))) :=
  (qz_blk qz_cd [] 12 73 0 _ _ _).trans rfl
set_option maxRecDepth 100000 in
theorem e_M_says_0 (v0 : Nat) (v1 : Int32) (v2 : Int32) (w : qz_W) : rn 74 0 [some (.ref v0), some (.int v1), some (.int v2)] [] w =
    qz_ga w.1 v0 12 2 (fun q1 => qz_is w q1 ((nI 96) + v1) v2 (fun w2 => some (none, w2))) :=
  (qz_blk qz_cd [] 10 74 0 _ _ _).trans rfl
set_option maxRecDepth 100000 in
theorem e_M_blanks_0 (v0 : Nat) (w : qz_W) : rn 75 0 [some (.ref v0)] [] w =
    qz_gi w.1 v0 12 16 (fun x1 => qz_gi w.1 v0 12 15 (fun x2 => (if x2 ≤ x1 then some (none, w) else qz_ga w.1 v0 12 19 (fun q3 => qz_gi w.1 v0 12 16 (fun x4 => qz_ba w.1 q3 x4 (fun x5 => (if x5 = (nI 32) then qz_gi w.1 v0 12 16 (fun x6 => qz_pf w v0 12 16 (.int (x6 + (nI 1))) (fun w7 => rn 75 0 [some (.ref v0)] [] w7)) else qz_ga w.1 v0 12 19 (fun q8 => qz_gi w.1 v0 12 16 (fun x9 => qz_ba w.1 q8 x9 (fun x10 => (if x10 = (nI 10) then qz_gi w.1 v0 12 16 (fun x11 => qz_pf w v0 12 16 (.int (x11 + (nI 1))) (fun w12 => rn 75 0 [some (.ref v0)] [] w12)) else some (none, w)))))))))))) :=
  (qz_blk qz_cd [0] 28 75 0 _ _ _).trans rfl
set_option maxRecDepth 100000 in
theorem e_M_word_0 (v0 : Nat) (w : qz_W) : rn 76 0 [some (.ref v0), none, none] [] w =
    qz_ck w.1 v0 12 (qz_r0 (rn 75 0 [some (.ref v0)] [] w) (fun w1 => qz_gi w1.1 v0 12 16 (fun x2 => qz_pf w1 v0 12 20 (.int x2) (fun w3 => rn 76 14 [some (.ref v0), some (.long (lN 0)), none] [] w3)))) :=
  (qz_blk qz_cd [14] 10 76 0 _ _ _).trans rfl
set_option maxRecDepth 100000 in
theorem e_M_word_14 (v0 : Nat) (v1 : Int64) (w : qz_W) : rn 76 14 [some (.ref v0), some (.long v1), none] [] w =
    qz_gi w.1 v0 12 20 (fun x1 => qz_gi w.1 v0 12 15 (fun x2 => (if x2 ≤ x1 then qz_gi w.1 v0 12 20 (fun x3 => qz_gi w.1 v0 12 16 (fun x4 => (if x3 - x4 ≤ (nI 8) then some (some (.long v1), w) else some (some (.long (lN 0)), w)))) else qz_ga w.1 v0 12 19 (fun q5 => qz_gi w.1 v0 12 20 (fun x6 => qz_ba w.1 q5 x6 (fun x7 => (if x7 < (nI 97) then qz_gi w.1 v0 12 20 (fun x8 => qz_gi w.1 v0 12 16 (fun x9 => (if x8 - x9 ≤ (nI 8) then some (some (.long v1), w) else some (some (.long (lN 0)), w)))) else qz_ga w.1 v0 12 19 (fun q10 => qz_gi w.1 v0 12 20 (fun x11 => qz_ba w.1 q10 x11 (fun x12 => (if (nI 122) < x12 then qz_gi w.1 v0 12 20 (fun x13 => qz_gi w.1 v0 12 16 (fun x14 => (if x13 - x14 ≤ (nI 8) then some (some (.long v1), w) else some (some (.long (lN 0)), w)))) else qz_gi w.1 v0 12 20 (fun x15 => qz_gi w.1 v0 12 16 (fun x16 => (if (nI 8) ≤ x15 - x16 then qz_gi w.1 v0 12 20 (fun x17 => qz_pf w v0 12 20 (.int (x17 + (nI 1))) (fun w18 => rn 76 14 [some (.ref v0), some (.long (lN 0)), none] [] w18)) else qz_ga w.1 v0 12 19 (fun q19 => qz_gi w.1 v0 12 20 (fun x20 => qz_ba w.1 q19 x20 (fun x21 => qz_gi w.1 v0 12 20 (fun x22 => qz_pf w v0 12 20 (.int (x22 + (nI 1))) (fun w23 => rn 76 14 [some (.ref v0), some (.long ((v1 <<< ((nI 8).toInt64 &&& 63)) ||| x21.toInt64)), none] [] w23))))))))))))))))))) :=
  (qz_blk qz_cd [14] 47 76 14 _ _ _).trans rfl
set_option maxRecDepth 100000 in
theorem e_M_takes_0 (v0 : Nat) (v1 : Int64) (w : qz_W) : rn 77 0 [some (.ref v0), some (.long v1), none] [] w =
    qz_ck w.1 v0 12 (qz_r2 (rn 76 0 [some (.ref v0), none, none] [] w) (fun x2 w1 => (if lg_cmp x2 v1 = 0 then qz_gi w1.1 v0 12 20 (fun x3 => qz_pf w1 v0 12 16 (.int x3) (fun w4 => some (some (.int (nI 1)), w4))) else some (some (.int (nI 0)), w1)))) :=
  (qz_blk qz_cd [] 13 77 0 _ _ _).trans rfl
set_option maxRecDepth 100000 in
theorem e_M_takesNumber_0 (v0 : Nat) (v1 : Int32) (v2 : Int32) (w : qz_W) : rn 78 0 [some (.ref v0), some (.int v1), some (.int v2), none] [] w =
    qz_ck w.1 v0 12 (qz_r0 (rn 75 0 [some (.ref v0)] [] w) (fun w1 => qz_gi w1.1 v0 12 16 (fun x2 => qz_pf w1 v0 12 21 (.int (nI 0)) (fun w3 => rn 78 14 [some (.ref v0), some (.int v1), some (.int v2), some (.int x2)] [] w3)))) :=
  (qz_blk qz_cd [14, 81] 10 78 0 _ _ _).trans rfl
set_option maxRecDepth 100000 in
theorem e_M_takesNumber_14 (v0 : Nat) (v1 : Int32) (v2 : Int32) (v3 : Int32) (w : qz_W) : rn 78 14 [some (.ref v0), some (.int v1), some (.int v2), some (.int v3)] [] w =
    qz_gi w.1 v0 12 15 (fun x1 => (if x1 ≤ v3 then rn 78 81 [some (.ref v0), some (.int v1), some (.int v2), some (.int v3)] [] w else qz_ga w.1 v0 12 19 (fun q2 => qz_ba w.1 q2 v3 (fun x3 => (if x3 < (nI 48) then rn 78 81 [some (.ref v0), some (.int v1), some (.int v2), some (.int v3)] [] w else qz_ga w.1 v0 12 19 (fun q4 => qz_ba w.1 q4 v3 (fun x5 => (if (nI 57) < x5 then rn 78 81 [some (.ref v0), some (.int v1), some (.int v2), some (.int v3)] [] w else qz_gi w.1 v0 12 16 (fun x6 => (if (nI 4) ≤ v3 - x6 then rn 78 14 [some (.ref v0), some (.int v1), some (.int v2), some (.int (v3 + (nI 1)))] [] w else qz_gi w.1 v0 12 21 (fun x7 => qz_ga w.1 v0 12 19 (fun q8 => qz_ba w.1 q8 v3 (fun x9 => qz_pf w v0 12 21 (.int ((((nI 10) * x7) + x9) - (nI 48))) (fun w10 => rn 78 14 [some (.ref v0), some (.int v1), some (.int v2), some (.int (v3 + (nI 1)))] [] w10)))))))))))))) :=
  (qz_blk qz_cd [14, 81] 39 78 14 _ _ _).trans rfl
set_option maxRecDepth 100000 in
theorem e_M_takesNumber_81 (v0 : Nat) (v1 : Int32) (v2 : Int32) (v3 : Int32) (w : qz_W) : rn 78 81 [some (.ref v0), some (.int v1), some (.int v2), some (.int v3)] [] w =
    qz_gi w.1 v0 12 16 (fun x1 => (if v3 = x1 then some (some (.int (nI 0)), w) else qz_gi w.1 v0 12 16 (fun x2 => (if (nI 4) < v3 - x2 then some (some (.int (nI 0)), w) else qz_gi w.1 v0 12 21 (fun x3 => qz_r1 (rn 72 0 [some (.int x3), some (.int v1), some (.int v2)] [] w) (fun x5 w4 => (if x5 = 0 then some (some (.int (nI 0)), w4) else qz_pf w4 v0 12 16 (.int v3) (fun w6 => some (some (.int (nI 1)), w6))))))))) :=
  (qz_blk qz_cd [14, 81] 23 78 81 _ _ _).trans rfl
set_option maxRecDepth 100000 in
theorem e_M_takesSign_0 (v0 : Nat) (v1 : Int32) (w : qz_W) : rn 79 0 [some (.ref v0), some (.int v1)] [] w =
    qz_ck w.1 v0 12 (qz_r0 (rn 75 0 [some (.ref v0)] [] w) (fun w1 => qz_gi w1.1 v0 12 16 (fun x2 => qz_gi w1.1 v0 12 15 (fun x3 => (if x2 = x3 then some (some (.int (nI 0)), w1) else qz_ga w1.1 v0 12 19 (fun q4 => qz_gi w1.1 v0 12 16 (fun x5 => qz_ba w1.1 q4 x5 (fun x6 => (if x6 = v1 then qz_gi w1.1 v0 12 16 (fun x7 => qz_pf w1 v0 12 16 (.int (x7 + (nI 1))) (fun w8 => some (some (.int (nI 1)), w8))) else some (some (.int (nI 0)), w1)))))))))) :=
  (qz_blk qz_cd [] 24 79 0 _ _ _).trans rfl
set_option maxRecDepth 100000 in
theorem e_M_draft_0 (v0 : Nat) (v1 : Int32) (w : qz_W) : rn 80 0 [some (.ref v0), some (.int v1)] [] w =
    qz_ga w.1 v0 12 2 (fun q1 => qz_ia w.1 q1 ((nI 96) + v1) (fun x2 => some (some (.int x2), w))) :=
  (qz_blk qz_cd [] 9 80 0 _ _ _).trans rfl
set_option maxRecDepth 100000 in
theorem e_M_high_0 (v0 : Nat) (v1 : Int32) (w : qz_W) : rn 81 0 [some (.ref v0), some (.int v1)] [] w =
    qz_ga w.1 v0 12 2 (fun q1 => qz_ia w.1 q1 (((nI 16) * v1) + (nI 1)) (fun x2 => some (some (.int x2), w))) :=
  (qz_blk qz_cd [] 11 81 0 _ _ _).trans rfl
set_option maxRecDepth 100000 in
theorem e_M_wide_0 (v0 : Nat) (v1 : Int32) (w : qz_W) : rn 82 0 [some (.ref v0), some (.int v1)] [] w =
    qz_ga w.1 v0 12 2 (fun q1 => qz_ia w.1 q1 (((nI 16) * v1) + (nI 0)) (fun x2 => some (some (.int x2), w))) :=
  (qz_blk qz_cd [] 11 82 0 _ _ _).trans rfl
set_option maxRecDepth 100000 in
theorem e_M_takesSquares_0 (v0 : Nat) (v1 : Int32) (v2 : Int32) (w : qz_W) : rn 83 0 [some (.ref v0), some (.int v1), some (.int v2), none] [] w =
    qz_ck w.1 v0 12 (qz_r0 (rn 75 0 [some (.ref v0)] [] w) (fun w1 => qz_gi w1.1 v0 12 16 (fun x2 => qz_pf w1 v0 12 23 (.int (nI 0)) (fun w3 => rn 83 14 [some (.ref v0), some (.int v1), some (.int v2), some (.int x2)] [] w3)))) :=
  (qz_blk qz_cd [14, 68, 113] 10 83 0 _ _ _).trans rfl
set_option maxRecDepth 100000 in
theorem e_M_takesSquares_14 (v0 : Nat) (v1 : Int32) (v2 : Int32) (v3 : Int32) (w : qz_W) : rn 83 14 [some (.ref v0), some (.int v1), some (.int v2), some (.int v3)] [] w =
    qz_gi w.1 v0 12 15 (fun x1 => (if x1 ≤ v3 then rn 83 113 [some (.ref v0), some (.int v1), some (.int v2), some (.int v3)] [] w else qz_ga w.1 v0 12 19 (fun q2 => qz_ba w.1 q2 v3 (fun x3 => (if x3 < (nI 97) then rn 83 113 [some (.ref v0), some (.int v1), some (.int v2), some (.int v3)] [] w else qz_ga w.1 v0 12 19 (fun q4 => qz_ba w.1 q4 v3 (fun x5 => (if (nI 122) < x5 then rn 83 113 [some (.ref v0), some (.int v1), some (.int v2), some (.int v3)] [] w else qz_ga w.1 v0 12 19 (fun q6 => qz_ba w.1 q6 v3 (fun x7 => (if x7 = (nI 115) then rn 83 68 [some (.ref v0), some (.int v1), some (.int v2), some (.int v3)] [] w else qz_ga w.1 v0 12 19 (fun q8 => qz_ba w.1 q8 v3 (fun x9 => (if x9 = (nI 116) then rn 83 68 [some (.ref v0), some (.int v1), some (.int v2), some (.int v3)] [] w else some (some (.int (nI 0)), w))))))))))))))) :=
  (qz_blk qz_cd [14, 68, 113] 32 83 14 _ _ _).trans rfl
set_option maxRecDepth 100000 in
theorem e_M_takesSquares_68 (v0 : Nat) (v1 : Int32) (v2 : Int32) (v3 : Int32) (w : qz_W) : rn 83 68 [some (.ref v0), some (.int v1), some (.int v2), some (.int v3)] [] w =
    qz_ga w.1 v0 12 19 (fun q1 => qz_ba w.1 q1 v3 (fun x2 => (if x2 = (nI 116) then qz_gi w.1 v0 12 16 (fun x3 => (if (nI 20) ≤ v3 - x3 then rn 83 14 [some (.ref v0), some (.int v1), some (.int v2), some (.int (v3 + (nI 1)))] [] w else qz_gi w.1 v0 12 23 (fun x4 => qz_gi w.1 v0 12 16 (fun x5 => qz_pf w v0 12 23 (.int (x4 ||| ((nI 1) <<< ((v3 - x5) &&& 31)))) (fun w6 => rn 83 14 [some (.ref v0), some (.int v1), some (.int v2), some (.int (v3 + (nI 1)))] [] w6))))) else rn 83 14 [some (.ref v0), some (.int v1), some (.int v2), some (.int (v3 + (nI 1)))] [] w))) :=
  (qz_blk qz_cd [14, 68, 113] 27 83 68 _ _ _).trans rfl
set_option maxRecDepth 100000 in
theorem e_M_takesSquares_113 (v0 : Nat) (v1 : Int32) (v2 : Int32) (v3 : Int32) (w : qz_W) : rn 83 113 [some (.ref v0), some (.int v1), some (.int v2), some (.int v3)] [] w =
    qz_gi w.1 v0 12 16 (fun x1 => qz_pf w v0 12 22 (.int (v3 - x1)) (fun w2 => qz_gi w2.1 v0 12 22 (fun x3 => qz_r1 (rn 72 0 [some (.int x3), some (.int v1), some (.int v2)] [] w2) (fun x5 w4 => (if x5 = 0 then some (some (.int (nI 0)), w4) else qz_pf w4 v0 12 16 (.int v3) (fun w6 => some (some (.int (nI 1)), w6))))))) :=
  (qz_blk qz_cd [14, 68, 113] 19 83 113 _ _ _).trans rfl
set_option maxRecDepth 100000 in
theorem e_M_at_0 (v0 : Int32) (v1 : Int32) (v2 : Int32) (w : qz_W) : rn 84 0 [some (.int v0), some (.int v1), some (.int v2)] [] w =
    some (some (.int ((((nI 400) * v0) + ((nI 20) * v2)) + v1)), w) :=
  (qz_blk qz_cd [] 12 84 0 _ _ _).trans rfl
set_option maxRecDepth 100000 in
theorem e_M_row_0 (v0 : Nat) (w : qz_W) : rn 85 0 [some (.ref v0), none, none] [] w =
    qz_ck w.1 v0 12 (qz_r1 (rn 81 0 [some (.ref v0), some (.int (nI 6))] [] w) (fun x2 w1 => qz_ck w1.1 v0 12 (qz_r1 (rn 78 0 [some (.ref v0), some (.int (nI 0)), some (.int (x2 - (nI 1))), none] [] w1) (fun x4 w3 => (if x4 = 0 then some (some (.int (nI 0)), w3) else qz_gi w3.1 v0 12 21 (fun x5 => qz_ck w3.1 v0 12 (qz_r1 (rn 82 0 [some (.ref v0), some (.int (nI 6))] [] w3) (fun x7 w6 => qz_ck w6.1 v0 12 (qz_r1 (rn 83 0 [some (.ref v0), some (.int (nI 1)), some (.int x7), none] [] w6) (fun x9 w8 => (if x9 = 0 then some (some (.int (nI 0)), w8) else rn 85 41 [some (.ref v0), some (.int x5), some (.int (nI 0))] [] w8))))))))))) :=
  (qz_blk qz_cd [41] 23 85 0 _ _ _).trans rfl
set_option maxRecDepth 100000 in
theorem e_M_row_41 (v0 : Nat) (v1 : Int32) (v2 : Int32) (w : qz_W) : rn 85 41 [some (.ref v0), some (.int v1), some (.int v2)] [] w =
    qz_gi w.1 v0 12 22 (fun x1 => (if x1 ≤ v2 then some (some (.int (nI 1)), w) else qz_ga w.1 v0 12 4 (fun q2 => qz_r1 (rn 84 0 [some (.int (nI 6)), some (.int v2), some (.int v1)] [] w) (fun x4 w3 => qz_gi w3.1 v0 12 23 (fun x5 => qz_is w3 q2 x4 ((x5 >>> (v2 &&& 31)) &&& (nI 1)) (fun w6 => rn 85 41 [some (.ref v0), some (.int v1), some (.int (v2 + (nI 1)))] [] w6)))))) :=
  (qz_blk qz_cd [41] 21 85 41 _ _ _).trans rfl
set_option maxRecDepth 100000 in
theorem e_M_isBridgeWord_0 (v0 : Int64) (w : qz_W) : rn 86 0 [some (.long v0), none] [] w =
    (if lg_cmp v0 (lN 8319400174365927540) = 0 then some (some (.int (nI 1)), w) else (if lg_cmp v0 (lN 422826697060) = 0 then some (some (.int (nI 1)), w) else (if lg_cmp v0 (lN 109330312357234) = 0 then some (some (.int (nI 1)), w) else (if lg_cmp v0 (lN 1953459300) = 0 then some (some (.int (nI 1)), w) else (if lg_cmp v0 (lN 114801865155950) = 0 then some (some (.int (nI 1)), w) else some (some (.int (nI 0)), w)))))) :=
  (qz_blk qz_cd [] 25 86 0 _ _ _).trans rfl
set_option maxRecDepth 100000 in
theorem e_M_sideOf_0 (v0 : Int64) (w : qz_W) : rn 87 0 [some (.long v0), none] [] w =
    (if lg_cmp v0 (lN 474316174440) = 0 then some (some (.int (nI 0)), w) else (if lg_cmp v0 (lN 1700885364) = 0 then some (some (.int (nI 1)), w) else (if lg_cmp v0 (lN 495791207528) = 0 then some (some (.int (nI 2)), w) else (if lg_cmp v0 (lN 2003137396) = 0 then some (some (.int (nI 3)), w) else some (some (.int (-1)), w))))) :=
  (qz_blk qz_cd [] 21 87 0 _ _ _).trans rfl
set_option maxRecDepth 100000 in
theorem e_M_isKept_0 (v0 : Int64) (w : qz_W) : rn 88 0 [some (.long v0), none] [] w =
    (if lg_cmp v0 (lN 482854663269) = 0 then some (some (.int (nI 1)), w) else (if lg_cmp v0 (lN 7499639) = 0 then some (some (.int (nI 1)), w) else (if lg_cmp v0 (lN 495672455269) = 0 then some (some (.int (nI 1)), w) else (if lg_cmp v0 (lN 7370100) = 0 then some (some (.int (nI 1)), w) else (if lg_cmp v0 (lN 128047779833188) = 0 then some (some (.int (nI 1)), w) else (if lg_cmp v0 (lN 1752132708) = 0 then some (some (.int (nI 1)), w) else (if lg_cmp v0 (lN 512970880104) = 0 then some (some (.int (nI 1)), w) else (if lg_cmp v0 (lN 29807) = 0 then some (some (.int (nI 1)), w) else (if lg_cmp v0 (lN 422827094888) = 0 then some (some (.int (nI 1)), w) else (if lg_cmp v0 (lN 2003132786) = 0 then some (some (.int (nI 1)), w) else (if lg_cmp v0 (lN 108243533981541) = 0 then some (some (.int (nI 1)), w) else qz_r1 (rn 86 0 [some (.long v0), none] [] w) (fun x2 w1 => (if x2 = 0 then qz_r1 (rn 87 0 [some (.long v0), none] [] w1) (fun x4 w3 => (if x4 = (-1) then some (some (.int (nI 0)), w3) else some (some (.int (nI 1)), w3))) else some (some (.int (nI 1)), w1)))))))))))))) :=
  (qz_blk qz_cd [] 56 88 0 _ _ _).trans rfl
set_option maxRecDepth 100000 in
theorem e_M_named_0 (v0 : Nat) (v1 : Int64) (w : qz_W) : rn 89 0 [some (.ref v0), some (.long v1), none, none] [] w =
    rn 89 2 [some (.ref v0), some (.long v1), none, some (.int (nI 0))] [] w :=
  (qz_blk qz_cd [2] 4 89 0 _ _ _).trans rfl
set_option maxRecDepth 100000 in
theorem e_M_named_2 (v0 : Nat) (v1 : Int64) (v3 : Int32) (w : qz_W) : rn 89 2 [some (.ref v0), some (.long v1), none, some (.int v3)] [] w =
    qz_ck w.1 v0 12 (qz_r1 (rn 80 0 [some (.ref v0), some (.int (nI 3))] [] w) (fun x2 w1 => (if x2 ≤ v3 then some (some (.int (-1)), w1) else qz_ga w1.1 v0 12 13 (fun q3 => qz_ja w1.1 q3 ((nI 48) + v3) (fun x4 => (if lg_cmp x4 v1 = 0 then some (some (.int ((nI 48) + v3)), w1) else rn 89 2 [some (.ref v0), some (.long v1), none, some (.int (v3 + (nI 1)))] [] w1)))))) :=
  (qz_blk qz_cd [2] 20 89 2 _ _ _).trans rfl
set_option maxRecDepth 100000 in
theorem e_M_shape_0 (v0 : Nat) (w : qz_W) : rn 90 0 [some (.ref v0), none, none, none] [] w =
    qz_ck w.1 v0 12 (qz_r1 (rn 80 0 [some (.ref v0), some (.int (nI 3))] [] w) (fun x2 w1 => qz_ck w1.1 v0 12 (qz_r2 (rn 76 0 [some (.ref v0), none, none] [] w1) (fun x4 w3 => (if lg_cmp x4 (lN 0) = 0 then some (some (.int (nI 0)), w3) else qz_r1 (rn 88 0 [some (.long x4), none] [] w3) (fun x6 w5 => (if x6 = 0 then qz_ck w5.1 v0 12 (qz_r1 (rn 89 0 [some (.ref v0), some (.long x4), none, none] [] w5) (fun x8 w7 => (if x8 = (-1) then qz_ck w7.1 v0 12 (qz_r1 (rn 80 0 [some (.ref v0), some (.int (nI 3))] [] w7) (fun x10 w9 => (if x10 = (nI 8) then some (some (.int (nI 0)), w9) else qz_gi w9.1 v0 12 20 (fun x11 => qz_pf w9 v0 12 16 (.int x11) (fun w12 => qz_ck w12.1 v0 12 (qz_r1 (rn 83 0 [some (.ref v0), some (.int (nI 1)), some (.int (nI 8)), none] [] w12) (fun x14 w13 => (if x14 = 0 then some (some (.int (nI 0)), w13) else qz_ga w13.1 v0 12 13 (fun q15 => qz_js w13 q15 ((nI 48) + x2) x4 (fun w16 => qz_ga w16.1 v0 12 7 (fun q17 => qz_gi w16.1 v0 12 22 (fun x18 => qz_is w16 q17 ((nI 48) + x2) x18 (fun w19 => qz_ga w19.1 v0 12 9 (fun q20 => qz_gi w19.1 v0 12 23 (fun x21 => qz_is w19 q20 ((nI 8) * ((nI 48) + x2)) x21 (fun w22 => qz_ga w22.1 v0 12 8 (fun q23 => qz_is w22 q23 ((nI 48) + x2) (nI 1) (fun w24 => qz_ck w24.1 v0 12 (qz_r0 (rn 75 0 [some (.ref v0)] [] w24) (fun w25 => rn 90 109 [some (.ref v0), some (.int ((nI 48) + x2)), none, none] [] w25)))))))))))))))))))) else some (some (.int (nI 0)), w7)))) else some (some (.int (nI 0)), w5)))))))) :=
  (qz_blk qz_cd [109] 63 90 0 _ _ _).trans rfl
set_option maxRecDepth 100000 in
theorem e_M_shape_109 (v0 : Nat) (v1 : Int32) (w : qz_W) : rn 90 109 [some (.ref v0), some (.int v1), none, none] [] w =
    qz_gi w.1 v0 12 16 (fun x1 => qz_gi w.1 v0 12 15 (fun x2 => (if x2 ≤ x1 then qz_ck w.1 v0 12 (qz_r1 (rn 80 0 [some (.ref v0), some (.int (nI 3))] [] w) (fun x4 w3 => qz_ck w3.1 v0 12 (qz_r0 (rn 74 0 [some (.ref v0), some (.int (nI 3)), some (.int (x4 + (nI 1)))] [] w3) (fun w5 => some (some (.int (nI 1)), w5))))) else qz_ga w.1 v0 12 19 (fun q6 => qz_gi w.1 v0 12 16 (fun x7 => qz_ba w.1 q6 x7 (fun x8 => (if x8 = (nI 59) then qz_ck w.1 v0 12 (qz_r1 (rn 80 0 [some (.ref v0), some (.int (nI 3))] [] w) (fun x10 w9 => qz_ck w9.1 v0 12 (qz_r0 (rn 74 0 [some (.ref v0), some (.int (nI 3)), some (.int (x10 + (nI 1)))] [] w9) (fun w11 => some (some (.int (nI 1)), w11))))) else qz_ga w.1 v0 12 8 (fun q12 => qz_ia w.1 q12 v1 (fun x13 => (if x13 = (nI 8) then some (some (.int (nI 0)), w) else qz_ga w.1 v0 12 7 (fun q14 => qz_ia w.1 q14 v1 (fun x15 => qz_ga w.1 v0 12 7 (fun q16 => qz_ia w.1 q16 v1 (fun x17 => qz_ck w.1 v0 12 (qz_r1 (rn 83 0 [some (.ref v0), some (.int x15), some (.int x17), none] [] w) (fun x19 w18 => (if x19 = 0 then some (some (.int (nI 0)), w18) else qz_ga w18.1 v0 12 9 (fun q20 => qz_ga w18.1 v0 12 8 (fun q21 => qz_ia w18.1 q21 v1 (fun x22 => qz_gi w18.1 v0 12 23 (fun x23 => qz_is w18 q20 (((nI 8) * v1) + x22) x23 (fun w24 => qz_ga w24.1 v0 12 8 (fun q25 => qz_ia w24.1 q25 v1 (fun x26 => qz_is w24 q25 v1 (x26 + (nI 1)) (fun w27 => qz_ck w27.1 v0 12 (qz_r0 (rn 75 0 [some (.ref v0)] [] w27) (fun w28 => rn 90 109 [some (.ref v0), some (.int v1), none, none] [] w28))))))))))))))))))))))))))) :=
  (qz_blk qz_cd [109] 55 90 109 _ _ _).trans rfl
set_option maxRecDepth 100000 in
theorem e_M_takesPlace_0 (v0 : Nat) (v1 : Int32) (v2 : Int32) (w : qz_W) : rn 91 0 [some (.ref v0), some (.int v1), some (.int v2)] [] w =
    qz_ck w.1 v0 12 (qz_r1 (rn 82 0 [some (.ref v0), some (.int (nI 6))] [] w) (fun x2 w1 => qz_ck w1.1 v0 12 (qz_r1 (rn 78 0 [some (.ref v0), some (.int v1), some (.int (x2 - (nI 1))), none] [] w1) (fun x4 w3 => (if x4 = 0 then some (some (.int (nI 0)), w3) else qz_gi w3.1 v0 12 21 (fun x5 => qz_pf w3 v0 12 25 (.int x5) (fun w6 => qz_ck w6.1 v0 12 (qz_r1 (rn 81 0 [some (.ref v0), some (.int (nI 6))] [] w6) (fun x8 w7 => qz_ck w7.1 v0 12 (qz_r1 (rn 78 0 [some (.ref v0), some (.int v2), some (.int (x8 - (nI 1))), none] [] w7) (fun x10 w9 => (if x10 = 0 then some (some (.int (nI 0)), w9) else qz_gi w9.1 v0 12 21 (fun x11 => qz_pf w9 v0 12 26 (.int x11) (fun w12 => some (some (.int (nI 1)), w12))))))))))))))) :=
  (qz_blk qz_cd [] 30 91 0 _ _ _).trans rfl
set_option maxRecDepth 100000 in
theorem e_M_has_0 (v0 : Int32) (v1 : Int32) (w : qz_W) : rn 92 0 [some (.int v0), some (.int v1)] [] w =
    (if (v0 >>> (v1 &&& 31)) &&& (nI 1) = (nI 1) then some (some (.int (nI 1)), w) else some (some (.int (nI 0)), w)) :=
  (qz_blk qz_cd [] 12 92 0 _ _ _).trans rfl
set_option maxRecDepth 100000 in
theorem e_M_turned_0 (v0 : Int32) (v1 : Int32) (v2 : Int32) (v3 : Int32) (v4 : Int32) (v5 : Int32) (w : qz_W) : rn 93 0 [some (.int v0), some (.int v1), some (.int v2), some (.int v3), some (.int v4), some (.int v5), none, none, none, none, none, none, none] [] w =
    rn 93 15 [none, none, none, none, some (.int v4), some (.int v5), some (.int v0), some (.int v1), some (.int v2), some (.int v3), some (.int (nI 0)), none, none] [] w :=
  (qz_blk qz_cd [15] 12 93 0 _ _ _).trans rfl
set_option maxRecDepth 100000 in
theorem e_M_turned_15 (v4 : Int32) (v5 : Int32) (v6 : Int32) (v7 : Int32) (v8 : Int32) (v9 : Int32) (v10 : Int32) (w : qz_W) : rn 93 15 [none, none, none, none, some (.int v4), some (.int v5), some (.int v6), some (.int v7), some (.int v8), some (.int v9), some (.int v10), none, none] [] w =
    (if v4 ≤ v10 then (if v5 = 0 then some (some (.int v6), w) else some (some (.int v7), w)) else rn 93 15 [none, none, none, none, some (.int v4), some (.int v5), some (.int ((v9 - (nI 1)) - v7)), some (.int v6), some (.int v9), some (.int v8), some (.int (v10 + (nI 1))), none, none] [] w) :=
  (qz_blk qz_cd [15] 23 93 15 _ _ _).trans rfl
set_option maxRecDepth 100000 in
theorem e_M_isWithin_0 (v0 : Nat) (v1 : Int32) (v2 : Int32) (v3 : Int32) (w : qz_W) : rn 94 0 [some (.ref v0), some (.int v1), some (.int v2), some (.int v3)] [] w =
    qz_ck w.1 v0 12 (qz_r1 (rn 82 0 [some (.ref v0), some (.int v1)] [] w) (fun x2 w1 => qz_r1 (rn 72 0 [some (.int v2), some (.int (nI 0)), some (.int (x2 - (nI 1)))] [] w1) (fun x4 w3 => (if x4 = 0 then some (some (.int (nI 0)), w3) else qz_ck w3.1 v0 12 (qz_r1 (rn 81 0 [some (.ref v0), some (.int v1)] [] w3) (fun x6 w5 => qz_r1 (rn 72 0 [some (.int v3), some (.int (nI 0)), some (.int (x6 - (nI 1)))] [] w5) (fun x8 w7 => (if x8 = 0 then some (some (.int (nI 0)), w7) else some (some (.int (nI 1)), w7))))))))) :=
  (qz_blk qz_cd [] 23 94 0 _ _ _).trans rfl
set_option maxRecDepth 100000 in
theorem e_M_put_0 (v0 : Nat) (w : qz_W) : rn 95 0 [some (.ref v0), none, none, none, none, none, none, none, none] [] w =
    qz_ck w.1 v0 12 (qz_r2 (rn 76 0 [some (.ref v0), none, none] [] w) (fun x2 w1 => (if lg_cmp x2 (lN 0) = 0 then (if (-1) = (-1) then some (some (.int (nI 0)), w1) else qz_gi w1.1 v0 12 20 (fun x14 => qz_pf w1 v0 12 16 (.int x14) (fun w15 => qz_ck w15.1 v0 12 (qz_r1 (rn 91 0 [some (.ref v0), some (.int (nI 0)), some (.int (nI 0))] [] w15) (fun x17 w16 => (if x17 = 0 then some (some (.int (nI 0)), w16) else qz_ck w16.1 v0 12 (qz_r1 (rn 77 0 [some (.ref v0), some (.long (lN 128047779833188)), none] [] w16) (fun x19 w18 => (if x19 = 0 then rn 95 80 [some (.ref v0), none, none, some (.int (-1)), some (.int (nI 0)), some (.int (nI 0)), none, none, none] [] w18 else qz_ck w18.1 v0 12 (qz_r1 (rn 78 0 [some (.ref v0), some (.int (nI 0)), some (.int (nI 3)), none] [] w18) (fun x21 w20 => (if x21 = 0 then some (some (.int (nI 0)), w20) else qz_gi w20.1 v0 12 21 (fun x22 => rn 95 80 [some (.ref v0), none, none, some (.int (-1)), some (.int x22), some (.int (nI 0)), none, none, none] [] w20))))))))))))) else qz_ck w1.1 v0 12 (qz_r1 (rn 89 0 [some (.ref v0), some (.long x2), none, none] [] w1) (fun x4 w3 => (if x4 = (-1) then some (some (.int (nI 0)), w3) else qz_gi w3.1 v0 12 20 (fun x5 => qz_pf w3 v0 12 16 (.int x5) (fun w6 => qz_ck w6.1 v0 12 (qz_r1 (rn 91 0 [some (.ref v0), some (.int (nI 0)), some (.int (nI 0))] [] w6) (fun x8 w7 => (if x8 = 0 then some (some (.int (nI 0)), w7) else qz_ck w7.1 v0 12 (qz_r1 (rn 77 0 [some (.ref v0), some (.long (lN 128047779833188)), none] [] w7) (fun x10 w9 => (if x10 = 0 then rn 95 80 [some (.ref v0), none, none, some (.int x4), some (.int (nI 0)), some (.int (nI 0)), none, none, none] [] w9 else qz_ck w9.1 v0 12 (qz_r1 (rn 78 0 [some (.ref v0), some (.int (nI 0)), some (.int (nI 3)), none] [] w9) (fun x12 w11 => (if x12 = 0 then some (some (.int (nI 0)), w11) else qz_gi w11.1 v0 12 21 (fun x13 => rn 95 80 [some (.ref v0), none, none, some (.int x4), some (.int x13), some (.int (nI 0)), none, none, none] [] w11)))))))))))))))))) :=
  (qz_blk qz_cd [80, 94] 41 95 0 _ _ _).trans rfl
set_option maxRecDepth 100000 in
theorem e_M_put_80 (v0 : Nat) (v3 : Int32) (v4 : Int32) (v5 : Int32) (w : qz_W) : rn 95 80 [some (.ref v0), none, none, some (.int v3), some (.int v4), some (.int v5), none, none, none] [] w =
    qz_ga w.1 v0 12 8 (fun q1 => qz_ia w.1 q1 v3 (fun x2 => (if x2 ≤ v5 then some (some (.int (nI 1)), w) else rn 95 94 [some (.ref v0), none, none, some (.int v3), some (.int v4), some (.int v5), some (.int (nI 0)), none, none] [] w))) :=
  (qz_blk qz_cd [80, 94] 10 95 80 _ _ _).trans rfl
set_option maxRecDepth 100000 in
theorem e_M_put_94 (v0 : Nat) (v3 : Int32) (v4 : Int32) (v5 : Int32) (v6 : Int32) (w : qz_W) : rn 95 94 [some (.ref v0), none, none, some (.int v3), some (.int v4), some (.int v5), some (.int v6), none, none] [] w =
    qz_ga w.1 v0 12 7 (fun q1 => qz_ia w.1 q1 v3 (fun x2 => (if x2 ≤ v6 then rn 95 80 [some (.ref v0), none, none, some (.int v3), some (.int v4), some (.int (v5 + (nI 1))), none, none, none] [] w else qz_ga w.1 v0 12 9 (fun q3 => qz_ia w.1 q3 (((nI 8) * v3) + v5) (fun x4 => qz_r1 (rn 92 0 [some (.int x4), some (.int v6)] [] w) (fun x6 w5 => (if x6 = 0 then rn 95 94 [some (.ref v0), none, none, some (.int v3), some (.int v4), some (.int v5), some (.int (v6 + (nI 1))), none, none] [] w5 else qz_ga w5.1 v0 12 7 (fun q7 => qz_ia w5.1 q7 v3 (fun x8 => qz_ga w5.1 v0 12 8 (fun q9 => qz_ia w5.1 q9 v3 (fun x10 => qz_r1 (rn 93 0 [some (.int v6), some (.int v5), some (.int x8), some (.int x10), some (.int v4), some (.int (nI 0)), none, none, none, none, none, none, none] [] w5) (fun x12 w11 => qz_gi w11.1 v0 12 25 (fun x13 => qz_ga w11.1 v0 12 7 (fun q14 => qz_ia w11.1 q14 v3 (fun x15 => qz_ga w11.1 v0 12 8 (fun q16 => qz_ia w11.1 q16 v3 (fun x17 => qz_r1 (rn 93 0 [some (.int v6), some (.int v5), some (.int x15), some (.int x17), some (.int v4), some (.int (nI 1)), none, none, none, none, none, none, none] [] w11) (fun x19 w18 => qz_gi w18.1 v0 12 26 (fun x20 => qz_ck w18.1 v0 12 (qz_r1 (rn 94 0 [some (.ref v0), some (.int (nI 6)), some (.int (x12 + x13)), some (.int (x19 + x20))] [] w18) (fun x22 w21 => (if x22 = 0 then rn 95 94 [some (.ref v0), none, none, some (.int v3), some (.int v4), some (.int v5), some (.int (v6 + (nI 1))), none, none] [] w21 else qz_ga w21.1 v0 12 4 (fun q23 => qz_r1 (rn 84 0 [some (.int (nI 6)), some (.int (x12 + x13)), some (.int (x19 + x20))] [] w21) (fun x25 w24 => qz_is w24 q23 x25 (nI 1) (fun w26 => rn 95 94 [some (.ref v0), none, none, some (.int v3), some (.int v4), some (.int v5), some (.int (v6 + (nI 1))), none, none] [] w26))))))))))))))))))))))))) :=
  (qz_blk qz_cd [80, 94] 69 95 94 _ _ _).trans rfl
set_option maxRecDepth 100000 in
theorem e_M_takesSide_0 (v0 : Nat) (w : qz_W) : rn 96 0 [some (.ref v0)] [] w =
    qz_ck w.1 v0 12 (qz_r2 (rn 76 0 [some (.ref v0), none, none] [] w) (fun x2 w1 => qz_r1 (rn 87 0 [some (.long x2), none] [] w1) (fun x4 w3 => qz_pf w3 v0 12 24 (.int x4) (fun w5 => qz_gi w5.1 v0 12 24 (fun x6 => (if x6 = (-1) then some (some (.int (nI 0)), w5) else qz_gi w5.1 v0 12 20 (fun x7 => qz_pf w5 v0 12 16 (.int x7) (fun w8 => some (some (.int (nI 1)), w8))))))))) :=
  (qz_blk qz_cd [] 17 96 0 _ _ _).trans rfl
set_option maxRecDepth 100000 in
theorem e_M_hold_0 (v0 : Nat) (w : qz_W) : rn 97 0 [some (.ref v0), none] [] w =
    rn 97 2 [some (.ref v0), some (.int (nI 0))] [] w :=
  (qz_blk qz_cd [2] 4 97 0 _ _ _).trans rfl
set_option maxRecDepth 100000 in
theorem e_M_hold_2 (v0 : Nat) (v1 : Int32) (w : qz_W) : rn 97 2 [some (.ref v0), some (.int v1)] [] w =
    qz_ck w.1 v0 12 (qz_r1 (rn 96 0 [some (.ref v0)] [] w) (fun x2 w1 => (if x2 = 0 then some (some (.int (nI 0)), w1) else qz_gi w1.1 v0 12 24 (fun x3 => qz_ck w1.1 v0 12 (qz_r0 (rn 75 0 [some (.ref v0)] [] w1) (fun w4 => qz_gi w4.1 v0 12 16 (fun x5 => qz_gi w4.1 v0 12 15 (fun x6 => (if x6 ≤ x5 then qz_ck w4.1 v0 12 (qz_r0 (rn 74 0 [some (.ref v0), some (.int (nI 6)), some (.int (v1 ||| ((nI 1) <<< (x3 &&& 31))))] [] w4) (fun w7 => some (some (.int (nI 1)), w7))) else qz_ga w4.1 v0 12 19 (fun q8 => qz_gi w4.1 v0 12 16 (fun x9 => qz_ba w4.1 q8 x9 (fun x10 => (if x10 = (nI 59) then qz_ck w4.1 v0 12 (qz_r0 (rn 74 0 [some (.ref v0), some (.int (nI 6)), some (.int (v1 ||| ((nI 1) <<< (x3 &&& 31))))] [] w4) (fun w11 => some (some (.int (nI 1)), w11))) else rn 97 2 [some (.ref v0), some (.int (v1 ||| ((nI 1) <<< (x3 &&& 31))))] [] w4))))))))))))) :=
  (qz_blk qz_cd [2] 32 97 2 _ _ _).trans rfl
set_option maxRecDepth 100000 in
theorem e_M_worthTold_0 (v0 : Nat) (w : qz_W) : rn 98 0 [some (.ref v0), none, none, none, none] [] w =
    qz_ck w.1 v0 12 (qz_r1 (rn 91 0 [some (.ref v0), some (.int (nI 0)), some (.int (nI 0))] [] w) (fun x2 w1 => (if x2 = 0 then some (some (.int (nI 0)), w1) else qz_gi w1.1 v0 12 25 (fun x3 => qz_gi w1.1 v0 12 26 (fun x4 => qz_ck w1.1 v0 12 (qz_r1 (rn 77 0 [some (.ref v0), some (.long (lN 29807)), none] [] w1) (fun x6 w5 => (if x6 = 0 then some (some (.int (nI 0)), w5) else qz_ck w5.1 v0 12 (qz_r1 (rn 91 0 [some (.ref v0), some (.int x3), some (.int x4)] [] w5) (fun x8 w7 => (if x8 = 0 then some (some (.int (nI 0)), w7) else qz_ck w7.1 v0 12 (qz_r1 (rn 78 0 [some (.ref v0), some (.int (nI 0)), some (.int (nI 99)), none] [] w7) (fun x10 w9 => (if x10 = 0 then some (some (.int (nI 0)), w9) else rn 98 54 [some (.ref v0), some (.int x3), none, some (.int x4), none] [] w9)))))))))))))) :=
  (qz_blk qz_cd [54, 65] 29 98 0 _ _ _).trans rfl
set_option maxRecDepth 100000 in
theorem e_M_worthTold_54 (v0 : Nat) (v1 : Int32) (v3 : Int32) (w : qz_W) : rn 98 54 [some (.ref v0), some (.int v1), none, some (.int v3), none] [] w =
    qz_gi w.1 v0 12 26 (fun x1 => (if x1 < v3 then some (some (.int (nI 1)), w) else rn 98 65 [some (.ref v0), some (.int v1), none, some (.int v3), some (.int v1)] [] w)) :=
  (qz_blk qz_cd [54, 65] 8 98 54 _ _ _).trans rfl
set_option maxRecDepth 100000 in
theorem e_M_worthTold_65 (v0 : Nat) (v1 : Int32) (v3 : Int32) (v4 : Int32) (w : qz_W) : rn 98 65 [some (.ref v0), some (.int v1), none, some (.int v3), some (.int v4)] [] w =
    qz_gi w.1 v0 12 25 (fun x1 => (if x1 < v4 then rn 98 54 [some (.ref v0), some (.int v1), none, some (.int (v3 + (nI 1))), none] [] w else qz_ga w.1 v0 12 5 (fun q2 => qz_r1 (rn 84 0 [some (.int (nI 6)), some (.int v4), some (.int v3)] [] w) (fun x4 w3 => qz_gi w3.1 v0 12 21 (fun x5 => qz_is w3 q2 x4 x5 (fun w6 => rn 98 65 [some (.ref v0), some (.int v1), none, some (.int v3), some (.int (v4 + (nI 1)))] [] w6)))))) :=
  (qz_blk qz_cd [54, 65] 17 98 65 _ _ _).trans rfl
set_option maxRecDepth 100000 in
theorem e_M_numberTold_0 (v0 : Nat) (v1 : Int32) (v2 : Int32) (w : qz_W) : rn 99 0 [some (.ref v0), some (.int v1), some (.int v2)] [] w =
    qz_ck w.1 v0 12 (qz_r1 (rn 78 0 [some (.ref v0), some (.int (nI 0)), some (.int v2), none] [] w) (fun x2 w1 => (if x2 = 0 then some (some (.int (nI 0)), w1) else qz_gi w1.1 v0 12 21 (fun x3 => qz_ck w1.1 v0 12 (qz_r0 (rn 74 0 [some (.ref v0), some (.int v1), some (.int x3)] [] w1) (fun w4 => some (some (.int (nI 1)), w4))))))) :=
  (qz_blk qz_cd [] 14 99 0 _ _ _).trans rfl
set_option maxRecDepth 100000 in
theorem e_M_east_0 (v0 : Int32) (w : qz_W) : rn 100 0 [some (.int v0)] [] w =
    (if v0 = (nI 1) then some (some (.int (nI 1)), w) else (if v0 = (nI 3) then some (some (.int (-1)), w) else some (some (.int (nI 0)), w))) :=
  (qz_blk qz_cd [] 11 100 0 _ _ _).trans rfl
set_option maxRecDepth 100000 in
theorem e_M_south_0 (v0 : Int32) (w : qz_W) : rn 101 0 [some (.int v0)] [] w =
    (if v0 = (nI 2) then some (some (.int (nI 1)), w) else (if v0 = 0 then some (some (.int (-1)), w) else some (some (.int (nI 0)), w))) :=
  (qz_blk qz_cd [] 10 101 0 _ _ _).trans rfl
set_option maxRecDepth 100000 in
theorem e_M_lays_0 (v0 : Nat) (v1 : Int32) (v2 : Int32) (v3 : Int32) (v4 : Int32) (v5 : Int32) (v6 : Int32) (w : qz_W) : rn 102 0 [some (.ref v0), some (.int v1), some (.int v2), some (.int v3), some (.int v4), some (.int v5), some (.int v6), none] [] w =
    rn 102 4 [some (.ref v0), some (.int v1), some (.int v2), some (.int v3), some (.int v4), none, some (.int v6), some (.int v5)] [] w :=
  (qz_blk qz_cd [4] 4 102 0 _ _ _).trans rfl
set_option maxRecDepth 100000 in
theorem e_M_lays_4 (v0 : Nat) (v1 : Int32) (v2 : Int32) (v3 : Int32) (v4 : Int32) (v6 : Int32) (v7 : Int32) (w : qz_W) : rn 102 4 [some (.ref v0), some (.int v1), some (.int v2), some (.int v3), some (.int v4), none, some (.int v6), some (.int v7)] [] w =
    (if v6 < v7 then some (none, w) else qz_r1 (rn 100 0 [some (.int v4)] [] w) (fun x2 w1 => qz_pf w1 v0 12 27 (.int (v2 + (v7 * x2))) (fun w3 => qz_r1 (rn 101 0 [some (.int v4)] [] w3) (fun x5 w4 => qz_pf w4 v0 12 28 (.int (v3 + (v7 * x5))) (fun w6 => qz_gi w6.1 v0 12 27 (fun x7 => qz_gi w6.1 v0 12 28 (fun x8 => qz_ck w6.1 v0 12 (qz_r1 (rn 94 0 [some (.ref v0), some (.int (nI 6)), some (.int x7), some (.int x8)] [] w6) (fun x10 w9 => (if x10 = 0 then rn 102 4 [some (.ref v0), some (.int v1), some (.int v2), some (.int v3), some (.int v4), none, some (.int v6), some (.int (v7 + (nI 1)))] [] w9 else qz_ga w9.1 v0 12 6 (fun q11 => qz_gi w9.1 v0 12 27 (fun x12 => qz_gi w9.1 v0 12 28 (fun x13 => qz_r1 (rn 84 0 [some (.int (nI 6)), some (.int x12), some (.int x13)] [] w9) (fun x15 w14 => qz_ia w14.1 q11 x15 (fun x16 => qz_is w14 q11 x15 (x16 ||| ((nI 1) <<< (v1 &&& 31))) (fun w17 => rn 102 4 [some (.ref v0), some (.int v1), some (.int v2), some (.int v3), some (.int v4), none, some (.int v6), some (.int (v7 + (nI 1)))] [] w17)))))))))))))))) :=
  (qz_blk qz_cd [4] 46 102 4 _ _ _).trans rfl
set_option maxRecDepth 100000 in
theorem e_M_cornerTold_0 (v0 : Nat) (v1 : Int32) (w : qz_W) : rn 103 0 [some (.ref v0), some (.int v1), none, none] [] w =
    qz_ck w.1 v0 12 (qz_r1 (rn 91 0 [some (.ref v0), some (.int (nI 0)), some (.int (nI 0))] [] w) (fun x2 w1 => (if x2 = 0 then some (some (.int (nI 0)), w1) else qz_ck w1.1 v0 12 (qz_r1 (rn 96 0 [some (.ref v0)] [] w1) (fun x4 w3 => (if x4 = 0 then some (some (.int (nI 0)), w3) else qz_ck w3.1 v0 12 (qz_r1 (rn 78 0 [some (.ref v0), some (.int (nI 1)), some (.int (nI 20)), none] [] w3) (fun x6 w5 => (if x6 = 0 then some (some (.int (nI 0)), w5) else qz_gi w5.1 v0 12 25 (fun x7 => qz_gi w5.1 v0 12 26 (fun x8 => qz_gi w5.1 v0 12 24 (fun x9 => qz_gi w5.1 v0 12 21 (fun x10 => qz_ck w5.1 v0 12 (qz_r0 (rn 102 0 [some (.ref v0), some (.int v1), some (.int x7), some (.int x8), some (.int x9), some (.int (nI 0)), some (.int (x10 - (nI 1))), none] [] w5) (fun w11 => qz_gi w11.1 v0 12 27 (fun x12 => qz_gi w11.1 v0 12 28 (fun x13 => qz_ck w11.1 v0 12 (qz_r1 (rn 96 0 [some (.ref v0)] [] w11) (fun x15 w14 => (if x15 = 0 then some (some (.int (nI 0)), w14) else qz_ck w14.1 v0 12 (qz_r1 (rn 78 0 [some (.ref v0), some (.int (nI 1)), some (.int (nI 20)), none] [] w14) (fun x17 w16 => (if x17 = 0 then some (some (.int (nI 0)), w16) else qz_gi w16.1 v0 12 24 (fun x18 => qz_gi w16.1 v0 12 21 (fun x19 => qz_ck w16.1 v0 12 (qz_r0 (rn 102 0 [some (.ref v0), some (.int v1), some (.int x12), some (.int x13), some (.int x18), some (.int (nI 1)), some (.int x19), none] [] w16) (fun w20 => qz_ga w20.1 v0 12 12 (fun q21 => qz_is w20 q21 ((nI 72) + v1) (nI 80) (fun w22 => some (some (.int (nI 1)), w22)))))))))))))))))))))))))))))) :=
  (qz_blk qz_cd [] 62 103 0 _ _ _).trans rfl

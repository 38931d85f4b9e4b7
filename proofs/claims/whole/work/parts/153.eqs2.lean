set_option maxRecDepth 100000 in
theorem e_M_falls_0 (v0 : Nat) (v1 : Int32) (v2 : Int32) (v3 : Int32) (w : qz_W) : rn 160 0 [some (.ref v0), some (.int v1), some (.int v2), some (.int v3)] [] w =
    qz_ck w.1 v0 12 (qz_r1 (rn 120 0 [some (.ref v0), some (.int v1)] [] w) (fun x2 w1 => (if x2 = 0 then some (some (.int (-1)), w1) else qz_ck w1.1 v0 12 (qz_r1 (rn 121 0 [some (.ref v0), some (.int v1)] [] w1) (fun x4 w3 => qz_ck w3.1 v0 12 (qz_r0 (rn 149 0 [some (.ref v0), some (.int v1), some (.int x4)] [] w3) (fun w5 => (if v2 = (-1) then (if v3 = 0 then qz_gi w5.1 v0 12 36 (fun x20 => some (some (.int x20), w5)) else some (some (.int (-1)), w5)) else qz_gi w5.1 v0 12 36 (fun x6 => qz_r1 (rn 72 0 [some (.int v2), some (.int (nI 0)), some (.int (x6 - (nI 1)))] [] w5) (fun x8 w7 => (if x8 = 0 then some (some (.int (-1)), w7) else qz_r1 (rn 72 0 [some (.int v3), some (.int (nI 0)), some (.int (nI 3))] [] w7) (fun x10 w9 => (if x10 = 0 then some (some (.int (-1)), w9) else qz_pf w9 v0 12 38 (.int v1) (fun w11 => (if v3 = 0 then qz_ga w11.1 v0 12 34 (fun q18 => qz_ia w11.1 q18 v2 (fun x19 => some (some (.int x19), w11))) else (if v3 = (nI 1) then qz_ga w11.1 v0 12 33 (fun q16 => qz_ia w11.1 q16 v2 (fun x17 => if (nI 20) = 0 then none else (some (some (.int (x17 - x17 / (nI 20) * (nI 20))), w11)))) else (if v3 = (nI 2) then qz_ga w11.1 v0 12 33 (fun q14 => qz_ia w11.1 q14 v2 (fun x15 => if (nI 20) = 0 then none else (some (some (.int (x15 / (nI 20))), w11)))) else qz_ck w11.1 v0 12 (qz_r1 (rn 159 0 [some (.ref v0), some (.int v2), none, none, none, none] [] w11) (fun x13 w12 => some (some (.int x13), w12)))))))))))))))))))) :=
  (qz_blk qz_cd [] 47 160 0 _ _ _).trans rfl
set_option maxRecDepth 100000 in
theorem e_Hanging_tonguesAbove_0 (v0 : Nat) (v1 : Int32) (v2 : Int32) (w : qz_W) : rn 161 0 [some (.ref v0), some (.int v1), some (.int v2), none, none] [] w =
    rn 161 5 [some (.ref v0), some (.int v1), some (.int v2), some (.int (nI 0)), some (.int (nI 0))] [] w :=
  (qz_blk qz_cd [5] 6 161 0 _ _ _).trans rfl
set_option maxRecDepth 100000 in
theorem e_Hanging_tonguesAbove_5 (v0 : Nat) (v1 : Int32) (v2 : Int32) (v3 : Int32) (v4 : Int32) (w : qz_W) : rn 161 5 [some (.ref v0), some (.int v1), some (.int v2), some (.int v3), some (.int v4)] [] w =
    (if (nI 400) ≤ v4 then some (some (.int v3), w) else (if v4 = v2 then rn 161 5 [some (.ref v0), some (.int v1), some (.int v2), some (.int v3), some (.int (v4 + (nI 1)))] [] w else qz_ga w.1 v0 3 3 (fun q1 => qz_ia w.1 q1 v4 (fun x2 => (if x2 ≤ v1 then rn 161 5 [some (.ref v0), some (.int v1), some (.int v2), some (.int v3), some (.int (v4 + (nI 1)))] [] w else rn 161 5 [some (.ref v0), some (.int v1), some (.int v2), some (.int (v3 + (nI 1))), some (.int (v4 + (nI 1)))] [] w))))) :=
  (qz_blk qz_cd [5] 17 161 5 _ _ _).trans rfl
set_option maxRecDepth 100000 in
theorem e_Math_max_0 (v0 : Int32) (v1 : Int32) (w : qz_W) : rn 162 0 [some (.int v0), some (.int v1)] [] w =
    (if v0 < v1 then some (some (.int v1), w) else some (some (.int v0), w)) :=
  (qz_blk qz_cd [] 8 162 0 _ _ _).trans rfl
set_option maxRecDepth 100000 in
theorem e_Hanging_greatestTongue_0 (v0 : Nat) (v1 : Int32) (w : qz_W) : rn 163 0 [some (.ref v0), some (.int v1), none, none] [] w =
    rn 163 4 [some (.ref v0), some (.int v1), some (.int (nI 0)), some (.int (nI 0))] [] w :=
  (qz_blk qz_cd [4] 6 163 0 _ _ _).trans rfl
set_option maxRecDepth 100000 in
theorem e_Hanging_greatestTongue_4 (v0 : Nat) (v1 : Int32) (v2 : Int32) (v3 : Int32) (w : qz_W) : rn 163 4 [some (.ref v0), some (.int v1), some (.int v2), some (.int v3)] [] w =
    (if (nI 400) ≤ v3 then some (some (.int v2), w) else (if v3 = v1 then rn 163 4 [some (.ref v0), some (.int v1), some (.int v2), some (.int (v3 + (nI 1)))] [] w else qz_ga w.1 v0 3 3 (fun q1 => qz_ia w.1 q1 v3 (fun x2 => qz_r1 (rn 162 0 [some (.int v2), some (.int x2)] [] w) (fun x4 w3 => rn 163 4 [some (.ref v0), some (.int v1), some (.int x4), some (.int (v3 + (nI 1)))] [] w3))))) :=
  (qz_blk qz_cd [4] 17 163 4 _ _ _).trans rfl
set_option maxRecDepth 100000 in
theorem e_C_tongues_0 (v0 : Nat) (v1 : Int32) (v2 : Int32) (w : qz_W) : rn 164 0 [some (.ref v0), some (.int v1), some (.int v2), none] [] w =
    qz_ck w.1 v0 11 (qz_r3 (rn 115 0 [some (.ref v0), some (.int v1)] [] w) (fun w1 => some (some (.int (-1)), w1)) (fun q2 w1 => (if v2 < 0 then some (some (.int (-1)), w1) else (if v2 ≤ (nI 2) then qz_ck w1.1 v0 11 (qz_r0 (rn 140 0 [some (.ref v0), some (.ref q2), none] [] w1) (fun w3 => (if v2 = 0 then qz_ga w3.1 v0 11 9 (fun q11 => qz_ck w3.1 q11 3 (qz_r1 (rn 161 0 [some (.ref q11), some (.int (nI 0)), some (.int (-1)), none, none] [] w3) (fun x13 w12 => some (some (.int x13), w12)))) else (if v2 = (nI 1) then qz_ga w3.1 v0 11 9 (fun q8 => qz_ck w3.1 q8 3 (qz_r1 (rn 163 0 [some (.ref q8), some (.int (-1)), none, none] [] w3) (fun x10 w9 => some (some (.int x10), w9)))) else qz_ga w3.1 v0 11 9 (fun q4 => qz_gi w3.1 q2 8 5 (fun x5 => qz_ck w3.1 q4 3 (qz_r1 (rn 161 0 [some (.ref q4), some (.int x5), some (.int (-1)), none, none] [] w3) (fun x7 w6 => some (some (.int x7), w6))))))))) else some (some (.int (-1)), w1))))) :=
  (qz_blk qz_cd [] 28 164 0 _ _ _).trans rfl
set_option maxRecDepth 100000 in
theorem e_M_necks_0 (v0 : Nat) (v1 : Int32) (v2 : Int32) (v3 : Int32) (w : qz_W) : rn 165 0 [some (.ref v0), some (.int v1), some (.int v2), some (.int v3), none, none, none] [] w =
    qz_ck w.1 v0 12 (qz_r1 (rn 146 0 [some (.ref v0), some (.int v1), some (.int v2), some (.int (-1)), none, none] [] w) (fun x2 w1 => rn 165 12 [some (.ref v0), some (.int v1), some (.int v2), some (.int v3), some (.int x2), some (.int (nI 0)), none] [] w1)) :=
  (qz_blk qz_cd [12, 58] 10 165 0 _ _ _).trans rfl
set_option maxRecDepth 100000 in
theorem e_M_necks_12 (v0 : Nat) (v1 : Int32) (v2 : Int32) (v3 : Int32) (v4 : Int32) (v5 : Int32) (w : qz_W) : rn 165 12 [some (.ref v0), some (.int v1), some (.int v2), some (.int v3), some (.int v4), some (.int v5), none] [] w =
    (if (nI 400) ≤ v5 then qz_pf w v0 12 39 (.int (nI 0)) (fun w1 => qz_pf w1 v0 12 40 (.int (nI 0)) (fun w2 => qz_pf w2 v0 12 41 (.int (nI 0)) (fun w3 => rn 165 58 [some (.ref v0), some (.int v1), some (.int v2), some (.int v3), some (.int v4), some (.int (nI 0)), none] [] w3))) else qz_ga w.1 v0 12 35 (fun q4 => qz_ga w.1 v0 12 30 (fun q5 => qz_ia w.1 q5 v5 (fun x6 => qz_is w q4 v5 x6 (fun w7 => rn 165 12 [some (.ref v0), some (.int v1), some (.int v2), some (.int v3), some (.int v4), some (.int (v5 + (nI 1))), none] [] w7))))) :=
  (qz_blk qz_cd [12, 58] 16 165 12 _ _ _).trans rfl
set_option maxRecDepth 100000 in
theorem e_M_necks_58 (v0 : Nat) (v1 : Int32) (v2 : Int32) (v3 : Int32) (v4 : Int32) (v5 : Int32) (w : qz_W) : rn 165 58 [some (.ref v0), some (.int v1), some (.int v2), some (.int v3), some (.int v4), some (.int v5), none] [] w =
    (if (nI 400) ≤ v5 then some (none, w) else qz_ga w.1 v0 12 35 (fun q1 => qz_ia w.1 q1 v5 (fun x2 => (if x2 = 0 then rn 165 58 [some (.ref v0), some (.int v1), some (.int v2), some (.int v3), some (.int v4), some (.int (v5 + (nI 1))), none] [] w else (if v5 = v2 then rn 165 58 [some (.ref v0), some (.int v1), some (.int v2), some (.int v3), some (.int v4), some (.int (v5 + (nI 1))), none] [] w else qz_ck w.1 v0 12 (qz_r1 (rn 150 0 [some (.ref v0), some (.int v1), some (.int v2), some (.int v5), some (.int v4)] [] w) (fun x4 w3 => (if x4 = 0 then rn 165 58 [some (.ref v0), some (.int v1), some (.int v2), some (.int v3), some (.int v4), some (.int (v5 + (nI 1))), none] [] w3 else qz_gi w3.1 v0 12 39 (fun x5 => qz_pf w3 v0 12 39 (.int (x5 + (nI 1))) (fun w6 => qz_gi w6.1 v0 12 40 (fun x7 => qz_r1 (rn 162 0 [some (.int x7), some (.int x4)] [] w6) (fun x9 w8 => qz_pf w8 v0 12 40 (.int x9) (fun w10 => qz_gi w10.1 v0 12 41 (fun x11 => (if x4 ≤ v3 then qz_r1 (rn 104 0 [some (.int (nI 0))] [] w10) (fun x13 w12 => qz_pf w12 v0 12 41 (.int (x11 + x13)) (fun w14 => rn 165 58 [some (.ref v0), some (.int v1), some (.int v2), some (.int v3), some (.int v4), some (.int (v5 + (nI 1))), none] [] w14)) else qz_r1 (rn 104 0 [some (.int (nI 1))] [] w10) (fun x16 w15 => qz_pf w15 v0 12 41 (.int (x11 + x16)) (fun w17 => rn 165 58 [some (.ref v0), some (.int v1), some (.int v2), some (.int v3), some (.int v4), some (.int (v5 + (nI 1))), none] [] w17))))))))))))))))) :=
  (qz_blk qz_cd [12, 58] 47 165 58 _ _ _).trans rfl
set_option maxRecDepth 100000 in
theorem e_M_tongues_0 (v0 : Nat) (v1 : Int32) (v2 : Int32) (w : qz_W) : rn 166 0 [some (.ref v0), some (.int v1), some (.int v2)] [] w =
    qz_ck w.1 v0 12 (qz_r1 (rn 120 0 [some (.ref v0), some (.int v1)] [] w) (fun x2 w1 => (if x2 = 0 then some (some (.int (-1)), w1) else qz_r1 (rn 72 0 [some (.int v2), some (.int (nI 0)), some (.int (nI 2))] [] w1) (fun x4 w3 => (if x4 = 0 then some (some (.int (-1)), w3) else qz_ck w3.1 v0 12 (qz_r1 (rn 121 0 [some (.ref v0), some (.int v1)] [] w3) (fun x6 w5 => qz_ck w5.1 v0 12 (qz_r0 (rn 123 0 [some (.ref v0), some (.int v1), some (.int x6), none] [] w5) (fun w7 => qz_ga w7.1 v0 12 2 (fun q8 => qz_ia w7.1 q8 (((nI 16) * v1) + (nI 7)) (fun x9 => qz_ck w7.1 v0 12 (qz_r0 (rn 165 0 [some (.ref v0), some (.int v1), some (.int (-1)), some (.int x9), none, none, none] [] w7) (fun w10 => (if v2 = 0 then qz_gi w10.1 v0 12 39 (fun x13 => some (some (.int x13), w10)) else (if v2 = (nI 1) then qz_gi w10.1 v0 12 40 (fun x12 => some (some (.int x12), w10)) else qz_gi w10.1 v0 12 41 (fun x11 => some (some (.int x11), w10))))))))))))))))) :=
  (qz_blk qz_cd [] 38 166 0 _ _ _).trans rfl
set_option maxRecDepth 100000 in
theorem e_C_change_0 (v0 : Nat) (v1 : Int32) (v2 : Int32) (v3 : Int32) (v4 : Int32) (w : qz_W) : rn 167 0 [some (.ref v0), some (.int v1), some (.int v2), some (.int v3), some (.int v4), none] [] w =
    qz_ck w.1 v0 11 (qz_r3 (rn 115 0 [some (.ref v0), some (.int v1)] [] w) (fun w1 => qz_ga w1.1 v0 11 3 (fun q3 => qz_ia w1.1 q3 (nI 0) (fun x4 => qz_is w1 q3 (nI 0) (x4 + (nI 1)) (fun w5 => some (some (.int (nI 0)), w5))))) (fun q2 w1 => qz_ck w1.1 q2 8 (qz_r1 (rn 46 0 [some (.ref q2), some (.int v2), some (.int v3)] [] w1) (fun x7 w6 => (if x7 = 0 then qz_ga w6.1 v0 11 3 (fun q9 => qz_ia w6.1 q9 (nI 0) (fun x10 => qz_is w6 q9 (nI 0) (x10 + (nI 1)) (fun w11 => some (some (.int (nI 0)), w11)))) else qz_ck w6.1 q2 8 (qz_r0 (rn 47 0 [some (.ref q2), some (.int v2), some (.int v3), some (.int v4)] [] w6) (fun w8 => some (some (.int (nI 1)), w8)))))))) :=
  (qz_blk qz_cd [] 23 167 0 _ _ _).trans rfl
set_option maxRecDepth 100000 in
theorem e_M_refuses2_0 (v0 : Nat) (v1 : Int32) (w : qz_W) : rn 168 0 [some (.ref v0), some (.int v1)] [] w =
    qz_ga w.1 v0 12 0 (fun q1 => qz_ia w.1 q1 v1 (fun x2 => qz_is w q1 v1 (x2 + (nI 1)) (fun w3 => some (some (.int (nI 0)), w3)))) :=
  (qz_blk qz_cd [] 12 168 0 _ _ _).trans rfl
set_option maxRecDepth 100000 in
theorem e_M_change_0 (v0 : Nat) (v1 : Int32) (v2 : Int32) (v3 : Int32) (v4 : Int32) (w : qz_W) : rn 169 0 [some (.ref v0), some (.int v1), some (.int v2), some (.int v3), some (.int v4)] [] w =
    qz_ck w.1 v0 12 (qz_r1 (rn 120 0 [some (.ref v0), some (.int v1)] [] w) (fun x2 w1 => (if x2 = 0 then qz_ck w1.1 v0 12 (qz_r1 (rn 168 0 [some (.ref v0), some (.int (nI 0))] [] w1) (fun x4 w3 => cond (qz_z x4) (some (some (.int x4), w3)) none)) else qz_ck w1.1 v0 12 (qz_r1 (rn 94 0 [some (.ref v0), some (.int v1), some (.int v2), some (.int v3)] [] w1) (fun x6 w5 => (if x6 = 0 then qz_ck w5.1 v0 12 (qz_r1 (rn 168 0 [some (.ref v0), some (.int (nI 0))] [] w5) (fun x14 w13 => cond (qz_z x14) (some (some (.int x14), w13)) none)) else qz_ga w5.1 v0 12 4 (fun q7 => qz_r1 (rn 84 0 [some (.int v1), some (.int v2), some (.int v3)] [] w5) (fun x9 w8 => qz_r1 (rn 104 0 [some (.int v4)] [] w8) (fun x11 w10 => qz_is w10 q7 x9 x11 (fun w12 => some (some (.int (nI 1)), w12))))))))))) :=
  (qz_blk qz_cd [] 23 169 0 _ _ _).trans rfl
set_option maxRecDepth 100000 in
theorem e_Bridges_has_0 (v0 : Nat) (v1 : Int32) (w : qz_W) : rn 170 0 [some (.ref v0), some (.int v1)] [] w =
    (if v1 < 0 then some (some (.int (nI 0)), w) else qz_gi w.1 v0 0 0 (fun x1 => (if x1 ≤ v1 then some (some (.int (nI 0)), w) else some (some (.int (nI 1)), w)))) :=
  (qz_blk qz_cd [] 11 170 0 _ _ _).trans rfl
set_option maxRecDepth 100000 in
theorem e_Sheet_bridgedThrough_0 (v0 : Nat) (v1 : Int32) (w : qz_W) : rn 171 0 [some (.ref v0), some (.int v1), none, none] [] w =
    rn 171 4 [some (.ref v0), some (.int v1), some (.int (nI 0)), some (.int (nI 0))] [] w :=
  (qz_blk qz_cd [4] 6 171 0 _ _ _).trans rfl
set_option maxRecDepth 100000 in
theorem e_Sheet_bridgedThrough_4 (v0 : Nat) (v1 : Int32) (v2 : Int32) (v3 : Int32) (w : qz_W) : rn 171 4 [some (.ref v0), some (.int v1), some (.int v2), some (.int v3)] [] w =
    qz_gi w.1 v0 8 2 (fun x1 => (if x1 ≤ v3 then some (some (.int v2), w) else qz_ga w.1 v0 8 9 (fun q2 => qz_ga w.1 q2 0 5 (fun q3 => qz_ia w.1 q3 ((v1 * (nI 20)) + v3) (fun x4 => qz_ga w.1 v0 8 7 (fun q5 => qz_ia w.1 q5 v3 (fun x6 => qz_r1 (rn 62 0 [some (.int (x4 &&& x6))] [] w) (fun x8 w7 => rn 171 4 [some (.ref v0), some (.int v1), some (.int (v2 + x8)), some (.int (v3 + (nI 1)))] [] w7)))))))) :=
  (qz_blk qz_cd [4] 26 171 4 _ _ _).trans rfl
set_option maxRecDepth 100000 in
theorem e_C_bridge_0 (v0 : Nat) (v1 : Int32) (v2 : Int32) (v3 : Int32) (w : qz_W) : rn 172 0 [some (.ref v0), some (.int v1), some (.int v2), some (.int v3), none] [] w =
    qz_ck w.1 v0 11 (qz_r3 (rn 115 0 [some (.ref v0), some (.int v1)] [] w) (fun w1 => some (some (.int (-1)), w1)) (fun q2 w1 => qz_ga w1.1 q2 8 9 (fun q3 => qz_ck w1.1 q3 0 (qz_r1 (rn 170 0 [some (.ref q3), some (.int v2)] [] w1) (fun x5 w4 => (if x5 = 0 then some (some (.int (-1)), w4) else (if v3 = nI 0 then qz_ga w4.1 q2 8 9 (fun q6 => qz_ga w4.1 q6 0 3 (fun q7 => qz_ia w4.1 q7 v2 (fun x8 => some (some (.int x8), w4)))) else (if v3 = nI 1 then qz_ga w4.1 q2 8 9 (fun q9 => qz_ck w4.1 q9 0 (qz_r1 (rn 63 0 [some (.ref q9), some (.int v2), none, none] [] w4) (fun x11 w10 => some (some (.int x11), w10)))) else (if v3 = nI 2 then qz_ck w4.1 q2 8 (qz_r1 (rn 171 0 [some (.ref q2), some (.int v2), none, none] [] w4) (fun x13 w12 => some (some (.int x13), w12))) else (if v3 = nI 3 then qz_ga w4.1 q2 8 9 (fun q14 => qz_gi w4.1 q14 0 2 (fun x15 => some (some (.int ((x15 >>> (v2 &&& 31)) &&& (nI 1))), w4))) else (if v3 = nI 4 then qz_ga w4.1 q2 8 9 (fun q16 => qz_gi w4.1 q16 0 1 (fun x17 => some (some (.int ((x17 >>> (v2 &&& 31)) &&& (nI 1))), w4))) else (if v3 = nI 5 then qz_ga w4.1 q2 8 9 (fun q18 => qz_ga w4.1 q18 0 4 (fun q19 => qz_ia w4.1 q19 v2 (fun x20 => some (some (.int x20), w4)))) else (some (some (.int (-1)), w4)))))))))))))) :=
  (qz_blk qz_cd [] 23 172 0 _ _ _).trans rfl
set_option maxRecDepth 100000 in
theorem e_M_isBridge_0 (v0 : Nat) (v1 : Int32) (v2 : Int32) (w : qz_W) : rn 173 0 [some (.ref v0), some (.int v1), some (.int v2)] [] w =
    qz_ck w.1 v0 12 (qz_r1 (rn 120 0 [some (.ref v0), some (.int v1)] [] w) (fun x2 w1 => (if x2 = 0 then some (some (.int (nI 0)), w1) else qz_ga w1.1 v0 12 2 (fun q3 => qz_ia w1.1 q3 (((nI 16) * v1) + (nI 4)) (fun x4 => qz_r1 (rn 72 0 [some (.int v2), some (.int (nI 0)), some (.int (x4 - (nI 1)))] [] w1) (fun x6 w5 => (if x6 = 0 then some (some (.int (nI 0)), w5) else some (some (.int (nI 1)), w5)))))))) :=
  (qz_blk qz_cd [] 23 173 0 _ _ _).trans rfl
set_option maxRecDepth 100000 in
theorem e_M_bridge_0 (v0 : Nat) (v1 : Int32) (v2 : Int32) (v3 : Int32) (w : qz_W) : rn 174 0 [some (.ref v0), some (.int v1), some (.int v2), some (.int v3), none] [] w =
    qz_ck w.1 v0 12 (qz_r1 (rn 173 0 [some (.ref v0), some (.int v1), some (.int v2)] [] w) (fun x2 w1 => (if x2 = 0 then some (some (.int (-1)), w1) else (if v3 = nI 0 then qz_ga w1.1 v0 12 10 (fun q3 => qz_ia w1.1 q3 (((nI 12) * v1) + v2) (fun x4 => some (some (.int x4), w1))) else (if v3 = nI 1 then qz_ck w1.1 v0 12 (qz_r1 (rn 105 0 [some (.ref v0), some (.int v1), some (.int v2), some (.int (nI 0)), none, none] [] w1) (fun x6 w5 => some (some (.int x6), w5))) else (if v3 = nI 2 then qz_ck w1.1 v0 12 (qz_r1 (rn 105 0 [some (.ref v0), some (.int v1), some (.int v2), some (.int (nI 1)), none, none] [] w1) (fun x8 w7 => some (some (.int x8), w7))) else (if v3 = nI 3 then qz_ga w1.1 v0 12 11 (fun q9 => qz_ia w1.1 q9 (((nI 12) * v1) + v2) (fun x10 => some (some (.int x10), w1))) else (if v3 = nI 4 then qz_ck w1.1 v0 12 (qz_r1 (rn 121 0 [some (.ref v0), some (.int v1)] [] w1) (fun x12 w11 => qz_r1 (rn 92 0 [some (.int x12), some (.int v2)] [] w11) (fun x14 w13 => qz_r1 (rn 104 0 [some (.int x14)] [] w13) (fun x16 w15 => some (some (.int x16), w15))))) else (if v3 = nI 5 then qz_ga w1.1 v0 12 12 (fun q17 => qz_ia w1.1 q17 (((nI 12) * v1) + v2) (fun x18 => some (some (.int x18), w1))) else (some (some (.int (-1)), w1))))))))))) :=
  (qz_blk qz_cd [] 22 174 0 _ _ _).trans rfl
set_option maxRecDepth 100000 in
theorem e_C_put_0 (v0 : Nat) (v1 : Int32) (v2 : Int32) (v3 : Int32) (w : qz_W) : rn 175 0 [some (.ref v0), some (.int v1), some (.int v2), some (.int v3), none, none] [] w =
    qz_ck w.1 v0 11 (qz_r3 (rn 115 0 [some (.ref v0), some (.int v1)] [] w) (fun w1 => qz_ga w1.1 v0 11 3 (fun q3 => qz_ia w1.1 q3 (nI 0) (fun x4 => qz_is w1 q3 (nI 0) (x4 + (nI 1)) (fun w5 => some (some (.int (nI 0)), w5))))) (fun q2 w1 => qz_ga w1.1 q2 8 9 (fun q6 => qz_ck w1.1 q6 0 (qz_r1 (rn 170 0 [some (.ref q6), some (.int v2)] [] w1) (fun x8 w7 => (if x8 = 0 then qz_ga w7.1 v0 11 3 (fun q16 => qz_ia w7.1 q16 (nI 0) (fun x17 => qz_is w7 q16 (nI 0) (x17 + (nI 1)) (fun w18 => some (some (.int (nI 0)), w18)))) else qz_ga w7.1 q2 8 9 (fun q9 => (if v3 = 0 then qz_ga w7.1 q2 8 9 (fun q10 => qz_gi w7.1 q10 0 1 (fun x11 => qz_pf w7 q9 0 1 (.int (x11 &&& (((nI 1) <<< (v2 &&& 31)) ^^^ (-1)))) (fun w12 => some (some (.int (nI 1)), w12)))) else qz_ga w7.1 q2 8 9 (fun q13 => qz_gi w7.1 q13 0 1 (fun x14 => qz_pf w7 q9 0 1 (.int (x14 ||| ((nI 1) <<< (v2 &&& 31)))) (fun w15 => some (some (.int (nI 1)), w15)))))))))))) :=
  (qz_blk qz_cd [] 31 175 0 _ _ _).trans rfl
set_option maxRecDepth 100000 in
theorem e_M_put2_0 (v0 : Nat) (v1 : Int32) (v2 : Int32) (v3 : Int32) (w : qz_W) : rn 176 0 [some (.ref v0), some (.int v1), some (.int v2), some (.int v3), none] [] w =
    qz_ck w.1 v0 12 (qz_r1 (rn 173 0 [some (.ref v0), some (.int v1), some (.int v2)] [] w) (fun x2 w1 => (if x2 = 0 then qz_ck w1.1 v0 12 (qz_r1 (rn 168 0 [some (.ref v0), some (.int (nI 0))] [] w1) (fun x11 w10 => cond (qz_z x11) (some (some (.int x11), w10)) none)) else qz_ga w1.1 v0 12 2 (fun q3 => (if v3 = 0 then qz_ga w1.1 v0 12 2 (fun q4 => qz_ia w1.1 q4 (((nI 16) * v1) + (nI 5)) (fun x5 => qz_is w1 q3 (((nI 16) * v1) + (nI 5)) (x5 &&& (((nI 1) <<< (v2 &&& 31)) ^^^ (-1))) (fun w6 => some (some (.int (nI 1)), w6)))) else qz_ga w1.1 v0 12 2 (fun q7 => qz_ia w1.1 q7 (((nI 16) * v1) + (nI 5)) (fun x8 => qz_is w1 q3 (((nI 16) * v1) + (nI 5)) (x8 ||| ((nI 1) <<< (v2 &&& 31))) (fun w9 => some (some (.int (nI 1)), w9))))))))) :=
  (qz_blk qz_cd [] 31 176 0 _ _ _).trans rfl
set_option maxRecDepth 100000 in
theorem e_Hanging_loose_0 (v0 : Nat) (w : qz_W) : rn 177 0 [some (.ref v0), none, none] [] w =
    rn 177 4 [some (.ref v0), some (.int (nI 0)), some (.int (nI 0))] [] w :=
  (qz_blk qz_cd [4] 6 177 0 _ _ _).trans rfl
set_option maxRecDepth 100000 in
theorem e_Hanging_loose_4 (v0 : Nat) (v1 : Int32) (v2 : Int32) (w : qz_W) : rn 177 4 [some (.ref v0), some (.int v1), some (.int v2)] [] w =
    (if (nI 20) ≤ v2 then some (some (.int v1), w) else qz_ga w.1 v0 3 2 (fun q1 => qz_ia w.1 q1 v2 (fun x2 => qz_r1 (rn 62 0 [some (.int x2)] [] w) (fun x4 w3 => rn 177 4 [some (.ref v0), some (.int (v1 + x4)), some (.int (v2 + (nI 1)))] [] w3)))) :=
  (qz_blk qz_cd [4] 15 177 4 _ _ _).trans rfl
set_option maxRecDepth 100000 in
theorem e_Bridges_firstBelow_0 (v0 : Nat) (v1 : Int32) (w : qz_W) : rn 178 0 [some (.ref v0), some (.int v1), none] [] w =
    rn 178 2 [some (.ref v0), some (.int v1), some (.int (nI 0))] [] w :=
  (qz_blk qz_cd [2] 4 178 0 _ _ _).trans rfl
set_option maxRecDepth 100000 in
theorem e_Bridges_firstBelow_2 (v0 : Nat) (v1 : Int32) (v2 : Int32) (w : qz_W) : rn 178 2 [some (.ref v0), some (.int v1), some (.int v2)] [] w =
    qz_gi w.1 v0 0 0 (fun x1 => (if x1 ≤ v2 then some (some (.int (-1)), w) else qz_gi w.1 v0 0 1 (fun x2 => (if (x2 >>> (v2 &&& 31)) &&& (nI 1) = 0 then rn 178 2 [some (.ref v0), some (.int v1), some (.int (v2 + (nI 1)))] [] w else qz_ga w.1 v0 0 4 (fun q3 => qz_ia w.1 q3 v2 (fun x4 => (if v1 ≤ x4 then rn 178 2 [some (.ref v0), some (.int v1), some (.int (v2 + (nI 1)))] [] w else some (some (.int v2), w)))))))) :=
  (qz_blk qz_cd [2] 21 178 2 _ _ _).trans rfl
set_option maxRecDepth 100000 in
theorem e_Bridges_over_0 (v0 : Nat) (v1 : Int32) (v2 : Int32) (w : qz_W) : rn 179 0 [some (.ref v0), some (.int v1), some (.int v2), none, none] [] w =
    rn 179 5 [some (.ref v0), some (.int v1), some (.int v2), some (.int (nI 0)), some (.int (nI 0))] [] w :=
  (qz_blk qz_cd [5] 6 179 0 _ _ _).trans rfl
set_option maxRecDepth 100000 in
theorem e_Bridges_over_5 (v0 : Nat) (v1 : Int32) (v2 : Int32) (v3 : Int32) (v4 : Int32) (w : qz_W) : rn 179 5 [some (.ref v0), some (.int v1), some (.int v2), some (.int v3), some (.int v4)] [] w =
    qz_gi w.1 v0 0 0 (fun x1 => (if x1 ≤ v4 then some (some (.int v3), w) else qz_ga w.1 v0 0 5 (fun q2 => qz_ia w.1 q2 ((v4 * (nI 20)) + v2) (fun x3 => rn 179 5 [some (.ref v0), some (.int v1), some (.int v2), some (.int (v3 ||| (((x3 >>> (v1 &&& 31)) &&& (nI 1)) <<< (v4 &&& 31)))), some (.int (v4 + (nI 1)))] [] w)))) :=
  (qz_blk qz_cd [5] 25 179 5 _ _ _).trans rfl
set_option maxRecDepth 100000 in
theorem e_Sheet_showingN_0 (v0 : Nat) (v1 : Int32) (v2 : Int32) (v3 : Int32) (w : qz_W) : rn 180 0 [some (.ref v0), some (.int v1), some (.int v2), some (.int v3), some (.null), none, none] [] w =
    qz_ga w.1 v0 8 7 (fun q1 => qz_ia w.1 q1 v2 (fun x2 => (if (x2 >>> (v1 &&& 31)) &&& (nI 1) = 0 then some (some (.int (nI 0)), w) else qz_ga w.1 v0 8 9 (fun q3 => qz_ck w.1 q3 0 (qz_r1 (rn 179 0 [some (.ref q3), some (.int v1), some (.int v2), none, none] [] w) (fun x5 w4 => (if (nI 0) = 0 then some (some (.int (x5 &&& v3)), w4) else qz_ga w4.1 v0 8 9 (fun q6 => qz_gi w4.1 q6 0 2 (fun x7 => some (some (.int ((x5 &&& v3) &&& (x7 ^^^ (-1)))), w4)))))))))) :=
  (qz_blk qz_cd [] 34 180 0 _ _ _).trans rfl
set_option maxRecDepth 100000 in
theorem e_Sheet_showingR_0 (v0 : Nat) (v1 : Int32) (v2 : Int32) (v3 : Int32) (v4 : Nat) (w : qz_W) : rn 180 0 [some (.ref v0), some (.int v1), some (.int v2), some (.int v3), some (.ref v4), none, none] [] w =
    qz_ga w.1 v0 8 7 (fun q1 => qz_ia w.1 q1 v2 (fun x2 => (if (x2 >>> (v1 &&& 31)) &&& (nI 1) = 0 then some (some (.int (nI 0)), w) else qz_ga w.1 v0 8 9 (fun q3 => qz_ck w.1 q3 0 (qz_r1 (rn 179 0 [some (.ref q3), some (.int v1), some (.int v2), none, none] [] w) (fun x5 w4 => qz_ck w4.1 v4 8 (qz_r1 (rn 46 0 [some (.ref v4), some (.int v1), some (.int v2)] [] w4) (fun x7 w6 => (if x7 = 0 then (if (nI 0) = 0 then some (some (.int (x5 &&& v3)), w6) else qz_ga w6.1 v0 8 9 (fun q8 => qz_gi w6.1 q8 0 2 (fun x9 => some (some (.int ((x5 &&& v3) &&& (x9 ^^^ (-1)))), w6)))) else qz_ga w6.1 v4 8 7 (fun q10 => qz_ia w6.1 q10 v2 (fun x11 => (if (x11 >>> (v1 &&& 31)) &&& (nI 1) = 0 then (if (nI 0) = 0 then some (some (.int (x5 &&& v3)), w6) else qz_ga w6.1 v0 8 9 (fun q12 => qz_gi w6.1 q12 0 2 (fun x13 => some (some (.int ((x5 &&& v3) &&& (x13 ^^^ (-1)))), w6)))) else (if (nI 1) = 0 then some (some (.int (x5 &&& v3)), w6) else qz_ga w6.1 v0 8 9 (fun q14 => qz_gi w6.1 q14 0 2 (fun x15 => some (some (.int ((x5 &&& v3) &&& (x15 ^^^ (-1)))), w6)))))))))))))))) :=
  (qz_blk qz_cd [] 49 180 0 _ _ _).trans rfl
set_option maxRecDepth 100000 in
theorem e_Sheet_seenN_0 (v0 : Nat) (v1 : Int32) (w : qz_W) : rn 181 0 [some (.ref v0), some (.int v1), some (.null), none, none, none] [] w =
    rn 181 5 [some (.ref v0), some (.int v1), some (.null), some (.int (nI 0)), some (.int (nI 0)), none] [] w :=
  (qz_blk qz_cd [5, 17] 6 181 0 _ _ _).trans rfl
set_option maxRecDepth 100000 in
theorem e_Sheet_seenN_5 (v0 : Nat) (v1 : Int32) (v3 : Int32) (v4 : Int32) (w : qz_W) : rn 181 5 [some (.ref v0), some (.int v1), some (.null), some (.int v3), some (.int v4), none] [] w =
    qz_gi w.1 v0 8 2 (fun x1 => (if x1 ≤ v4 then some (some (.int v3), w) else rn 181 17 [some (.ref v0), some (.int v1), some (.null), some (.int v3), some (.int v4), some (.int (nI 0))] [] w)) :=
  (qz_blk qz_cd [5, 17] 8 181 5 _ _ _).trans rfl
set_option maxRecDepth 100000 in
theorem e_Sheet_seenN_17 (v0 : Nat) (v1 : Int32) (v3 : Int32) (v4 : Int32) (v5 : Int32) (w : qz_W) : rn 181 17 [some (.ref v0), some (.int v1), some (.null), some (.int v3), some (.int v4), some (.int v5)] [] w =
    qz_gi w.1 v0 8 1 (fun x1 => (if x1 ≤ v5 then rn 181 5 [some (.ref v0), some (.int v1), some (.null), some (.int v3), some (.int (v4 + (nI 1))), none] [] w else qz_ck w.1 v0 8 (qz_r1 (rn 180 0 [some (.ref v0), some (.int v5), some (.int v4), some (.int v1), some (.null), none, none] [] w) (fun x3 w2 => (if x3 = 0 then rn 181 17 [some (.ref v0), some (.int v1), some (.null), some (.int v3), some (.int v4), some (.int (v5 + (nI 1)))] [] w2 else qz_ga w2.1 v0 8 8 (fun q4 => qz_ia w2.1 q4 ((v4 * (nI 20)) + v5) (fun x5 => rn 181 17 [some (.ref v0), some (.int v1), some (.null), some (.int (v3 + x5)), some (.int v4), some (.int (v5 + (nI 1)))] [] w2))))))) :=
  (qz_blk qz_cd [5, 17] 26 181 17 _ _ _).trans rfl
set_option maxRecDepth 100000 in
theorem e_Sheet_seenR_0 (v0 : Nat) (v1 : Int32) (v2 : Nat) (w : qz_W) : rn 181 0 [some (.ref v0), some (.int v1), some (.ref v2), none, none, none] [] w =
    rn 181 5 [some (.ref v0), some (.int v1), some (.ref v2), some (.int (nI 0)), some (.int (nI 0)), none] [] w :=
  (qz_blk qz_cd [5, 17] 6 181 0 _ _ _).trans rfl
set_option maxRecDepth 100000 in
theorem e_Sheet_seenR_5 (v0 : Nat) (v1 : Int32) (v2 : Nat) (v3 : Int32) (v4 : Int32) (w : qz_W) : rn 181 5 [some (.ref v0), some (.int v1), some (.ref v2), some (.int v3), some (.int v4), none] [] w =
    qz_gi w.1 v0 8 2 (fun x1 => (if x1 ≤ v4 then some (some (.int v3), w) else rn 181 17 [some (.ref v0), some (.int v1), some (.ref v2), some (.int v3), some (.int v4), some (.int (nI 0))] [] w)) :=
  (qz_blk qz_cd [5, 17] 8 181 5 _ _ _).trans rfl
set_option maxRecDepth 100000 in
theorem e_Sheet_seenR_17 (v0 : Nat) (v1 : Int32) (v2 : Nat) (v3 : Int32) (v4 : Int32) (v5 : Int32) (w : qz_W) : rn 181 17 [some (.ref v0), some (.int v1), some (.ref v2), some (.int v3), some (.int v4), some (.int v5)] [] w =
    qz_gi w.1 v0 8 1 (fun x1 => (if x1 ≤ v5 then rn 181 5 [some (.ref v0), some (.int v1), some (.ref v2), some (.int v3), some (.int (v4 + (nI 1))), none] [] w else qz_ck w.1 v0 8 (qz_r1 (rn 180 0 [some (.ref v0), some (.int v5), some (.int v4), some (.int v1), some (.ref v2), none, none] [] w) (fun x3 w2 => (if x3 = 0 then rn 181 17 [some (.ref v0), some (.int v1), some (.ref v2), some (.int v3), some (.int v4), some (.int (v5 + (nI 1)))] [] w2 else qz_ga w2.1 v0 8 8 (fun q4 => qz_ia w2.1 q4 ((v4 * (nI 20)) + v5) (fun x5 => rn 181 17 [some (.ref v0), some (.int v1), some (.ref v2), some (.int (v3 + x5)), some (.int v4), some (.int (v5 + (nI 1)))] [] w2))))))) :=
  (qz_blk qz_cd [5, 17] 26 181 17 _ _ _).trans rfl
set_option maxRecDepth 100000 in
theorem e_C_judge_0 (v0 : Nat) (v1 : Int32) (v2 : Int32) (w : qz_W) : rn 182 0 [some (.ref v0), some (.int v1), some (.int v2), none] [] w =
    qz_ck w.1 v0 11 (qz_r3 (rn 115 0 [some (.ref v0), some (.int v1)] [] w) (fun w1 => some (some (.int (-1)), w1)) (fun q2 w1 => (if v2 = nI 0 then qz_ga w1.1 v0 11 9 (fun q3 => qz_ga w1.1 q2 8 9 (fun q4 => qz_gi w1.1 q4 0 1 (fun x5 => qz_ck w1.1 q3 3 (qz_r0 (rn 129 0 [some (.ref q3), some (.ref q2), some (.int x5), none, none, none] [] w1) (fun w6 => qz_ga w6.1 v0 11 9 (fun q7 => qz_ck w6.1 q7 3 (qz_r1 (rn 177 0 [some (.ref q7), none, none] [] w6) (fun x9 w8 => (if x9 = 0 then some (some (.int (nI 1)), w8) else some (some (.int (nI 0)), w8)))))))))) else (if v2 = nI 1 then qz_ga w1.1 q2 8 9 (fun q10 => qz_gi w1.1 q2 8 6 (fun x11 => qz_ck w1.1 q10 0 (qz_r1 (rn 178 0 [some (.ref q10), some (.int x11), none] [] w1) (fun x13 w12 => some (some (.int x13), w12))))) else (if v2 = nI 2 then qz_ga w1.1 q2 8 9 (fun q14 => qz_gi w1.1 q14 0 1 (fun x15 => qz_ck w1.1 v0 11 (qz_r3 (rn 115 0 [some (.ref v0), some (.int (v1 + (nI 1)))] [] w1) (fun w16 => qz_ck w16.1 q2 8 (qz_r1 (rn 181 0 [some (.ref q2), some (.int x15), some (.null), none, none, none] [] w16) (fun x19 w18 => some (some (.int x19), w18)))) (fun q17 w16 => qz_ck w16.1 q2 8 (qz_r1 (rn 181 0 [some (.ref q2), some (.int x15), some (.ref q17), none, none, none] [] w16) (fun x21 w20 => some (some (.int x21), w20))))))) else (some (some (.int (-1)), w1))))))) :=
  (qz_blk qz_cd [] 24 182 0 _ _ _).trans rfl
set_option maxRecDepth 100000 in
theorem e_M_allHang_0 (v0 : Nat) (v1 : Int32) (v2 : Int32) (w : qz_W) : rn 183 0 [some (.ref v0), some (.int v1), some (.int v2)] [] w =
    qz_ck w.1 v0 12 (qz_r0 (rn 123 0 [some (.ref v0), some (.int v1), some (.int v2), none] [] w) (fun w1 => qz_ck w1.1 v0 12 (qz_r1 (rn 146 0 [some (.ref v0), some (.int v1), some (.int (-1)), some (.int (-1)), none, none] [] w1) (fun x3 w2 => qz_ck w2.1 v0 12 (qz_r1 (rn 124 0 [some (.ref v0), none, none] [] w2) (fun x5 w4 => (if x3 = x5 then some (some (.int (nI 1)), w4) else some (some (.int (nI 0)), w4)))))))) :=
  (qz_blk qz_cd [] 17 183 0 _ _ _).trans rfl
set_option maxRecDepth 100000 in
theorem e_M_hiddenOnes_0 (v0 : Nat) (v1 : Int32) (w : qz_W) : rn 184 0 [some (.ref v0), some (.int v1), none, none] [] w =
    rn 184 4 [some (.ref v0), some (.int v1), some (.int (nI 0)), some (.int (nI 0))] [] w :=
  (qz_blk qz_cd [4] 6 184 0 _ _ _).trans rfl
set_option maxRecDepth 100000 in
theorem e_M_hiddenOnes_4 (v0 : Nat) (v1 : Int32) (v2 : Int32) (v3 : Int32) (w : qz_W) : rn 184 4 [some (.ref v0), some (.int v1), some (.int v2), some (.int v3)] [] w =
    qz_ga w.1 v0 12 2 (fun q1 => qz_ia w.1 q1 (((nI 16) * v1) + (nI 4)) (fun x2 => (if x2 ≤ v3 then some (some (.int v2), w) else qz_ga w.1 v0 12 11 (fun q3 => qz_ia w.1 q3 (((nI 12) * v1) + v3) (fun x4 => rn 184 4 [some (.ref v0), some (.int v1), some (.int (v2 ||| (x4 <<< (v3 &&& 31)))), some (.int (v3 + (nI 1)))] [] w))))) :=
  (qz_blk qz_cd [4] 27 184 4 _ _ _).trans rfl
set_option maxRecDepth 100000 in
theorem e_M_isCutBelow_0 (v0 : Nat) (v1 : Int32) (v2 : Int32) (v3 : Int32) (w : qz_W) : rn 185 0 [some (.ref v0), some (.int v1), some (.int v2), some (.int v3)] [] w =
    (if (nI 6) ≤ v1 + (nI 1) then some (some (.int (nI 0)), w) else qz_ga w.1 v0 12 3 (fun q1 => qz_ia w.1 q1 (v1 + (nI 1)) (fun x2 => (if x2 = (nI 1) then qz_ck w.1 v0 12 (qz_r1 (rn 94 0 [some (.ref v0), some (.int (v1 + (nI 1))), some (.int v2), some (.int v3)] [] w) (fun x4 w3 => (if x4 = 0 then some (some (.int (nI 0)), w3) else qz_ga w3.1 v0 12 4 (fun q5 => qz_r1 (rn 84 0 [some (.int (v1 + (nI 1))), some (.int v2), some (.int v3)] [] w3) (fun x7 w6 => qz_ia w6.1 q5 x7 (fun x8 => (if x8 = (nI 1) then some (some (.int (nI 1)), w6) else some (some (.int (nI 0)), w6)))))))) else some (some (.int (nI 0)), w))))) :=
  (qz_blk qz_cd [] 37 185 0 _ _ _).trans rfl
set_option maxRecDepth 100000 in
theorem e_M_seen_0 (v0 : Nat) (v1 : Int32) (v2 : Int32) (w : qz_W) : rn 186 0 [some (.ref v0), some (.int v1), some (.int v2), none, none, none, none, none] [] w =
    qz_ck w.1 v0 12 (qz_r1 (rn 184 0 [some (.ref v0), some (.int v1), none, none] [] w) (fun x2 w1 => rn 186 16 [some (.ref v0), some (.int v1), some (.int v2), some (.int (v2 &&& (x2 ^^^ (-1)))), some (.int (nI 0)), some (.int (nI 0)), none, none] [] w1)) :=
  (qz_blk qz_cd [16, 29] 14 186 0 _ _ _).trans rfl
set_option maxRecDepth 100000 in
theorem e_M_seen_16 (v0 : Nat) (v1 : Int32) (v2 : Int32) (v3 : Int32) (v4 : Int32) (v5 : Int32) (w : qz_W) : rn 186 16 [some (.ref v0), some (.int v1), some (.int v2), some (.int v3), some (.int v4), some (.int v5), none, none] [] w =
    qz_ck w.1 v0 12 (qz_r1 (rn 81 0 [some (.ref v0), some (.int v1)] [] w) (fun x2 w1 => (if x2 ≤ v5 then some (some (.int v4), w1) else rn 186 29 [some (.ref v0), some (.int v1), some (.int v2), some (.int v3), some (.int v4), some (.int v5), some (.int (nI 0)), none] [] w1))) :=
  (qz_blk qz_cd [16, 29] 9 186 16 _ _ _).trans rfl
set_option maxRecDepth 100000 in
theorem e_M_seen_29 (v0 : Nat) (v1 : Int32) (v2 : Int32) (v3 : Int32) (v4 : Int32) (v5 : Int32) (v6 : Int32) (w : qz_W) : rn 186 29 [some (.ref v0), some (.int v1), some (.int v2), some (.int v3), some (.int v4), some (.int v5), some (.int v6), none] [] w =
    qz_ck w.1 v0 12 (qz_r1 (rn 82 0 [some (.ref v0), some (.int v1)] [] w) (fun x2 w1 => (if x2 ≤ v6 then rn 186 16 [some (.ref v0), some (.int v1), some (.int v2), some (.int v3), some (.int v4), some (.int (v5 + (nI 1))), none, none] [] w1 else qz_r1 (rn 84 0 [some (.int v1), some (.int v6), some (.int v5)] [] w1) (fun x4 w3 => qz_ga w3.1 v0 12 4 (fun q5 => qz_ia w3.1 q5 x4 (fun x6 => (if x6 = 0 then rn 186 29 [some (.ref v0), some (.int v1), some (.int v2), some (.int v3), some (.int v4), some (.int v5), some (.int (v6 + (nI 1))), none] [] w3 else qz_ga w3.1 v0 12 6 (fun q7 => qz_ia w3.1 q7 x4 (fun x8 => (if x8 &&& v2 = 0 then rn 186 29 [some (.ref v0), some (.int v1), some (.int v2), some (.int v3), some (.int v4), some (.int v5), some (.int (v6 + (nI 1))), none] [] w3 else qz_ga w3.1 v0 12 6 (fun q9 => qz_ia w3.1 q9 x4 (fun x10 => (if x10 &&& v3 = 0 then qz_ck w3.1 v0 12 (qz_r1 (rn 185 0 [some (.ref v0), some (.int v1), some (.int v6), some (.int v5)] [] w3) (fun x14 w13 => (if x14 = 0 then qz_ga w13.1 v0 12 5 (fun q15 => qz_ia w13.1 q15 x4 (fun x16 => rn 186 29 [some (.ref v0), some (.int v1), some (.int v2), some (.int v3), some (.int (v4 + x16)), some (.int v5), some (.int (v6 + (nI 1))), none] [] w13)) else rn 186 29 [some (.ref v0), some (.int v1), some (.int v2), some (.int v3), some (.int v4), some (.int v5), some (.int (v6 + (nI 1))), none] [] w13))) else qz_ga w3.1 v0 12 5 (fun q11 => qz_ia w3.1 q11 x4 (fun x12 => rn 186 29 [some (.ref v0), some (.int v1), some (.int v2), some (.int v3), some (.int (v4 + x12)), some (.int v5), some (.int (v6 + (nI 1))), none] [] w3))))))))))))))) :=
  (qz_blk qz_cd [16, 29] 46 186 29 _ _ _).trans rfl
set_option maxRecDepth 100000 in
theorem e_M_judge_0 (v0 : Nat) (v1 : Int32) (v2 : Int32) (w : qz_W) : rn 187 0 [some (.ref v0), some (.int v1), some (.int v2), none, none] [] w =
    qz_ck w.1 v0 12 (qz_r1 (rn 120 0 [some (.ref v0), some (.int v1)] [] w) (fun x2 w1 => (if x2 = 0 then some (some (.int (-1)), w1) else qz_r1 (rn 72 0 [some (.int v2), some (.int (nI 0)), some (.int (nI 2))] [] w1) (fun x4 w3 => (if x4 = 0 then some (some (.int (-1)), w3) else qz_ck w3.1 v0 12 (qz_r1 (rn 121 0 [some (.ref v0), some (.int v1)] [] w3) (fun x6 w5 => (if v2 = 0 then qz_ck w5.1 v0 12 (qz_r1 (rn 183 0 [some (.ref v0), some (.int v1), some (.int x6)] [] w5) (fun x10 w9 => qz_r1 (rn 104 0 [some (.int x10)] [] w9) (fun x12 w11 => some (some (.int x12), w11)))) else (if v2 = (nI 2) then qz_ck w5.1 v0 12 (qz_r1 (rn 186 0 [some (.ref v0), some (.int v1), some (.int x6), none, none, none, none, none] [] w5) (fun x8 w7 => some (some (.int x8), w7))) else rn 187 54 [some (.ref v0), some (.int v1), none, some (.int x6), some (.int (nI 0))] [] w5))))))))) :=
  (qz_blk qz_cd [54] 25 187 0 _ _ _).trans rfl
set_option maxRecDepth 100000 in
theorem e_M_judge_54 (v0 : Nat) (v1 : Int32) (v3 : Int32) (v4 : Int32) (w : qz_W) : rn 187 54 [some (.ref v0), some (.int v1), none, some (.int v3), some (.int v4)] [] w =
    (if (nI 12) ≤ v4 then some (some (.int (-1)), w) else qz_r1 (rn 92 0 [some (.int v3), some (.int v4)] [] w) (fun x2 w1 => (if x2 = 0 then rn 187 54 [some (.ref v0), some (.int v1), none, some (.int v3), some (.int (v4 + (nI 1)))] [] w1 else qz_ga w1.1 v0 12 12 (fun q3 => qz_ia w1.1 q3 (((nI 12) * v1) + v4) (fun x4 => qz_ga w1.1 v0 12 2 (fun q5 => qz_ia w1.1 q5 (((nI 16) * v1) + (nI 8)) (fun x6 => (if x6 ≤ x4 then rn 187 54 [some (.ref v0), some (.int v1), none, some (.int v3), some (.int (v4 + (nI 1)))] [] w1 else some (some (.int v4), w1))))))))) :=
  (qz_blk qz_cd [54] 28 187 54 _ _ _).trans rfl
set_option maxRecDepth 100000 in
theorem e_C_joinable_0 (v0 : Nat) (v1 : Nat) (w : qz_W) : rn 188 0 [some (.ref v0), some (.ref v1)] [] w =
    qz_ck w.1 v0 11 (qz_r0 (rn 134 0 [some (.ref v0), some (.ref v1), some (.int (nI 0))] [] w) (fun w1 => qz_ga w1.1 v0 11 10 (fun q2 => qz_gi w1.1 q2 5 0 (fun x3 => (if (nI 7) < x3 then some (some (.int (nI 0)), w1) else some (some (.int (nI 1)), w1)))))) :=
  (qz_blk qz_cd [] 14 188 0 _ _ _).trans rfl
set_option maxRecDepth 100000 in
theorem e_Joining_setPrices_0 (v0 : Nat) (v1 : Nat) (v2 : Int32) (w : qz_W) : rn 189 0 [some (.ref v0), some (.ref v1), some (.int v2), none, none, none, none] [] w =
    qz_ga w.1 v0 4 1 (fun q1 => qz_r0 (rn 31 0 [some (.ref q1), some (.int (-1)), none, none] [] w) (fun w2 => qz_ga w2.1 v0 4 1 (fun q3 => qz_is w2 q3 (nI 400) (nI 0) (fun w4 => rn 189 19 [some (.ref v0), some (.ref v1), some (.int v2), some (.int (nI 0)), none, none, none] [] w4)))) :=
  (qz_blk qz_cd [19, 30, 106] 13 189 0 _ _ _).trans rfl
set_option maxRecDepth 100000 in
theorem e_Joining_setPrices_19 (v0 : Nat) (v1 : Nat) (v2 : Int32) (v3 : Int32) (w : qz_W) : rn 189 19 [some (.ref v0), some (.ref v1), some (.int v2), some (.int v3), none, none, none] [] w =
    qz_gi w.1 v1 8 2 (fun x1 => (if x1 ≤ v3 then rn 189 106 [some (.ref v0), some (.ref v1), none, some (.int (nI 0)), none, none, none] [] w else rn 189 30 [some (.ref v0), some (.ref v1), some (.int v2), some (.int v3), some (.int (nI 0)), none, none] [] w)) :=
  (qz_blk qz_cd [19, 30, 106] 8 189 19 _ _ _).trans rfl
set_option maxRecDepth 100000 in
theorem e_Joining_setPrices_30 (v0 : Nat) (v1 : Nat) (v2 : Int32) (v3 : Int32) (v4 : Int32) (w : qz_W) : rn 189 30 [some (.ref v0), some (.ref v1), some (.int v2), some (.int v3), some (.int v4), none, none] [] w =
    qz_gi w.1 v1 8 1 (fun x1 => (if x1 ≤ v4 then rn 189 19 [some (.ref v0), some (.ref v1), some (.int v2), some (.int (v3 + (nI 1))), none, none, none] [] w else (if v2 = 0 then qz_ga w.1 v0 4 1 (fun q2 => qz_ga w.1 v1 8 7 (fun q3 => qz_ia w.1 q3 v3 (fun x4 => (if (x4 >>> (v4 &&& 31)) &&& (nI 1) = 0 then qz_is w q2 ((v3 * (nI 20)) + v4) (nI 0) (fun w5 => rn 189 30 [some (.ref v0), some (.ref v1), some (.int v2), some (.int v3), some (.int (v4 + (nI 1))), none, none] [] w5) else qz_is w q2 ((v3 * (nI 20)) + v4) (nI 1) (fun w6 => rn 189 30 [some (.ref v0), some (.ref v1), some (.int v2), some (.int v3), some (.int (v4 + (nI 1))), none, none] [] w6))))) else qz_ga w.1 v1 8 8 (fun q7 => qz_ia w.1 q7 ((v3 * (nI 20)) + v4) (fun x8 => qz_ga w.1 v0 4 1 (fun q9 => qz_ga w.1 v1 8 7 (fun q10 => qz_ia w.1 q10 v3 (fun x11 => (if (x11 >>> (v4 &&& 31)) &&& (nI 1) = 0 then qz_is w q9 ((v3 * (nI 20)) + v4) (nI 0) (fun w12 => rn 189 30 [some (.ref v0), some (.ref v1), some (.int v2), some (.int v3), some (.int (v4 + (nI 1))), none, none] [] w12) else qz_is w q9 ((v3 * (nI 20)) + v4) x8 (fun w13 => rn 189 30 [some (.ref v0), some (.ref v1), some (.int v2), some (.int v3), some (.int (v4 + (nI 1))), none, none] [] w13)))))))))) :=
  (qz_blk qz_cd [19, 30, 106] 37 189 30 _ _ _).trans rfl
set_option maxRecDepth 100000 in
theorem e_Joining_setPrices_106 (v0 : Nat) (v1 : Nat) (v3 : Int32) (w : qz_W) : rn 189 106 [some (.ref v0), some (.ref v1), none, some (.int v3), none, none, none] [] w =
    (if (nI 20) ≤ v3 then some (none, w) else qz_ga w.1 v0 4 2 (fun q1 => qz_ck w.1 v1 8 (qz_r1 (rn 126 0 [some (.ref v1), some (.int v3), none] [] w) (fun x3 w2 => qz_is w2 q1 v3 x3 (fun w4 => rn 189 106 [some (.ref v0), some (.ref v1), none, some (.int (v3 + (nI 1))), none, none, none] [] w4))))) :=
  (qz_blk qz_cd [19, 30, 106] 14 189 106 _ _ _).trans rfl
set_option maxRecDepth 100000 in
theorem e_Joining_begin_0 (v0 : Nat) (v1 : Int32) (v2 : Nat) (w : qz_W) : rn 190 0 [some (.ref v0), some (.int v1), some (.ref v2), none, none, none] [] w =
    rn 190 9 [some (.ref v0), some (.int v1), some (.ref v2), some (.int (v1 * (nI 401))), some (.int (nI 0)), none] [] w :=
  (qz_blk qz_cd [9] 8 190 0 _ _ _).trans rfl
set_option maxRecDepth 100000 in
theorem e_Joining_begin_9 (v0 : Nat) (v1 : Int32) (v2 : Nat) (v3 : Int32) (v4 : Int32) (w : qz_W) : rn 190 9 [some (.ref v0), some (.int v1), some (.ref v2), some (.int v3), some (.int v4), none] [] w =
    (if (nI 400) ≤ v4 then qz_ga w.1 v0 4 0 (fun q1 => qz_is w q1 (v3 + (nI 400)) (nI 1000000) (fun w2 => some (none, w2))) else qz_ga w.1 v2 5 1 (fun q3 => qz_ia w.1 q3 v4 (fun x4 => qz_ga w.1 v0 4 0 (fun q5 => (if x4 = (-1) then qz_is w q5 (v3 + v4) (nI 1000000) (fun w6 => rn 190 9 [some (.ref v0), some (.int v1), some (.ref v2), some (.int v3), some (.int (v4 + (nI 1))), none] [] w6) else (if v1 = (nI 1) <<< (x4 &&& 31) then qz_is w q5 (v3 + v4) (nI 0) (fun w8 => rn 190 9 [some (.ref v0), some (.int v1), some (.ref v2), some (.int v3), some (.int (v4 + (nI 1))), none] [] w8) else qz_is w q5 (v3 + v4) (nI 1000000) (fun w7 => rn 190 9 [some (.ref v0), some (.int v1), some (.ref v2), some (.int v3), some (.int (v4 + (nI 1))), none] [] w7))))))) :=
  (qz_blk qz_cd [9] 28 190 9 _ _ _).trans rfl
set_option maxRecDepth 100000 in
theorem e_Joining_merge_0 (v0 : Nat) (v1 : Int32) (v2 : Int32) (w : qz_W) : rn 191 0 [some (.ref v0), some (.int v1), some (.int v2), none, none, none, none, none] [] w =
    rn 191 25 [some (.ref v0), none, none, some (.int (v1 * (nI 401))), some (.int (v2 * (nI 401))), some (.int ((v1 ^^^ v2) * (nI 401))), some (.int (nI 0)), none] [] w :=
  (qz_blk qz_cd [25] 18 191 0 _ _ _).trans rfl
set_option maxRecDepth 100000 in
theorem e_Joining_merge_25 (v0 : Nat) (v3 : Int32) (v4 : Int32) (v5 : Int32) (v6 : Int32) (w : qz_W) : rn 191 25 [some (.ref v0), none, none, some (.int v3), some (.int v4), some (.int v5), some (.int v6), none] [] w =
    (if (nI 401) ≤ v6 then some (none, w) else qz_ga w.1 v0 4 1 (fun q1 => qz_ia w.1 q1 v6 (fun x2 => (if x2 = (-1) then rn 191 25 [some (.ref v0), none, none, some (.int v3), some (.int v4), some (.int v5), some (.int (v6 + (nI 1))), none] [] w else qz_ga w.1 v0 4 0 (fun q3 => qz_ia w.1 q3 (v4 + v6) (fun x4 => qz_ga w.1 v0 4 0 (fun q5 => qz_ia w.1 q5 (v5 + v6) (fun x6 => qz_ga w.1 v0 4 1 (fun q7 => qz_ia w.1 q7 v6 (fun x8 => qz_ga w.1 v0 4 0 (fun q9 => qz_ga w.1 v0 4 0 (fun q10 => qz_ia w.1 q10 (v3 + v6) (fun x11 => qz_r1 (rn 136 0 [some (.int x11), some (.int ((x4 + x6) - x8))] [] w) (fun x13 w12 => qz_is w12 q9 (v3 + v6) x13 (fun w14 => rn 191 25 [some (.ref v0), none, none, some (.int v3), some (.int v4), some (.int v5), some (.int (v6 + (nI 1))), none] [] w14))))))))))))))) :=
  (qz_blk qz_cd [25] 46 191 25 _ _ _).trans rfl
set_option maxRecDepth 100000 in
theorem e_Joining_relaxSquare_0 (v0 : Nat) (v1 : Int32) (v2 : Int32) (w : qz_W) : rn 192 0 [some (.ref v0), some (.int v1), some (.int v2), none, none, none, none] [] w =
    qz_ga w.1 v0 4 2 (fun q1 => qz_r1 (rn 130 0 [some (.ref q1), some (.int v2)] [] w) (fun x3 w2 => (if x3 = 0 then rn 192 33 [some (.ref v0), some (.int v1), some (.int v2), some (.int x3), some (.int (nI 1000000)), some (.int (nI 0)), none] [] w2 else qz_ga w2.1 v0 4 0 (fun q4 => qz_ia w2.1 q4 (v1 + (nI 400)) (fun x5 => rn 192 33 [some (.ref v0), some (.int v1), some (.int v2), some (.int x3), some (.int x5), some (.int (nI 0)), none] [] w2))))) :=
  (qz_blk qz_cd [33, 135] 19 192 0 _ _ _).trans rfl
set_option maxRecDepth 100000 in
theorem e_Joining_relaxSquare_33 (v0 : Nat) (v1 : Int32) (v2 : Int32) (v3 : Int32) (v4 : Int32) (v5 : Int32) (w : qz_W) : rn 192 33 [some (.ref v0), some (.int v1), some (.int v2), some (.int v3), some (.int v4), some (.int v5), none] [] w =
    (if (nI 4) ≤ v5 then qz_ga w.1 v0 4 1 (fun q1 => qz_ia w.1 q1 v2 (fun x2 => qz_ga w.1 v0 4 0 (fun q3 => qz_ia w.1 q3 (v1 + v2) (fun x4 => (if x4 ≤ v4 + x2 then (if (nI 0) = 0 then rn 192 135 [some (.ref v0), some (.int v1), some (.int v2), some (.int v3), none, some (.int (nI 0)), none] [] w else qz_ga w.1 v0 4 0 (fun q5 => qz_ga w.1 v0 4 1 (fun q6 => qz_ia w.1 q6 v2 (fun x7 => qz_is w q5 (v1 + v2) (v4 + x7) (fun w8 => rn 192 135 [some (.ref v0), some (.int v1), some (.int v2), some (.int v3), none, some (.int (nI 0)), none] [] w8))))) else (if (nI 1) = 0 then rn 192 135 [some (.ref v0), some (.int v1), some (.int v2), some (.int v3), none, some (.int (nI 1)), none] [] w else qz_ga w.1 v0 4 0 (fun q9 => qz_ga w.1 v0 4 1 (fun q10 => qz_ia w.1 q10 v2 (fun x11 => qz_is w q9 (v1 + v2) (v4 + x11) (fun w12 => rn 192 135 [some (.ref v0), some (.int v1), some (.int v2), some (.int v3), none, some (.int (nI 1)), none] [] w12)))))))))) else qz_r1 (rn 131 0 [some (.int v2), some (.int v5), none, none] [] w) (fun x14 w13 => (if x14 = (-1) then rn 192 33 [some (.ref v0), some (.int v1), some (.int v2), some (.int v3), some (.int v4), some (.int (v5 + (nI 1))), none] [] w13 else qz_ga w13.1 v0 4 1 (fun q15 => qz_ia w13.1 q15 x14 (fun x16 => (if x16 = (-1) then rn 192 33 [some (.ref v0), some (.int v1), some (.int v2), some (.int v3), some (.int v4), some (.int (v5 + (nI 1))), none] [] w13 else qz_ga w13.1 v0 4 0 (fun q17 => qz_ia w13.1 q17 (v1 + x14) (fun x18 => qz_r1 (rn 136 0 [some (.int v4), some (.int x18)] [] w13) (fun x20 w19 => rn 192 33 [some (.ref v0), some (.int v1), some (.int v2), some (.int v3), some (.int x20), some (.int (v5 + (nI 1))), none] [] w19))))))))) :=
  (qz_blk qz_cd [33, 135] 35 192 33 _ _ _).trans rfl
set_option maxRecDepth 100000 in
theorem e_Joining_relaxSquare_135 (v0 : Nat) (v1 : Int32) (v2 : Int32) (v3 : Int32) (v5 : Int32) (w : qz_W) : rn 192 135 [some (.ref v0), some (.int v1), some (.int v2), some (.int v3), none, some (.int v5), none] [] w =
    (if v3 = 0 then cond (qz_z v5) (some (some (.int v5), w)) none else qz_ga w.1 v0 4 0 (fun q1 => qz_ia w.1 q1 (v1 + v2) (fun x2 => qz_ga w.1 v0 4 0 (fun q3 => qz_ia w.1 q3 (v1 + (nI 400)) (fun x4 => (if x4 ≤ x2 then cond (qz_z v5) (some (some (.int v5), w)) none else qz_ga w.1 v0 4 0 (fun q5 => qz_ga w.1 v0 4 0 (fun q6 => qz_ia w.1 q6 (v1 + v2) (fun x7 => qz_is w q5 (v1 + (nI 400)) x7 (fun w8 => some (some (.int (nI 1)), w8))))))))))) :=
  (qz_blk qz_cd [33, 135] 33 192 135 _ _ _).trans rfl
set_option maxRecDepth 100000 in
theorem e_Joining_relax_0 (v0 : Nat) (v1 : Int32) (w : qz_W) : rn 193 0 [some (.ref v0), some (.int v1), none, none, none, none] [] w =
    rn 193 11 [some (.ref v0), none, some (.int (v1 * (nI 401))), some (.int (nI 1)), some (.int (nI 0)), none] [] w :=
  (qz_blk qz_cd [11, 28, 70] 10 193 0 _ _ _).trans rfl
set_option maxRecDepth 100000 in
theorem e_Joining_relax_11 (v0 : Nat) (v2 : Int32) (v3 : Int32) (v4 : Int32) (w : qz_W) : rn 193 11 [some (.ref v0), none, some (.int v2), some (.int v3), some (.int v4), none] [] w =
    (if (nI 401) < v4 then some (none, w) else (if v3 = 0 then some (none, w) else rn 193 28 [some (.ref v0), none, some (.int v2), some (.int (nI 0)), some (.int v4), some (.int (nI 0))] [] w)) :=
  (qz_blk qz_cd [11, 28, 70] 11 193 11 _ _ _).trans rfl
set_option maxRecDepth 100000 in
theorem e_Joining_relax_28 (v0 : Nat) (v2 : Int32) (v3 : Int32) (v4 : Int32) (v5 : Int32) (w : qz_W) : rn 193 28 [some (.ref v0), none, some (.int v2), some (.int v3), some (.int v4), some (.int v5)] [] w =
    (if (nI 400) ≤ v5 then rn 193 70 [some (.ref v0), none, some (.int v2), some (.int v3), some (.int v4), some (.int (nI 399))] [] w else qz_ga w.1 v0 4 1 (fun q1 => qz_ia w.1 q1 v5 (fun x2 => (if x2 = (-1) then rn 193 28 [some (.ref v0), none, some (.int v2), some (.int v3), some (.int v4), some (.int (v5 + (nI 1)))] [] w else qz_ck w.1 v0 4 (qz_r1 (rn 192 0 [some (.ref v0), some (.int v2), some (.int v5), none, none, none, none] [] w) (fun x4 w3 => (if x4 = 0 then rn 193 28 [some (.ref v0), none, some (.int v2), some (.int v3), some (.int v4), some (.int (v5 + (nI 1)))] [] w3 else rn 193 28 [some (.ref v0), none, some (.int v2), some (.int (nI 1)), some (.int v4), some (.int (v5 + (nI 1)))] [] w3))))))) :=
  (qz_blk qz_cd [11, 28, 70] 20 193 28 _ _ _).trans rfl
set_option maxRecDepth 100000 in
theorem e_Joining_relax_70 (v0 : Nat) (v2 : Int32) (v3 : Int32) (v4 : Int32) (v5 : Int32) (w : qz_W) : rn 193 70 [some (.ref v0), none, some (.int v2), some (.int v3), some (.int v4), some (.int v5)] [] w =
    (if v5 < 0 then rn 193 11 [some (.ref v0), none, some (.int v2), some (.int v3), some (.int (v4 + (nI 1))), none] [] w else qz_ga w.1 v0 4 1 (fun q1 => qz_ia w.1 q1 v5 (fun x2 => (if x2 = (-1) then rn 193 70 [some (.ref v0), none, some (.int v2), some (.int v3), some (.int v4), some (.int (v5 + (-1)))] [] w else qz_ck w.1 v0 4 (qz_r1 (rn 192 0 [some (.ref v0), some (.int v2), some (.int v5), none, none, none, none] [] w) (fun x4 w3 => (if x4 = 0 then rn 193 70 [some (.ref v0), none, some (.int v2), some (.int v3), some (.int v4), some (.int (v5 + (-1)))] [] w3 else rn 193 70 [some (.ref v0), none, some (.int v2), some (.int (nI 1)), some (.int v4), some (.int (v5 + (-1)))] [] w3))))))) :=
  (qz_blk qz_cd [11, 28, 70] 19 193 70 _ _ _).trans rfl
set_option maxRecDepth 100000 in
theorem e_Joining_join_0 (v0 : Nat) (v1 : Nat) (v2 : Nat) (v3 : Int32) (w : qz_W) : rn 194 0 [some (.ref v0), some (.ref v1), some (.ref v2), some (.int v3), none, none] [] w =
    qz_gi w.1 v2 5 0 (fun x1 => qz_r1 (rn 136 0 [some (.int x1), some (.int (nI 7))] [] w) (fun x3 w2 => qz_pf w2 v0 4 3 (.int (((nI 1) <<< (x3 &&& 31)) - (nI 1))) (fun w4 => qz_ck w4.1 v0 4 (qz_r0 (rn 189 0 [some (.ref v0), some (.ref v1), some (.int v3), none, none, none, none] [] w4) (fun w5 => rn 194 26 [some (.ref v0), none, some (.ref v2), none, some (.int (nI 1)), none] [] w5))))) :=
  (qz_blk qz_cd [26, 51] 18 194 0 _ _ _).trans rfl
set_option maxRecDepth 100000 in
theorem e_Joining_join_26 (v0 : Nat) (v2 : Nat) (v4 : Int32) (w : qz_W) : rn 194 26 [some (.ref v0), none, some (.ref v2), none, some (.int v4), none] [] w =
    qz_gi w.1 v0 4 3 (fun x1 => (if x1 < v4 then some (none, w) else qz_ck w.1 v0 4 (qz_r0 (rn 190 0 [some (.ref v0), some (.int v4), some (.ref v2), none, none, none] [] w) (fun w2 => rn 194 51 [some (.ref v0), none, some (.ref v2), none, some (.int v4), some (.int ((v4 - (nI 1)) &&& v4))] [] w2)))) :=
  (qz_blk qz_cd [26, 51] 16 194 26 _ _ _).trans rfl
set_option maxRecDepth 100000 in
theorem e_Joining_join_51 (v0 : Nat) (v2 : Nat) (v4 : Int32) (v5 : Int32) (w : qz_W) : rn 194 51 [some (.ref v0), none, some (.ref v2), none, some (.int v4), some (.int v5)] [] w =
    (if v5 ≤ v4 ^^^ v5 then qz_ck w.1 v0 4 (qz_r0 (rn 193 0 [some (.ref v0), some (.int v4), none, none, none, none] [] w) (fun w1 => rn 194 26 [some (.ref v0), none, some (.ref v2), none, some (.int (v4 + (nI 1))), none] [] w1)) else qz_ck w.1 v0 4 (qz_r0 (rn 191 0 [some (.ref v0), some (.int v4), some (.int v5), none, none, none, none, none] [] w) (fun w2 => rn 194 51 [some (.ref v0), none, some (.ref v2), none, some (.int v4), some (.int ((v5 - (nI 1)) &&& v4))] [] w2))) :=
  (qz_blk qz_cd [26, 51] 18 194 51 _ _ _).trans rfl
set_option maxRecDepth 100000 in
theorem e_Joining_joinedToFrame_0 (v0 : Nat) (v1 : Int32) (w : qz_W) : rn 195 0 [some (.ref v0), some (.int v1)] [] w =
    (if v1 = 0 then some (some (.int (nI 0)), w) else qz_ga w.1 v0 4 0 (fun q1 => qz_ia w.1 q1 ((v1 * (nI 401)) + (nI 400)) (fun x2 => some (some (.int x2), w)))) :=
  (qz_blk qz_cd [] 13 195 0 _ _ _).trans rfl
set_option maxRecDepth 100000 in
theorem e_Joining_cheapestJoin_0 (v0 : Nat) (w : qz_W) : rn 196 0 [some (.ref v0)] [] w =
    qz_gi w.1 v0 4 3 (fun x1 => qz_ck w.1 v0 4 (qz_r1 (rn 195 0 [some (.ref v0), some (.int x1)] [] w) (fun x3 w2 => some (some (.int x3), w2)))) :=
  (qz_blk qz_cd [] 7 196 0 _ _ _).trans rfl
set_option maxRecDepth 100000 in
theorem e_C_cheapest_0 (v0 : Nat) (v1 : Int32) (w : qz_W) : rn 197 0 [some (.ref v0), some (.int v1), none] [] w =
    qz_ck w.1 v0 11 (qz_r3 (rn 115 0 [some (.ref v0), some (.int v1)] [] w) (fun w1 => some (some (.int (-1)), w1)) (fun q2 w1 => qz_ck w1.1 v0 11 (qz_r1 (rn 188 0 [some (.ref v0), some (.ref q2)] [] w1) (fun x4 w3 => (if x4 = 0 then some (some (.int (-1)), w3) else qz_ga w3.1 v0 11 11 (fun q5 => qz_ga w3.1 v0 11 10 (fun q6 => qz_ck w3.1 q5 4 (qz_r0 (rn 194 0 [some (.ref q5), some (.ref q2), some (.ref q6), some (.int (nI 1)), none, none] [] w3) (fun w7 => qz_ga w7.1 v0 11 11 (fun q8 => qz_ck w7.1 q8 4 (qz_r1 (rn 196 0 [some (.ref q8)] [] w7) (fun x10 w9 => some (some (.int x10), w9))))))))))))) :=
  (qz_blk qz_cd [] 23 197 0 _ _ _).trans rfl
set_option maxRecDepth 100000 in
theorem e_M_costs_0 (v0 : Nat) (v1 : Int32) (v2 : Int32) (w : qz_W) : rn 198 0 [some (.ref v0), some (.int v1), some (.int v2), none] [] w =
    rn 198 2 [some (.ref v0), some (.int v1), some (.int v2), some (.int (nI 0))] [] w :=
  (qz_blk qz_cd [2] 4 198 0 _ _ _).trans rfl
set_option maxRecDepth 100000 in
theorem e_M_costs_2 (v0 : Nat) (v1 : Int32) (v2 : Int32) (v3 : Int32) (w : qz_W) : rn 198 2 [some (.ref v0), some (.int v1), some (.int v2), some (.int v3)] [] w =
    (if (nI 400) ≤ v3 then some (none, w) else qz_ga w.1 v0 12 45 (fun q1 => if (nI 20) = 0 then none else (if (nI 20) = 0 then none else (qz_ck w.1 v0 12 (qz_r1 (rn 94 0 [some (.ref v0), some (.int v1), some (.int (v3 - v3 / (nI 20) * (nI 20))), some (.int (v3 / (nI 20)))] [] w) (fun x3 w2 => (if x3 = 0 then qz_is w2 q1 v3 (nI 1000000000) (fun w11 => rn 198 2 [some (.ref v0), some (.int v1), some (.int v2), some (.int (v3 + (nI 1)))] [] w11) else qz_ga w2.1 v0 12 29 (fun q4 => qz_ia w2.1 q4 v3 (fun x5 => (if x5 = (nI 1) then qz_is w2 q1 v3 (nI 0) (fun w10 => rn 198 2 [some (.ref v0), some (.int v1), some (.int v2), some (.int (v3 + (nI 1)))] [] w10) else (if v2 = 0 then qz_is w2 q1 v3 (nI 1) (fun w6 => rn 198 2 [some (.ref v0), some (.int v1), some (.int v2), some (.int (v3 + (nI 1)))] [] w6) else qz_ga w2.1 v0 12 5 (fun q7 => qz_ia w2.1 q7 (((nI 400) * v1) + v3) (fun x8 => qz_is w2 q1 v3 x8 (fun w9 => rn 198 2 [some (.ref v0), some (.int v1), some (.int v2), some (.int (v3 + (nI 1)))] [] w9)))))))))))))) :=
  (qz_blk qz_cd [2] 38 198 2 _ _ _).trans rfl
set_option maxRecDepth 100000 in
theorem e_M_bits_0 (v0 : Int32) (w : qz_W) : rn 199 0 [some (.int v0), none, none] [] w =
    rn 199 4 [none, some (.int (nI 0)), some (.int v0)] [] w :=
  (qz_blk qz_cd [4] 6 199 0 _ _ _).trans rfl
set_option maxRecDepth 100000 in
theorem e_M_bits_4 (v1 : Int32) (v2 : Int32) (w : qz_W) : rn 199 4 [none, some (.int v1), some (.int v2)] [] w =
    (if v2 ≤ 0 then some (some (.int v1), w) else rn 199 4 [none, some (.int (v1 + (v2 &&& (nI 1)))), some (.int (v2 >>> ((nI 1) &&& 31)))] [] w) :=
  (qz_blk qz_cd [4] 15 199 4 _ _ _).trans rfl
set_option maxRecDepth 100000 in
theorem e_M_goesOn_0 (v0 : Nat) (v1 : Int32) (w : qz_W) : rn 200 0 [some (.ref v0), some (.int v1), none, none, none, none, none] [] w =
    rn 200 8 [some (.ref v0), none, some (.int ((nI 400) * v1)), some (.int (nI 0)), none, none, none] [] w :=
  (qz_blk qz_cd [8, 30, 43, 131] 8 200 0 _ _ _).trans rfl
set_option maxRecDepth 100000 in
theorem e_M_goesOn_8 (v0 : Nat) (v2 : Int32) (v3 : Int32) (w : qz_W) : rn 200 8 [some (.ref v0), none, some (.int v2), some (.int v3), none, none, none] [] w =
    (if (nI 400) ≤ v3 then rn 200 30 [some (.ref v0), none, some (.int v2), some (.int (nI 0)), none, none, none] [] w else qz_ga w.1 v0 12 46 (fun q1 => qz_is w q1 v3 (nI 0) (fun w2 => rn 200 8 [some (.ref v0), none, some (.int v2), some (.int (v3 + (nI 1))), none, none, none] [] w2))) :=
  (qz_blk qz_cd [8, 30, 43, 131] 12 200 8 _ _ _).trans rfl
set_option maxRecDepth 100000 in
theorem e_M_goesOn_30 (v0 : Nat) (v2 : Int32) (v3 : Int32) (w : qz_W) : rn 200 30 [some (.ref v0), none, some (.int v2), some (.int v3), none, none, none] [] w =
    (if (nI 400) ≤ v3 then some (none, w) else rn 200 43 [some (.ref v0), none, some (.int v2), some (.int v3), some (.int (-1)), some (.int (nI 0)), none] [] w) :=
  (qz_blk qz_cd [8, 30, 43, 131] 9 200 30 _ _ _).trans rfl
set_option maxRecDepth 100000 in
theorem e_M_goesOn_43 (v0 : Nat) (v2 : Int32) (v3 : Int32) (v4 : Int32) (v5 : Int32) (w : qz_W) : rn 200 43 [some (.ref v0), none, some (.int v2), some (.int v3), some (.int v4), some (.int v5), none] [] w =
    (if (nI 400) ≤ v5 then (if v4 = (-1) then some (none, w) else qz_ga w.1 v0 12 46 (fun q1 => qz_is w q1 v4 (nI 1) (fun w2 => rn 200 131 [some (.ref v0), none, some (.int v2), some (.int v3), some (.int v4), some (.int (nI 0)), none] [] w2))) else qz_ga w.1 v0 12 46 (fun q3 => qz_ia w.1 q3 v5 (fun x4 => (if x4 = 0 then qz_ga w.1 v0 12 43 (fun q5 => qz_ia w.1 q5 (v2 + v5) (fun x6 => (if (nI 1000000000) ≤ x6 then rn 200 43 [some (.ref v0), none, some (.int v2), some (.int v3), some (.int v4), some (.int (v5 + (nI 1))), none] [] w else (if v4 = (-1) then rn 200 43 [some (.ref v0), none, some (.int v2), some (.int v3), some (.int v5), some (.int (v5 + (nI 1))), none] [] w else qz_ga w.1 v0 12 43 (fun q7 => qz_ia w.1 q7 (v2 + v5) (fun x8 => qz_ga w.1 v0 12 43 (fun q9 => qz_ia w.1 q9 (v2 + v4) (fun x10 => (if x10 ≤ x8 then rn 200 43 [some (.ref v0), none, some (.int v2), some (.int v3), some (.int v4), some (.int (v5 + (nI 1))), none] [] w else rn 200 43 [some (.ref v0), none, some (.int v2), some (.int v3), some (.int v5), some (.int (v5 + (nI 1))), none] [] w))))))))) else rn 200 43 [some (.ref v0), none, some (.int v2), some (.int v3), some (.int v4), some (.int (v5 + (nI 1))), none] [] w)))) :=
  (qz_blk qz_cd [8, 30, 43, 131] 38 200 43 _ _ _).trans rfl
set_option maxRecDepth 100000 in
theorem e_M_goesOn_131 (v0 : Nat) (v2 : Int32) (v3 : Int32) (v4 : Int32) (v5 : Int32) (w : qz_W) : rn 200 131 [some (.ref v0), none, some (.int v2), some (.int v3), some (.int v4), some (.int v5), none] [] w =
    (if (nI 4) ≤ v5 then rn 200 30 [some (.ref v0), none, some (.int v2), some (.int (v3 + (nI 1))), none, none, none] [] w else qz_r1 (rn 144 0 [some (.int v4), some (.int v5), none, none] [] w) (fun x2 w1 => (if x2 = (-1) then rn 200 131 [some (.ref v0), none, some (.int v2), some (.int v3), some (.int v4), some (.int (v5 + (nI 1))), none] [] w1 else qz_ga w1.1 v0 12 45 (fun q3 => qz_ia w1.1 q3 x2 (fun x4 => (if (nI 1000000000) ≤ x4 then rn 200 131 [some (.ref v0), none, some (.int v2), some (.int v3), some (.int v4), some (.int (v5 + (nI 1))), none] [] w1 else qz_ga w1.1 v0 12 43 (fun q5 => qz_ga w1.1 v0 12 43 (fun q6 => qz_ia w1.1 q6 (v2 + x2) (fun x7 => qz_ga w1.1 v0 12 43 (fun q8 => qz_ia w1.1 q8 (v2 + v4) (fun x9 => qz_ga w1.1 v0 12 45 (fun q10 => qz_ia w1.1 q10 x2 (fun x11 => qz_r1 (rn 136 0 [some (.int x7), some (.int (x9 + x11))] [] w1) (fun x13 w12 => qz_is w12 q5 (v2 + x2) x13 (fun w14 => rn 200 131 [some (.ref v0), none, some (.int v2), some (.int v3), some (.int v4), some (.int (v5 + (nI 1))), none] [] w14))))))))))))))) :=
  (qz_blk qz_cd [8, 30, 43, 131] 44 200 131 _ _ _).trans rfl
set_option maxRecDepth 100000 in
theorem e_M_joins_0 (v0 : Nat) (v1 : Int32) (v2 : Int32) (w : qz_W) : rn 201 0 [some (.ref v0), some (.int v1), some (.int v2), none, none, none, none, none, none] [] w =
    qz_ck w.1 v0 12 (qz_r0 (rn 198 0 [some (.ref v0), some (.int v1), some (.int v2), none] [] w) (fun w1 => qz_ga w1.1 v0 12 44 (fun q2 => qz_is w1 q2 (nI 0) (nI 0) (fun w3 => rn 201 15 [some (.ref v0), some (.int v1), none, some (.int (nI 1)), none, none, none, none, none] [] w3)))) :=
  (qz_blk qz_cd [15, 28, 85, 211, 253, 294] 13 201 0 _ _ _).trans rfl
set_option maxRecDepth 100000 in
theorem e_M_joins_15 (v0 : Nat) (v1 : Int32) (v3 : Int32) (w : qz_W) : rn 201 15 [some (.ref v0), some (.int v1), none, some (.int v3), none, none, none, none, none] [] w =
    qz_gi w.1 v0 12 36 (fun x1 => (if (nI 1) <<< (x1 &&& 31) ≤ v3 then some (none, w) else rn 201 28 [some (.ref v0), some (.int v1), none, some (.int v3), some (.int (nI 0)), none, none, none, none] [] w)) :=
  (qz_blk qz_cd [15, 28, 85, 211, 253, 294] 10 201 15 _ _ _).trans rfl
set_option maxRecDepth 100000 in
theorem e_M_joins_28 (v0 : Nat) (v1 : Int32) (v3 : Int32) (v4 : Int32) (w : qz_W) : rn 201 28 [some (.ref v0), some (.int v1), none, some (.int v3), some (.int v4), none, none, none, none] [] w =
    (if (nI 400) ≤ v4 then qz_ck w.1 v0 12 (qz_r0 (rn 200 0 [some (.ref v0), some (.int v3), none, none, none, none, none] [] w) (fun w1 => qz_ga w1.1 v0 12 44 (fun q2 => qz_is w1 q2 v3 (nI 1000000000) (fun w3 => rn 201 211 [some (.ref v0), some (.int v1), none, some (.int v3), some (.int (nI 0)), none, none, none, none] [] w3)))) else qz_r1 (rn 199 0 [some (.int v3), none, none] [] w) (fun x5 w4 => (if x5 = (nI 1) then qz_ga w4.1 v0 12 32 (fun q6 => qz_ia w4.1 q6 v4 (fun x7 => (if x7 = (-1) then rn 201 85 [some (.ref v0), some (.int v1), none, some (.int v3), some (.int v4), some (.int (nI 1000000000)), some (.int ((v3 - (nI 1)) &&& v3)), none, none] [] w4 else qz_ga w4.1 v0 12 32 (fun q8 => qz_ia w4.1 q8 v4 (fun x9 => qz_r1 (rn 92 0 [some (.int v3), some (.int x9)] [] w4) (fun x11 w10 => (if x11 = 0 then rn 201 85 [some (.ref v0), some (.int v1), none, some (.int v3), some (.int v4), some (.int (nI 1000000000)), some (.int ((v3 - (nI 1)) &&& v3)), none, none] [] w10 else rn 201 85 [some (.ref v0), some (.int v1), none, some (.int v3), some (.int v4), some (.int (nI 0)), some (.int ((v3 - (nI 1)) &&& v3)), none, none] [] w10))))))) else rn 201 85 [some (.ref v0), some (.int v1), none, some (.int v3), some (.int v4), some (.int (nI 1000000000)), some (.int ((v3 - (nI 1)) &&& v3)), none, none] [] w4))) :=
  (qz_blk qz_cd [15, 28, 85, 211, 253, 294] 31 201 28 _ _ _).trans rfl
set_option maxRecDepth 100000 in
theorem e_M_joins_85 (v0 : Nat) (v1 : Int32) (v3 : Int32) (v4 : Int32) (v5 : Int32) (v6 : Int32) (w : qz_W) : rn 201 85 [some (.ref v0), some (.int v1), none, some (.int v3), some (.int v4), some (.int v5), some (.int v6), none, none] [] w =
    (if v6 ≤ 0 then qz_ga w.1 v0 12 43 (fun q1 => qz_is w q1 (((nI 400) * v3) + v4) v5 (fun w2 => rn 201 28 [some (.ref v0), some (.int v1), none, some (.int v3), some (.int (v4 + (nI 1))), none, none, none, none] [] w2)) else qz_ga w.1 v0 12 43 (fun q3 => qz_ia w.1 q3 (((nI 400) * v6) + v4) (fun x4 => qz_ga w.1 v0 12 43 (fun q5 => qz_ia w.1 q5 (((nI 400) * (v3 &&& (v6 ^^^ (-1)))) + v4) (fun x6 => (if (nI 1000000000) ≤ x4 then rn 201 85 [some (.ref v0), some (.int v1), none, some (.int v3), some (.int v4), some (.int v5), some (.int ((v6 - (nI 1)) &&& v3)), none, none] [] w else (if (nI 1000000000) ≤ x6 then rn 201 85 [some (.ref v0), some (.int v1), none, some (.int v3), some (.int v4), some (.int v5), some (.int ((v6 - (nI 1)) &&& v3)), none, none] [] w else qz_ga w.1 v0 12 45 (fun q7 => qz_ia w.1 q7 v4 (fun x8 => qz_r1 (rn 136 0 [some (.int v5), some (.int ((x4 + x6) - x8))] [] w) (fun x10 w9 => rn 201 85 [some (.ref v0), some (.int v1), none, some (.int v3), some (.int v4), some (.int x10), some (.int ((v6 - (nI 1)) &&& v3)), none, none] [] w9)))))))))) :=
  (qz_blk qz_cd [15, 28, 85, 211, 253, 294] 50 201 85 _ _ _).trans rfl
set_option maxRecDepth 100000 in
theorem e_M_joins_211 (v0 : Nat) (v1 : Int32) (v3 : Int32) (v4 : Int32) (w : qz_W) : rn 201 211 [some (.ref v0), some (.int v1), none, some (.int v3), some (.int v4), none, none, none, none] [] w =
    (if (nI 400) ≤ v4 then rn 201 294 [some (.ref v0), some (.int v1), none, some (.int v3), some (.int ((v3 - (nI 1)) &&& v3)), none, none, none, none] [] w else qz_ga w.1 v0 12 45 (fun q1 => qz_ia w.1 q1 v4 (fun x2 => (if (nI 1000000000) ≤ x2 then rn 201 211 [some (.ref v0), some (.int v1), none, some (.int v3), some (.int (v4 + (nI 1))), none, none, none, none] [] w else qz_ck w.1 v0 12 (qz_r1 (rn 142 0 [some (.ref v0), some (.int v1), some (.int v4), none, none, none] [] w) (fun x4 w3 => (if x4 = 0 then qz_ga w3.1 v0 12 30 (fun q5 => qz_ia w3.1 q5 v4 (fun x6 => (if x6 = (nI 1) then rn 201 253 [some (.ref v0), some (.int v1), none, some (.int v3), some (.int v4), none, none, none, none] [] w3 else rn 201 211 [some (.ref v0), some (.int v1), none, some (.int v3), some (.int (v4 + (nI 1))), none, none, none, none] [] w3))) else rn 201 253 [some (.ref v0), some (.int v1), none, some (.int v3), some (.int v4), none, none, none, none] [] w3))))))) :=
  (qz_blk qz_cd [15, 28, 85, 211, 253, 294] 24 201 211 _ _ _).trans rfl
set_option maxRecDepth 100000 in
theorem e_M_joins_253 (v0 : Nat) (v1 : Int32) (v3 : Int32) (v4 : Int32) (w : qz_W) : rn 201 253 [some (.ref v0), some (.int v1), none, some (.int v3), some (.int v4), none, none, none, none] [] w =
    qz_ga w.1 v0 12 44 (fun q1 => qz_ga w.1 v0 12 44 (fun q2 => qz_ia w.1 q2 v3 (fun x3 => qz_ga w.1 v0 12 43 (fun q4 => qz_ia w.1 q4 (((nI 400) * v3) + v4) (fun x5 => qz_r1 (rn 136 0 [some (.int x3), some (.int x5)] [] w) (fun x7 w6 => qz_is w6 q1 v3 x7 (fun w8 => rn 201 211 [some (.ref v0), some (.int v1), none, some (.int v3), some (.int (v4 + (nI 1))), none, none, none, none] [] w8))))))) :=
  (qz_blk qz_cd [15, 28, 85, 211, 253, 294] 21 201 253 _ _ _).trans rfl
set_option maxRecDepth 100000 in
theorem e_M_joins_294 (v0 : Nat) (v1 : Int32) (v3 : Int32) (v4 : Int32) (w : qz_W) : rn 201 294 [some (.ref v0), some (.int v1), none, some (.int v3), some (.int v4), none, none, none, none] [] w =
    (if v4 ≤ 0 then rn 201 15 [some (.ref v0), some (.int v1), none, some (.int (v3 + (nI 1))), none, none, none, none, none] [] w else qz_ga w.1 v0 12 44 (fun q1 => qz_ga w.1 v0 12 44 (fun q2 => qz_ia w.1 q2 v3 (fun x3 => qz_ga w.1 v0 12 44 (fun q4 => qz_ia w.1 q4 v4 (fun x5 => qz_ga w.1 v0 12 44 (fun q6 => qz_ia w.1 q6 (v3 &&& (v4 ^^^ (-1))) (fun x7 => qz_r1 (rn 136 0 [some (.int x3), some (.int (x5 + x7))] [] w) (fun x9 w8 => qz_is w8 q1 v3 x9 (fun w10 => rn 201 294 [some (.ref v0), some (.int v1), none, some (.int v3), some (.int ((v4 - (nI 1)) &&& v3)), none, none, none, none] [] w10)))))))))) :=
  (qz_blk qz_cd [15, 28, 85, 211, 253, 294] 33 201 294 _ _ _).trans rfl
set_option maxRecDepth 100000 in
theorem e_M_cheapest_0 (v0 : Nat) (v1 : Int32) (w : qz_W) : rn 202 0 [some (.ref v0), some (.int v1)] [] w =
    qz_ck w.1 v0 12 (qz_r1 (rn 120 0 [some (.ref v0), some (.int v1)] [] w) (fun x2 w1 => (if x2 = 0 then some (some (.int (-1)), w1) else qz_ck w1.1 v0 12 (qz_r0 (rn 149 0 [some (.ref v0), some (.int v1), some (.int (nI 0))] [] w1) (fun w3 => qz_gi w3.1 v0 12 36 (fun x4 => (if x4 ≤ (nI 7) then qz_ck w3.1 v0 12 (qz_r0 (rn 201 0 [some (.ref v0), some (.int v1), some (.int (nI 1)), none, none, none, none, none, none] [] w3) (fun w5 => qz_ga w5.1 v0 12 44 (fun q6 => qz_gi w5.1 v0 12 36 (fun x7 => qz_ia w5.1 q6 (((nI 1) <<< (x7 &&& 31)) - (nI 1)) (fun x8 => some (some (.int x8), w5)))))) else some (some (.int (-1)), w3)))))))) :=
  (qz_blk qz_cd [] 28 202 0 _ _ _).trans rfl
set_option maxRecDepth 100000 in
theorem e_Joining_fewestChanges_0 (v0 : Nat) (v1 : Nat) (w : qz_W) : rn 203 0 [some (.ref v0), some (.ref v1), none, none, none, none] [] w =
    rn 203 5 [some (.ref v0), some (.ref v1), some (.int (nI 1000000)), some (.int (nI 0)), none, none] [] w :=
  (qz_blk qz_cd [5, 23] 6 203 0 _ _ _).trans rfl
set_option maxRecDepth 100000 in
theorem e_Joining_fewestChanges_5 (v0 : Nat) (v1 : Nat) (v2 : Int32) (v3 : Int32) (w : qz_W) : rn 203 5 [some (.ref v0), some (.ref v1), some (.int v2), some (.int v3), none, none] [] w =
    qz_gi w.1 v0 4 3 (fun x1 => (if x1 < v3 then some (some (.int v2), w) else qz_ck w.1 v0 4 (qz_r1 (rn 195 0 [some (.ref v0), some (.int v3)] [] w) (fun x3 w2 => rn 203 23 [some (.ref v0), some (.ref v1), some (.int v2), some (.int v3), some (.int x3), some (.int (nI 0))] [] w2)))) :=
  (qz_blk qz_cd [5, 23] 12 203 5 _ _ _).trans rfl
set_option maxRecDepth 100000 in
theorem e_Joining_fewestChanges_23 (v0 : Nat) (v1 : Nat) (v2 : Int32) (v3 : Int32) (v4 : Int32) (v5 : Int32) (w : qz_W) : rn 203 23 [some (.ref v0), some (.ref v1), some (.int v2), some (.int v3), some (.int v4), some (.int v5)] [] w =
    qz_gi w.1 v1 5 0 (fun x1 => (if x1 ≤ v5 then qz_r1 (rn 136 0 [some (.int v2), some (.int v4)] [] w) (fun x3 w2 => rn 203 5 [some (.ref v0), some (.ref v1), some (.int x3), some (.int (v3 + (nI 1))), none, none] [] w2) else (if (v3 >>> (v5 &&& 31)) &&& (nI 1) = 0 then qz_ga w.1 v1 5 2 (fun q4 => qz_ia w.1 q4 v5 (fun x5 => rn 203 23 [some (.ref v0), some (.ref v1), some (.int v2), some (.int v3), some (.int (v4 + x5)), some (.int (v5 + (nI 1)))] [] w)) else rn 203 23 [some (.ref v0), some (.ref v1), some (.int v2), some (.int v3), some (.int (v4 + (nI 0))), some (.int (v5 + (nI 1)))] [] w))) :=
  (qz_blk qz_cd [5, 23] 22 203 23 _ _ _).trans rfl
set_option maxRecDepth 100000 in
theorem e_C_made_0 (v0 : Nat) (v1 : Int32) (w : qz_W) : rn 204 0 [some (.ref v0), some (.int v1), none] [] w =
    qz_ck w.1 v0 11 (qz_r3 (rn 115 0 [some (.ref v0), some (.int v1)] [] w) (fun w1 => some (some (.int (-1)), w1)) (fun q2 w1 => qz_ck w1.1 v0 11 (qz_r1 (rn 188 0 [some (.ref v0), some (.ref q2)] [] w1) (fun x4 w3 => (if x4 = 0 then some (some (.int (-1)), w3) else qz_ga w3.1 v0 11 11 (fun q5 => qz_ga w3.1 v0 11 10 (fun q6 => qz_ck w3.1 q5 4 (qz_r0 (rn 194 0 [some (.ref q5), some (.ref q2), some (.ref q6), some (.int (nI 0)), none, none] [] w3) (fun w7 => qz_ga w7.1 v0 11 11 (fun q8 => qz_ga w7.1 v0 11 10 (fun q9 => qz_ck w7.1 q8 4 (qz_r1 (rn 203 0 [some (.ref q8), some (.ref q9), none, none, none, none] [] w7) (fun x11 w10 => some (some (.int x11), w10)))))))))))))) :=
  (qz_blk qz_cd [] 25 204 0 _ _ _).trans rfl
set_option maxRecDepth 100000 in
theorem e_M_made_0 (v0 : Nat) (v1 : Int32) (w : qz_W) : rn 205 0 [some (.ref v0), some (.int v1), none, none, none, none] [] w =
    qz_ck w.1 v0 12 (qz_r1 (rn 120 0 [some (.ref v0), some (.int v1)] [] w) (fun x2 w1 => (if x2 = 0 then some (some (.int (-1)), w1) else qz_ck w1.1 v0 12 (qz_r0 (rn 149 0 [some (.ref v0), some (.int v1), some (.int (nI 0))] [] w1) (fun w3 => qz_gi w3.1 v0 12 36 (fun x4 => (if x4 ≤ (nI 7) then qz_ck w3.1 v0 12 (qz_r0 (rn 201 0 [some (.ref v0), some (.int v1), some (.int (nI 0)), none, none, none, none, none, none] [] w3) (fun w5 => rn 205 39 [some (.ref v0), none, some (.int (nI 1000000000)), some (.int (nI 0)), none, none] [] w5)) else some (some (.int (-1)), w3)))))))) :=
  (qz_blk qz_cd [39, 60] 22 205 0 _ _ _).trans rfl
set_option maxRecDepth 100000 in
theorem e_M_made_39 (v0 : Nat) (v2 : Int32) (v3 : Int32) (w : qz_W) : rn 205 39 [some (.ref v0), none, some (.int v2), some (.int v3), none, none] [] w =
    qz_gi w.1 v0 12 36 (fun x1 => (if (nI 1) <<< (x1 &&& 31) ≤ v3 then some (some (.int v2), w) else qz_ga w.1 v0 12 44 (fun q2 => qz_ia w.1 q2 v3 (fun x3 => rn 205 60 [some (.ref v0), none, some (.int v2), some (.int v3), some (.int x3), some (.int (nI 0))] [] w)))) :=
  (qz_blk qz_cd [39, 60] 15 205 39 _ _ _).trans rfl
set_option maxRecDepth 100000 in
theorem e_M_made_60 (v0 : Nat) (v2 : Int32) (v3 : Int32) (v4 : Int32) (v5 : Int32) (w : qz_W) : rn 205 60 [some (.ref v0), none, some (.int v2), some (.int v3), some (.int v4), some (.int v5)] [] w =
    qz_gi w.1 v0 12 36 (fun x1 => (if x1 ≤ v5 then qz_r1 (rn 136 0 [some (.int v2), some (.int v4)] [] w) (fun x3 w2 => rn 205 39 [some (.ref v0), none, some (.int x3), some (.int (v3 + (nI 1))), none, none] [] w2) else qz_r1 (rn 92 0 [some (.int v3), some (.int v5)] [] w) (fun x5 w4 => (if x5 = 0 then qz_ga w4.1 v0 12 34 (fun q6 => qz_ia w4.1 q6 v5 (fun x7 => rn 205 60 [some (.ref v0), none, some (.int v2), some (.int v3), some (.int (v4 + x7)), some (.int (v5 + (nI 1)))] [] w4)) else rn 205 60 [some (.ref v0), none, some (.int v2), some (.int v3), some (.int (v4 + (nI 0))), some (.int (v5 + (nI 1)))] [] w4)))) :=
  (qz_blk qz_cd [39, 60] 19 205 60 _ _ _).trans rfl
set_option maxRecDepth 100000 in
theorem e_Choosing_weighN_0 (v0 : Nat) (v1 : Nat) (w : qz_W) : rn 206 0 [some (.ref v0), some (.ref v1), some (.null), none, none] [] w =
    qz_ga w.1 v0 1 0 (fun q1 => qz_r0 (rn 31 0 [some (.ref q1), some (.int (nI 0)), none, none] [] w) (fun w2 => rn 206 10 [some (.ref v0), some (.ref v1), some (.null), some (.int (nI 0)), none] [] w2)) :=
  (qz_blk qz_cd [10, 21, 76, 87] 8 206 0 _ _ _).trans rfl
set_option maxRecDepth 100000 in
theorem e_Choosing_weighN_10 (v0 : Nat) (v1 : Nat) (v3 : Int32) (w : qz_W) : rn 206 10 [some (.ref v0), some (.ref v1), some (.null), some (.int v3), none] [] w =
    qz_gi w.1 v1 8 2 (fun x1 => (if x1 ≤ v3 then rn 206 76 [some (.ref v0), none, none, some (.int (nI 1)), none] [] w else rn 206 21 [some (.ref v0), some (.ref v1), some (.null), some (.int v3), some (.int (nI 0))] [] w)) :=
  (qz_blk qz_cd [10, 21, 76, 87] 8 206 10 _ _ _).trans rfl
set_option maxRecDepth 100000 in
theorem e_Choosing_weighN_21 (v0 : Nat) (v1 : Nat) (v3 : Int32) (v4 : Int32) (w : qz_W) : rn 206 21 [some (.ref v0), some (.ref v1), some (.null), some (.int v3), some (.int v4)] [] w =
    qz_gi w.1 v1 8 1 (fun x1 => (if x1 ≤ v4 then rn 206 10 [some (.ref v0), some (.ref v1), some (.null), some (.int (v3 + (nI 1))), none] [] w else qz_ga w.1 v0 1 0 (fun q2 => qz_gi w.1 v0 1 2 (fun x3 => qz_ck w.1 v1 8 (qz_r1 (rn 180 0 [some (.ref v1), some (.int v4), some (.int v3), some (.int x3), some (.null), none, none] [] w) (fun x5 w4 => qz_ia w4.1 q2 x5 (fun x6 => qz_ga w4.1 v1 8 8 (fun q7 => qz_ia w4.1 q7 ((v3 * (nI 20)) + v4) (fun x8 => qz_is w4 q2 x5 (x6 + x8) (fun w9 => rn 206 21 [some (.ref v0), some (.ref v1), some (.null), some (.int v3), some (.int (v4 + (nI 1)))] [] w9)))))))))) :=
  (qz_blk qz_cd [10, 21, 76, 87] 29 206 21 _ _ _).trans rfl
set_option maxRecDepth 100000 in
theorem e_Choosing_weighN_76 (v0 : Nat) (v3 : Int32) (w : qz_W) : rn 206 76 [some (.ref v0), none, none, some (.int v3), none] [] w =
    qz_gi w.1 v0 1 2 (fun x1 => (if x1 < v3 then some (none, w) else rn 206 87 [some (.ref v0), none, none, some (.int v3), some (.int (nI 0))] [] w)) :=
  (qz_blk qz_cd [10, 21, 76, 87] 8 206 76 _ _ _).trans rfl
set_option maxRecDepth 100000 in
theorem e_Choosing_weighN_87 (v0 : Nat) (v3 : Int32) (v4 : Int32) (w : qz_W) : rn 206 87 [some (.ref v0), none, none, some (.int v3), some (.int v4)] [] w =
    qz_gi w.1 v0 1 2 (fun x1 => (if x1 < v4 then rn 206 76 [some (.ref v0), none, none, some (.int (v3 * (nI 2))), none] [] w else (if v4 &&& v3 = 0 then rn 206 87 [some (.ref v0), none, none, some (.int v3), some (.int (v4 + (nI 1)))] [] w else qz_ga w.1 v0 1 0 (fun q2 => qz_ia w.1 q2 v4 (fun x3 => qz_ga w.1 v0 1 0 (fun q4 => qz_ia w.1 q4 (v4 ^^^ v3) (fun x5 => qz_is w q2 v4 (x3 + x5) (fun w6 => rn 206 87 [some (.ref v0), none, none, some (.int v3), some (.int (v4 + (nI 1)))] [] w6)))))))) :=
  (qz_blk qz_cd [10, 21, 76, 87] 25 206 87 _ _ _).trans rfl
set_option maxRecDepth 100000 in
theorem e_Choosing_weighR_0 (v0 : Nat) (v1 : Nat) (v2 : Nat) (w : qz_W) : rn 206 0 [some (.ref v0), some (.ref v1), some (.ref v2), none, none] [] w =
    qz_ga w.1 v0 1 0 (fun q1 => qz_r0 (rn 31 0 [some (.ref q1), some (.int (nI 0)), none, none] [] w) (fun w2 => rn 206 10 [some (.ref v0), some (.ref v1), some (.ref v2), some (.int (nI 0)), none] [] w2)) :=
  (qz_blk qz_cd [10, 21, 76, 87] 8 206 0 _ _ _).trans rfl
set_option maxRecDepth 100000 in
theorem e_Choosing_weighR_10 (v0 : Nat) (v1 : Nat) (v2 : Nat) (v3 : Int32) (w : qz_W) : rn 206 10 [some (.ref v0), some (.ref v1), some (.ref v2), some (.int v3), none] [] w =
    qz_gi w.1 v1 8 2 (fun x1 => (if x1 ≤ v3 then rn 206 76 [some (.ref v0), none, none, some (.int (nI 1)), none] [] w else rn 206 21 [some (.ref v0), some (.ref v1), some (.ref v2), some (.int v3), some (.int (nI 0))] [] w)) :=
  (qz_blk qz_cd [10, 21, 76, 87] 8 206 10 _ _ _).trans rfl
set_option maxRecDepth 100000 in
theorem e_Choosing_weighR_21 (v0 : Nat) (v1 : Nat) (v2 : Nat) (v3 : Int32) (v4 : Int32) (w : qz_W) : rn 206 21 [some (.ref v0), some (.ref v1), some (.ref v2), some (.int v3), some (.int v4)] [] w =
    qz_gi w.1 v1 8 1 (fun x1 => (if x1 ≤ v4 then rn 206 10 [some (.ref v0), some (.ref v1), some (.ref v2), some (.int (v3 + (nI 1))), none] [] w else qz_ga w.1 v0 1 0 (fun q2 => qz_gi w.1 v0 1 2 (fun x3 => qz_ck w.1 v1 8 (qz_r1 (rn 180 0 [some (.ref v1), some (.int v4), some (.int v3), some (.int x3), some (.ref v2), none, none] [] w) (fun x5 w4 => qz_ia w4.1 q2 x5 (fun x6 => qz_ga w4.1 v1 8 8 (fun q7 => qz_ia w4.1 q7 ((v3 * (nI 20)) + v4) (fun x8 => qz_is w4 q2 x5 (x6 + x8) (fun w9 => rn 206 21 [some (.ref v0), some (.ref v1), some (.ref v2), some (.int v3), some (.int (v4 + (nI 1)))] [] w9)))))))))) :=
  (qz_blk qz_cd [10, 21, 76, 87] 29 206 21 _ _ _).trans rfl
set_option maxRecDepth 100000 in
theorem e_Choosing_weighR_76 (v0 : Nat) (v3 : Int32) (w : qz_W) : rn 206 76 [some (.ref v0), none, none, some (.int v3), none] [] w =
    qz_gi w.1 v0 1 2 (fun x1 => (if x1 < v3 then some (none, w) else rn 206 87 [some (.ref v0), none, none, some (.int v3), some (.int (nI 0))] [] w)) :=
  (qz_blk qz_cd [10, 21, 76, 87] 8 206 76 _ _ _).trans rfl
set_option maxRecDepth 100000 in
theorem e_Choosing_weighR_87 (v0 : Nat) (v3 : Int32) (v4 : Int32) (w : qz_W) : rn 206 87 [some (.ref v0), none, none, some (.int v3), some (.int v4)] [] w =
    qz_gi w.1 v0 1 2 (fun x1 => (if x1 < v4 then rn 206 76 [some (.ref v0), none, none, some (.int (v3 * (nI 2))), none] [] w else (if v4 &&& v3 = 0 then rn 206 87 [some (.ref v0), none, none, some (.int v3), some (.int (v4 + (nI 1)))] [] w else qz_ga w.1 v0 1 0 (fun q2 => qz_ia w.1 q2 v4 (fun x3 => qz_ga w.1 v0 1 0 (fun q4 => qz_ia w.1 q4 (v4 ^^^ v3) (fun x5 => qz_is w q2 v4 (x3 + x5) (fun w6 => rn 206 87 [some (.ref v0), none, none, some (.int v3), some (.int (v4 + (nI 1)))] [] w6)))))))) :=
  (qz_blk qz_cd [10, 21, 76, 87] 25 206 87 _ _ _).trans rfl
set_option maxRecDepth 100000 in
theorem e_Choosing_seenBy_0 (v0 : Nat) (v1 : Int32) (w : qz_W) : rn 207 0 [some (.ref v0), some (.int v1)] [] w =
    qz_ga w.1 v0 1 0 (fun q1 => qz_gi w.1 v0 1 2 (fun x2 => qz_ia w.1 q1 x2 (fun x3 => qz_ga w.1 v0 1 0 (fun q4 => qz_gi w.1 v0 1 2 (fun x5 => qz_ia w.1 q4 (x5 &&& (v1 ^^^ (-1))) (fun x6 => some (some (.int (x3 - x6)), w))))))) :=
  (qz_blk qz_cd [] 18 207 0 _ _ _).trans rfl
set_option maxRecDepth 100000 in
theorem e_Choosing_isBetter_0 (v0 : Nat) (v1 : Int32) (v2 : Int32) (w : qz_W) : rn 208 0 [some (.ref v0), some (.int v1), some (.int v2), none, none] [] w =
    qz_ck w.1 v0 1 (qz_r1 (rn 207 0 [some (.ref v0), some (.int v1)] [] w) (fun x2 w1 => qz_ck w1.1 v0 1 (qz_r1 (rn 207 0 [some (.ref v0), some (.int v2)] [] w1) (fun x4 w3 => (if x2 < x4 then some (some (.int (nI 1)), w3) else (if x2 = x4 then qz_r1 (rn 62 0 [some (.int v1)] [] w3) (fun x6 w5 => qz_r1 (rn 62 0 [some (.int v2)] [] w5) (fun x8 w7 => (if x8 ≤ x6 then some (some (.int (nI 0)), w7) else some (some (.int (nI 1)), w7)))) else some (some (.int (nI 0)), w3))))))) :=
  (qz_blk qz_cd [] 24 208 0 _ _ _).trans rfl
set_option maxRecDepth 100000 in
theorem e_Choosing_allHangs_0 (v0 : Nat) (v1 : Int32) (v2 : Nat) (v3 : Nat) (w : qz_W) : rn 209 0 [some (.ref v0), some (.int v1), some (.ref v2), some (.ref v3)] [] w =
    qz_ga w.1 v0 1 1 (fun q1 => qz_ia w.1 q1 v1 (fun x2 => (if x2 = 0 then qz_ck w.1 v3 3 (qz_r0 (rn 129 0 [some (.ref v3), some (.ref v2), some (.int v1), none, none, none] [] w) (fun w5 => qz_ga w5.1 v0 1 1 (fun q6 => qz_ck w5.1 v3 3 (qz_r1 (rn 177 0 [some (.ref v3), none, none] [] w5) (fun x8 w7 => (if x8 = 0 then qz_is w7 q6 v1 (nI 1) (fun w12 => qz_ga w12.1 v0 1 1 (fun q13 => qz_ia w12.1 q13 v1 (fun x14 => (if x14 = (nI 1) then some (some (.int (nI 1)), w12) else some (some (.int (nI 0)), w12))))) else qz_is w7 q6 v1 (nI 2) (fun w9 => qz_ga w9.1 v0 1 1 (fun q10 => qz_ia w9.1 q10 v1 (fun x11 => (if x11 = (nI 1) then some (some (.int (nI 1)), w9) else some (some (.int (nI 0)), w9))))))))))) else qz_ga w.1 v0 1 1 (fun q3 => qz_ia w.1 q3 v1 (fun x4 => (if x4 = (nI 1) then some (some (.int (nI 1)), w) else some (some (.int (nI 0)), w))))))) :=
  (qz_blk qz_cd [] 29 209 0 _ _ _).trans rfl
set_option maxRecDepth 100000 in
theorem e_Choosing_holds_0 (v0 : Nat) (v1 : Int32) (v2 : Nat) (v3 : Nat) (v4 : Int32) (w : qz_W) : rn 210 0 [some (.ref v0), some (.int v1), some (.ref v2), some (.ref v3), some (.int v4), none] [] w =
    qz_ck w.1 v0 1 (qz_r1 (rn 209 0 [some (.ref v0), some (.int v1), some (.ref v2), some (.ref v3)] [] w) (fun x2 w1 => (if x2 = 0 then some (some (.int (nI 0)), w1) else rn 210 15 [some (.ref v0), some (.int v1), some (.ref v2), some (.ref v3), some (.int v4), some (.int (nI 0))] [] w1))) :=
  (qz_blk qz_cd [15] 10 210 0 _ _ _).trans rfl
set_option maxRecDepth 100000 in
theorem e_Choosing_holds_15 (v0 : Nat) (v1 : Int32) (v2 : Nat) (v3 : Nat) (v4 : Int32) (v5 : Int32) (w : qz_W) : rn 210 15 [some (.ref v0), some (.int v1), some (.ref v2), some (.ref v3), some (.int v4), some (.int v5)] [] w =
    (if v4 = 0 then some (some (.int (nI 1)), w) else qz_ga w.1 v2 8 9 (fun q1 => qz_gi w.1 q1 0 0 (fun x2 => (if x2 ≤ v5 then some (some (.int (nI 1)), w) else (if (v1 >>> (v5 &&& 31)) &&& (nI 1) = 0 then rn 210 15 [some (.ref v0), some (.int v1), some (.ref v2), some (.ref v3), some (.int v4), some (.int (v5 + (nI 1)))] [] w else qz_ck w.1 v0 1 (qz_r1 (rn 209 0 [some (.ref v0), some (.int (v1 ^^^ ((nI 1) <<< (v5 &&& 31)))), some (.ref v2), some (.ref v3)] [] w) (fun x4 w3 => (if x4 = 0 then some (some (.int (nI 0)), w3) else rn 210 15 [some (.ref v0), some (.int v1), some (.ref v2), some (.ref v3), some (.int v4), some (.int (v5 + (nI 1)))] [] w3)))))))) :=
  (qz_blk qz_cd [15] 27 210 15 _ _ _).trans rfl
set_option maxRecDepth 100000 in
theorem e_Choosing_chooseN_0 (v0 : Nat) (v1 : Nat) (v3 : Nat) (v4 : Int32) (w : qz_W) : rn 211 0 [some (.ref v0), some (.ref v1), some (.null), some (.ref v3), some (.int v4), none, none] [] w =
    qz_ga w.1 v1 8 9 (fun q1 => qz_gi w.1 q1 0 0 (fun x2 => qz_pf w v0 1 2 (.int (((nI 1) <<< (x2 &&& 31)) - (nI 1))) (fun w3 => qz_ck w3.1 v0 1 (qz_r0 (rn 206 0 [some (.ref v0), some (.ref v1), some (.null), none, none] [] w3) (fun w4 => qz_ga w4.1 v0 1 1 (fun q5 => qz_r0 (rn 31 0 [some (.ref q5), some (.int (nI 0)), none, none] [] w4) (fun w6 => rn 211 35 [some (.ref v0), some (.ref v1), none, some (.ref v3), some (.int v4), some (.int (-1)), some (.int (nI 0))] [] w6))))))) :=
  (qz_blk qz_cd [35] 23 211 0 _ _ _).trans rfl
set_option maxRecDepth 100000 in
theorem e_Choosing_chooseN_35 (v0 : Nat) (v1 : Nat) (v3 : Nat) (v4 : Int32) (v5 : Int32) (v6 : Int32) (w : qz_W) : rn 211 35 [some (.ref v0), some (.ref v1), none, some (.ref v3), some (.int v4), some (.int v5), some (.int v6)] [] w =
    qz_gi w.1 v0 1 2 (fun x1 => (if x1 < v6 then some (some (.int v5), w) else (if v5 = (-1) then qz_ck w.1 v0 1 (qz_r1 (rn 210 0 [some (.ref v0), some (.int v6), some (.ref v1), some (.ref v3), some (.int v4), none] [] w) (fun x3 w2 => (if x3 = 0 then rn 211 35 [some (.ref v0), some (.ref v1), none, some (.ref v3), some (.int v4), some (.int v5), some (.int (v6 + (nI 1)))] [] w2 else rn 211 35 [some (.ref v0), some (.ref v1), none, some (.ref v3), some (.int v4), some (.int v6), some (.int (v6 + (nI 1)))] [] w2))) else qz_ck w.1 v0 1 (qz_r1 (rn 208 0 [some (.ref v0), some (.int v6), some (.int v5), none, none] [] w) (fun x5 w4 => (if x5 = 0 then rn 211 35 [some (.ref v0), some (.ref v1), none, some (.ref v3), some (.int v4), some (.int v5), some (.int (v6 + (nI 1)))] [] w4 else qz_ck w4.1 v0 1 (qz_r1 (rn 210 0 [some (.ref v0), some (.int v6), some (.ref v1), some (.ref v3), some (.int v4), none] [] w4) (fun x7 w6 => (if x7 = 0 then rn 211 35 [some (.ref v0), some (.ref v1), none, some (.ref v3), some (.int v4), some (.int v5), some (.int (v6 + (nI 1)))] [] w6 else rn 211 35 [some (.ref v0), some (.ref v1), none, some (.ref v3), some (.int v4), some (.int v6), some (.int (v6 + (nI 1)))] [] w6))))))))) :=
  (qz_blk qz_cd [35] 25 211 35 _ _ _).trans rfl
set_option maxRecDepth 100000 in
theorem e_Choosing_chooseR_0 (v0 : Nat) (v1 : Nat) (v2 : Nat) (v3 : Nat) (v4 : Int32) (w : qz_W) : rn 211 0 [some (.ref v0), some (.ref v1), some (.ref v2), some (.ref v3), some (.int v4), none, none] [] w =
    qz_ga w.1 v1 8 9 (fun q1 => qz_gi w.1 q1 0 0 (fun x2 => qz_pf w v0 1 2 (.int (((nI 1) <<< (x2 &&& 31)) - (nI 1))) (fun w3 => qz_ck w3.1 v0 1 (qz_r0 (rn 206 0 [some (.ref v0), some (.ref v1), some (.ref v2), none, none] [] w3) (fun w4 => qz_ga w4.1 v0 1 1 (fun q5 => qz_r0 (rn 31 0 [some (.ref q5), some (.int (nI 0)), none, none] [] w4) (fun w6 => rn 211 35 [some (.ref v0), some (.ref v1), none, some (.ref v3), some (.int v4), some (.int (-1)), some (.int (nI 0))] [] w6))))))) :=
  (qz_blk qz_cd [35] 23 211 0 _ _ _).trans rfl
set_option maxRecDepth 100000 in
theorem e_Choosing_chooseR_35 (v0 : Nat) (v1 : Nat) (v3 : Nat) (v4 : Int32) (v5 : Int32) (v6 : Int32) (w : qz_W) : rn 211 35 [some (.ref v0), some (.ref v1), none, some (.ref v3), some (.int v4), some (.int v5), some (.int v6)] [] w =
    qz_gi w.1 v0 1 2 (fun x1 => (if x1 < v6 then some (some (.int v5), w) else (if v5 = (-1) then qz_ck w.1 v0 1 (qz_r1 (rn 210 0 [some (.ref v0), some (.int v6), some (.ref v1), some (.ref v3), some (.int v4), none] [] w) (fun x3 w2 => (if x3 = 0 then rn 211 35 [some (.ref v0), some (.ref v1), none, some (.ref v3), some (.int v4), some (.int v5), some (.int (v6 + (nI 1)))] [] w2 else rn 211 35 [some (.ref v0), some (.ref v1), none, some (.ref v3), some (.int v4), some (.int v6), some (.int (v6 + (nI 1)))] [] w2))) else qz_ck w.1 v0 1 (qz_r1 (rn 208 0 [some (.ref v0), some (.int v6), some (.int v5), none, none] [] w) (fun x5 w4 => (if x5 = 0 then rn 211 35 [some (.ref v0), some (.ref v1), none, some (.ref v3), some (.int v4), some (.int v5), some (.int (v6 + (nI 1)))] [] w4 else qz_ck w4.1 v0 1 (qz_r1 (rn 210 0 [some (.ref v0), some (.int v6), some (.ref v1), some (.ref v3), some (.int v4), none] [] w4) (fun x7 w6 => (if x7 = 0 then rn 211 35 [some (.ref v0), some (.ref v1), none, some (.ref v3), some (.int v4), some (.int v5), some (.int (v6 + (nI 1)))] [] w6 else rn 211 35 [some (.ref v0), some (.ref v1), none, some (.ref v3), some (.int v4), some (.int v6), some (.int (v6 + (nI 1)))] [] w6))))))))) :=
  (qz_blk qz_cd [35] 25 211 35 _ _ _).trans rfl
set_option maxRecDepth 100000 in
theorem e_C_choice_0 (v0 : Nat) (v1 : Int32) (v2 : Int32) (v3 : Int32) (w : qz_W) : rn 212 0 [some (.ref v0), some (.int v1), some (.int v2), some (.int v3), none, none] [] w =
    qz_ck w.1 v0 11 (qz_r3 (rn 115 0 [some (.ref v0), some (.int v1)] [] w) (fun w1 => some (some (.int (-1)), w1)) (fun q2 w1 => (if v3 < 0 then some (some (.int (-1)), w1) else (if v3 ≤ (nI 2) then qz_ga w1.1 v0 11 12 (fun q3 => qz_ck w1.1 v0 11 (qz_r3 (rn 115 0 [some (.ref v0), some (.int (v1 + (nI 1)))] [] w1) (fun w4 => qz_ga w4.1 v0 11 9 (fun q6 => qz_ck w4.1 q3 1 (qz_r1 (rn 211 0 [some (.ref q3), some (.ref q2), some (.null), some (.ref q6), some (.int v2), none, none] [] w4) (fun x8 w7 => (if x8 = (-1) then some (some (.int x8), w7) else (if v3 = 0 then some (some (.int x8), w7) else (if v3 = (nI 1) then qz_ga w7.1 v0 11 12 (fun q11 => qz_ck w7.1 q11 1 (qz_r1 (rn 207 0 [some (.ref q11), some (.int x8)] [] w7) (fun x13 w12 => some (some (.int x13), w12)))) else qz_r1 (rn 62 0 [some (.int x8)] [] w7) (fun x10 w9 => some (some (.int x10), w9))))))))) (fun q5 w4 => qz_ga w4.1 v0 11 9 (fun q14 => qz_ck w4.1 q3 1 (qz_r1 (rn 211 0 [some (.ref q3), some (.ref q2), some (.ref q5), some (.ref q14), some (.int v2), none, none] [] w4) (fun x16 w15 => (if x16 = (-1) then some (some (.int x16), w15) else (if v3 = 0 then some (some (.int x16), w15) else (if v3 = (nI 1) then qz_ga w15.1 v0 11 12 (fun q19 => qz_ck w15.1 q19 1 (qz_r1 (rn 207 0 [some (.ref q19), some (.int x16)] [] w15) (fun x21 w20 => some (some (.int x21), w20)))) else qz_r1 (rn 62 0 [some (.int x16)] [] w15) (fun x18 w17 => some (some (.int x18), w17))))))))))) else some (some (.int (-1)), w1))))) :=
  (qz_blk qz_cd [] 40 212 0 _ _ _).trans rfl
set_option maxRecDepth 100000 in
theorem e_M_all_0 (v0 : Nat) (v1 : Int32) (w : qz_W) : rn 213 0 [some (.ref v0), some (.int v1)] [] w =
    qz_ga w.1 v0 12 2 (fun q1 => qz_ia w.1 q1 (((nI 16) * v1) + (nI 4)) (fun x2 => some (some (.int (((nI 1) <<< (x2 &&& 31)) - (nI 1))), w))) :=
  (qz_blk qz_cd [] 15 213 0 _ _ _).trans rfl
set_option maxRecDepth 100000 in
theorem e_M_isTwice_0 (v0 : Nat) (v1 : Int32) (w : qz_W) : rn 214 0 [some (.ref v0), some (.int v1), none, none] [] w =
    rn 214 4 [some (.ref v0), some (.int v1), some (.int (nI 1)), some (.int (nI 0))] [] w :=
  (qz_blk qz_cd [4] 6 214 0 _ _ _).trans rfl
set_option maxRecDepth 100000 in
theorem e_M_isTwice_4 (v0 : Nat) (v1 : Int32) (v2 : Int32) (v3 : Int32) (w : qz_W) : rn 214 4 [some (.ref v0), some (.int v1), some (.int v2), some (.int v3)] [] w =
    (if (nI 12) ≤ v3 then cond (qz_z v2) (some (some (.int v2), w)) none else (if v2 = 0 then rn 214 4 [some (.ref v0), some (.int v1), some (.int (nI 0)), some (.int (v3 + (nI 1)))] [] w else qz_r1 (rn 92 0 [some (.int v1), some (.int v3)] [] w) (fun x2 w1 => (if x2 = 0 then rn 214 4 [some (.ref v0), some (.int v1), some (.int (nI 1)), some (.int (v3 + (nI 1)))] [] w1 else qz_ga w1.1 v0 12 42 (fun q3 => qz_ia w1.1 q3 (v1 &&& (((nI 1) <<< (v3 &&& 31)) ^^^ (-1))) (fun x4 => (if x4 = (nI 1) then rn 214 4 [some (.ref v0), some (.int v1), some (.int (nI 1)), some (.int (v3 + (nI 1)))] [] w1 else rn 214 4 [some (.ref v0), some (.int v1), some (.int (nI 0)), some (.int (v3 + (nI 1)))] [] w1))))))) :=
  (qz_blk qz_cd [4] 28 214 4 _ _ _).trans rfl
set_option maxRecDepth 100000 in
theorem e_M_choice_0 (v0 : Nat) (v1 : Int32) (v2 : Int32) (v3 : Int32) (w : qz_W) : rn 215 0 [some (.ref v0), some (.int v1), some (.int v2), some (.int v3), none, none, none, none] [] w =
    qz_ck w.1 v0 12 (qz_r1 (rn 120 0 [some (.ref v0), some (.int v1)] [] w) (fun x2 w1 => (if x2 = 0 then some (some (.int (-1)), w1) else qz_r1 (rn 72 0 [some (.int v3), some (.int (nI 0)), some (.int (nI 2))] [] w1) (fun x4 w3 => (if x4 = 0 then some (some (.int (-1)), w3) else rn 215 28 [some (.ref v0), some (.int v1), some (.int v2), some (.int v3), some (.int (-1)), some (.int (nI 0)), some (.int (nI 0)), none] [] w3))))) :=
  (qz_blk qz_cd [28, 81] 17 215 0 _ _ _).trans rfl
set_option maxRecDepth 100000 in
theorem e_M_choice_28 (v0 : Nat) (v1 : Int32) (v2 : Int32) (v3 : Int32) (v4 : Int32) (v5 : Int32) (v6 : Int32) (w : qz_W) : rn 215 28 [some (.ref v0), some (.int v1), some (.int v2), some (.int v3), some (.int v4), some (.int v5), some (.int v6), none] [] w =
    qz_ck w.1 v0 12 (qz_r1 (rn 213 0 [some (.ref v0), some (.int v1)] [] w) (fun x2 w1 => (if x2 < v6 then (if v4 = (-1) then some (some (.int (-1)), w1) else (if v3 = 0 then some (some (.int v4), w1) else (if v3 = (nI 1) then some (some (.int v5), w1) else qz_r1 (rn 199 0 [some (.int v4), none, none] [] w1) (fun x4 w3 => some (some (.int x4), w3))))) else qz_ga w1.1 v0 12 42 (fun q5 => qz_ck w1.1 v0 12 (qz_r1 (rn 183 0 [some (.ref v0), some (.int v1), some (.int v6)] [] w1) (fun x7 w6 => qz_r1 (rn 104 0 [some (.int x7)] [] w6) (fun x9 w8 => qz_is w8 q5 v6 x9 (fun w10 => qz_ga w10.1 v0 12 42 (fun q11 => qz_ia w10.1 q11 v6 (fun x12 => (if x12 = 0 then rn 215 28 [some (.ref v0), some (.int v1), some (.int v2), some (.int v3), some (.int v4), some (.int v5), some (.int (v6 + (nI 1))), none] [] w10 else (if v2 = 0 then rn 215 81 [some (.ref v0), some (.int v1), some (.int v2), some (.int v3), some (.int v4), some (.int v5), some (.int v6), none] [] w10 else qz_ck w10.1 v0 12 (qz_r1 (rn 214 0 [some (.ref v0), some (.int v6), none, none] [] w10) (fun x14 w13 => (if x14 = 0 then rn 215 28 [some (.ref v0), some (.int v1), some (.int v2), some (.int v3), some (.int v4), some (.int v5), some (.int (v6 + (nI 1))), none] [] w13 else rn 215 81 [some (.ref v0), some (.int v1), some (.int v2), some (.int v3), some (.int v4), some (.int v5), some (.int v6), none] [] w13))))))))))))))) :=
  (qz_blk qz_cd [28, 81] 30 215 28 _ _ _).trans rfl
set_option maxRecDepth 100000 in
theorem e_M_choice_81 (v0 : Nat) (v1 : Int32) (v2 : Int32) (v3 : Int32) (v4 : Int32) (v5 : Int32) (v6 : Int32) (w : qz_W) : rn 215 81 [some (.ref v0), some (.int v1), some (.int v2), some (.int v3), some (.int v4), some (.int v5), some (.int v6), none] [] w =
    qz_ck w.1 v0 12 (qz_r1 (rn 186 0 [some (.ref v0), some (.int v1), some (.int v6), none, none, none, none, none] [] w) (fun x2 w1 => (if v4 = (-1) then rn 215 28 [some (.ref v0), some (.int v1), some (.int v2), some (.int v3), some (.int v6), some (.int x2), some (.int (v6 + (nI 1))), none] [] w1 else (if v5 < x2 then rn 215 28 [some (.ref v0), some (.int v1), some (.int v2), some (.int v3), some (.int v4), some (.int v5), some (.int (v6 + (nI 1))), none] [] w1 else (if x2 = v5 then qz_r1 (rn 199 0 [some (.int v6), none, none] [] w1) (fun x4 w3 => qz_r1 (rn 199 0 [some (.int v4), none, none] [] w3) (fun x6 w5 => (if x4 < x6 then rn 215 28 [some (.ref v0), some (.int v1), some (.int v2), some (.int v3), some (.int v6), some (.int x2), some (.int (v6 + (nI 1))), none] [] w5 else rn 215 28 [some (.ref v0), some (.int v1), some (.int v2), some (.int v3), some (.int v4), some (.int v5), some (.int (v6 + (nI 1))), none] [] w5))) else rn 215 28 [some (.ref v0), some (.int v1), some (.int v2), some (.int v3), some (.int v6), some (.int x2), some (.int (v6 + (nI 1))), none] [] w1))))) :=
  (qz_blk qz_cd [28, 81] 27 215 81 _ _ _).trans rfl
set_option maxRecDepth 100000 in
theorem e_Sheet_isTin_0 (v0 : Nat) (v1 : Int32) (v2 : Int32) (w : qz_W) : rn 216 0 [some (.ref v0), some (.int v1), some (.int v2)] [] w =
    qz_ck w.1 v0 8 (qz_r1 (rn 46 0 [some (.ref v0), some (.int v1), some (.int v2)] [] w) (fun x2 w1 => (if x2 = 0 then some (some (.int (nI 0)), w1) else qz_ga w1.1 v0 8 9 (fun q3 => qz_gi w1.1 q3 0 1 (fun x4 => qz_ck w1.1 v0 8 (qz_r1 (rn 117 0 [some (.ref v0), some (.int v2), some (.int x4), none, none] [] w1) (fun x6 w5 => (if (x6 >>> (v1 &&& 31)) &&& (nI 1) = 0 then some (some (.int (nI 0)), w5) else some (some (.int (nI 1)), w5))))))))) :=
  (qz_blk qz_cd [] 21 216 0 _ _ _).trans rfl
set_option maxRecDepth 100000 in
theorem e_C_walkFrom_0 (v0 : Nat) (v1 : Nat) (v2 : Int32) (v3 : Int32) (w : qz_W) : rn 217 0 [some (.ref v0), some (.ref v1), some (.int v2), some (.int v3)] [] w =
    qz_ga w.1 v0 11 9 (fun q1 => qz_ga w.1 v1 8 9 (fun q2 => qz_gi w.1 q2 0 1 (fun x3 => qz_ck w.1 q1 3 (qz_r0 (rn 129 0 [some (.ref q1), some (.ref v1), some (.int x3), none, none, none] [] w) (fun w4 => qz_ga w4.1 v0 11 15 (fun q5 => qz_r0 (rn 31 0 [some (.ref q5), some (.int (nI 0)), none, none] [] w4) (fun w6 => qz_ga w6.1 v0 11 15 (fun q7 => qz_is w6 q7 v3 ((nI 1) <<< (v2 &&& 31)) (fun w8 => qz_ga w8.1 v0 11 9 (fun q9 => qz_ga w8.1 v0 11 9 (fun q10 => qz_ga w8.1 q10 3 0 (fun q11 => qz_ga w8.1 v0 11 15 (fun q12 => qz_ck w8.1 q9 3 (qz_r0 (rn 139 0 [some (.ref q9), some (.ref q11), some (.ref q12), none] [] w8) (fun w13 => some (none, w13)))))))))))))))) :=
  (qz_blk qz_cd [] 29 217 0 _ _ _).trans rfl
set_option maxRecDepth 100000 in
theorem e_C_sagOf_0 (v0 : Nat) (v1 : Nat) (v2 : Int32) (v3 : Int32) (w : qz_W) : rn 218 0 [some (.ref v0), some (.ref v1), some (.int v2), some (.int v3)] [] w =
    qz_ck w.1 v0 11 (qz_r0 (rn 217 0 [some (.ref v0), some (.ref v1), some (.int v2), some (.int v3)] [] w) (fun w1 => qz_ga w1.1 v0 11 9 (fun q2 => qz_ck w1.1 q2 3 (qz_r1 (rn 163 0 [some (.ref q2), some (.int ((v3 * (nI 20)) + v2)), none, none] [] w1) (fun x4 w3 => some (some (.int x4), w3)))))) :=
  (qz_blk qz_cd [] 16 218 0 _ _ _).trans rfl
set_option maxRecDepth 100000 in
theorem e_C_sagsAbove_0 (v0 : Nat) (v1 : Nat) (v2 : Int32) (v3 : Int32) (v4 : Int32) (w : qz_W) : rn 219 0 [some (.ref v0), some (.ref v1), some (.int v2), some (.int v3), some (.int v4)] [] w =
    qz_ck w.1 v0 11 (qz_r0 (rn 217 0 [some (.ref v0), some (.ref v1), some (.int v2), some (.int v3)] [] w) (fun w1 => qz_ga w1.1 v0 11 9 (fun q2 => qz_r1 (rn 162 0 [some (.int v4), some (.int (nI 0))] [] w1) (fun x4 w3 => qz_ck w3.1 q2 3 (qz_r1 (rn 161 0 [some (.ref q2), some (.int x4), some (.int ((v3 * (nI 20)) + v2)), none, none] [] w3) (fun x6 w5 => some (some (.int x6), w5))))))) :=
  (qz_blk qz_cd [] 19 219 0 _ _ _).trans rfl
set_option maxRecDepth 100000 in
theorem e_C_sag_0 (v0 : Nat) (v1 : Int32) (v2 : Int32) (v3 : Int32) (v4 : Int32) (v5 : Int32) (w : qz_W) : rn 220 0 [some (.ref v0), some (.int v1), some (.int v2), some (.int v3), some (.int v4), some (.int v5), none] [] w =
    qz_ck w.1 v0 11 (qz_r3 (rn 115 0 [some (.ref v0), some (.int v1)] [] w) (fun w1 => some (some (.int (-1)), w1)) (fun q2 w1 => qz_ck w1.1 q2 8 (qz_r1 (rn 216 0 [some (.ref q2), some (.int v2), some (.int v3)] [] w1) (fun x4 w3 => (if x4 = 0 then some (some (.int (-1)), w3) else (if v5 < 0 then some (some (.int (-1)), w3) else (if v5 ≤ (nI 1) then (if v5 = 0 then qz_ck w3.1 v0 11 (qz_r1 (rn 218 0 [some (.ref v0), some (.ref q2), some (.int v2), some (.int v3)] [] w3) (fun x8 w7 => some (some (.int x8), w7))) else qz_ck w3.1 v0 11 (qz_r1 (rn 219 0 [some (.ref v0), some (.ref q2), some (.int v2), some (.int v3), some (.int v4)] [] w3) (fun x6 w5 => some (some (.int x6), w5)))) else some (some (.int (-1)), w3)))))))) :=
  (qz_blk qz_cd [] 27 220 0 _ _ _).trans rfl
set_option maxRecDepth 100000 in
theorem e_M_isHeldBy_0 (v0 : Nat) (v1 : Int32) (v2 : Int32) (v3 : Int32) (w : qz_W) : rn 221 0 [some (.ref v0), some (.int v1), some (.int v2), some (.int v3)] [] w =
    qz_ck w.1 v0 12 (qz_r1 (rn 94 0 [some (.ref v0), some (.int v1), some (.int v2), some (.int v3)] [] w) (fun x2 w1 => (if x2 = 0 then some (some (.int (nI 0)), w1) else qz_ck w1.1 v0 12 (qz_r1 (rn 121 0 [some (.ref v0), some (.int v1)] [] w1) (fun x4 w3 => qz_ck w3.1 v0 12 (qz_r0 (rn 123 0 [some (.ref v0), some (.int v1), some (.int x4), none] [] w3) (fun w5 => qz_ga w5.1 v0 12 29 (fun q6 => qz_ia w5.1 q6 (((nI 20) * v3) + v2) (fun x7 => (if x7 = (nI 1) then some (some (.int (nI 1)), w5) else some (some (.int (nI 0)), w5))))))))))) :=
  (qz_blk qz_cd [] 27 221 0 _ _ _).trans rfl
set_option maxRecDepth 100000 in
theorem e_M_sag_0 (v0 : Nat) (v1 : Int32) (v2 : Int32) (v3 : Int32) (v4 : Int32) (v5 : Int32) (w : qz_W) : rn 222 0 [some (.ref v0), some (.int v1), some (.int v2), some (.int v3), some (.int v4), some (.int v5)] [] w =
    qz_ck w.1 v0 12 (qz_r1 (rn 120 0 [some (.ref v0), some (.int v1)] [] w) (fun x2 w1 => (if x2 = 0 then some (some (.int (-1)), w1) else qz_r1 (rn 72 0 [some (.int v5), some (.int (nI 0)), some (.int (nI 1))] [] w1) (fun x4 w3 => (if x4 = 0 then some (some (.int (-1)), w3) else qz_ck w3.1 v0 12 (qz_r1 (rn 221 0 [some (.ref v0), some (.int v1), some (.int v2), some (.int v3)] [] w3) (fun x6 w5 => (if x6 = 0 then some (some (.int (-1)), w5) else qz_ck w5.1 v0 12 (qz_r0 (rn 165 0 [some (.ref v0), some (.int v1), some (.int (((nI 20) * v3) + v2)), some (.int v4), none, none, none] [] w5) (fun w7 => (if v5 = 0 then qz_gi w7.1 v0 12 40 (fun x9 => some (some (.int x9), w7)) else qz_gi w7.1 v0 12 41 (fun x8 => some (some (.int x8), w7))))))))))))) :=
  (qz_blk qz_cd [] 32 222 0 _ _ _).trans rfl
set_option maxRecDepth 100000 in
theorem e_C_corner_0 (v0 : Nat) (v1 : Int32) (w : qz_W) : rn 223 0 [some (.ref v0), some (.int v1), none, none, none, none, none, none, none] [] w =
    qz_ck w.1 v0 11 (qz_r3 (rn 115 0 [some (.ref v0), some (.int v1)] [] w) (fun w1 => some (some (.int (-1)), w1)) (fun q2 w1 => rn 223 20 [some (.ref v0), none, some (.ref q2), some (.int (-1)), some (.int (nI 0)), some (.int (nI 0)), none, none, none] [] w1)) :=
  (qz_blk qz_cd [20, 38] 14 223 0 _ _ _).trans rfl
set_option maxRecDepth 100000 in
theorem e_C_corner_20 (v0 : Nat) (v2 : Nat) (v3 : Int32) (v4 : Int32) (v5 : Int32) (w : qz_W) : rn 223 20 [some (.ref v0), none, some (.ref v2), some (.int v3), some (.int v4), some (.int v5), none, none, none] [] w =
    (if (nI 4) ≤ v5 then some (some (.int v3), w) else (if v5 = (nI 1) then rn 223 38 [some (.ref v0), none, some (.ref v2), some (.int v3), some (.int v4), some (.int v5), none, none, none] [] w else (if v5 = (nI 2) then rn 223 38 [some (.ref v0), none, some (.ref v2), some (.int v3), some (.int v4), some (.int v5), none, none, none] [] w else (if v5 < (nI 2) then qz_ck w.1 v2 8 (qz_r1 (rn 216 0 [some (.ref v2), some (.int (nI 0)), some (.int (nI 0))] [] w) (fun x2 w1 => (if x2 = 0 then rn 223 20 [some (.ref v0), none, some (.ref v2), some (.int v3), some (.int v4), some (.int (v5 + (nI 1))), none, none, none] [] w1 else qz_ck w1.1 v0 11 (qz_r1 (rn 218 0 [some (.ref v0), some (.ref v2), some (.int (nI 0)), some (.int (nI 0))] [] w1) (fun x4 w3 => (if v3 = (-1) then rn 223 20 [some (.ref v0), none, some (.ref v2), some (.int v5), some (.int x4), some (.int (v5 + (nI 1))), none, none, none] [] w3 else (if v4 ≤ x4 then rn 223 20 [some (.ref v0), none, some (.ref v2), some (.int v3), some (.int v4), some (.int (v5 + (nI 1))), none, none, none] [] w3 else rn 223 20 [some (.ref v0), none, some (.ref v2), some (.int v5), some (.int x4), some (.int (v5 + (nI 1))), none, none, none] [] w3))))))) else qz_gi w.1 v2 8 2 (fun x5 => qz_ck w.1 v2 8 (qz_r1 (rn 216 0 [some (.ref v2), some (.int (nI 0)), some (.int (x5 - (nI 1)))] [] w) (fun x7 w6 => (if x7 = 0 then rn 223 20 [some (.ref v0), none, some (.ref v2), some (.int v3), some (.int v4), some (.int (v5 + (nI 1))), none, none, none] [] w6 else qz_ck w6.1 v0 11 (qz_r1 (rn 218 0 [some (.ref v0), some (.ref v2), some (.int (nI 0)), some (.int (x5 - (nI 1)))] [] w6) (fun x9 w8 => (if v3 = (-1) then rn 223 20 [some (.ref v0), none, some (.ref v2), some (.int v5), some (.int x9), some (.int (v5 + (nI 1))), none, none, none] [] w8 else (if v4 ≤ x9 then rn 223 20 [some (.ref v0), none, some (.ref v2), some (.int v3), some (.int v4), some (.int (v5 + (nI 1))), none, none, none] [] w8 else rn 223 20 [some (.ref v0), none, some (.ref v2), some (.int v5), some (.int x9), some (.int (v5 + (nI 1))), none, none, none] [] w8)))))))))))) :=
  (qz_blk qz_cd [20, 38] 45 223 20 _ _ _).trans rfl

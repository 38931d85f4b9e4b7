def k_Sheet_init (q : Nat) : List qz_E := [.inr (8, [.int (nI 0), .int (nI 0), .int (nI 0), .int (nI 0), .int (nI 0), .int (nI 0), .int (nI 0), .ref (q + 1), .ref (q + 2), .ref (q + 3), .int (nI 0), .ref (q + 7), .ref (q + 8), .ref (q + 9)])] ++ [zA 20] ++ [zA 400] ++ k_Bridges_init (q + 3) ++ [zA 8] ++ [zA 8] ++ [zA 64]
set_option maxRecDepth 100000 in
set_option maxHeartbeats 4000000 in
theorem b_Sheet_init (X : qz_X) (P : List qz_E) (sl : Nat) (h : P.length + 10 < qz_old) : rn 1 0 [some (.ref (P.length + 0))] [] (bw X (P ++ [.inr (8, qz_nf [0, 0, 0, 0, 0, 0, 0, 1, 1, 1, 0, 1, 1, 1])]) sl) = some (none, bw X (P ++ k_Sheet_init P.length) (sl + 20 + 400 + 6 + 12 + 12 + 240 + 8 + 8 + 64)) := by
  rw [e_Sheet_init_0]
  refine (by_pf (P := P) 0 ([.inr (8, [.int (nI 0), .int 0, .int 0, .int 0, .int 0, .int 0, .int 0, .null, .null, .null, .int 0, .null, .null, .null])]) rfl rfl (by simp) (by omega)).trans ?_
  refine (by_pf (P := P) 0 ([.inr (8, [.int (nI 0), .int (nI 0), .int 0, .int 0, .int 0, .int 0, .int 0, .null, .null, .null, .int 0, .null, .null, .null])]) rfl rfl (by simp) (by omega)).trans ?_
  refine (by_pf (P := P) 0 ([.inr (8, [.int (nI 0), .int (nI 0), .int (nI 0), .int 0, .int 0, .int 0, .int 0, .null, .null, .null, .int 0, .null, .null, .null])]) rfl rfl (by simp) (by omega)).trans ?_
  refine (by_pf (P := P) 0 ([.inr (8, [.int (nI 0), .int (nI 0), .int (nI 0), .int (nI 0), .int 0, .int 0, .int 0, .null, .null, .null, .int 0, .null, .null, .null])]) rfl rfl (by simp) (by omega)).trans ?_
  refine (by_pf (P := P) 0 ([.inr (8, [.int (nI 0), .int (nI 0), .int (nI 0), .int (nI 0), .int (nI 0), .int 0, .int 0, .null, .null, .null, .int 0, .null, .null, .null])]) rfl rfl (by simp) (by omega)).trans ?_
  refine (by_pf (P := P) 0 ([.inr (8, [.int (nI 0), .int (nI 0), .int (nI 0), .int (nI 0), .int (nI 0), .int (nI 0), .int 0, .null, .null, .null, .int 0, .null, .null, .null])]) rfl rfl (by simp) (by omega)).trans ?_
  refine (by_pf (P := P) 0 ([.inr (8, [.int (nI 0), .int (nI 0), .int (nI 0), .int (nI 0), .int (nI 0), .int (nI 0), .int (nI 0), .null, .null, .null, .int 0, .null, .null, .null])]) rfl rfl (by simp) (by omega)).trans ?_
  refine (bx_na (P := P) 20 1 rfl (by decide) (by omega)).trans ?_
  refine (by_pf (P := P) 0 ([.inr (8, [.int (nI 0), .int (nI 0), .int (nI 0), .int (nI 0), .int (nI 0), .int (nI 0), .int (nI 0), .ref (P.length + 1), .null, .null, .int 0, .null, .null, .null])] ++ [zA 20]) rfl rfl (by simp) (by omega)).trans ?_
  refine (bx_na (P := P) 400 2 rfl (by decide) (by omega)).trans ?_
  refine (by_pf (P := P) 0 ([.inr (8, [.int (nI 0), .int (nI 0), .int (nI 0), .int (nI 0), .int (nI 0), .int (nI 0), .int (nI 0), .ref (P.length + 1), .ref (P.length + 2), .null, .int 0, .null, .null, .null])] ++ [zA 20] ++ [zA 400]) rfl rfl (by simp) (by omega)).trans ?_
  refine (bx_nw (P := P) 3 rfl (by omega)).trans ?_
  refine (bx_ck (P := P) 3 rfl (by omega)).trans ?_
  refine (r0_call (c_Bridges_init X P _ 3 rfl _ (by omega))).trans ?_
  refine (by_pf (P := P) 0 ([.inr (8, [.int (nI 0), .int (nI 0), .int (nI 0), .int (nI 0), .int (nI 0), .int (nI 0), .int (nI 0), .ref (P.length + 1), .ref (P.length + 2), .ref (P.length + 3), .int 0, .null, .null, .null])] ++ [zA 20] ++ [zA 400] ++ k_Bridges_init (P.length + 3)) rfl rfl (by simp) (by omega)).trans ?_
  refine (by_pf (P := P) 0 ([.inr (8, [.int (nI 0), .int (nI 0), .int (nI 0), .int (nI 0), .int (nI 0), .int (nI 0), .int (nI 0), .ref (P.length + 1), .ref (P.length + 2), .ref (P.length + 3), .int (nI 0), .null, .null, .null])] ++ [zA 20] ++ [zA 400] ++ k_Bridges_init (P.length + 3)) rfl rfl (by simp) (by omega)).trans ?_
  refine (bx_na (P := P) 8 7 rfl (by decide) (by omega)).trans ?_
  refine (by_pf (P := P) 0 ([.inr (8, [.int (nI 0), .int (nI 0), .int (nI 0), .int (nI 0), .int (nI 0), .int (nI 0), .int (nI 0), .ref (P.length + 1), .ref (P.length + 2), .ref (P.length + 3), .int (nI 0), .ref (P.length + 7), .null, .null])] ++ [zA 20] ++ [zA 400] ++ k_Bridges_init (P.length + 3) ++ [zA 8]) rfl rfl (by simp) (by omega)).trans ?_
  refine (bx_na (P := P) 8 8 rfl (by decide) (by omega)).trans ?_
  refine (by_pf (P := P) 0 ([.inr (8, [.int (nI 0), .int (nI 0), .int (nI 0), .int (nI 0), .int (nI 0), .int (nI 0), .int (nI 0), .ref (P.length + 1), .ref (P.length + 2), .ref (P.length + 3), .int (nI 0), .ref (P.length + 7), .ref (P.length + 8), .null])] ++ [zA 20] ++ [zA 400] ++ k_Bridges_init (P.length + 3) ++ [zA 8] ++ [zA 8]) rfl rfl (by simp) (by omega)).trans ?_
  refine (bx_na (P := P) 64 9 rfl (by decide) (by omega)).trans ?_
  refine (by_pf (P := P) 0 ([.inr (8, [.int (nI 0), .int (nI 0), .int (nI 0), .int (nI 0), .int (nI 0), .int (nI 0), .int (nI 0), .ref (P.length + 1), .ref (P.length + 2), .ref (P.length + 3), .int (nI 0), .ref (P.length + 7), .ref (P.length + 8), .ref (P.length + 9)])] ++ [zA 20] ++ [zA 400] ++ k_Bridges_init (P.length + 3) ++ [zA 8] ++ [zA 8] ++ [zA 64]) rfl rfl (by simp) (by omega)).trans ?_
  rfl
theorem c_Sheet_init (X : qz_X) (P Q : List qz_E) (k : Nat) (hk : Q.length = k) (sl : Nat) (h : P.length + k + 10 < qz_old) : rn 1 0 [some (.ref (P.length + k))] [] (bw X (P ++ (Q ++ [.inr (8, qz_nf [0, 0, 0, 0, 0, 0, 0, 1, 1, 1, 0, 1, 1, 1])])) sl) = some (none, bw X (P ++ (Q ++ k_Sheet_init (P.length + k))) (sl + 20 + 400 + 6 + 12 + 12 + 240 + 8 + 8 + 64)) := by
  have := b_Sheet_init X (P ++ Q) sl (by rw [List.length_append, hk]; exact h)
  rw [List.length_append, hk, List.append_assoc, List.append_assoc] at this
  exact this
def k_Pile_init (q : Nat) : List qz_E := [.inr (6, [.ref (q + 1), .ref (q + 2), .ref (q + 3)])] ++ [.inl (.object "TinStencils$Sheet", 6, .inr (.inr (.inr (.inr (va_up (va_up (va_up (va_up (va_up (va_up (fun _ => none) 0 (some (q + 4))) 1 (some (q + 14))) 2 (some (q + 24))) 3 (some (q + 34))) 4 (some (q + 44))) 5 (some (q + 54)))))))] ++ [.inl (.int, 6, .inl (upd (upd (upd (upd (upd (upd (fun _ => 0) 0 (nI 0)) 1 (nI 1)) 2 (nI 2)) 3 (nI 3)) 4 (nI 4)) 5 (nI 5)))] ++ [zA 64] ++ k_Sheet_init (q + 4) ++ k_Sheet_init (q + 14) ++ k_Sheet_init (q + 24) ++ k_Sheet_init (q + 34) ++ k_Sheet_init (q + 44) ++ k_Sheet_init (q + 54)
set_option maxRecDepth 100000 in
set_option maxHeartbeats 4000000 in
theorem b_Pile_init (X : qz_X) (P : List qz_E) (sl : Nat) (h : P.length + 64 < qz_old) : rn 2 0 [some (.ref (P.length + 0)), none] [] (bw X (P ++ [.inr (6, qz_nf [1, 1, 1])]) sl) = some (none, bw X (P ++ k_Pile_init P.length) (sl + 6 + 6 + 64 + 14 + 20 + 400 + 6 + 12 + 12 + 240 + 8 + 8 + 64 + 14 + 20 + 400 + 6 + 12 + 12 + 240 + 8 + 8 + 64 + 14 + 20 + 400 + 6 + 12 + 12 + 240 + 8 + 8 + 64 + 14 + 20 + 400 + 6 + 12 + 12 + 240 + 8 + 8 + 64 + 14 + 20 + 400 + 6 + 12 + 12 + 240 + 8 + 8 + 64 + 14 + 20 + 400 + 6 + 12 + 12 + 240 + 8 + 8 + 64)) := by
  rw [e_Pile_init_0]
  refine (bx_no (P := P) 6 1 rfl (by decide) (by omega)).trans ?_
  refine (by_pf (P := P) 0 ([.inr (6, [.ref (P.length + 1), .null, .null])] ++ [.inl (.object "TinStencils$Sheet", 6, .inr (.inr (.inr (.inr (fun _ => none)))))]) rfl rfl (by simp) (by omega)).trans ?_
  refine (bx_na (P := P) 6 2 rfl (by decide) (by omega)).trans ?_
  refine (by_pf (P := P) 0 ([.inr (6, [.ref (P.length + 1), .ref (P.length + 2), .null])] ++ [.inl (.object "TinStencils$Sheet", 6, .inr (.inr (.inr (.inr (fun _ => none)))))] ++ [zA 6]) rfl rfl (by simp) (by omega)).trans ?_
  refine (bx_na (P := P) 64 3 rfl (by decide) (by omega)).trans ?_
  refine (by_pf (P := P) 0 ([.inr (6, [.ref (P.length + 1), .ref (P.length + 2), .ref (P.length + 3)])] ++ [.inl (.object "TinStencils$Sheet", 6, .inr (.inr (.inr (.inr (fun _ => none)))))] ++ [zA 6] ++ [zA 64]) rfl rfl (by simp) (by omega)).trans ?_
  rw [e_Pile_init_31]
  rw [if_neg (by decide)]
  refine (bx_ga (P := P) 0 rfl rfl (by omega)).trans ?_
  refine (bx_nw (P := P) 4 rfl (by omega)).trans ?_
  refine (bx_ck (P := P) 4 rfl (by omega)).trans ?_
  refine (r0_call (c_Sheet_init X P _ 4 rfl _ (by omega))).trans ?_
  refine (by_as (P := P) 0 1 4 ([.inr (6, [.ref (P.length + 1), .ref (P.length + 2), .ref (P.length + 3)])] ++ [.inl (.object "TinStencils$Sheet", 6, .inr (.inr (.inr (.inr (va_up (fun _ => none) 0 (some (P.length + 4)))))))] ++ [zA 6] ++ [zA 64] ++ k_Sheet_init (P.length + 4)) rfl rfl rfl rfl (by simp <;> omega) (by decide) (by decide) (by omega) (by omega)).trans ?_
  refine (bx_ga (P := P) 0 rfl rfl (by omega)).trans ?_
  refine (by_is (P := P) 0 2 ([.inr (6, [.ref (P.length + 1), .ref (P.length + 2), .ref (P.length + 3)])] ++ [.inl (.object "TinStencils$Sheet", 6, .inr (.inr (.inr (.inr (va_up (fun _ => none) 0 (some (P.length + 4)))))))] ++ [.inl (.int, 6, .inl (upd (fun _ => 0) 0 (nI 0)))] ++ [zA 64] ++ k_Sheet_init (P.length + 4)) rfl rfl (by simp <;> omega) (by decide) (by decide) (by omega)).trans ?_
  rw [show nI 0 + nI 1 = nI 1 from nI_add 0 1]
  rw [e_Pile_init_31]
  rw [if_neg (by decide)]
  refine (bx_ga (P := P) 0 rfl rfl (by omega)).trans ?_
  refine (bx_nw (P := P) 14 rfl (by omega)).trans ?_
  refine (bx_ck (P := P) 14 rfl (by omega)).trans ?_
  refine (r0_call (c_Sheet_init X P _ 14 rfl _ (by omega))).trans ?_
  refine (by_as (P := P) 1 1 14 ([.inr (6, [.ref (P.length + 1), .ref (P.length + 2), .ref (P.length + 3)])] ++ [.inl (.object "TinStencils$Sheet", 6, .inr (.inr (.inr (.inr (va_up (va_up (fun _ => none) 0 (some (P.length + 4))) 1 (some (P.length + 14)))))))] ++ [.inl (.int, 6, .inl (upd (fun _ => 0) 0 (nI 0)))] ++ [zA 64] ++ k_Sheet_init (P.length + 4) ++ k_Sheet_init (P.length + 14)) rfl rfl rfl rfl (by simp <;> omega) (by decide) (by decide) (by omega) (by omega)).trans ?_
  refine (bx_ga (P := P) 0 rfl rfl (by omega)).trans ?_
  refine (by_is (P := P) 1 2 ([.inr (6, [.ref (P.length + 1), .ref (P.length + 2), .ref (P.length + 3)])] ++ [.inl (.object "TinStencils$Sheet", 6, .inr (.inr (.inr (.inr (va_up (va_up (fun _ => none) 0 (some (P.length + 4))) 1 (some (P.length + 14)))))))] ++ [.inl (.int, 6, .inl (upd (upd (fun _ => 0) 0 (nI 0)) 1 (nI 1)))] ++ [zA 64] ++ k_Sheet_init (P.length + 4) ++ k_Sheet_init (P.length + 14)) rfl rfl (by simp <;> omega) (by decide) (by decide) (by omega)).trans ?_
  rw [show nI 1 + nI 1 = nI 2 from nI_add 1 1]
  rw [e_Pile_init_31]
  rw [if_neg (by decide)]
  refine (bx_ga (P := P) 0 rfl rfl (by omega)).trans ?_
  refine (bx_nw (P := P) 24 rfl (by omega)).trans ?_
  refine (bx_ck (P := P) 24 rfl (by omega)).trans ?_
  refine (r0_call (c_Sheet_init X P _ 24 rfl _ (by omega))).trans ?_
  refine (by_as (P := P) 2 1 24 ([.inr (6, [.ref (P.length + 1), .ref (P.length + 2), .ref (P.length + 3)])] ++ [.inl (.object "TinStencils$Sheet", 6, .inr (.inr (.inr (.inr (va_up (va_up (va_up (fun _ => none) 0 (some (P.length + 4))) 1 (some (P.length + 14))) 2 (some (P.length + 24)))))))] ++ [.inl (.int, 6, .inl (upd (upd (fun _ => 0) 0 (nI 0)) 1 (nI 1)))] ++ [zA 64] ++ k_Sheet_init (P.length + 4) ++ k_Sheet_init (P.length + 14) ++ k_Sheet_init (P.length + 24)) rfl rfl rfl rfl (by simp <;> omega) (by decide) (by decide) (by omega) (by omega)).trans ?_
  refine (bx_ga (P := P) 0 rfl rfl (by omega)).trans ?_
  refine (by_is (P := P) 2 2 ([.inr (6, [.ref (P.length + 1), .ref (P.length + 2), .ref (P.length + 3)])] ++ [.inl (.object "TinStencils$Sheet", 6, .inr (.inr (.inr (.inr (va_up (va_up (va_up (fun _ => none) 0 (some (P.length + 4))) 1 (some (P.length + 14))) 2 (some (P.length + 24)))))))] ++ [.inl (.int, 6, .inl (upd (upd (upd (fun _ => 0) 0 (nI 0)) 1 (nI 1)) 2 (nI 2)))] ++ [zA 64] ++ k_Sheet_init (P.length + 4) ++ k_Sheet_init (P.length + 14) ++ k_Sheet_init (P.length + 24)) rfl rfl (by simp <;> omega) (by decide) (by decide) (by omega)).trans ?_
  rw [show nI 2 + nI 1 = nI 3 from nI_add 2 1]
  rw [e_Pile_init_31]
  rw [if_neg (by decide)]
  refine (bx_ga (P := P) 0 rfl rfl (by omega)).trans ?_
  refine (bx_nw (P := P) 34 rfl (by omega)).trans ?_
  refine (bx_ck (P := P) 34 rfl (by omega)).trans ?_
  refine (r0_call (c_Sheet_init X P _ 34 rfl _ (by omega))).trans ?_
  refine (by_as (P := P) 3 1 34 ([.inr (6, [.ref (P.length + 1), .ref (P.length + 2), .ref (P.length + 3)])] ++ [.inl (.object "TinStencils$Sheet", 6, .inr (.inr (.inr (.inr (va_up (va_up (va_up (va_up (fun _ => none) 0 (some (P.length + 4))) 1 (some (P.length + 14))) 2 (some (P.length + 24))) 3 (some (P.length + 34)))))))] ++ [.inl (.int, 6, .inl (upd (upd (upd (fun _ => 0) 0 (nI 0)) 1 (nI 1)) 2 (nI 2)))] ++ [zA 64] ++ k_Sheet_init (P.length + 4) ++ k_Sheet_init (P.length + 14) ++ k_Sheet_init (P.length + 24) ++ k_Sheet_init (P.length + 34)) rfl rfl rfl rfl (by simp <;> omega) (by decide) (by decide) (by omega) (by omega)).trans ?_
  refine (bx_ga (P := P) 0 rfl rfl (by omega)).trans ?_
  refine (by_is (P := P) 3 2 ([.inr (6, [.ref (P.length + 1), .ref (P.length + 2), .ref (P.length + 3)])] ++ [.inl (.object "TinStencils$Sheet", 6, .inr (.inr (.inr (.inr (va_up (va_up (va_up (va_up (fun _ => none) 0 (some (P.length + 4))) 1 (some (P.length + 14))) 2 (some (P.length + 24))) 3 (some (P.length + 34)))))))] ++ [.inl (.int, 6, .inl (upd (upd (upd (upd (fun _ => 0) 0 (nI 0)) 1 (nI 1)) 2 (nI 2)) 3 (nI 3)))] ++ [zA 64] ++ k_Sheet_init (P.length + 4) ++ k_Sheet_init (P.length + 14) ++ k_Sheet_init (P.length + 24) ++ k_Sheet_init (P.length + 34)) rfl rfl (by simp <;> omega) (by decide) (by decide) (by omega)).trans ?_
  rw [show nI 3 + nI 1 = nI 4 from nI_add 3 1]
  rw [e_Pile_init_31]
  rw [if_neg (by decide)]
  refine (bx_ga (P := P) 0 rfl rfl (by omega)).trans ?_
  refine (bx_nw (P := P) 44 rfl (by omega)).trans ?_
  refine (bx_ck (P := P) 44 rfl (by omega)).trans ?_
  refine (r0_call (c_Sheet_init X P _ 44 rfl _ (by omega))).trans ?_
  refine (by_as (P := P) 4 1 44 ([.inr (6, [.ref (P.length + 1), .ref (P.length + 2), .ref (P.length + 3)])] ++ [.inl (.object "TinStencils$Sheet", 6, .inr (.inr (.inr (.inr (va_up (va_up (va_up (va_up (va_up (fun _ => none) 0 (some (P.length + 4))) 1 (some (P.length + 14))) 2 (some (P.length + 24))) 3 (some (P.length + 34))) 4 (some (P.length + 44)))))))] ++ [.inl (.int, 6, .inl (upd (upd (upd (upd (fun _ => 0) 0 (nI 0)) 1 (nI 1)) 2 (nI 2)) 3 (nI 3)))] ++ [zA 64] ++ k_Sheet_init (P.length + 4) ++ k_Sheet_init (P.length + 14) ++ k_Sheet_init (P.length + 24) ++ k_Sheet_init (P.length + 34) ++ k_Sheet_init (P.length + 44)) rfl rfl rfl rfl (by simp <;> omega) (by decide) (by decide) (by omega) (by omega)).trans ?_
  refine (bx_ga (P := P) 0 rfl rfl (by omega)).trans ?_
  refine (by_is (P := P) 4 2 ([.inr (6, [.ref (P.length + 1), .ref (P.length + 2), .ref (P.length + 3)])] ++ [.inl (.object "TinStencils$Sheet", 6, .inr (.inr (.inr (.inr (va_up (va_up (va_up (va_up (va_up (fun _ => none) 0 (some (P.length + 4))) 1 (some (P.length + 14))) 2 (some (P.length + 24))) 3 (some (P.length + 34))) 4 (some (P.length + 44)))))))] ++ [.inl (.int, 6, .inl (upd (upd (upd (upd (upd (fun _ => 0) 0 (nI 0)) 1 (nI 1)) 2 (nI 2)) 3 (nI 3)) 4 (nI 4)))] ++ [zA 64] ++ k_Sheet_init (P.length + 4) ++ k_Sheet_init (P.length + 14) ++ k_Sheet_init (P.length + 24) ++ k_Sheet_init (P.length + 34) ++ k_Sheet_init (P.length + 44)) rfl rfl (by simp <;> omega) (by decide) (by decide) (by omega)).trans ?_
  rw [show nI 4 + nI 1 = nI 5 from nI_add 4 1]
  rw [e_Pile_init_31]
  rw [if_neg (by decide)]
  refine (bx_ga (P := P) 0 rfl rfl (by omega)).trans ?_
  refine (bx_nw (P := P) 54 rfl (by omega)).trans ?_
  refine (bx_ck (P := P) 54 rfl (by omega)).trans ?_
  refine (r0_call (c_Sheet_init X P _ 54 rfl _ (by omega))).trans ?_
  refine (by_as (P := P) 5 1 54 ([.inr (6, [.ref (P.length + 1), .ref (P.length + 2), .ref (P.length + 3)])] ++ [.inl (.object "TinStencils$Sheet", 6, .inr (.inr (.inr (.inr (va_up (va_up (va_up (va_up (va_up (va_up (fun _ => none) 0 (some (P.length + 4))) 1 (some (P.length + 14))) 2 (some (P.length + 24))) 3 (some (P.length + 34))) 4 (some (P.length + 44))) 5 (some (P.length + 54)))))))] ++ [.inl (.int, 6, .inl (upd (upd (upd (upd (upd (fun _ => 0) 0 (nI 0)) 1 (nI 1)) 2 (nI 2)) 3 (nI 3)) 4 (nI 4)))] ++ [zA 64] ++ k_Sheet_init (P.length + 4) ++ k_Sheet_init (P.length + 14) ++ k_Sheet_init (P.length + 24) ++ k_Sheet_init (P.length + 34) ++ k_Sheet_init (P.length + 44) ++ k_Sheet_init (P.length + 54)) rfl rfl rfl rfl (by simp <;> omega) (by decide) (by decide) (by omega) (by omega)).trans ?_
  refine (bx_ga (P := P) 0 rfl rfl (by omega)).trans ?_
  refine (by_is (P := P) 5 2 ([.inr (6, [.ref (P.length + 1), .ref (P.length + 2), .ref (P.length + 3)])] ++ [.inl (.object "TinStencils$Sheet", 6, .inr (.inr (.inr (.inr (va_up (va_up (va_up (va_up (va_up (va_up (fun _ => none) 0 (some (P.length + 4))) 1 (some (P.length + 14))) 2 (some (P.length + 24))) 3 (some (P.length + 34))) 4 (some (P.length + 44))) 5 (some (P.length + 54)))))))] ++ [.inl (.int, 6, .inl (upd (upd (upd (upd (upd (upd (fun _ => 0) 0 (nI 0)) 1 (nI 1)) 2 (nI 2)) 3 (nI 3)) 4 (nI 4)) 5 (nI 5)))] ++ [zA 64] ++ k_Sheet_init (P.length + 4) ++ k_Sheet_init (P.length + 14) ++ k_Sheet_init (P.length + 24) ++ k_Sheet_init (P.length + 34) ++ k_Sheet_init (P.length + 44) ++ k_Sheet_init (P.length + 54)) rfl rfl (by simp <;> omega) (by decide) (by decide) (by omega)).trans ?_
  rw [show nI 5 + nI 1 = nI 6 from nI_add 5 1]
  rw [e_Pile_init_31]
  rw [if_pos (by decide)]
  rfl
theorem c_Pile_init (X : qz_X) (P Q : List qz_E) (k : Nat) (hk : Q.length = k) (sl : Nat) (h : P.length + k + 64 < qz_old) : rn 2 0 [some (.ref (P.length + k)), none] [] (bw X (P ++ (Q ++ [.inr (6, qz_nf [1, 1, 1])])) sl) = some (none, bw X (P ++ (Q ++ k_Pile_init (P.length + k))) (sl + 6 + 6 + 64 + 14 + 20 + 400 + 6 + 12 + 12 + 240 + 8 + 8 + 64 + 14 + 20 + 400 + 6 + 12 + 12 + 240 + 8 + 8 + 64 + 14 + 20 + 400 + 6 + 12 + 12 + 240 + 8 + 8 + 64 + 14 + 20 + 400 + 6 + 12 + 12 + 240 + 8 + 8 + 64 + 14 + 20 + 400 + 6 + 12 + 12 + 240 + 8 + 8 + 64 + 14 + 20 + 400 + 6 + 12 + 12 + 240 + 8 + 8 + 64)) := by
  have := b_Pile_init X (P ++ Q) sl (by rw [List.length_append, hk]; exact h)
  rw [List.length_append, hk, List.append_assoc, List.append_assoc] at this
  exact this
def k_Teller_init (q : Nat) : List qz_E := [.inr (9, [.ref (q + 1), .ref (q + 7), .int (nI 0), .int (nI 0), .int (nI 0), .int (nI 0), .int (nI 0), .int (nI 0)])] ++ k_Tokens_init (q + 1) ++ [zJ 8]
set_option maxRecDepth 100000 in
set_option maxHeartbeats 4000000 in
theorem b_Teller_init (X : qz_X) (P : List qz_E) (sl : Nat) (h : P.length + 8 < qz_old) : rn 4 0 [some (.ref (P.length + 0))] [] (bw X (P ++ [.inr (9, qz_nf [1, 1, 0, 0, 0, 0, 0, 0])]) sl) = some (none, bw X (P ++ k_Teller_init P.length) (sl + 6 + 1200 + 1201 + 1201 + 1201 + 1201 + 8)) := by
  rw [e_Teller_init_0]
  refine (bx_nw (P := P) 1 rfl (by omega)).trans ?_
  refine (bx_ck (P := P) 1 rfl (by omega)).trans ?_
  refine (r0_call (c_Tokens_init X P _ 1 rfl _ (by omega))).trans ?_
  refine (by_pf (P := P) 0 ([.inr (9, [.ref (P.length + 1), .null, .int 0, .int 0, .int 0, .int 0, .int 0, .int 0])] ++ k_Tokens_init (P.length + 1)) rfl rfl (by simp) (by omega)).trans ?_
  refine (bx_nj (P := P) 8 7 rfl (by decide) (by omega)).trans ?_
  refine (by_pf (P := P) 0 ([.inr (9, [.ref (P.length + 1), .ref (P.length + 7), .int 0, .int 0, .int 0, .int 0, .int 0, .int 0])] ++ k_Tokens_init (P.length + 1) ++ [zJ 8]) rfl rfl (by simp) (by omega)).trans ?_
  refine (by_pf (P := P) 0 ([.inr (9, [.ref (P.length + 1), .ref (P.length + 7), .int (nI 0), .int 0, .int 0, .int 0, .int 0, .int 0])] ++ k_Tokens_init (P.length + 1) ++ [zJ 8]) rfl rfl (by simp) (by omega)).trans ?_
  refine (by_pf (P := P) 0 ([.inr (9, [.ref (P.length + 1), .ref (P.length + 7), .int (nI 0), .int (nI 0), .int 0, .int 0, .int 0, .int 0])] ++ k_Tokens_init (P.length + 1) ++ [zJ 8]) rfl rfl (by simp) (by omega)).trans ?_
  refine (by_pf (P := P) 0 ([.inr (9, [.ref (P.length + 1), .ref (P.length + 7), .int (nI 0), .int (nI 0), .int (nI 0), .int 0, .int 0, .int 0])] ++ k_Tokens_init (P.length + 1) ++ [zJ 8]) rfl rfl (by simp) (by omega)).trans ?_
  refine (by_pf (P := P) 0 ([.inr (9, [.ref (P.length + 1), .ref (P.length + 7), .int (nI 0), .int (nI 0), .int (nI 0), .int (nI 0), .int 0, .int 0])] ++ k_Tokens_init (P.length + 1) ++ [zJ 8]) rfl rfl (by simp) (by omega)).trans ?_
  refine (by_pf (P := P) 0 ([.inr (9, [.ref (P.length + 1), .ref (P.length + 7), .int (nI 0), .int (nI 0), .int (nI 0), .int (nI 0), .int (nI 0), .int 0])] ++ k_Tokens_init (P.length + 1) ++ [zJ 8]) rfl rfl (by simp) (by omega)).trans ?_
  refine (by_pf (P := P) 0 ([.inr (9, [.ref (P.length + 1), .ref (P.length + 7), .int (nI 0), .int (nI 0), .int (nI 0), .int (nI 0), .int (nI 0), .int (nI 0)])] ++ k_Tokens_init (P.length + 1) ++ [zJ 8]) rfl rfl (by simp) (by omega)).trans ?_
  rfl
theorem c_Teller_init (X : qz_X) (P Q : List qz_E) (k : Nat) (hk : Q.length = k) (sl : Nat) (h : P.length + k + 8 < qz_old) : rn 4 0 [some (.ref (P.length + k))] [] (bw X (P ++ (Q ++ [.inr (9, qz_nf [1, 1, 0, 0, 0, 0, 0, 0])])) sl) = some (none, bw X (P ++ (Q ++ k_Teller_init (P.length + k))) (sl + 6 + 1200 + 1201 + 1201 + 1201 + 1201 + 8)) := by
  have := b_Teller_init X (P ++ Q) sl (by rw [List.length_append, hk]; exact h)
  rw [List.length_append, hk, List.append_assoc, List.append_assoc] at this
  exact this

theorem c_C_init (X : qz_X) (P Q : List qz_E) (k : Nat) (hk : Q.length = k) (sl : Nat) (h : P.length + k + 318 < qz_old) : rn 11 0 [some (.ref (P.length + k)), none] [] (bw X (P ++ (Q ++ [.inr (11, qz_nf [1, 0, 0, 1, 1, 1, 0, 1, 1, 1, 1, 1, 1, 1, 1, 1, 1])])) sl) = some (none, bw X (P ++ (Q ++ k_C_init (P.length + k))) (sl + 1200 + 3 + 3 + 6 + 6 + 64 + 14 + 20 + 400 + 6 + 12 + 12 + 240 + 8 + 8 + 64 + 14 + 20 + 400 + 6 + 12 + 12 + 240 + 8 + 8 + 64 + 14 + 20 + 400 + 6 + 12 + 12 + 240 + 8 + 8 + 64 + 14 + 20 + 400 + 6 + 12 + 12 + 240 + 8 + 8 + 64 + 14 + 20 + 400 + 6 + 12 + 12 + 240 + 8 + 8 + 64 + 14 + 20 + 400 + 6 + 12 + 12 + 240 + 8 + 8 + 64 + 3 + 14 + 20 + 400 + 6 + 12 + 12 + 240 + 8 + 8 + 64 + 8 + 6 + 1200 + 1201 + 1201 + 1201 + 1201 + 8 + 10 + 20 + 20 + 20 + 400 + 400 + 400 + 400 + 400 + 400 + 7 + 400 + 400 + 400 + 400 + 20 + 20 + 4 + 51328 + 401 + 20 + 3 + 4096 + 4096 + 7 + 8 + 21 + 21 + 21 + 20 + 20 + 6 + 8 + 160 + 256 + 256 + 20 + 20 + 20 + 20 + 3 + 6 + 6 + 64 + 14 + 20 + 400 + 6 + 12 + 12 + 240 + 8 + 8 + 64 + 14 + 20 + 400 + 6 + 12 + 12 + 240 + 8 + 8 + 64 + 14 + 20 + 400 + 6 + 12 + 12 + 240 + 8 + 8 + 64 + 14 + 20 + 400 + 6 + 12 + 12 + 240 + 8 + 8 + 64 + 14 + 20 + 400 + 6 + 12 + 12 + 240 + 8 + 8 + 64 + 14 + 20 + 400 + 6 + 12 + 12 + 240 + 8 + 8 + 64 + 3 + 6 + 6 + 64 + 14 + 20 + 400 + 6 + 12 + 12 + 240 + 8 + 8 + 64 + 14 + 20 + 400 + 6 + 12 + 12 + 240 + 8 + 8 + 64 + 14 + 20 + 400 + 6 + 12 + 12 + 240 + 8 + 8 + 64 + 14 + 20 + 400 + 6 + 12 + 12 + 240 + 8 + 8 + 64 + 14 + 20 + 400 + 6 + 12 + 12 + 240 + 8 + 8 + 64 + 14 + 20 + 400 + 6 + 12 + 12 + 240 + 8 + 8 + 64 + 3 + 6 + 6 + 64 + 14 + 20 + 400 + 6 + 12 + 12 + 240 + 8 + 8 + 64 + 14 + 20 + 400 + 6 + 12 + 12 + 240 + 8 + 8 + 64 + 14 + 20 + 400 + 6 + 12 + 12 + 240 + 8 + 8 + 64 + 14 + 20 + 400 + 6 + 12 + 12 + 240 + 8 + 8 + 64 + 14 + 20 + 400 + 6 + 12 + 12 + 240 + 8 + 8 + 64 + 14 + 20 + 400 + 6 + 12 + 12 + 240 + 8 + 8 + 64)) := by
  have := b_C_init X (P ++ Q) sl (by rw [List.length_append, hk]; exact h)
  rw [List.length_append, hk, List.append_assoc, List.append_assoc] at this
  exact this
theorem c_M_init (X : qz_X) (P Q : List qz_E) (k : Nat) (hk : Q.length = k) (sl : Nat) (h : P.length + k + 44 < qz_old) : rn 12 0 [some (.ref (P.length + k))] [] (bw X (P ++ (Q ++ [.inr (12, qz_nf [1, 0, 1, 1, 1, 1, 1, 1, 1, 1, 1, 1, 1, 1, 0, 0, 0, 0, 1, 1, 0, 0, 0, 0, 0, 0, 0, 0, 0, 1, 1, 1, 1, 1, 1, 1, 0, 1, 0, 0, 0, 0, 1, 1, 1, 1, 1, 1, 1, 1, 1, 1, 0, 1, 1, 1, 1, 1, 1, 1, 1, 0, 0, 1, 1])])) sl) = some (none, bw X (P ++ (Q ++ kM_8 (P.length + k))) (sl + 3 + 112 + 6 + 2800 + 2800 + 2800 + 56 + 56 + 448 + 84 + 84 + 84 + 56 + 1200 + 1200 + 400 + 400 + 400 + 400 + 400 + 400 + 400 + 400 + 4096 + 51200 + 128 + 400 + 400 + 6 + 6 + 400 + 400 + 6 + 21 + 21 + 21 + 21 + 256 + 256 + 400 + 8 + 24300 + 3)) := by
  have := b_M_init X (P ++ Q) sl (by rw [List.length_append, hk]; exact h)
  rw [List.length_append, hk, List.append_assoc, List.append_assoc] at this
  exact this
/-- the world when the law's loop begins: the class at 0, the reference at 318 -/
def k_all : List qz_E := k_C_init 0 ++ kM_8 318
theorem kl_C (q : Nat) : (k_C_init q).length = 318 := by
  simp only [k_C_init, List.length_append, List.length_cons, kl_CA, kl_CR, kl_Pile_init]
set_option maxRecDepth 100000 in
set_option maxHeartbeats 2000000 in
theorem law_begin (X : qz_X) : ∃ sl : Nat, sl = 189517 ∧ rn 296 0 [some (.ref qz_old), none, none, none] [] (qz_w0 X) = rn 296 18 [some (.ref qz_old), some (.ref 0), some (.ref 318), some (.int (nI 0))] [] (bw X k_all sl) := by
  refine ⟨?sl, ?e, ?r⟩
  case r =>
    rw [bw_0, e_Law_law_0]
    refine (bx_nw (P := []) (Q := []) 0 rfl (by decide)).trans ?_
    refine (bx_ck (P := []) 0 rfl (by decide)).trans ?_
    refine (r0_call (c_C_init X [] [] 0 rfl _ (by decide))).trans ?_
    refine (bx_nw (P := []) 318 (by rw [List.nil_append]; exact kl_C _) (by decide)).trans ?_
    refine (bz_ck (P := []) 318 (by rw [List.nil_append]; exact kl_C _) (by decide)).trans ?_
    refine (r0_call (c_M_init X [] _ 318 (by rw [List.nil_append]; exact kl_C _) _ (by decide))).trans ?_
    rfl
  case e => decide

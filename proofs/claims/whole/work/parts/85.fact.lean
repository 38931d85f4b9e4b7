/-! the reference's numbering of orders -/
def fct : Nat → Nat
  | 0 => 1
  | n + 1 => fct n * (n + 1)
theorem factorial_run (X : qz_X) (s : sT) {n : Nat} (hn : n ≤ 6) : rn 249 0 [some (.ref 318), some (.int (nI n)), none, none] [] (mk X s) = some (some (.int (nI (fct n))), mk X s) := by
  rw [e_M_factorial_0]
  by_cases h0 : n = 0
  · subst h0
    rw [e_M_factorial_4, if_pos (by decide)]
    rfl
  · obtain ⟨v, rfl, e⟩ := it_up (fun i (v : Int32) => rn 249 4 [none, some (.int (nI n)), some (.int v), some (.int (nI (i + 1)))] [] (mk X s)) (fun i v => v = nI (fct i)) (show 1 ≤ n by omega) (by
      rintro i v h1 hi rfl
      try dsimp only
      refine ⟨_, rfl, ?_⟩
      rw [e_M_factorial_4, if_neg (nI_nlt (by omega) (by omega)), pk_mul, nI_add]
      rfl) (x := nI 1) rfl
    try dsimp only at e
    refine Eq.trans e ?_
    rw [e_M_factorial_4, if_pos (nI_lt (by omega) (by omega))]

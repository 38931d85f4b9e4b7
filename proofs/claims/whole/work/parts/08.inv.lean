/-! what an end of a piece says of its beginning -/
theorem qz_li_i {L : qz_L} {j : Nat} {f : Int32 → Option qz_R} {r : qz_R} (h : qz_li L j f = some r) : ∃ x, qz_at L j = some (some (.int x)) ∧ f x = some r := by
  unfold qz_li at h
  split at h
  · next x hx => exact ⟨x, hx, h⟩
  · cases h
theorem qz_ll_i {L : qz_L} {j : Nat} {f : Int64 → Option qz_R} {r : qz_R} (h : qz_ll L j f = some r) : ∃ x, qz_at L j = some (some (.long x)) ∧ f x = some r := by
  unfold qz_ll at h
  split at h
  · next x hx => exact ⟨x, hx, h⟩
  · cases h
theorem qz_la_i {L : qz_L} {j : Nat} {f : Value → Option qz_R} {r : qz_R} (h : qz_la L j f = some r) : ∃ x, qz_at L j = some (some x) ∧ (x = .null ∨ ∃ o, x = .ref o) ∧ f x = some r := by
  unfold qz_la at h
  split at h
  · next o hx => exact ⟨_, hx, Or.inr ⟨o, rfl⟩, h⟩
  · next hx => exact ⟨_, hx, Or.inl rfl, h⟩
  · cases h
theorem qz_p1_i {st : List Value} {f : Int32 → List Value → Option qz_R} {r : qz_R} (h : qz_p1 st f = some r) : ∃ x t, st = .int x :: t ∧ f x t = some r := by
  unfold qz_p1 at h
  split at h
  · next x t => exact ⟨x, t, rfl, h⟩
  · cases h
theorem qz_p2_i {st : List Value} {f : Int32 → Int32 → List Value → Option qz_R} {r : qz_R} (h : qz_p2 st f = some r) : ∃ x y t, st = .int y :: .int x :: t ∧ f x y t = some r := by
  unfold qz_p2 at h
  split at h
  · next y x t => exact ⟨x, y, t, rfl, h⟩
  · cases h
theorem qz_q1_i {st : List Value} {f : Int64 → List Value → Option qz_R} {r : qz_R} (h : qz_q1 st f = some r) : ∃ x t, st = .long x :: t ∧ f x t = some r := by
  unfold qz_q1 at h
  split at h
  · next x t => exact ⟨x, t, rfl, h⟩
  · cases h
theorem qz_q2_i {st : List Value} {f : Int64 → Int64 → List Value → Option qz_R} {r : qz_R} (h : qz_q2 st f = some r) : ∃ x y t, st = .long y :: .long x :: t ∧ f x y t = some r := by
  unfold qz_q2 at h
  split at h
  · next y x t => exact ⟨x, y, t, rfl, h⟩
  · cases h
theorem qz_pa_i {st : List Value} {f : Value → List Value → Option qz_R} {r : qz_R} (h : qz_pa st f = some r) : ∃ x t, st = x :: t ∧ (x = .null ∨ ∃ o, x = .ref o) ∧ f x t = some r := by
  unfold qz_pa at h
  split at h
  · next o t => exact ⟨_, t, rfl, Or.inr ⟨o, rfl⟩, h⟩
  · next t => exact ⟨_, t, rfl, Or.inl rfl, h⟩
  · cases h
theorem qz_pr_i {st : List Value} {f : Nat → List Value → Option qz_R} {r : qz_R} (h : qz_pr st f = some r) : ∃ o t, st = .ref o :: t ∧ f o t = some r := by
  unfold qz_pr at h
  split at h
  · next o t => exact ⟨o, t, rfl, h⟩
  · cases h
theorem qz_cd_i {b : Bool} {f : Option qz_R} {r : qz_R} (h : cond b f none = some r) : b = true ∧ f = some r := by
  cases b
  · cases h
  · exact ⟨rfl, h⟩
theorem qz_gi_i {w : qz_H} {o ci k : Nat} {f : Int32 → Option qz_R} {r : qz_R} (h : qz_gi w o ci k f = some r) : ∃ fs x, w o = .inr (ci, fs) ∧ fs[k]? = some (.int x) ∧ f x = some r := by
  unfold qz_gi at h
  split at h
  · next cj fs hw =>
    obtain ⟨h1, h2⟩ := qz_cd_i h
    have e := Nat.eq_of_beq_eq_true h1
    subst e
    split at h2
    · next x hx => exact ⟨fs, x, hw, qz_at_mem _ _ _ hx, h2⟩
    · cases h2
  · cases h
theorem qz_ga_i {w : qz_H} {o ci k : Nat} {f : Nat → Option qz_R} {r : qz_R} (h : qz_ga w o ci k f = some r) : ∃ fs x, w o = .inr (ci, fs) ∧ fs[k]? = some (.ref x) ∧ f x = some r := by
  unfold qz_ga at h
  split at h
  · next cj fs hw =>
    obtain ⟨h1, h2⟩ := qz_cd_i h
    have e := Nat.eq_of_beq_eq_true h1
    subst e
    split at h2
    · next x hx => exact ⟨fs, x, hw, qz_at_mem _ _ _ hx, h2⟩
    · cases h2
  · cases h
theorem qz_pf_i {w : qz_W} {o ci k : Nat} {v : Value} {f : qz_W → Option qz_R} {r : qz_R} (h : qz_pf w o ci k v f = some r) : ∃ fs, w.1 o = .inr (ci, fs) ∧ f (va_up w.1 o (.inr (ci, fs.set k v)), w.2) = some r := by
  unfold qz_pf at h
  split at h
  · next cj fs hw =>
    obtain ⟨h1, h2⟩ := qz_cd_i h
    have e := Nat.eq_of_beq_eq_true h1
    subst e
    exact ⟨fs, hw, h2⟩
  · cases h
theorem qz_ck_i {w : qz_H} {o ci : Nat} {f : Option qz_R} {r : qz_R} (h : qz_ck w o ci f = some r) : ∃ fs, w o = .inr (ci, fs) ∧ f = some r := by
  unfold qz_ck at h
  split at h
  · next cj fs hw =>
    obtain ⟨h1, h2⟩ := qz_cd_i h
    have e := Nat.eq_of_beq_eq_true h1
    subst e
    exact ⟨fs, hw, h2⟩
  · cases h
theorem qz_if_i {p : Prop} [Decidable p] {f : Option qz_R} {r : qz_R} (h : (if p then none else f) = some r) : ¬ p ∧ f = some r := by
  by_cases hp : p
  · rw [if_pos hp] at h; cases h
  · rw [if_neg hp] at h; exact ⟨hp, h⟩
theorem qz_ia_i {w : qz_H} {o : Nat} {j : Int32} {f : Int32 → Option qz_R} {r : qz_R} (h : qz_ia w o j f = some r) : ∃ n g, (w o = .inl (.int, n, .inl g) ∨ w o = .inl (.float, n, .inl g)) ∧ vp_in j n ∧ f (g j.toNatClampNeg) = some r := by
  unfold qz_ia at h
  split at h
  · next n g hw => exact ⟨n, g, Or.inl hw, qz_if_i h⟩
  · next n g hw => exact ⟨n, g, Or.inr hw, qz_if_i h⟩
  · cases h
theorem qz_ba_i {w : qz_H} {o : Nat} {j : Int32} {f : Int32 → Option qz_R} {r : qz_R} (h : qz_ba w o j f = some r) : ∃ n g, (w o = .inl (.byte, n, .inl g) ∨ w o = .inl (.double, n, .inl g)) ∧ vp_in j n ∧ f (g j.toNatClampNeg) = some r := by
  unfold qz_ba at h
  split at h
  · next n g hw => exact ⟨n, g, Or.inl hw, qz_if_i h⟩
  · next n g hw => exact ⟨n, g, Or.inr hw, qz_if_i h⟩
  · cases h
theorem qz_ja_i {w : qz_H} {o : Nat} {j : Int32} {f : Int64 → Option qz_R} {r : qz_R} (h : qz_ja w o j f = some r) : ∃ n g, w o = .inl (.long, n, .inr (.inl g)) ∧ vp_in j n ∧ f (g j.toNatClampNeg) = some r := by
  unfold qz_ja at h
  split at h
  · next n g hw => exact ⟨n, g, hw, qz_if_i h⟩
  · cases h
theorem qz_aa_i {w : qz_H} {o : Nat} {j : Int32} {f : Nat → Option qz_R} {r : qz_R} (h : qz_aa w o j f = some r) : ∃ C n g q, w o = .inl (.object C, n, .inr (.inr (.inr (.inr g)))) ∧ vp_in j n ∧ g j.toNatClampNeg = some q ∧ f q = some r := by
  unfold qz_aa at h
  split at h
  · next C n g hw =>
    obtain ⟨h1, h2⟩ := qz_if_i h
    split at h2
    · next q hq => exact ⟨C, n, g, q, hw, h1, hq, h2⟩
    · cases h2
  · cases h
theorem qz_is_i {w : qz_W} {o : Nat} {j x : Int32} {f : qz_W → Option qz_R} {r : qz_R} (h : qz_is w o j x f = some r) : ∃ n g, w.1 o = .inl (.int, n, .inl g) ∧ vp_in j n ∧ f (va_up w.1 o (.inl (.int, n, .inl (upd g j.toNatClampNeg x))), w.2) = some r := by
  unfold qz_is at h
  split at h
  · next n g hw => exact ⟨n, g, hw, qz_if_i h⟩
  · cases h
theorem qz_bs_i {w : qz_W} {o : Nat} {j x : Int32} {f : qz_W → Option qz_R} {r : qz_R} (h : qz_bs w o j x f = some r) : ∃ n g, w.1 o = .inl (.byte, n, .inl g) ∧ vp_in j n ∧ f (va_up w.1 o (.inl (.byte, n, .inl (upd g j.toNatClampNeg (vp_nar .byte x)))), w.2) = some r := by
  unfold qz_bs at h
  split at h
  · next n g hw => exact ⟨n, g, hw, qz_if_i h⟩
  · cases h
theorem qz_js_i {w : qz_W} {o : Nat} {j : Int32} {x : Int64} {f : qz_W → Option qz_R} {r : qz_R} (h : qz_js w o j x f = some r) : ∃ n g, w.1 o = .inl (.long, n, .inr (.inl g)) ∧ vp_in j n ∧ f (va_up w.1 o (.inl (.long, n, .inr (.inl (vp_updL g j.toNatClampNeg x)))), w.2) = some r := by
  unfold qz_js at h
  split at h
  · next n g hw => exact ⟨n, g, hw, qz_if_i h⟩
  · cases h
theorem qz_as_i {w : qz_W} {o : Nat} {j : Int32} {v : Nat} {f : qz_W → Option qz_R} {r : qz_R} (h : qz_as w o j v f = some r) : ∃ C n g ci vs, w.1 o = .inl (.object C, n, .inr (.inr (.inr (.inr g)))) ∧ vp_in j n ∧ w.1 v = .inr (ci, vs) ∧ qz_at qz_cn ci = some C ∧ f (va_up w.1 o (.inl (.object C, n, .inr (.inr (.inr (.inr (va_up g j.toNatClampNeg (some v))))))), w.2) = some r := by
  unfold qz_as at h
  split at h
  · next C n g hw =>
    obtain ⟨h1, h2⟩ := qz_if_i h
    split at h2
    · next ci vs hv =>
      by_cases hc : qz_at qz_cn ci = some C
      · rw [if_pos hc] at h2
        exact ⟨C, n, g, ci, vs, hw, h1, hv, hc, h2⟩
      · rw [if_neg hc] at h2; cases h2
    · cases h2
  · cases h
theorem qz_len_i {w : qz_H} {o : Nat} {f : Int32 → Option qz_R} {r : qz_R} (h : qz_len w o f = some r) : ∃ ty n x, w o = .inl (ty, n, x) ∧ f (nI n) = some r := by
  unfold qz_len at h
  split at h
  · next ty n x hw => exact ⟨ty, n, x, hw, h⟩
  · cases h
theorem qz_cp_i {w : qz_W} {o q : Nat} {sp dp n : Int32} {f : qz_W → Option qz_R} {r : qz_R} (h : qz_cp w o q sp dp n f = some r) : ∃ n0 g n1 g1, w.1 o = .inl (.int, n0, .inl g) ∧ w.1 q = .inl (.int, n1, .inl g1) ∧ (¬ sp < 0 ∧ ¬ dp < 0 ∧ ¬ n < 0 ∧ sp.toNatClampNeg + n.toNatClampNeg ≤ n0 ∧ dp.toNatClampNeg + n.toNatClampNeg ≤ n1) ∧ f (va_up w.1 q (.inl (.int, n1, .inl (va_cpy g g1 sp.toNatClampNeg dp.toNatClampNeg n.toNatClampNeg))), w.2) = some r := by
  unfold qz_cp at h
  split at h
  · next n0 g hw =>
    split at h
    · next n1 g1 hw1 =>
      obtain ⟨h1, h2⟩ := qz_if_i h
      exact ⟨n0, g, n1, g1, hw, hw1, ⟨fun a => h1 (Or.inl a), fun a => h1 (Or.inr (Or.inl a)), fun a => h1 (Or.inr (Or.inr (Or.inl a))), Nat.not_lt.mp fun a => h1 (Or.inr (Or.inr (Or.inr (Or.inl a)))), Nat.not_lt.mp fun a => h1 (Or.inr (Or.inr (Or.inr (Or.inr a))))⟩, h2⟩
    · cases h
  · cases h
theorem qz_sp_i : ∀ (b : Nat) (st as : List Value) {f : List Value → List Value → Option qz_R} {r : qz_R}, qz_sp b st as f = some r → ∃ xs t, st = xs.reverse ++ t ∧ xs.length = b ∧ f (xs ++ as) t = some r
  | 0, st, as, f, r, h => ⟨[], st, rfl, rfl, h⟩
  | b + 1, [], as, f, r, h => by cases h
  | b + 1, v :: st, as, f, r, h => by
    obtain ⟨xs, t, h1, h2, h3⟩ := qz_sp_i b st (v :: as) h
    exact ⟨xs ++ [v], t, by simp [h1], by simp [h2], by simpa using h3⟩
/-- a call's end: what it gave, and that what follows went on with it -/
theorem qz_rt_i {c : Nat} {o : Option qz_R} {r : List Value} {f : List Value → qz_W → Option qz_R} {z : qz_R} (h : qz_rt c o r f = some z) : ∃ v w, o = some (v, w) ∧ f (v.toList ++ r) w = some z := by
  unfold qz_rt at h
  split at h
  · unfold qz_r0 at h
    split at h
    · next w => exact ⟨none, w, rfl, h⟩
    · cases h
  · unfold qz_r1 at h
    split at h
    · next x w => exact ⟨some (.int x), w, rfl, h⟩
    · cases h
  · unfold qz_r2 at h
    split at h
    · next x w => exact ⟨some (.long x), w, rfl, h⟩
    · cases h
  · unfold qz_r3 at h
    split at h
    · next w => exact ⟨some .null, w, rfl, h⟩
    · next q w => exact ⟨some (.ref q), w, rfl, h⟩
    · cases h
theorem qz_iv_i {go : qz_K} {a b c pad mx : Nat} {ck : Option Nat} {st : List Value} {w : qz_W} {f : List Value → qz_W → Option qz_R} {z : qz_R} (h : qz_iv go a b c pad mx ck st w f = some z) : ∃ xs t v w1, st = xs.reverse ++ t ∧ xs.length = b ∧ qz_cat t ≤ 8 ∧ qz_cat xs + pad ≤ mx ∧ (∀ ci, ck = some ci → ∃ o ys fs, xs = .ref o :: ys ∧ w.1 o = .inr (ci, fs)) ∧ go a 0 (qz_sl xs pad) [] w = some (v, w1) ∧ f (v.toList ++ t) w1 = some z := by
  unfold qz_iv at h
  obtain ⟨xs, t, h1, h2, h3⟩ := qz_sp_i b st [] h
  obtain ⟨h4, h5⟩ := qz_cd_i h3
  rw [List.append_nil] at h4 h5
  rw [Bool.and_eq_true] at h4
  refine ⟨xs, t, ?_⟩
  cases ck with
  | none =>
    obtain ⟨v, w1, e1, e2⟩ := qz_rt_i h5
    exact ⟨v, w1, h1, h2, Nat.le_of_ble_eq_true h4.1, Nat.le_of_ble_eq_true h4.2, fun ci e => (by cases e), e1, e2⟩
  | some ci =>
    dsimp only at h5
    split at h5
    · next o ys =>
      obtain ⟨fs, g1, g2⟩ := qz_ck_i h5
      obtain ⟨v, w1, e1, e2⟩ := qz_rt_i g2
      exact ⟨v, w1, h1, h2, Nat.le_of_ble_eq_true h4.1, Nat.le_of_ble_eq_true h4.2, fun cj e => (by cases e; exact ⟨o, ys, fs, rfl, g1⟩), e1, e2⟩
    · cases h5
/-- cells and slots only grow -/
def qz_gr (w : qz_W) (o : Option qz_R) : Prop := ∀ r, o = some r → w.2.1 ≤ r.2.2.1 ∧ w.2.2 ≤ r.2.2.2
theorem qz_gr.no {w : qz_W} : qz_gr w none := fun _ h => by cases h
theorem qz_gr.ite {w : qz_W} {p : Prop} [Decidable p] {f g : Option qz_R} (hf : qz_gr w f) (hg : qz_gr w g) : qz_gr w (if p then f else g) := by
  by_cases h : p
  · rw [if_pos h]; exact hf
  · rw [if_neg h]; exact hg
theorem qz_gr.cd {w : qz_W} {b : Bool} {f g : Option qz_R} (hf : qz_gr w f) (hg : qz_gr w g) : qz_gr w (cond b f g) := by
  cases b
  · exact hg
  · exact hf
theorem qz_gr.mk {w w1 : qz_W} {o : Option qz_R} (h1 : w.2.1 ≤ w1.2.1) (h2 : w.2.2 ≤ w1.2.2) (h : qz_gr w1 o) : qz_gr w o := fun r e => ⟨Nat.le_trans h1 (h r e).1, Nat.le_trans h2 (h r e).2⟩
theorem qz_gr.sw {w : qz_W} {x : Int32} {d : Nat} {k : Nat → Option qz_R} (hk : ∀ t, qz_gr w (k t)) : ∀ (ts : List Nat) (j : Nat), qz_gr w (qz_sw x k d j ts)
  | [], j => hk d
  | t :: ts, j => qz_gr.ite (hk t) (qz_gr.sw hk ts (j + 1))
theorem qz_gr.iv {go : qz_K} {a b c pad mx : Nat} {ck : Option Nat} {st : List Value} {w : qz_W} {f : List Value → qz_W → Option qz_R} (hg : ∀ m pc L st w, qz_gr w (go m pc L st w)) (hf : ∀ st w, qz_gr w (f st w)) : qz_gr w (qz_iv go a b c pad mx ck st w f) := by
  intro r h
  obtain ⟨xs, t, v, w1, -, -, -, -, -, h1, h2⟩ := qz_iv_i h
  have a1 := hg _ _ _ _ _ _ h1
  have a2 := hf _ _ _ h2
  exact ⟨Nat.le_trans a1.1 a2.1, Nat.le_trans a1.2 a2.2⟩
set_option maxHeartbeats 4000000 in
theorem qz_gr.G (P : Nat → qz_B) (go : qz_K) (hg : ∀ m pc L st w, qz_gr w (go m pc L st w)) (m pc : Nat) (L : qz_L) (st : List Value) (w : qz_W) : qz_gr w (qz_G P go m pc L st w) := by
  unfold qz_G
  cases qz_lk (P m) pc with
  | none => exact qz_gr.no
  | some e =>
    obtain ⟨⟨i, n⟩, ⟨a, b, c⟩, ⟨k, kl⟩, ⟨mn, mt⟩, tl⟩ := e
    cases i
    case tableswitch =>
      dsimp only
      unfold qz_p1
      split
      · exact qz_gr.sw (fun t => hg _ _ _ _ _) _ _
      · exact qz_gr.no
    all_goals
      dsimp only
      (try simp only [qz_li, qz_ll, qz_la, qz_p1, qz_p2, qz_q1, qz_q2, qz_pa, qz_pr, qz_gi, qz_ga, qz_pf, qz_ia, qz_ba, qz_ja, qz_aa, qz_is, qz_bs, qz_js, qz_as, qz_len, qz_cp, qz_bra])
      repeat' (first | exact qz_gr.no | exact hg _ _ _ _ _ | exact fun r e => by cases e; exact ⟨Nat.le_refl _, Nat.le_refl _⟩ | exact qz_gr.iv hg (fun st w => hg _ _ _ _ _) | exact qz_gr.mk (Nat.le_refl _) (Nat.le_refl _) (hg _ _ _ _ (_, w.2)) | exact qz_gr.mk (w1 := qz_new w _ _) (Nat.le_succ _) (Nat.le_add_right _ _) (hg _ _ _ _ _) | refine qz_gr.ite ?_ ?_ | refine qz_gr.cd ?_ ?_ | split)
theorem qz_x_gr (P : Nat → qz_B) : ∀ (f m pc : Nat) (L : qz_L) (st : List Value) (w : qz_W), qz_gr w (qz_x P f m pc L st w)
  | 0, _, _, _, _, _ => qz_gr.no
  | f + 1, m, pc, L, st, w => qz_gr.G P _ (fun _ _ _ _ _ => qz_x_gr P f _ _ _ _ _) m pc L st w

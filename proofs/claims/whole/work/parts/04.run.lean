/-- what a piece of a step asks of the runs that it goes on with is a finite list -/
def qz_F (g : qz_K → Option qz_R) : Prop := ∀ (go : qz_K) (r : qz_R), g go = some r → ∃ l : List ((Nat × Nat × qz_L × List Value × qz_W) × qz_R), (∀ q ∈ l, go q.1.1 q.1.2.1 q.1.2.2.1 q.1.2.2.2.1 q.1.2.2.2.2 = some q.2) ∧ ∀ go' : qz_K, (∀ q ∈ l, go' q.1.1 q.1.2.1 q.1.2.2.1 q.1.2.2.2.1 q.1.2.2.2.2 = some q.2) → g go' = some r
theorem qz_F.no : qz_F (fun _ => none) := fun _ _ h => by cases h
theorem qz_F.ok (o : Option qz_R) : qz_F (fun _ => o) := fun _ _ h => ⟨[], fun _ hq => (by cases hq), fun _ _ => h⟩
theorem qz_F.go (m pc : Nat) (L : qz_L) (st : List Value) (w : qz_W) : qz_F (fun go => go m pc L st w) := fun go r h => ⟨[((m, pc, L, st, w), r)], fun q hq => (by cases List.mem_singleton.mp hq; exact h), fun go' h' => h' _ (List.mem_singleton.mpr rfl)⟩
theorem qz_F.ite {p : Prop} [Decidable p] {f g : qz_K → Option qz_R} (hf : qz_F f) (hg : qz_F g) : qz_F (fun go => if p then f go else g go) := by
  by_cases h : p
  · simp only [if_pos h]; exact hf
  · simp only [if_neg h]; exact hg
theorem qz_F.cd {b : Bool} {f g : qz_K → Option qz_R} (hf : qz_F f) (hg : qz_F g) : qz_F (fun go => cond b (f go) (g go)) := by
  cases b
  · exact hg
  · exact hf
/-- a call, then the rest -/
theorem qz_F.bd {f : qz_K → Option qz_R} {k : qz_K → qz_R → Option qz_R} (hf : qz_F f) (hk : ∀ r, qz_F (fun go => k go r)) : qz_F (fun go => (f go).bind (k go)) := by
  intro go r h
  cases hh : f go with
  | none =>
    have h : (f go).bind (k go) = some r := h
    rw [hh] at h
    cases h
  | some r1 =>
    have h : (f go).bind (k go) = some r := h
    rw [hh] at h
    obtain ⟨l1, a1, b1⟩ := hf go r1 hh
    obtain ⟨l2, a2, b2⟩ := hk r1 go r h
    refine ⟨l1 ++ l2, fun q hq => (List.mem_append.mp hq).elim (a1 q) (a2 q), fun go' h' => ?_⟩
    show (f go').bind (k go') = some r
    rw [b1 go' fun q hq => h' q (List.mem_append_left _ hq)]
    exact b2 go' fun q hq => h' q (List.mem_append_right _ hq)
theorem qz_F.r0 {f : qz_K → Option qz_R} {k : qz_K → qz_W → Option qz_R} (hf : qz_F f) (hk : ∀ w, qz_F (fun go => k go w)) : qz_F (fun go => qz_r0 (f go) (k go)) := by
  have h := qz_F.bd (k := fun go r => match r with | (none, w) => k go w | _ => none) hf (fun r => by
    obtain ⟨v, w⟩ := r
    cases v with
    | none => exact hk w
    | some v => exact qz_F.no)
  have e : (fun go => qz_r0 (f go) (k go)) = (fun go => (f go).bind (fun r => match r with | (none, w) => k go w | _ => none)) := by
    funext go
    rcases f go with _ | ⟨_ | v, w⟩ <;> rfl
  rw [e]; exact h
theorem qz_F.r1 {f : qz_K → Option qz_R} {k : qz_K → Int32 → qz_W → Option qz_R} (hf : qz_F f) (hk : ∀ x w, qz_F (fun go => k go x w)) : qz_F (fun go => qz_r1 (f go) (k go)) := by
  have h := qz_F.bd (k := fun go r => match r with | (some (.int x), w) => k go x w | _ => none) hf (fun r => by
    obtain ⟨v, w⟩ := r
    rcases v with _ | v
    · exact qz_F.no
    · cases v <;> first | exact hk _ w | exact qz_F.no)
  have e : (fun go => qz_r1 (f go) (k go)) = (fun go => (f go).bind (fun r => match r with | (some (.int x), w) => k go x w | _ => none)) := by
    funext go
    rcases f go with _ | ⟨_ | v, w⟩
    · rfl
    · rfl
    · cases v <;> rfl
  rw [e]; exact h
theorem qz_F.r2 {f : qz_K → Option qz_R} {k : qz_K → Int64 → qz_W → Option qz_R} (hf : qz_F f) (hk : ∀ x w, qz_F (fun go => k go x w)) : qz_F (fun go => qz_r2 (f go) (k go)) := by
  have h := qz_F.bd (k := fun go r => match r with | (some (.long x), w) => k go x w | _ => none) hf (fun r => by
    obtain ⟨v, w⟩ := r
    rcases v with _ | v
    · exact qz_F.no
    · cases v <;> first | exact hk _ w | exact qz_F.no)
  have e : (fun go => qz_r2 (f go) (k go)) = (fun go => (f go).bind (fun r => match r with | (some (.long x), w) => k go x w | _ => none)) := by
    funext go
    rcases f go with _ | ⟨_ | v, w⟩
    · rfl
    · rfl
    · cases v <;> rfl
  rw [e]; exact h
theorem qz_F.r3 {f : qz_K → Option qz_R} {k0 : qz_K → qz_W → Option qz_R} {k : qz_K → Nat → qz_W → Option qz_R} (hf : qz_F f) (hk0 : ∀ w, qz_F (fun go => k0 go w)) (hk : ∀ x w, qz_F (fun go => k go x w)) : qz_F (fun go => qz_r3 (f go) (k0 go) (k go)) := by
  have h := qz_F.bd (k := fun go r => match r with | (some .null, w) => k0 go w | (some (.ref x), w) => k go x w | _ => none) hf (fun r => by
    obtain ⟨v, w⟩ := r
    rcases v with _ | v
    · exact qz_F.no
    · cases v <;> first | exact hk _ w | exact hk0 w | exact qz_F.no)
  have e : (fun go => qz_r3 (f go) (k0 go) (k go)) = (fun go => (f go).bind (fun r => match r with | (some .null, w) => k0 go w | (some (.ref x), w) => k go x w | _ => none)) := by
    funext go
    rcases f go with _ | ⟨_ | v, w⟩
    · rfl
    · rfl
    · cases v <;> rfl
  rw [e]; exact h
theorem qz_F.rt {c : Nat} {f : qz_K → Option qz_R} {r : List Value} {k : qz_K → List Value → qz_W → Option qz_R} (hf : qz_F f) (hk : ∀ st w, qz_F (fun go => k go st w)) : qz_F (fun go => qz_rt c (f go) r (k go)) := by
  match c with
  | 0 => exact qz_F.r0 hf fun w => hk _ w
  | 1 => exact qz_F.r1 hf fun x w => hk _ w
  | 2 => exact qz_F.r2 hf fun x w => hk _ w
  | c + 3 => exact qz_F.r3 hf (fun w => hk _ w) (fun x w => hk _ w)
theorem qz_F.sp : ∀ (b : Nat) (st as : List Value) {k : qz_K → List Value → List Value → Option qz_R}, (∀ as r, qz_F (fun go => k go as r)) → qz_F (fun go => qz_sp b st as (k go))
  | 0, st, as, k, hk => hk as st
  | b + 1, [], as, k, hk => qz_F.no
  | b + 1, v :: st, as, k, hk => qz_F.sp b st (v :: as) hk
theorem qz_F.iv {a b c pad mx : Nat} {ck : Option Nat} {st : List Value} {w : qz_W} {k : qz_K → List Value → qz_W → Option qz_R} (hk : ∀ st w, qz_F (fun go => k go st w)) : qz_F (fun go => qz_iv go a b c pad mx ck st w (k go)) := by
  refine qz_F.sp b st [] (k := fun go as r => _) fun as r => qz_F.cd ?_ qz_F.no
  cases ck with
  | none => exact qz_F.rt (qz_F.go _ _ _ _ _) hk
  | some ci =>
    match as with
    | .ref o :: t =>
      show qz_F (fun go => qz_ck w.1 o ci (qz_rt c (go a 0 (qz_sl (.ref o :: t) pad) [] w) r (k go)))
      unfold qz_ck
      split
      · exact qz_F.cd (qz_F.rt (qz_F.go _ _ _ _ _) hk) qz_F.no
      · exact qz_F.no
    | [] => exact qz_F.no
    | .int _ :: _ => exact qz_F.no
    | .long _ :: _ => exact qz_F.no
    | .float _ :: _ => exact qz_F.no
    | .double _ :: _ => exact qz_F.no
    | .null :: _ => exact qz_F.no
    | .retAddr _ :: _ => exact qz_F.no
theorem qz_F.sw {x : Int32} {d : Nat} {k : qz_K → Nat → Option qz_R} (hk : ∀ t, qz_F (fun go => k go t)) : ∀ (ts : List Nat) (j : Nat), qz_F (fun go => qz_sw x (k go) d j ts)
  | [], j => hk d
  | t :: ts, j => qz_F.ite (hk t) (qz_F.sw hk ts (j + 1))
theorem qz_F.bra {c : Jvm.ClassFile.Cond} {x y : Int32} {f g : qz_K → Option qz_R} (hf : qz_F f) (hg : qz_F g) : qz_F (fun go => qz_bra c x y (f go) (g go)) := by
  cases c
  · exact qz_F.ite hf hg
  · exact qz_F.ite hg hf
  · exact qz_F.ite hf hg
  · exact qz_F.ite hf hg
  · exact qz_F.ite hf hg
  · exact qz_F.ite hf hg
set_option maxHeartbeats 4000000 in
theorem qz_F.G (P : Nat → qz_B) (m pc : Nat) (L : qz_L) (st : List Value) (w : qz_W) : qz_F (fun go => qz_G P go m pc L st w) := by
  unfold qz_G
  cases qz_lk (P m) pc with
  | none => exact qz_F.no
  | some e =>
    obtain ⟨⟨i, n⟩, ⟨a, b, c⟩, ⟨k, kl⟩, ⟨mn, mt⟩, tl⟩ := e
    cases i
    case invokevirtual =>
      match tl with
      | [pad, mx, ci] => exact qz_F.iv fun st w => qz_F.go _ _ _ _ _
      | [] => exact qz_F.no
      | [_] => exact qz_F.no
      | [_, _] => exact qz_F.no
      | _ :: _ :: _ :: _ :: _ => exact qz_F.no
    case invokespecial =>
      match tl with
      | [pad, mx, ci] => exact qz_F.iv fun st w => qz_F.go _ _ _ _ _
      | [_] => exact qz_F.no
      | [_, _] => exact qz_F.no
      | [] =>
        dsimp only
        unfold qz_pr
        split
        · exact qz_F.cd (qz_F.go _ _ _ _ _) qz_F.no
        · exact qz_F.no
      | _ :: _ :: _ :: _ :: _ => exact qz_F.no
    case invokestatic =>
      match tl with
      | [pad, mx] => exact qz_F.iv fun st w => qz_F.go _ _ _ _ _
      | [_] =>
        dsimp only
        split
        · exact qz_F.ite qz_F.no (qz_F.cd (qz_F.go _ _ _ _ _) qz_F.no)
        · exact qz_F.no
      | [] =>
        dsimp only
        split
        · refine qz_F.cd ?_ qz_F.no
          unfold qz_cp
          repeat' (first | exact qz_F.no | exact qz_F.go _ _ _ _ _ | refine qz_F.ite ?_ ?_ | split)
        · exact qz_F.no
      | _ :: _ :: _ :: _ => exact qz_F.no
    case tableswitch =>
      dsimp only
      unfold qz_p1
      split
      · exact qz_F.sw (fun t => qz_F.go _ _ _ _ _) _ _
      · exact qz_F.no
    all_goals
      dsimp only
      (try simp only [qz_li, qz_ll, qz_la, qz_p1, qz_p2, qz_q1, qz_q2, qz_pa, qz_pr, qz_gi, qz_ga, qz_pf, qz_ia, qz_ba, qz_ja, qz_aa, qz_is, qz_bs, qz_js, qz_as, qz_len])
      repeat' (first | exact qz_F.no | exact qz_F.go _ _ _ _ _ | exact qz_F.ok _ | refine qz_F.bra ?_ ?_ | refine qz_F.ite ?_ ?_ | refine qz_F.cd ?_ ?_ | split)
/-- more steps allowed: the same end -/
theorem qz_x_up (P : Nat → qz_B) : ∀ (f : Nat) (m pc : Nat) (L : qz_L) (st : List Value) (w : qz_W) (r : qz_R), qz_x P f m pc L st w = some r → qz_x P (f + 1) m pc L st w = some r
  | 0, _, _, _, _, _, _, h => by cases h
  | f + 1, m, pc, L, st, w, r, h => by
    obtain ⟨l, h1, h2⟩ := qz_F.G P m pc L st w (qz_x P f) r h
    exact h2 (qz_x P (f + 1)) fun q hq => qz_x_up P f _ _ _ _ _ _ (h1 q hq)
theorem qz_x_le (P : Nat → qz_B) {f g : Nat} (hfg : f ≤ g) {m pc : Nat} {L : qz_L} {st : List Value} {w : qz_W} {r : qz_R} (h : qz_x P f m pc L st w = some r) : qz_x P g m pc L st w = some r := by
  obtain ⟨d, rfl⟩ := Nat.exists_eq_add_of_le hfg
  induction d with
  | zero => exact h
  | succ d ih => exact qz_x_up P _ _ _ _ _ _ _ (ih (Nat.le_add_right _ _))
/-- the run from here, to its end: none where there is no end -/
noncomputable def qz_run (P : Nat → qz_B) : qz_K := fun m pc L st w => @dite _ (∃ r : qz_R, ∃ f : Nat, qz_x P f m pc L st w = some r) (Classical.propDecidable _) (fun h => some h.choose) (fun _ => none)
theorem qz_run_iff (P : Nat → qz_B) {m pc : Nat} {L : qz_L} {st : List Value} {w : qz_W} {r : qz_R} : qz_run P m pc L st w = some r ↔ ∃ f : Nat, qz_x P f m pc L st w = some r := by
  unfold qz_run
  constructor
  · intro h
    split at h
    · next hh =>
      have e := Option.some.inj h
      rw [← e]
      exact hh.choose_spec
    · cases h
  · rintro ⟨f, h⟩
    have hh : ∃ r : qz_R, ∃ f : Nat, qz_x P f m pc L st w = some r := ⟨r, f, h⟩
    rw [dif_pos hh]
    obtain ⟨g, hg⟩ := hh.choose_spec
    have h1 := qz_x_le P (Nat.le_max_left f g) h
    have h2 := qz_x_le P (Nat.le_max_right f g) hg
    rw [h1] at h2
    exact congrArg some (Option.some.inj h2).symm
theorem qz_run_step (P : Nat → qz_B) (m pc : Nat) (L : qz_L) (st : List Value) (w : qz_W) : qz_run P m pc L st w = qz_G P (qz_run P) m pc L st w := by
  apply Option.ext
  intro r
  constructor
  · intro h
    obtain ⟨f, hf⟩ := (qz_run_iff P).mp h
    cases f with
    | zero => cases hf
    | succ f =>
      obtain ⟨l, h1, h2⟩ := qz_F.G P m pc L st w (qz_x P f) r hf
      exact h2 (qz_run P) fun q hq => (qz_run_iff P).mpr ⟨f, h1 q hq⟩
  · intro h
    obtain ⟨l, h1, h2⟩ := qz_F.G P m pc L st w (qz_run P) r h
    have key : ∀ l : List ((Nat × Nat × qz_L × List Value × qz_W) × qz_R), (∀ q ∈ l, qz_run P q.1.1 q.1.2.1 q.1.2.2.1 q.1.2.2.2.1 q.1.2.2.2.2 = some q.2) → ∃ f : Nat, ∀ q ∈ l, qz_x P f q.1.1 q.1.2.1 q.1.2.2.1 q.1.2.2.2.1 q.1.2.2.2.2 = some q.2 := by
      intro l
      induction l with
      | nil => exact fun _ => ⟨0, fun q hq => by cases hq⟩
      | cons q l ih =>
        intro h
        obtain ⟨f, hf⟩ := ih fun q hq => h q (List.mem_cons_of_mem _ hq)
        obtain ⟨g, hg⟩ := (qz_run_iff P).mp (h q List.mem_cons_self)
        refine ⟨max f g, fun q' hq' => ?_⟩
        rcases List.mem_cons.mp hq' with rfl | hq'
        · exact qz_x_le P (Nat.le_max_right f g) hg
        · exact qz_x_le P (Nat.le_max_left f g) (hf q' hq')
    obtain ⟨f, hf⟩ := key l h1
    exact (qz_run_iff P).mpr ⟨f + 1, h2 (qz_x P f) hf⟩
def qz_mem : List Nat → Nat → Bool
  | [], _ => false
  | a :: l, n => cond (Nat.beq a n) true (qz_mem l n)
/-- at most k steps of the method m0, stopping at the places sp -/
noncomputable def qz_u (P : Nat → qz_B) (m0 : Nat) (sp : List Nat) : Nat → qz_K
  | 0 => qz_run P
  | k + 1 => fun m pc L st w => cond (Nat.beq m m0 && not (qz_mem sp pc)) (qz_G P (qz_u P m0 sp k) m pc L st w) (qz_run P m pc L st w)
theorem qz_u_run (P : Nat → qz_B) (m0 : Nat) (sp : List Nat) : ∀ k : Nat, qz_u P m0 sp k = qz_run P
  | 0 => rfl
  | k + 1 => by
    funext m pc L st w
    show cond _ (qz_G P (qz_u P m0 sp k) m pc L st w) (qz_run P m pc L st w) = _
    rw [qz_u_run P m0 sp k, ← qz_run_step]
    cases (Nat.beq m m0 && not (qz_mem sp pc)) <;> rfl
/-- a block: from a place on, up to the places sp -/
theorem qz_blk (P : Nat → qz_B) (sp : List Nat) (k m pc : Nat) (L : qz_L) (st : List Value) (w : qz_W) : qz_run P m pc L st w = qz_G P (qz_u P m sp k) m pc L st w := by
  rw [qz_u_run]
  exact qz_run_step P m pc L st w

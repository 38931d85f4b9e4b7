/-! the text: blanks, runs, tokens -/
abbrev txT : Type := Nat × (Nat → Nat)
def kdb (b : Nat) : Nat := if 97 ≤ b ∧ b ≤ 122 then 1 else if 48 ≤ b ∧ b ≤ 57 then 2 else 3
def blb (b : Nat) : Bool := b == 32 || b == 10
def skf (T : txT) : Nat → Nat → Nat
  | 0, p => p
  | d + 1, p => if blb (T.2 p) then skf T d (p + 1) else p
def sk (T : txT) (p : Nat) : Nat := skf T (T.1 - p) p
def enf (T : txT) (k : Nat) : Nat → Nat → Nat
  | 0, p => p
  | d + 1, p => if kdb (T.2 p) = k then enf T k d (p + 1) else p
def en (T : txT) (k p : Nat) : Nat := enf T k (T.1 - p) p
section TEXT
variable {T : txT} {k p P : Nat}
theorem sk_e (h : T.1 ≤ p) : sk T p = p := by unfold sk; rw [Nat.sub_eq_zero_of_le h]; rfl
theorem sk_s (h : p < T.1) : sk T p = if blb (T.2 p) then sk T (p + 1) else p := by
  unfold sk
  rw [show T.1 - p = (T.1 - (p + 1)) + 1 by omega]
  rfl
theorem en_e (h : T.1 ≤ p) : en T k p = p := by unfold en; rw [Nat.sub_eq_zero_of_le h]; rfl
theorem en_s (h : p < T.1) : en T k p = if kdb (T.2 p) = k then en T k (p + 1) else p := by
  unfold en
  rw [show T.1 - p = (T.1 - (p + 1)) + 1 by omega]
  rfl
theorem enf_ge (T : txT) (k : Nat) : ∀ d p, p ≤ enf T k d p ∧ enf T k d p ≤ p + d ∧ (∀ i, p ≤ i → i < enf T k d p → kdb (T.2 i) = k) ∧ (enf T k d p < p + d → kdb (T.2 (enf T k d p)) ≠ k)
  | 0, p => ⟨Nat.le_refl _, Nat.le_refl _, fun i h1 h2 => absurd h2 (Nat.not_lt.mpr h1), fun h => absurd h (Nat.lt_irrefl _)⟩
  | d + 1, p => by
    obtain ⟨h1, h2, h3, h4⟩ := enf_ge T k d (p + 1)
    unfold enf
    by_cases h : kdb (T.2 p) = k
    · rw [if_pos h]
      refine ⟨by omega, by omega, fun i hi hj => ?_, fun hh => h4 (by omega)⟩
      by_cases e : i = p
      · rw [e]; exact h
      · exact h3 i (by omega) hj
    · rw [if_neg h]
      exact ⟨Nat.le_refl _, by omega, fun i hi hj => by omega, fun _ => h⟩
theorem skf_ge (T : txT) : ∀ d p, p ≤ skf T d p ∧ skf T d p ≤ p + d ∧ (skf T d p < p + d → blb (T.2 (skf T d p)) = false)
  | 0, p => ⟨Nat.le_refl _, Nat.le_refl _, fun h => absurd h (Nat.lt_irrefl _)⟩
  | d + 1, p => by
    obtain ⟨h1, h2, h3⟩ := skf_ge T d (p + 1)
    unfold skf
    cases h : blb (T.2 p)
    · rw [if_neg (by decide)]
      exact ⟨Nat.le_refl _, by omega, fun _ => h⟩
    · rw [if_pos rfl]
      exact ⟨by omega, by omega, fun hh => h3 (by omega)⟩
theorem en_ge : p ≤ en T k p := (enf_ge T k _ p).1
theorem en_le (h : p ≤ T.1) : en T k p ≤ T.1 := by
  have := (enf_ge T k (T.1 - p) p).2.1
  unfold en
  omega
theorem en_in {i : Nat} (h1 : p ≤ i) (h2 : i < en T k p) : kdb (T.2 i) = k := (enf_ge T k _ p).2.2.1 i h1 h2
theorem en_out (hp : p ≤ T.1) (h : en T k p < T.1) : kdb (T.2 (en T k p)) ≠ k := (enf_ge T k _ p).2.2.2 (by unfold en at h; omega)
theorem sk_ge : p ≤ sk T p := (skf_ge T _ p).1
theorem sk_le (h : p ≤ T.1) : sk T p ≤ T.1 := by
  have := (skf_ge T (T.1 - p) p).2.1
  unfold sk
  omega
theorem sk_nb (hp : p ≤ T.1) (h : sk T p < T.1) : blb (T.2 (sk T p)) = false := (skf_ge T _ p).2.2 (by unfold sk at h; omega)
theorem sk_sk (hp : p ≤ T.1) : sk T (sk T p) = sk T p := by
  by_cases h : sk T p < T.1
  · rw [sk_s h, sk_nb hp h, if_neg (by decide)]
  · rw [sk_e (by omega)]
end TEXT
def kd (T : txT) (P : Nat) : Nat := if P < T.1 then kdb (T.2 P) else 0
def ln (T : txT) (P : Nat) : Nat := if P < T.1 then (if kdb (T.2 P) = 3 then 1 else en T (kdb (T.2 P)) (P + 1) - P) else 0
def nm (T : txT) (P : Nat) : Nat → Nat
  | 0 => 0
  | l + 1 => 10 * nm T P l + (T.2 (P + l) - 48)
def pkw (f : Nat → Nat) : Nat → Nat
  | 0 => 0
  | l + 1 => 256 * pkw f l + f l
def KB : List Nat := [0, 6, 10, 16, 20, 27, 32, 38, 41, 47, 52, 59, 68, 74, 81, 86, 93, 99, 104, 110]
def KL : List Nat := [5, 3, 5, 3, 6, 4, 5, 2, 5, 4, 6, 8, 5, 6, 4, 6, 5, 4, 5, 4]
def KC : List Nat := [482854663269, 7499639, 495672455269, 7370100, 128047779833188, 1752132708, 512970880104, 29807, 422827094888, 2003132786, 108243533981541, 8319400174365927540, 422826697060, 109330312357234, 1953459300, 114801865155950, 474316174440, 1700885364, 495791207528, 2003137396]
/-- the word at P is the keyword k -/
def kwM (T : txT) (P k : Nat) : Bool := (ln T P == qz_gd 0 KL k) && (pkw (fun i => T.2 (P + i)) (ln T P) == qz_gd 0 KC k)
def kwF (M : Nat → Bool) : Nat → Nat → Nat
  | 0, k => k
  | d + 1, k => cond (M k) k (kwF M d (k + 1))
/-- which keyword; 20: none -/
def kw (T : txT) (P : Nat) : Nat := kwF (kwM T P) 20 0
def kwI (T : txT) (P : Nat) : Int32 := if kw T P < 20 then nI (kw T P) else -1
def vl (T : txT) (P : Nat) : Int32 := if kd T P = 1 then kwI T P else if kd T P = 2 then (if ln T P ≤ 4 then nI (nm T P (ln T P)) else -1) else if kd T P = 3 then nI (T.2 P) else -1
def stn (T : txT) : Nat → Nat
  | 0 => sk T 0
  | a + 1 => sk T (stn T a + ln T (stn T a))
def okt (T : txT) (a : Nat) : Prop := a = 0 ∨ stn T (a - 1) < T.1
section TOK
variable {T : txT} {a P : Nat}
theorem kdb_in (b : Nat) : kdb b = 1 ∨ kdb b = 2 ∨ kdb b = 3 := by
  unfold kdb
  by_cases h : 97 ≤ b ∧ b ≤ 122
  · rw [if_pos h]; exact Or.inl rfl
  · rw [if_neg h]
    by_cases h2 : 48 ≤ b ∧ b ≤ 57
    · rw [if_pos h2]; exact Or.inr (Or.inl rfl)
    · rw [if_neg h2]; exact Or.inr (Or.inr rfl)
theorem kd_lt : kd T P ≠ 0 ↔ P < T.1 := by
  unfold kd
  by_cases h : P < T.1
  · rw [if_pos h]
    rcases kdb_in (T.2 P) with e | e | e <;> rw [e] <;> simp [h]
  · rw [if_neg h]; simp [h]
theorem kd_y (h : P < T.1) : kd T P = kdb (T.2 P) := if_pos h
theorem ln_pos (h : P < T.1) : 1 ≤ ln T P ∧ P + ln T P ≤ T.1 := by
  unfold ln
  rw [if_pos h]
  by_cases h3 : kdb (T.2 P) = 3
  · rw [if_pos h3]; omega
  · rw [if_neg h3]
    have h1 : P + 1 ≤ en T (kdb (T.2 P)) (P + 1) := en_ge
    have h2 : en T (kdb (T.2 P)) (P + 1) ≤ T.1 := en_le (by omega)
    omega
theorem ln_0 (h : T.1 ≤ P) : ln T P = 0 := if_neg (by omega)
theorem ln_le (h : P ≤ T.1) : P + ln T P ≤ T.1 := by
  by_cases h1 : P < T.1
  · exact (ln_pos h1).2
  · rw [ln_0 (by omega)]; exact h
/-- a run's end -/
theorem ln_en {k : Nat} (hk : kd T P = k) (h0 : k = 1 ∨ k = 2) : P < T.1 ∧ P + ln T P = en T k P ∧ ∀ i, i < ln T P → kdb (T.2 (P + i)) = k := by
  have hP : P < T.1 := kd_lt.mp (by rw [hk]; omega)
  rw [kd_y hP] at hk
  have h1 : P + 1 ≤ en T k (P + 1) := en_ge
  have e : P + ln T P = en T k P := by
    unfold ln
    rw [if_pos hP, hk, if_neg (by omega), en_s hP, if_pos hk]
    omega
  refine ⟨hP, e, fun i hi => en_in (p := P) (Nat.le_add_right _ _) (by omega)⟩
theorem en_no {k : Nat} (hP : P ≤ T.1) (hk : kd T P ≠ k) : en T k P = P := by
  by_cases h : P < T.1
  · rw [kd_y h] at hk
    rw [en_s h, if_neg hk]
  · exact en_e (by omega)
theorem stn_le : ∀ a, stn T a ≤ T.1
  | 0 => sk_le (Nat.zero_le _)
  | a + 1 => sk_le (ln_le (stn_le a))
theorem stn_up (h : stn T a < T.1) : stn T a < stn T (a + 1) := by
  have h1 := ln_pos h
  have h2 : stn T a + ln T (stn T a) ≤ stn T (a + 1) := sk_ge
  omega
theorem stn_mono : ∀ a d, stn T a ≤ stn T (a + d)
  | a, 0 => Nat.le_refl _
  | a, d + 1 => by
    have h1 := stn_mono a d
    have h2 : stn T (a + d) + ln T (stn T (a + d)) ≤ stn T (a + d + 1) := sk_ge
    show _ ≤ stn T (a + d + 1)
    omega
theorem okt_le : ∀ a, okt T a → a ≤ stn T a
  | 0, _ => Nat.zero_le _
  | a + 1, h => by
    have h1 : stn T a < T.1 := by
      rcases h with h | h
      · omega
      · exact h
    have h2 := stn_up h1
    have h3 : okt T a := by
      rcases Nat.eq_zero_or_pos a with e | e
      · exact Or.inl e
      · refine Or.inr (Nat.lt_of_le_of_lt (stn_mono (a - 1) 1) ?_)
        rw [show a - 1 + 1 = a by omega]
        exact h1
    have := okt_le a h3
    omega
theorem okt_s (h : stn T a < T.1) : okt T (a + 1) := Or.inr h
theorem stn_nb (h : stn T a < T.1) : blb (T.2 (stn T a)) = false := by
  cases a with
  | zero => exact sk_nb (Nat.zero_le _) h
  | succ a => exact sk_nb (ln_le (stn_le a)) h
end TOK
/-- the class's tokens -/
def tkA (T : txT) (s : sT) (a : Nat) : Prop := s.1 81 a = nI (kd T (stn T a)) ∧ s.1 82 a = nI (stn T a) ∧ s.1 83 a = nI (ln T (stn T a)) ∧ s.1 84 a = vl T (stn T a)
def tkC (T : txT) (s : sT) : Prop := (∀ j, j < T.1 → s.1 80 j = nI (T.2 j)) ∧ ∀ a, okt T a → tkA T s a
def okT (T : txT) : Prop := T.1 ≤ 1200 ∧ ∀ j, j < T.1 → T.2 j < 256
theorem kindOf_ok : ∀ b, b < 256 → (if nI b < nI 97 then (if nI b < nI 48 then nI 3 else if nI 57 < nI b then nI 3 else nI 2) else if nI 122 < nI b then (if nI b < nI 48 then nI 3 else if nI 57 < nI b then nI 3 else nI 2) else nI 1) = nI (kdb b) := by decide +kernel
theorem kindOf_run (w : qz_W) {b : Nat} (h : b < 256) : rn 17 0 [some (.int (nI b))] [] w = some (some (.int (nI (kdb b))), w) := by
  rw [← kindOf_ok b h, e_Tokens_kindOf_0]
  by_cases h1 : nI b < nI 97 <;> by_cases h2 : nI b < nI 48 <;> by_cases h3 : nI 57 < nI b <;> by_cases h4 : nI 122 < nI b <;> simp only [h1, h2, h3, h4, if_true, if_false]
theorem lengthAt_run (X : qz_X) {T : txT} (hT : okT T) {s : sT} (ht : ∀ j, j < T.1 → s.1 80 j = nI (T.2 j)) {P : Nat} (hP : P < T.1) : rn 18 0 [some (.ref 79), some (.int (nI P)), some (.int (nI T.1)), none, none] [] (mk X s) = some (some (.int (nI (ln T P))), mk X s) := by
  have hn := hT.1
  rw [e_Tokens_lengthAt_0, g_K_text, i_K_text (by omega), ht P hP, kindOf_run _ (hT.2 P hP), r1_s]
  by_cases h3 : kdb (T.2 P) = 3
  · rw [if_pos (by rw [h3]), show ln T P = 1 by unfold ln; rw [if_pos hP, if_pos h3]]
  · have hk : kdb (T.2 P) < 4 := by rcases kdb_in (T.2 P) with e | e | e <;> omega
    rw [if_neg (fun e => h3 ((nI_eq (by omega) (by decide)).mp e)), nI_add]
    have hlp : ∀ d p, p + d = T.1 → P < p → rn 18 22 [some (.ref 79), some (.int (nI P)), some (.int (nI T.1)), some (.int (nI (kdb (T.2 P)))), some (.int (nI p))] [] (mk X s) = some (some (.int (nI (en T (kdb (T.2 P)) p - P))), mk X s) := by
      intro d
      induction d with
      | zero =>
        intro p hp hPp
        rw [e_Tokens_lengthAt_22, if_pos (by rw [nI_leI (by omega) (by omega)]; omega), en_e (by omega), pk_sub (by omega)]
      | succ d ih =>
        intro p hp hPp
        have hpn : p < T.1 := by omega
        have hk2 : kdb (T.2 p) < 4 := by rcases kdb_in (T.2 p) with e | e | e <;> omega
        rw [e_Tokens_lengthAt_22, if_neg (by rw [nI_leI (by omega) (by omega)]; omega), g_K_text, i_K_text (by omega), ht p hpn, kindOf_run _ (hT.2 p hpn), r1_s, en_s hpn]
        by_cases e : kdb (T.2 p) = kdb (T.2 P)
        · rw [if_pos (by rw [e]), if_pos e, nI_add, ih (p + 1) (by omega) (by omega)]
        · rw [if_neg (fun z => e ((nI_eq (by omega) (by omega)).mp z)), if_neg e, pk_sub (by omega)]
    rw [hlp (T.1 - (P + 1)) (P + 1) (by omega) (by omega)]
    unfold ln
    rw [if_pos hP, if_neg h3]

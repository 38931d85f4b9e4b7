/-! the law's first world -/
def pl1 (k : Nat) : Nat := qz_gd 0 pl0 k
def s_0 : sT := (ms_0.1, ms_0.2.1, pl1)
def ms_1 : ms_T := (ms_0.1, ms_0.2.1, rf pl1)
theorem ms_k012 {k n : Nat} (h : k < 3) (m : Nat → Int32) (ml : Nat → Int64) (r r' : Nat → Nat) : ms_k (k, n) m ml r = ms_k (k, n) m ml r' := by
  match k, h with
  | 0, _ => rfl
  | 1, _ => rfl
  | 2, _ => rfl
theorem ms_k45 {k n : Nat} (h : k = 4 ∨ k = 5) (m : Nat → Int32) (ml : Nat → Int64) {r r' : Nat → Nat} (e : ∀ j, j < n → r j = r' j) : ms_k (k, n) m ml r = ms_k (k, n) m ml r' := by
  have : (fun j => if j < n then some (r j) else none) = (fun j => if j < n then some (r' j) else none) := funext fun j => by
    by_cases hj : j < n
    · rw [if_pos hj, if_pos hj, e j hj]
    · rw [if_neg hj, if_neg hj]
  rcases h with rfl | rfl
  · show (Sum.inl (_, n, Sum.inr (Sum.inr (Sum.inr (Sum.inr _)))) : qz_E) = _
    rw [this]
    rfl
  · show (Sum.inl (_, n, Sum.inr (Sum.inr (Sum.inr (Sum.inr _)))) : qz_E) = _
    rw [this]
    rfl
set_option maxRecDepth 100000 in
theorem n0_0 : ms_c ms_0 0 = ms_c ms_1 0 := rfl
set_option maxRecDepth 100000 in
theorem n0_3 : ms_c ms_0 3 = ms_c ms_1 3 := rfl
set_option maxRecDepth 100000 in
theorem n0_4 : ms_c ms_0 4 = ms_c ms_1 4 := ms_k45 (k := 4) (n := 6) (by decide) _ _ (by decide +kernel)
set_option maxRecDepth 100000 in
theorem n0_7 : ms_c ms_0 7 = ms_c ms_1 7 := rfl
set_option maxRecDepth 100000 in
theorem n0_10 : ms_c ms_0 10 = ms_c ms_1 10 := rfl
set_option maxRecDepth 100000 in
theorem n0_17 : ms_c ms_0 17 = ms_c ms_1 17 := rfl
set_option maxRecDepth 100000 in
theorem n0_20 : ms_c ms_0 20 = ms_c ms_1 20 := rfl
set_option maxRecDepth 100000 in
theorem n0_27 : ms_c ms_0 27 = ms_c ms_1 27 := rfl
set_option maxRecDepth 100000 in
theorem n0_30 : ms_c ms_0 30 = ms_c ms_1 30 := rfl
set_option maxRecDepth 100000 in
theorem n0_37 : ms_c ms_0 37 = ms_c ms_1 37 := rfl
set_option maxRecDepth 100000 in
theorem n0_40 : ms_c ms_0 40 = ms_c ms_1 40 := rfl
set_option maxRecDepth 100000 in
theorem n0_47 : ms_c ms_0 47 = ms_c ms_1 47 := rfl
set_option maxRecDepth 100000 in
theorem n0_50 : ms_c ms_0 50 = ms_c ms_1 50 := rfl
set_option maxRecDepth 100000 in
theorem n0_57 : ms_c ms_0 57 = ms_c ms_1 57 := rfl
set_option maxRecDepth 100000 in
theorem n0_60 : ms_c ms_0 60 = ms_c ms_1 60 := rfl
set_option maxRecDepth 100000 in
theorem n0_67 : ms_c ms_0 67 = ms_c ms_1 67 := ms_k45 (k := 5) (n := 3) (by decide) _ _ (by decide +kernel)
set_option maxRecDepth 100000 in
theorem n0_68 : ms_c ms_0 68 = ms_c ms_1 68 := rfl
set_option maxRecDepth 100000 in
theorem n0_71 : ms_c ms_0 71 = ms_c ms_1 71 := rfl
set_option maxRecDepth 100000 in
theorem n0_78 : ms_c ms_0 78 = ms_c ms_1 78 := rfl
set_option maxRecDepth 100000 in
theorem n0_79 : ms_c ms_0 79 = ms_c ms_1 79 := rfl
set_option maxRecDepth 100000 in
theorem n0_86 : ms_c ms_0 86 = ms_c ms_1 86 := rfl
set_option maxRecDepth 100000 in
theorem n0_96 : ms_c ms_0 96 = ms_c ms_1 96 := rfl
set_option maxRecDepth 100000 in
theorem n0_103 : ms_c ms_0 103 = ms_c ms_1 103 := rfl
set_option maxRecDepth 100000 in
theorem n0_107 : ms_c ms_0 107 = ms_c ms_1 107 := rfl
set_option maxRecDepth 100000 in
theorem n0_110 : ms_c ms_0 110 = ms_c ms_1 110 := rfl
set_option maxRecDepth 100000 in
theorem n0_117 : ms_c ms_0 117 = ms_c ms_1 117 := rfl
set_option maxRecDepth 100000 in
theorem n0_126 : ms_c ms_0 126 = ms_c ms_1 126 := rfl
set_option maxRecDepth 100000 in
theorem n0_127 : ms_c ms_0 127 = ms_c ms_1 127 := ms_k45 (k := 4) (n := 6) (by decide) _ _ (by decide +kernel)
set_option maxRecDepth 100000 in
theorem n0_130 : ms_c ms_0 130 = ms_c ms_1 130 := rfl
set_option maxRecDepth 100000 in
theorem n0_133 : ms_c ms_0 133 = ms_c ms_1 133 := rfl
set_option maxRecDepth 100000 in
theorem n0_140 : ms_c ms_0 140 = ms_c ms_1 140 := rfl
set_option maxRecDepth 100000 in
theorem n0_143 : ms_c ms_0 143 = ms_c ms_1 143 := rfl
set_option maxRecDepth 100000 in
theorem n0_150 : ms_c ms_0 150 = ms_c ms_1 150 := rfl
set_option maxRecDepth 100000 in
theorem n0_153 : ms_c ms_0 153 = ms_c ms_1 153 := rfl
set_option maxRecDepth 100000 in
theorem n0_160 : ms_c ms_0 160 = ms_c ms_1 160 := rfl
set_option maxRecDepth 100000 in
theorem n0_163 : ms_c ms_0 163 = ms_c ms_1 163 := rfl
set_option maxRecDepth 100000 in
theorem n0_170 : ms_c ms_0 170 = ms_c ms_1 170 := rfl
set_option maxRecDepth 100000 in
theorem n0_173 : ms_c ms_0 173 = ms_c ms_1 173 := rfl
set_option maxRecDepth 100000 in
theorem n0_180 : ms_c ms_0 180 = ms_c ms_1 180 := rfl
set_option maxRecDepth 100000 in
theorem n0_183 : ms_c ms_0 183 = ms_c ms_1 183 := rfl
set_option maxRecDepth 100000 in
theorem n0_190 : ms_c ms_0 190 = ms_c ms_1 190 := rfl
set_option maxRecDepth 100000 in
theorem n0_191 : ms_c ms_0 191 = ms_c ms_1 191 := ms_k45 (k := 4) (n := 6) (by decide) _ _ (by decide +kernel)
set_option maxRecDepth 100000 in
theorem n0_194 : ms_c ms_0 194 = ms_c ms_1 194 := rfl
set_option maxRecDepth 100000 in
theorem n0_197 : ms_c ms_0 197 = ms_c ms_1 197 := rfl
set_option maxRecDepth 100000 in
theorem n0_204 : ms_c ms_0 204 = ms_c ms_1 204 := rfl
set_option maxRecDepth 100000 in
theorem n0_207 : ms_c ms_0 207 = ms_c ms_1 207 := rfl
set_option maxRecDepth 100000 in
theorem n0_214 : ms_c ms_0 214 = ms_c ms_1 214 := rfl
set_option maxRecDepth 100000 in
theorem n0_217 : ms_c ms_0 217 = ms_c ms_1 217 := rfl
set_option maxRecDepth 100000 in
theorem n0_224 : ms_c ms_0 224 = ms_c ms_1 224 := rfl
set_option maxRecDepth 100000 in
theorem n0_227 : ms_c ms_0 227 = ms_c ms_1 227 := rfl
set_option maxRecDepth 100000 in
theorem n0_234 : ms_c ms_0 234 = ms_c ms_1 234 := rfl
set_option maxRecDepth 100000 in
theorem n0_237 : ms_c ms_0 237 = ms_c ms_1 237 := rfl
set_option maxRecDepth 100000 in
theorem n0_244 : ms_c ms_0 244 = ms_c ms_1 244 := rfl
set_option maxRecDepth 100000 in
theorem n0_247 : ms_c ms_0 247 = ms_c ms_1 247 := rfl
set_option maxRecDepth 100000 in
theorem n0_254 : ms_c ms_0 254 = ms_c ms_1 254 := rfl
set_option maxRecDepth 100000 in
theorem n0_255 : ms_c ms_0 255 = ms_c ms_1 255 := ms_k45 (k := 4) (n := 6) (by decide) _ _ (by decide +kernel)
set_option maxRecDepth 100000 in
theorem n0_258 : ms_c ms_0 258 = ms_c ms_1 258 := rfl
set_option maxRecDepth 100000 in
theorem n0_261 : ms_c ms_0 261 = ms_c ms_1 261 := rfl
set_option maxRecDepth 100000 in
theorem n0_268 : ms_c ms_0 268 = ms_c ms_1 268 := rfl
set_option maxRecDepth 100000 in
theorem n0_271 : ms_c ms_0 271 = ms_c ms_1 271 := rfl
set_option maxRecDepth 100000 in
theorem n0_278 : ms_c ms_0 278 = ms_c ms_1 278 := rfl
set_option maxRecDepth 100000 in
theorem n0_281 : ms_c ms_0 281 = ms_c ms_1 281 := rfl
set_option maxRecDepth 100000 in
theorem n0_288 : ms_c ms_0 288 = ms_c ms_1 288 := rfl
set_option maxRecDepth 100000 in
theorem n0_291 : ms_c ms_0 291 = ms_c ms_1 291 := rfl
set_option maxRecDepth 100000 in
theorem n0_298 : ms_c ms_0 298 = ms_c ms_1 298 := rfl
set_option maxRecDepth 100000 in
theorem n0_301 : ms_c ms_0 301 = ms_c ms_1 301 := rfl
set_option maxRecDepth 100000 in
theorem n0_308 : ms_c ms_0 308 = ms_c ms_1 308 := rfl
set_option maxRecDepth 100000 in
theorem n0_311 : ms_c ms_0 311 = ms_c ms_1 311 := rfl
set_option maxRecDepth 100000 in
theorem n0_318 : ms_c ms_0 318 = ms_c ms_1 318 := rfl
def obs : List Nat := [0, 3, 4, 7, 10, 17, 20, 27, 30, 37, 40, 47, 50, 57, 60, 67, 68, 71, 78, 79, 86, 96, 103, 107, 110, 117, 126, 127, 130, 133, 140, 143, 150, 153, 160, 163, 170, 173, 180, 183, 190, 191, 194, 197, 204, 207, 214, 217, 224, 227, 234, 237, 244, 247, 254, 255, 258, 261, 268, 271, 278, 281, 288, 291, 298, 301, 308, 311, 318]
theorem obs_ok : ∀ i ∈ obs, ms_c ms_0 i = ms_c ms_1 i := List.forall_mem_cons.mpr ⟨n0_0, List.forall_mem_cons.mpr ⟨n0_3, List.forall_mem_cons.mpr ⟨n0_4, List.forall_mem_cons.mpr ⟨n0_7, List.forall_mem_cons.mpr ⟨n0_10, List.forall_mem_cons.mpr ⟨n0_17, List.forall_mem_cons.mpr ⟨n0_20, List.forall_mem_cons.mpr ⟨n0_27, List.forall_mem_cons.mpr ⟨n0_30, List.forall_mem_cons.mpr ⟨n0_37, List.forall_mem_cons.mpr ⟨n0_40, List.forall_mem_cons.mpr ⟨n0_47, List.forall_mem_cons.mpr ⟨n0_50, List.forall_mem_cons.mpr ⟨n0_57, List.forall_mem_cons.mpr ⟨n0_60, List.forall_mem_cons.mpr ⟨n0_67, List.forall_mem_cons.mpr ⟨n0_68, List.forall_mem_cons.mpr ⟨n0_71, List.forall_mem_cons.mpr ⟨n0_78, List.forall_mem_cons.mpr ⟨n0_79, List.forall_mem_cons.mpr ⟨n0_86, List.forall_mem_cons.mpr ⟨n0_96, List.forall_mem_cons.mpr ⟨n0_103, List.forall_mem_cons.mpr ⟨n0_107, List.forall_mem_cons.mpr ⟨n0_110, List.forall_mem_cons.mpr ⟨n0_117, List.forall_mem_cons.mpr ⟨n0_126, List.forall_mem_cons.mpr ⟨n0_127, List.forall_mem_cons.mpr ⟨n0_130, List.forall_mem_cons.mpr ⟨n0_133, List.forall_mem_cons.mpr ⟨n0_140, List.forall_mem_cons.mpr ⟨n0_143, List.forall_mem_cons.mpr ⟨n0_150, List.forall_mem_cons.mpr ⟨n0_153, List.forall_mem_cons.mpr ⟨n0_160, List.forall_mem_cons.mpr ⟨n0_163, List.forall_mem_cons.mpr ⟨n0_170, List.forall_mem_cons.mpr ⟨n0_173, List.forall_mem_cons.mpr ⟨n0_180, List.forall_mem_cons.mpr ⟨n0_183, List.forall_mem_cons.mpr ⟨n0_190, List.forall_mem_cons.mpr ⟨n0_191, List.forall_mem_cons.mpr ⟨n0_194, List.forall_mem_cons.mpr ⟨n0_197, List.forall_mem_cons.mpr ⟨n0_204, List.forall_mem_cons.mpr ⟨n0_207, List.forall_mem_cons.mpr ⟨n0_214, List.forall_mem_cons.mpr ⟨n0_217, List.forall_mem_cons.mpr ⟨n0_224, List.forall_mem_cons.mpr ⟨n0_227, List.forall_mem_cons.mpr ⟨n0_234, List.forall_mem_cons.mpr ⟨n0_237, List.forall_mem_cons.mpr ⟨n0_244, List.forall_mem_cons.mpr ⟨n0_247, List.forall_mem_cons.mpr ⟨n0_254, List.forall_mem_cons.mpr ⟨n0_255, List.forall_mem_cons.mpr ⟨n0_258, List.forall_mem_cons.mpr ⟨n0_261, List.forall_mem_cons.mpr ⟨n0_268, List.forall_mem_cons.mpr ⟨n0_271, List.forall_mem_cons.mpr ⟨n0_278, List.forall_mem_cons.mpr ⟨n0_281, List.forall_mem_cons.mpr ⟨n0_288, List.forall_mem_cons.mpr ⟨n0_291, List.forall_mem_cons.mpr ⟨n0_298, List.forall_mem_cons.mpr ⟨n0_301, List.forall_mem_cons.mpr ⟨n0_308, List.forall_mem_cons.mpr ⟨n0_311, List.forall_mem_cons.mpr ⟨n0_318, (fun _ h => absurd h List.not_mem_nil)⟩⟩⟩⟩⟩⟩⟩⟩⟩⟩⟩⟩⟩⟩⟩⟩⟩⟩⟩⟩⟩⟩⟩⟩⟩⟩⟩⟩⟩⟩⟩⟩⟩⟩⟩⟩⟩⟩⟩⟩⟩⟩⟩⟩⟩⟩⟩⟩⟩⟩⟩⟩⟩⟩⟩⟩⟩⟩⟩⟩⟩⟩⟩⟩⟩⟩⟩⟩⟩
theorem obs_no : ∀ i, i < 362 → i ∈ obs ∨ (ms_S i).1 < 3 := by decide +kernel
theorem ms_01 (i : Nat) : ms_c ms_0 i = ms_c ms_1 i := by
  rcases Nat.lt_or_ge i 362 with h | h
  · rcases obs_no i h with h1 | h1
    · exact obs_ok i h1
    · exact ms_k012 h1 _ _ _ _
  · unfold ms_c
    rw [ms_S_ge i h]
    rfl
theorem mkw_first (X : qz_X) : mkw X ms_0 = mk X s_0 := by
  refine Prod.ext ?_ rfl
  funext i
  show (if i < qz_old then ms_c ms_0 i else _) = (if i < qz_old then ms_c ms_1 i else _)
  rw [ms_01 i]
def G_0 : gsT := ((0, fun _ => 0), (fun _ => false, fun _ => (fun _ => 0, fun _ => false, fun _ => 0, fun _ _ => false, fun _ _ => 0), fun k => k), 0, fun _ => (fun _ => false, fun _ => (fun _ => 0, fun _ => false, fun _ => 0, fun _ _ => false, fun _ _ => 0), fun k => k))
set_option maxRecDepth 100000 in
theorem f0_a : ∀ k, k < 6 → s_0.1 (s_0.2.2 k) 0 = nI 0 ∧ s_0.1 321 k = nI 0 := by decide +kernel
set_option maxRecDepth 100000 in
theorem f0_b : ∀ k, k < 6 → s_0.1 5 k = nI k := by decide +kernel
set_option maxRecDepth 100000 in
theorem f0_c : s_0.1 318 1 = nI 12345 := by decide +kernel
set_option maxRecDepth 100000 in
theorem f0_d : s_0.1 0 1 = nI 0 ∧ s_0.1 318 14 = nI 0 ∧ s_0.1 0 2 = s_0.1 318 17 ∧ s_0.1 0 6 = nI 0 ∧ s_0.1 318 61 = nI 0 := by decide +kernel
set_option maxRecDepth 100000 in
theorem f0_e : ∀ j, j < 3 → s_0.1 2 j = s_0.1 319 j := by decide +kernel
theorem f0_p : (∀ k, k < 7 → pl1 k ∈ pl0) ∧ (∀ i, i < 7 → ∀ j, j < 7 → pl1 i = pl1 j → i = j) := by decide +kernel
theorem Rel_first : Rel s_0 G_0 := by
  obtain ⟨d1, d2, d3, d4, d5⟩ := f0_d
  refine ⟨⟨f0_p.1, fun i j hi hj => f0_p.2 i hi j hj⟩, ⟨by decide, d1, d2, fun j hj => absurd hj (Nat.not_lt_zero j)⟩, d3, f0_e, ⟨⟨⟨fun k hk => hk, fun i j _ _ e => e⟩, fun k _ e => by cases e⟩, fun k hk => ⟨(f0_a k hk).1, (f0_a k hk).2, fun e => by cases e⟩, f0_b, f0_c⟩, ⟨by decide, d4, d5, fun m hm => absurd hm (Nat.not_lt_zero m)⟩⟩
theorem qz_law_of (hpl : simP) : qz_law := by
  intro X hL
  obtain ⟨sl, rfl, hb⟩ := law_begin X
  obtain ⟨s2, h2⟩ := lw_loop hpl hL 3073 0 s_0 G_0 (by omega) (by decide) Rel_first
  refine ⟨mk X s2, ?_, (by show 362 ≤ 600000; decide), (by show 189517 ≤ 7302250; decide)⟩
  rw [hb, bw_mkw, mkw_first]
  exact h2

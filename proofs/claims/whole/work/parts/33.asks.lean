/-! about, count, status, clear -/
theorem lt_t {k N : Nat} (h : k < N) (hN : N < 2 ^ 31) {β : Type} {A B : Option β} : (if nI k < 0 then A else if nI k < nI N then B else A) = B := by
  rw [if_neg (nI_pos (by omega)), if_pos (nI_lt h hN)]
theorem lt_f {p : Int32} {N : Nat} (h : p < 0 ∨ nI N ≤ p) {β : Type} {A B : Option β} : (if p < 0 then A else if p < nI N then B else A) = A := by
  by_cases q : p < 0
  · rw [if_pos q]
  · rw [if_neg q, if_neg (Int32.not_lt.mpr (h.resolve_left q))]
theorem le_t {k N : Nat} (h : k ≤ N) (hN : N < 2 ^ 31) {β : Type} {A B : Option β} : (if nI k < 0 then A else if nI k ≤ nI N then B else A) = B := by
  rw [if_neg (nI_pos (by omega)), if_pos (nI_le h hN)]
theorem le_f {p : Int32} {N : Nat} (hN : N + 1 < 2 ^ 31) (h : p < 0 ∨ nI (N + 1) ≤ p) {β : Type} {A B : Option β} : (if p < 0 then A else if p ≤ nI N then B else A) = A := by
  by_cases q : p < 0
  · rw [if_pos q]
  · rw [if_neg q, if_neg (fun z => by
      have h1 := h.resolve_left q
      rw [Int32.le_iff_toInt_le, nI_toInt (by omega)] at h1
      rw [Int32.le_iff_toInt_le, nI_toInt (by omega)] at z
      omega)]
theorem mIn_t {k N : Nat} (h : k ≤ N) (hN : N < 2 ^ 31) : f_Mo_in (nI k).toInt64 0 (lN N) = some 1 := min_t (a := 0) (by decide) hN ⟨k, Nat.zero_le _, h, rfl⟩
theorem mIn_f {p : Int32} {N : Nat} (hN : N < 2 ^ 31) (h : ∀ k, k < N + 1 → p ≠ nI k) : f_Mo_in p.toInt64 0 (lN N) = some 0 := min_f (a := 0) (by decide) hN fun k _ hk => h k (by omega)
theorem status_call {rf : Nat → Int32} {bad no full : Int32} (T : StR rf bad no full) (a : Int32) : ∃ r rf' bad', f_Ai_status rf a = some (r, rf') ∧ f_Mo_status bad no full a = some (r, bad') ∧ StR rf' bad' no full := by
  have B := refuse_bad T (-1)
  unfold f_Ai_status f_Mo_status
  simp only [jnE]
  rcases in_or a (n := 3) (by decide) with ⟨k, hk, rfl⟩ | ⟨q1, q2⟩
  · rw [show (3 : Int32) = nI 3 from rfl, lt_t hk (by decide), bd_some (show f_Mo_in (nI k).toInt64 0 2 = some 1 from mIn_t (N := 2) (by omega) (by decide)), if_neg (by decide), gd_nI hk (by decide), nI_clamp (by omega)]
    have : k = 0 ∨ k = 1 ∨ k = 2 := by omega
    rcases this with rfl | rfl | rfl
    · exact ⟨_, _, _, rfl, by rw [if_pos (show nI 0 = (0 : Int32) from rfl), T.1], T⟩
    · exact ⟨_, _, _, rfl, by rw [if_neg (by decide), if_pos (show nI 1 = (1 : Int32) from rfl), T.2.1], T⟩
    · exact ⟨_, _, _, rfl, by rw [if_neg (by decide), if_neg (by decide), T.2.2], T⟩
  · rw [show (3 : Int32) = nI 3 from rfl, lt_f q1, bd_some (show f_Mo_in a.toInt64 0 2 = some 0 from mIn_f (N := 2) (by decide) q2), if_pos rfl, bd_some B.1]
    exact ⟨_, _, _, rfl, rfl, B.2⟩
theorem countOf_eq {row : Nat → Int32} {v : Nat → Nat} (R : Rm row v) (len : Int32) {k : Nat} (hk : k < 6) : ∃ r, f_Ai_countOf (nI (v 0)) (nI (v 1)) (nI (v 122)) (nI (v 147)) (nI (v 188)) len (nI k) = some r ∧ f_Mo_countOf len row (nI k) = some r := by
  unfold f_Ai_countOf f_Mo_countOf
  rw [show (0 : Int32).toNatClampNeg = 0 from by decide, show (1 : Int32).toNatClampNeg = 1 from by decide, show (122 : Int32).toNatClampNeg = 122 from by decide, show (147 : Int32).toNatClampNeg = 147 from by decide, show (188 : Int32).toNatClampNeg = 188 from by decide, R 0 (by decide) (by decide), R 1 (by decide) (by decide), R 122 (by decide) (by decide), R 147 (by decide) (by decide), R 188 (by decide) (by decide)]
  by_cases h0 : nI k = 0
  · rw [if_pos h0]; exact ⟨_, rfl, rfl⟩
  rw [if_neg h0]
  by_cases h0 : nI k = 1
  · rw [if_pos h0]; exact ⟨_, rfl, rfl⟩
  rw [if_neg h0]
  by_cases h0 : nI k = 2
  · rw [if_pos h0]; exact ⟨_, rfl, rfl⟩
  rw [if_neg h0]
  by_cases h0 : nI k = 3
  · rw [if_pos h0]; exact ⟨_, rfl, rfl⟩
  rw [if_neg h0]
  by_cases h0 : nI k = 4
  · rw [if_pos h0]; exact ⟨_, rfl, rfl⟩
  rw [if_neg h0]
  exact ⟨_, rfl, rfl⟩
theorem count_call {row : Nat → Int32} {v : Nat → Nat} (R : Rm row v) (len : Int32) {rf : Nat → Int32} {bad no full : Int32} (T : StR rf bad no full) (a : Int32) : ∃ r rf' bad', f_Ai_count (nI (v 0)) (nI (v 1)) (nI (v 122)) (nI (v 147)) (nI (v 188)) len rf a = some (r, rf') ∧ f_Mo_count len bad row a = some (r, bad') ∧ StR rf' bad' no full := by
  have B := refuse_bad T (-2)
  unfold f_Ai_count f_Mo_count
  simp only [jnE]
  rcases in_or a (n := 6) (by decide) with ⟨k, hk, rfl⟩ | ⟨q1, q2⟩
  · obtain ⟨r, r1, r2⟩ := countOf_eq R len hk
    rw [show (6 : Int32) = nI 6 from rfl, lt_t hk (by decide), bd_some (show f_Mo_in (nI k).toInt64 0 5 = some 1 from mIn_t (N := 5) (by omega) (by decide)), if_neg (by decide), bd_some r1, bd_some r2]
    exact ⟨_, _, _, rfl, rfl, T⟩
  · rw [show (6 : Int32) = nI 6 from rfl, lt_f q1, bd_some (show f_Mo_in a.toInt64 0 5 = some 0 from mIn_f (N := 5) (by decide) q2), if_pos rfl, bd_some (refuse_is B.1), bd_some (isBad_eq bad)]
    exact ⟨_, _, _, rfl, rfl, B.2⟩
theorem about_call {row : Nat → Int32} {v : Nat → Nat} (R : Rm row v) (hw : WFL v) {pa : Nat → Int32} (hp : ∀ j, j < 5 * v 147 → pa j = nI (v (148 + j))) {rf : Nat → Int32} {bad no full : Int32} (T : StR rf bad no full) (a b : Int32) : ∃ r rf' bad', f_Ai_about (nI (v 147)) rf pa a b = some (r, rf') ∧ f_Mo_about bad row a b = some (r, bad') ∧ StR rf' bad' no full := by
  have B := refuse_bad T (-2)
  have h8 := hw.1
  unfold f_Ai_about f_Mo_about
  rcases in_or a (n := v 147) (by omega) with ⟨j, hj, rfl⟩ | ⟨q1, q2⟩
  · simp only [bd_some (isLeave_t (show v 147 < 2 ^ 31 by omega) hj), bd_some (mLeave_t R (show v 147 < 2 ^ 31 by omega) hj), jnE, if_neg (show ¬ (1 : Int32) = 0 from by decide)]
    rcases in_or b (n := 5) (by decide) with ⟨k, hk, rfl⟩ | ⟨q1, q2⟩
    · have e : f_Ld_part pa (nI j) (nI k) = some (nI (v (148 + (5 * j + k)))) := by
        unfold f_Ld_part
        rw [show (5 : Int32) = nI 5 from rfl, pk_mul, nIa, ltE, if_neg (nI_pos (by omega)), if_neg (show ¬ (40 : Int32) ≤ nI (j * 5 + k) from nI_ge (b := 40) (by omega) (by decide)), gd_nI (by omega) (by decide), nI_clamp (by omega), show j * 5 + k = 5 * j + k from by omega, hp _ (by omega)]
      rw [show (5 : Int32) = nI 5 from rfl, lt_t hk (by decide), bd_some (show f_Mo_in (nI k).toInt64 0 4 = some 1 from mIn_t (N := 4) (by omega) (by decide)), if_neg (by decide), bd_some e, show (148 : Int32) = nI 148 from rfl, pk_mul, nIa, nIa, gd_nI (by omega) (by decide), nI_clamp (by omega), show 148 + 5 * j + k = 148 + (5 * j + k) from by omega, R _ (by omega) (by omega)]
      exact ⟨_, _, _, rfl, rfl, T⟩
    · rw [show (5 : Int32) = nI 5 from rfl, lt_f q1, bd_some (show f_Mo_in b.toInt64 0 4 = some 0 from mIn_f (N := 4) (by decide) q2), if_pos rfl, bd_some (refuse_is B.1), bd_some (isBad_eq bad)]
      exact ⟨_, _, _, rfl, rfl, B.2⟩
  · simp only [bd_some (isLeave_f q1), bd_some (mLeave_f R (show v 147 < 2 ^ 31 by omega) q2), jnE, if_pos (show (0 : Int32) = 0 from rfl), bd_some (refuse_is B.1), bd_some (isBad_eq bad)]
    exact ⟨_, _, _, rfl, rfl, B.2⟩
theorem clear_call (len : Int32) : f_Ai_clear len = some (len, 0) ∧ f_Mo_clear len = some (len, 0) := ⟨rfl, rfl⟩

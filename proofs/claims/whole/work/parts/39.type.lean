/-! type -/
theorem byte_id {k : Nat} (hk : k < 128) : (nI k).toInt8.toInt32 = nI k := by
  have : ∀ k, k < 128 → (nI k).toInt8.toInt32 = nI k := by decide +kernel
  exact this k hk
/-- both know what is typed -/
def TxR (t1 t2 : Nat → Int32) (n : Nat) : Prop := n ≤ 150 ∧ ∀ i, i < n → t1 i = t2 i ∧ ∃ k, k < 128 ∧ t2 i = nI k
theorem type_call {t1 t2 : Nat → Int32} {n : Nat} (X : TxR t1 t2 n) {rf : Nat → Int32} {bad no full : Int32} (T : StR rf bad no full) (a : Int32) : ∃ r rf' bad' full' t1' t2' n', f_Ai_type (nI n) rf t1 a = some (r, rf', t1', nI n') ∧ f_Mo_type (nI n) bad full t2 a = some (r, t2', nI n', bad', full') ∧ StR rf' bad' no full' ∧ TxR t1' t2' n' := by
  have B := refuse_bad T (-2)
  have F := refuse_full T (-4)
  obtain ⟨x1, x2⟩ := X
  unfold f_Ai_type f_Mo_type
  simp only [jnE]
  rcases in_or a (n := 128) (by decide) with ⟨k, hk, rfl⟩ | ⟨q1, q2⟩
  · rw [show (127 : Int32) = nI 127 from rfl, le_t (show k ≤ 127 by omega) (by decide), bd_some (show f_Mo_in (nI k).toInt64 0 127 = some 1 from mIn_t (N := 127) (by omega) (by decide)), if_neg (show ¬ (1 : Int32) = 0 from by decide)]
    by_cases h : n = 150
    · subst h
      have ap : f_Rd_append (nI 150) t1 (nI k) = some (0, t1, nI 150) := rfl
      rw [bd_some ap, if_pos (show (0 : Int32) = 0 from rfl), if_pos (show nI 150 = (150 : Int32) from rfl), bd_some (refuse_is F.1)]
      exact ⟨_, _, _, _, _, _, 150, rfl, rfl, F.2, x1, x2⟩
    · have ap : f_Rd_append (nI n) t1 (nI k) = some (1, upd t1 n (nI k), nI (n + 1)) := by
        unfold f_Rd_append
        rw [if_neg (nI_pos (by omega)), if_pos (show nI n < (150 : Int32) from nI_lt (b := 150) (by omega) (by decide)), gd_nI (by omega) (by decide), nI_clamp (by omega), byte_id hk, ltE, ltE, nI1]
      rw [bd_some ap, if_neg (show ¬ (1 : Int32) = 0 from by decide), if_neg (show ¬ nI n = (150 : Int32) from fun z => h ((nI_eq (b := 150) (by omega) (by decide)).mp z)), gd_nI (show n < 150 by omega) (by decide), nI_clamp (by omega), ltE, ltE, nI1]
      refine ⟨_, _, _, _, _, _, n + 1, rfl, rfl, T, by omega, fun i hi => ?_⟩
      dsimp only
      by_cases hin : i = n
      · subst hin
        rw [upd_same, upd_same]
        exact ⟨rfl, k, hk, rfl⟩
      · rw [upd_ne hin, upd_ne hin]
        exact x2 i (by omega)
  · rw [show (127 : Int32) = nI 127 from rfl, le_f (by decide) q1, bd_some (show f_Mo_in a.toInt64 0 127 = some 0 from mIn_f (N := 127) (by decide) q2), if_pos rfl, bd_some (refuse_is B.1), bd_some (isBad_eq bad)]
    exact ⟨_, _, _, _, _, _, n, rfl, rfl, B.2, x1, x2⟩

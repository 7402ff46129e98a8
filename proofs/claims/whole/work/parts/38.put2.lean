/-! put: the call -/
theorem put_call {row : Nat → Int32} {v : Nat → Nat} {W : Int32} {ev fc lc : Int64} {MK LV : Int32} {gr ar : Nat → Int64} {ki ce se pa : Nat → Int32} (S : TwoL row v W ev fc lc MK LV gr ar ki ce se pa) {rf : Nat → Int32} {bad no full : Int32} (T : StR rf bad no full) (a b c : Int32) :
    ∃ r rf' bad' gr' ar' row' v', f_Ai_put W (nI (v 1)) rf gr ar a b c = some (r, rf', gr', ar') ∧ f_Mo_put bad row a b c = some (r, row', bad') ∧ StR rf' bad' no full ∧ TwoL row' v' W ev fc lc MK LV gr' ar' ki ce se pa ∧ (∀ i, ¬ (2 ≤ i ∧ i < 74) → v' i = v i ∧ row' i = row i) := by
  obtain ⟨k1, k2, k3, k4⟩ := TwoL_mk S
  have hW : W = nI (v 0) := S.2.2.1.2.2.2.1
  have B := refuse_bad T (-2)
  have bad2 : ∃ r rf' bad' gr' ar' row' v', (bd (f_Ai_refuse rf (-2)) fun ((x3, x4) : Int32 × (Nat → Int32)) => some (x3, x4, gr, ar)) = some (r, rf', gr', ar') ∧ (bd (f_Mo_isBad bad) fun ((x3, x4) : Int32 × Int32) => some (x3, row, x4)) = some (r, row', bad') ∧ StR rf' bad' no full ∧ TwoL row' v' W ev fc lc MK LV gr' ar' ki ce se pa ∧ (∀ i, ¬ (2 ≤ i ∧ i < 74) → v' i = v i ∧ row' i = row i) := by
    rw [bd_some (refuse_is B.1), bd_some (isBad_eq bad)]
    exact ⟨_, _, _, _, _, _, v, rfl, rfl, B.2, S, fun _ _ => ⟨rfl, rfl⟩⟩
  unfold f_Ai_put f_Mo_put
  rcases in_or b (n := v 0 * v 1) (by omega) with ⟨d, hd, rfl⟩ | ⟨q1, q2⟩
  · have i1 : f_Ai_isCell W (nI (v 1)) (nI d) = some 1 := by rw [hW]; exact isCell_t (by omega) hd
    simp only [bd_some i1, bd_some (mCell_t S.1 (show v 0 * v 1 < 2 ^ 31 by omega) hd), jnE, if_neg (show ¬ (1 : Int32) = 0 from by decide)]
    have hd3 := S.2.1.2.2.2.2.2.1 d hd
    rcases in_or a (n := 2) (by decide) with ⟨t, ht, rfl⟩ | ⟨q1, q2⟩
    · rw [bd_some (show f_Mo_in (nI t).toInt64 0 1 = some 1 from mIn_t (N := 1) (by omega) (by decide)), if_neg (show ¬ (1 : Int32) = 0 from by decide)]
      have : t = 0 ∨ t = 1 := by omega
      rcases this with rfl | rfl
      · simp only [show nI 0 = (0 : Int32) from rfl, if_pos (show (0 : Int32) = 0 from rfl), if_pos trivial, if_neg (show ¬ (0 : Int32) = 1 from by decide)]
        rcases in_or c (n := 3) (by decide) with ⟨x, hx, rfl⟩ | ⟨q1, q2⟩
        · obtain ⟨gr', t1, t2⟩ := sortInto_eq (by decide) S.2.2.2.2.1 hd k3 hd3.1 hx
          rw [if_pos (show (0 : Int32) ≤ nI x from nI_pos' (by omega)), if_neg (show ¬ (3 : Int32) ≤ nI x from nI_ge (b := 3) hx (by decide)), bd_some t1, bd_some (show f_Mo_in (nI x).toInt64 0 2 = some 1 from mIn_t (N := 2) (by omega) (by decide)), if_neg (by decide), show (2 : Int32) = nI 2 from rfl, nIa, ltE, gd_nI (show 2 + d < 1551 by omega) (by decide), nI_clamp (show 2 + d < 2 ^ 31 by omega), ltE, gd_nI (show 2 + d < 1551 by omega) (by decide), ltE, S.1 _ (by omega) (by omega)]
          exact ⟨_, _, _, _, _, _, vs v (2 + d) x, rfl, rfl, T, put_ground S hd hx t2, fun i hi => ⟨vs_ne (by omega), upd_ne (by omega)⟩⟩
        · rw [bd_some (show f_Mo_in c.toInt64 0 2 = some 0 from mIn_f (N := 2) (by decide) q2), if_pos rfl]
          by_cases hc0 : 0 ≤ c
          · rw [if_pos hc0, if_pos (show (3 : Int32) ≤ c from q1.resolve_left (Int32.not_lt.mpr hc0))]
            exact bad2
          · rw [if_neg hc0]
            exact bad2
      · simp only [show nI 1 = (1 : Int32) from rfl, if_neg (show ¬ (1 : Int32) = 0 from by decide), if_pos (show (1 : Int32) = 1 from rfl), if_pos trivial]
        rcases in_or c (n := 6) (by decide) with ⟨x, hx, rfl⟩ | ⟨q1, q2⟩
        · obtain ⟨ar', t1, t2⟩ := sortInto_eq (by decide) S.2.2.2.1.2.2.2.2.2.2.2 hd k3 hd3.2.1 hx
          rw [if_pos (show (0 : Int32) ≤ nI x from nI_pos' (by omega)), if_neg (show ¬ (6 : Int32) ≤ nI x from nI_ge (b := 6) hx (by decide)), bd_some t1, bd_some (show f_Mo_in (nI x).toInt64 0 5 = some 1 from mIn_t (N := 5) (by omega) (by decide)), if_neg (by decide), show (38 : Int32) = nI 38 from rfl, nIa, ltE, gd_nI (show 38 + d < 1551 by omega) (by decide), nI_clamp (show 38 + d < 2 ^ 31 by omega), ltE, gd_nI (show 38 + d < 1551 by omega) (by decide), ltE, S.1 _ (by omega) (by omega)]
          exact ⟨_, _, _, _, _, _, vs v (38 + d) x, rfl, rfl, T, put_air S hd hx t2, fun i hi => ⟨vs_ne (by omega), upd_ne (by omega)⟩⟩
        · rw [bd_some (show f_Mo_in c.toInt64 0 5 = some 0 from mIn_f (N := 5) (by decide) q2), if_pos rfl]
          by_cases hc0 : 0 ≤ c
          · rw [if_pos hc0, if_pos (show (6 : Int32) ≤ c from q1.resolve_left (Int32.not_lt.mpr hc0))]
            exact bad2
          · rw [if_neg hc0]
            exact bad2
    · rw [bd_some (show f_Mo_in a.toInt64 0 1 = some 0 from mIn_f (N := 1) (by decide) q2), if_pos rfl, if_neg (show ¬ a = 0 from q2 0 (by decide)), if_neg (show ¬ a = 1 from q2 1 (by decide))]
      by_cases hc0 : 0 ≤ c
      · rw [if_pos hc0]
        exact bad2
      · rw [if_neg hc0]
        exact bad2
  · have i1 : f_Ai_isCell W (nI (v 1)) b = some 0 := by rw [hW]; exact isCell_f q1
    simp only [bd_some i1, bd_some (mCell_f S.1 (show v 0 * v 1 < 2 ^ 31 by omega) q2), jnE, if_pos (show (0 : Int32) = 0 from rfl)]
    by_cases ha : f_Mo_in a.toInt64 0 1 = some 1
    · rw [bd_some ha, if_neg (show ¬ (1 : Int32) = 0 from by decide)]
      exact bad2
    · have : f_Mo_in a.toInt64 0 1 = some 0 := (either_or a).elim (fun z => absurd z.2.2 ha) (fun z => z.2)
      rw [bd_some this, if_pos rfl]
      exact bad2

/-! maker: the call -/
theorem maker_call {row : Nat → Int32} {v : Nat → Nat} {W : Int32} {ev fc lc : Int64} {MK LV : Int32} {gr ar : Nat → Int64} {ki ce se pa : Nat → Int32} (S : TwoL row v W ev fc lc MK LV gr ar ki ce se pa) {cr : Nat → Int32} (hcr : ∀ i, i < v 122 → cr i = nI (v (126 + 4 * i))) {rf : Nat → Int32} {bad no full : Int32} (T : StR rf bad no full) (a b c : Int32) :
    ∃ r rf' bad' full' MK' ki' ce' se' cr' row' v', f_Ai_maker W (nI (v 1)) MK rf ki ce se cr a b c = some (r, rf', MK', ki', ce', se', cr') ∧ f_Mo_maker bad full row a b c = some (r, row', bad', full') ∧ StR rf' bad' no full' ∧ TwoL row' v' W ev fc lc MK' LV gr ar ki' ce' se' pa ∧ (∀ i, i < v' 122 → cr' i = nI (v' (126 + 4 * i))) ∧ (∀ i, ¬ (122 ≤ i ∧ i < 147) → v' i = v i ∧ row' i = row i) ∧ v 122 ≤ v' 122 := by
  obtain ⟨k1, rfl, k3, k4⟩ := TwoL_mk S
  have hW : W = nI (v 0) := S.2.2.1.2.2.2.1
  have B := refuse_bad T (-2)
  have F := refuse_full T (-4)
  have bad2 : ∃ r rf' bad' full' MK' ki' ce' se' cr' row' v', (bd (f_Ai_refuse rf (-2)) fun ((x1, x2) : Int32 × (Nat → Int32)) => some (x1, x2, nI (v 122), ki, ce, se, cr)) = some (r, rf', MK', ki', ce', se', cr') ∧ (bd (f_Mo_isBad bad) fun ((x3, x4) : Int32 × Int32) => some (x3, row, x4, full)) = some (r, row', bad', full') ∧ StR rf' bad' no full' ∧ TwoL row' v' W ev fc lc MK' LV gr ar ki' ce' se' pa ∧ (∀ i, i < v' 122 → cr' i = nI (v' (126 + 4 * i))) ∧ (∀ i, ¬ (122 ≤ i ∧ i < 147) → v' i = v i ∧ row' i = row i) ∧ v 122 ≤ v' 122 := by
    rw [bd_some (refuse_is B.1), bd_some (isBad_eq bad)]
    exact ⟨_, _, _, _, _, _, _, _, _, _, v, rfl, rfl, B.2, S, hcr, fun _ _ => ⟨rfl, rfl⟩, Nat.le_refl _⟩
  unfold f_Ai_maker f_Mo_maker
  simp only [jnE]
  rcases in_or a (n := 6) (by decide) with ⟨k, hk, rfl⟩ | ⟨q1, q2⟩
  · rw [if_neg (nI_pos (show k < 2 ^ 31 by omega)), if_neg (show ¬ (6 : Int32) ≤ nI k from nI_ge (b := 6) hk (by decide)), bd_some (show f_Mo_in (nI k).toInt64 0 5 = some 1 from mIn_t (N := 5) (by omega) (by decide)), if_neg (show ¬ (1 : Int32) = 0 from by decide)]
    rcases in_or b (n := v 0 * v 1) (by omega) with ⟨d, hd, rfl⟩ | ⟨q1, q2⟩
    · have i1 : f_Ai_isCell W (nI (v 1)) (nI d) = some 1 := by rw [hW]; exact isCell_t (by omega) hd
      rw [bd_some i1, bd_some (mCell_t S.1 (show v 0 * v 1 < 2 ^ 31 by omega) hd), if_neg (show ¬ (1 : Int32) = 0 from by decide), if_neg (show ¬ (1 : Int32) = 0 from by decide)]
      rcases in_or c (n := 6) (by decide) with ⟨o, ho, rfl⟩ | ⟨q1, q2⟩
      · have r122 : row (122 : Int32).toNatClampNeg = nI (v 122) := S.1 122 (by decide) (by decide)
        rw [bd_some (isOwner_t ho), bd_some (mOwner_t ho), if_neg (show ¬ (1 : Int32) = 0 from by decide), if_neg (show ¬ (1 : Int32) = 0 from by decide), r122]
        by_cases h6 : v 122 = 6
        · rw [h6, if_neg (show ¬ nI 6 < (6 : Int32) from by decide), if_pos (show nI 6 = (6 : Int32) from rfl), bd_some (refuse_is F.1)]
          exact ⟨_, _, _, _, _, _, _, _, _, _, v, rfl, rfl, F.2, h6 ▸ S, hcr, fun _ _ => ⟨rfl, rfl⟩, Nat.le_of_eq h6.symm⟩
        · have hn : v 122 < 6 := by omega
          have ad : f_Ld_addMaker (nI (v 122)) ki ce se cr (nI k) (nI d) (nI o) = some (nI (v 122 + 1), upd ki (v 122) (nI k), upd ce (v 122) (nI d), upd se (v 122) (nI o), upd cr (v 122) (nI 5)) := by
            unfold f_Ld_addMaker
            simp only [if_neg (show ¬ (6 : Int32) ≤ nI (v 122) from nI_ge (b := 6) hn (by decide)), gd_nI hn (show 6 < 2 ^ 31 by decide), nI_clamp (show v 122 < 2 ^ 31 by omega), ltE, nI1]
            rfl
          have am : f_Mo_addMaker row (nI k) (nI d) (nI o) = some (nI (v 122), upd (upd (upd (upd (upd row (123 + 4 * v 122) (nI k)) (124 + 4 * v 122) (nI d)) (125 + 4 * v 122) (nI o)) (126 + 4 * v 122) (nI 5)) 122 (nI (v 122 + 1))) := by
            unfold f_Mo_addMaker
            simp only [ltE, r122, show (123 : Int32) = nI 123 from rfl, show (4 : Int32) = nI 4 from rfl, pk_mul, nIa, nI1]
            simp only [show (1 : Int32) = nI 1 from rfl, show (2 : Int32) = nI 2 from rfl, show (3 : Int32) = nI 3 from rfl, nIa]
            simp only [gd_nI (show 123 + 4 * v 122 < 1551 by omega) (show 1551 < 2 ^ 31 by decide), gd_nI (show 124 + 4 * v 122 < 1551 by omega) (show 1551 < 2 ^ 31 by decide), gd_nI (show 125 + 4 * v 122 < 1551 by omega) (show 1551 < 2 ^ 31 by decide), gd_nI (show 126 + 4 * v 122 < 1551 by omega) (show 1551 < 2 ^ 31 by decide), nI_clamp (show 123 + 4 * v 122 < 2 ^ 31 by omega), nI_clamp (show 124 + 4 * v 122 < 2 ^ 31 by omega), nI_clamp (show 125 + 4 * v 122 < 2 ^ 31 by omega), nI_clamp (show 126 + 4 * v 122 < 2 ^ 31 by omega), show 123 + 4 * v 122 + 1 = 124 + 4 * v 122 from by omega, show 123 + 4 * v 122 + 2 = 125 + 4 * v 122 from by omega, show 123 + 4 * v 122 + 3 = 126 + 4 * v 122 from by omega]
            have e : ∀ z, upd (upd (upd (upd row (123 + 4 * v 122) (nI k)) (124 + 4 * v 122) (nI d)) (125 + 4 * v 122) (nI o)) (126 + 4 * v 122) z (122 : Int32).toNatClampNeg = nI (v 122) := fun z => by
              rw [show (122 : Int32).toNatClampNeg = 122 from by decide, upd_ne (by omega), upd_ne (by omega), upd_ne (by omega), upd_ne (by omega)]
              exact r122
            rw [e, show (122 : Int32).toNatClampNeg = 122 from by decide, upd_same, nIa, pk_sub (by omega), Nat.add_sub_cancel]
            rfl
          rw [if_pos (show nI (v 122) < (6 : Int32) from nI_lt (b := 6) hn (by decide)), if_neg (show ¬ nI (v 122) = (6 : Int32) from fun z => h6 ((nI_eq (b := 6) (by omega) (by decide)).mp z)), bd_some ad, bd_some am]
          have hs : nI (v 122 + 1) - 1 = nI (v 122) := by
            rw [show (1 : Int32) = nI 1 from rfl, pk_sub (by omega), Nat.add_sub_cancel]
          have hR : Rm (upd (upd (upd (upd (upd row (123 + 4 * v 122) (nI k)) (124 + 4 * v 122) (nI d)) (125 + 4 * v 122) (nI o)) (126 + 4 * v 122) (nI 5)) 122 (nI (v 122 + 1))) (vmk v (v 122) k d o) := Rm_set (Rm_set (Rm_set (Rm_set (Rm_set S.1 _ _) _ _) _ _) _ _) _ _
          obtain ⟨e122, ek, ec, eo, ey⟩ := vmk_at (v := v) (n := v 122) (k := k) (c := d) (o := o)
          refine ⟨nI (v 122), _, _, _, _, _, _, _, _, _, vmk v (v 122) k d o, congrArg some (Prod.ext hs rfl), rfl, T, maker_set S hn hk hd ho hR, fun i hi => ?_, fun i hi => ⟨vmk_ne (by omega) (by omega), ?_⟩, by rw [e122]; exact Nat.le_succ _⟩
          · rw [e122] at hi
            dsimp only
            by_cases hin : i = v 122
            · rw [hin, upd_same, ey]
            · rw [upd_ne hin, vmk_ne (by omega) (by omega), hcr i (by omega)]
          · dsimp only
            rw [upd_ne (by omega), upd_ne (by omega), upd_ne (by omega), upd_ne (by omega), upd_ne (by omega)]
      · rw [bd_some (isOwner_f q1), bd_some (mOwner_f q2), if_pos (show (0 : Int32) = 0 from rfl), if_pos (show (0 : Int32) = 0 from rfl)]
        exact bad2
    · have i1 : f_Ai_isCell W (nI (v 1)) b = some 0 := by rw [hW]; exact isCell_f q1
      rw [bd_some i1, bd_some (mCell_f S.1 (show v 0 * v 1 < 2 ^ 31 by omega) q2), if_pos (show (0 : Int32) = 0 from rfl), if_pos (show (0 : Int32) = 0 from rfl)]
      exact bad2
  · rw [bd_some (show f_Mo_in a.toInt64 0 5 = some 0 from mIn_f (N := 5) (by decide) q2), if_pos (show (0 : Int32) = 0 from rfl)]
    by_cases ha : a < 0
    · rw [if_pos ha]
      exact bad2
    · rw [if_neg ha, if_pos (show (6 : Int32) ≤ a from q1.resolve_left ha)]
      exact bad2

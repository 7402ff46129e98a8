/-! fee, cry -/
theorem WFv_ag {v v' : Nat → Nat} (W : WFv v) (e : ∀ i, i < 188 → ¬ (74 ≤ i ∧ i < 122) → (∀ k, k < 6 → i ≠ 126 + 4 * k) → v' i = v i) (h1 : ∀ c, c < v 0 * v 1 → v' (74 + c) < 3) (h2 : ∀ i, i < 6 → v' (110 + i) ≤ 99) (h3 : ∀ i, i < v 122 → v' (126 + 4 * i) ≤ 20) : WFv v' := by
  obtain ⟨w1, w2, w3, w4, w5, w6, w7, w8, w9, w10⟩ := W
  have e0 : v' 0 = v 0 := e 0 (by decide) (by decide) (fun k _ => by omega)
  have e1 : v' 1 = v 1 := e 1 (by decide) (by decide) (fun k _ => by omega)
  have e122 : v' 122 = v 122 := e 122 (by decide) (by decide) (fun k _ => by omega)
  refine ⟨by rw [e0]; exact w1, by rw [e0]; exact w2, by rw [e1]; exact w3, by rw [e1]; exact w4, by rw [e0, e1]; exact w5, fun d hd => ?_, h2, by rw [e122]; exact w8, fun i hi => ?_, WFL_ag w10 e122 fun i a b => e i b (by omega) (fun k _ => by omega)⟩
  · rw [e0, e1] at hd
    have := w6 d hd
    rw [e (2 + d) (by omega) (by omega) (fun k _ => by omega), e (38 + d) (by omega) (by omega) (fun k _ => by omega)]
    exact ⟨this.1, this.2.1, h1 d hd⟩
  · rw [e122] at hi
    have := w9 i hi
    rw [e0, e1, e (123 + 4 * i) (by omega) (by omega) (fun k _ => by omega), e (124 + 4 * i) (by omega) (by omega) (fun k _ => by omega), e (125 + 4 * i) (by omega) (by omega) (fun k _ => by omega)]
    exact ⟨this.1, this.2.1, this.2.2.1, h3 i hi⟩
theorem fee_call {row : Nat → Int32} {v : Nat → Nat} {W : Int32} {ev fc lc : Int64} {MK LV : Int32} {gr ar : Nat → Int64} {ki ce se pa : Nat → Int32} (S : TwoL row v W ev fc lc MK LV gr ar ki ce se pa) {fe : Nat → Int32} (hfe : ∀ i, i < 6 → fe i = nI (v (110 + i))) {rf : Nat → Int32} {bad no full : Int32} (T : StR rf bad no full) (a b : Int32) :
    ∃ r rf' bad' fe' row' v', f_Ai_fee rf fe a b = some (r, rf', fe') ∧ f_Mo_fee bad row a b = some (r, row', bad') ∧ StR rf' bad' no full ∧ TwoL row' v' W ev fc lc MK LV gr ar ki ce se pa ∧ (∀ i, i < 6 → fe' i = nI (v' (110 + i))) ∧ (∀ i, ¬ (110 ≤ i ∧ i < 116) → v' i = v i ∧ row' i = row i) := by
  have B := refuse_bad T (-2)
  have bad2 : ∃ r rf' bad' fe' row' v', (bd (f_Ai_refuse rf (-2)) fun ((x3, x4) : Int32 × (Nat → Int32)) => some (x3, x4, fe)) = some (r, rf', fe') ∧ (bd (f_Mo_isBad bad) fun ((x3, x4) : Int32 × Int32) => some (x3, row, x4)) = some (r, row', bad') ∧ StR rf' bad' no full ∧ TwoL row' v' W ev fc lc MK LV gr ar ki ce se pa ∧ (∀ i, i < 6 → fe' i = nI (v' (110 + i))) ∧ (∀ i, ¬ (110 ≤ i ∧ i < 116) → v' i = v i ∧ row' i = row i) := by
    rw [bd_some (refuse_is B.1), bd_some (isBad_eq bad)]
    exact ⟨_, _, _, _, _, v, rfl, rfl, B.2, S, hfe, fun _ _ => ⟨rfl, rfl⟩⟩
  unfold f_Ai_fee f_Mo_fee
  rcases in_or a (n := 6) (by decide) with ⟨o, ho, rfl⟩ | ⟨q1, q2⟩
  · simp only [bd_some (isOwner_t ho), bd_some (mOwner_t ho), jnE, if_neg (show ¬ (1 : Int32) = 0 from by decide)]
    rcases in_or b (n := 100) (by decide) with ⟨x, hx, rfl⟩ | ⟨q1, q2⟩
    · have ch : f_Ld_changeFee fe (nI o) (nI x) = some (nI (v (110 + o)), upd fe o (nI x)) := by
        unfold f_Ld_changeFee
        rw [if_neg (nI_pos (by omega)), if_pos (show nI o < (6 : Int32) from nI_lt (b := 6) ho (by decide)), gd_nI ho (by decide), nI_clamp (by omega), ltE, gd_nI ho (by decide), ltE, hfe o ho]
      rw [show (99 : Int32) = nI 99 from rfl, le_t (show x ≤ 99 by omega) (by decide), bd_some ch, bd_some (show f_Mo_in (nI x).toInt64 0 99 = some 1 from mIn_t (N := 99) (by omega) (by decide)), if_neg (by decide), show (110 : Int32) = nI 110 from rfl, nIa, gd_nI (by omega) (by decide), nI_clamp (by omega), ltE, gd_nI (by omega) (by decide), ltE, S.1 _ (by omega) (by omega)]
      have ne : ∀ i, i ≠ 110 + o → vs v (110 + o) x i = v i := fun i hi => vs_ne hi
      have hw := S.2.1
      refine ⟨_, _, _, _, _, vs v (110 + o) x, rfl, rfl, T, ⟨Rm_set S.1 _ _, WFv_ag hw (fun i h1 h2 h3 => ne i (by omega)) (fun c hc => ?_) (fun i hi => ?_) (fun i hi => ?_), SW_ag S.2.2 fun i h1 h2 h3 => ne i (by omega)⟩, fun i hi => ?_, fun i hi => ⟨ne i (by omega), upd_ne (by omega)⟩⟩
      · have hn := hw.2.2.2.2.1
        rw [ne _ (by omega)]
        exact (hw.2.2.2.2.2.1 c hc).2.2
      · by_cases hio : i = o
        · subst hio
          rw [vs_same]
          omega
        · rw [ne _ (by omega)]
          exact hw.2.2.2.2.2.2.1 i hi
      · rw [ne _ (by omega)]
        exact (hw.2.2.2.2.2.2.2.2.1 i hi).2.2.2
      · dsimp only
        by_cases hio : i = o
        · subst hio
          rw [vs_same, upd_same]
        · rw [ne _ (by omega), upd_ne hio, hfe i hi]
    · rw [show (99 : Int32) = nI 99 from rfl, le_f (by decide) q1, bd_some (show f_Mo_in b.toInt64 0 99 = some 0 from mIn_f (N := 99) (by decide) q2), if_pos rfl]
      exact bad2
  · simp only [bd_some (isOwner_f q1), bd_some (mOwner_f q2), jnE, if_pos (show (0 : Int32) = 0 from rfl)]
    exact bad2
theorem cry_call {row : Nat → Int32} {v : Nat → Nat} {W : Int32} {ev fc lc : Int64} {MK LV : Int32} {gr ar : Nat → Int64} {ki ce se pa : Nat → Int32} (S : TwoL row v W ev fc lc MK LV gr ar ki ce se pa) {cr : Nat → Int32} (hcr : ∀ i, i < v 122 → cr i = nI (v (126 + 4 * i))) {rf : Nat → Int32} {bad no full : Int32} (T : StR rf bad no full) (a b : Int32) :
    ∃ r rf' bad' cr' row' v', f_Ai_cry MK rf cr a b = some (r, rf', cr') ∧ f_Mo_cry bad row a b = some (r, row', bad') ∧ StR rf' bad' no full ∧ TwoL row' v' W ev fc lc MK LV gr ar ki ce se pa ∧ (∀ i, i < v' 122 → cr' i = nI (v' (126 + 4 * i))) ∧ (∀ i, ¬ (126 ≤ i ∧ i < 147) → v' i = v i ∧ row' i = row i) := by
  obtain ⟨k1, rfl, k3, k4⟩ := TwoL_mk S
  have B := refuse_bad T (-2)
  have bad2 : ∃ r rf' bad' cr' row' v', (bd (f_Ai_refuse rf (-2)) fun ((x3, x4) : Int32 × (Nat → Int32)) => some (x3, x4, cr)) = some (r, rf', cr') ∧ (bd (f_Mo_isBad bad) fun ((x3, x4) : Int32 × Int32) => some (x3, row, x4)) = some (r, row', bad') ∧ StR rf' bad' no full ∧ TwoL row' v' W ev fc lc (nI (v 122)) LV gr ar ki ce se pa ∧ (∀ i, i < v' 122 → cr' i = nI (v' (126 + 4 * i))) ∧ (∀ i, ¬ (126 ≤ i ∧ i < 147) → v' i = v i ∧ row' i = row i) := by
    rw [bd_some (refuse_is B.1), bd_some (isBad_eq bad)]
    exact ⟨_, _, _, _, _, v, rfl, rfl, B.2, S, hcr, fun _ _ => ⟨rfl, rfl⟩⟩
  unfold f_Ai_cry f_Mo_cry
  rcases in_or a (n := v 122) (by omega) with ⟨m, hm, rfl⟩ | ⟨q1, q2⟩
  · simp only [bd_some (isMaker_t (show v 122 < 2 ^ 31 by omega) hm), bd_some (mMaker_t S.1 (show v 122 < 2 ^ 31 by omega) hm), jnE, if_neg (show ¬ (1 : Int32) = 0 from by decide)]
    rcases in_or b (n := 21) (by decide) with ⟨x, hx, rfl⟩ | ⟨q1, q2⟩
    · rw [show (20 : Int32) = nI 20 from rfl, le_t (show x ≤ 20 by omega) (by decide), gd_nI (show m < 6 by omega) (by decide), nI_clamp (show m < 2 ^ 31 by omega), ltE, gd_nI (show m < 6 by omega) (by decide), ltE, hcr m hm, bd_some (show f_Mo_in (nI x).toInt64 0 20 = some 1 from mIn_t (N := 20) (by omega) (by decide)), if_neg (by decide), show (123 : Int32) = nI 123 from rfl, show (4 : Int32) = nI 4 from rfl, show (3 : Int32) = nI 3 from rfl, pk_mul, nIa, nIa, gd_nI (show 123 + 4 * m + 3 < 1551 by omega) (by decide), nI_clamp (show 123 + 4 * m + 3 < 2 ^ 31 by omega), ltE, gd_nI (show 123 + 4 * m + 3 < 1551 by omega) (by decide), ltE, show 123 + 4 * m + 3 = 126 + 4 * m from by omega, S.1 _ (by omega) (by omega)]
      have ne : ∀ i, i ≠ 126 + 4 * m → vs v (126 + 4 * m) x i = v i := fun i hi => vs_ne hi
      have hw := S.2.1
      have hag : ∀ i, i < 188 → ¬ (74 ≤ i ∧ i < 122) → (∀ k, k < 6 → i ≠ 126 + 4 * k) → vs v (126 + 4 * m) x i = v i := fun i h1 h2 h3 => ne i (h3 m (by omega))
      refine ⟨_, _, _, _, _, vs v (126 + 4 * m) x, rfl, rfl, T, ⟨Rm_set S.1 _ _, WFv_ag hw hag (fun c hc => ?_) (fun i hi => ?_) (fun i hi => ?_), SW_ag S.2.2 hag⟩, fun i hi => ?_, fun i hi => ⟨ne i (by omega), upd_ne (by omega)⟩⟩
      · rw [ne _ (by omega)]
        exact (hw.2.2.2.2.2.1 c hc).2.2
      · rw [ne _ (by omega)]
        exact hw.2.2.2.2.2.2.1 i hi
      · by_cases him : i = m
        · subst him
          rw [vs_same]
          omega
        · rw [ne _ (by omega)]
          exact (hw.2.2.2.2.2.2.2.2.1 i hi).2.2.2
      · rw [ne 122 (by omega)] at hi
        by_cases him : i = m
        · subst him
          rw [vs_same, upd_same]
        · rw [ne _ (by omega), upd_ne him, hcr i hi]
    · rw [show (20 : Int32) = nI 20 from rfl, le_f (by decide) q1, bd_some (show f_Mo_in b.toInt64 0 20 = some 0 from mIn_f (N := 20) (by decide) q2), if_pos rfl]
      exact bad2
  · simp only [bd_some (isMaker_f q1), bd_some (mMaker_f S.1 (show v 122 < 2 ^ 31 by omega) q2), jnE, if_pos (show (0 : Int32) = 0 from rfl)]
    exact bad2

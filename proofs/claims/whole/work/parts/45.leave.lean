/-! leaves given -/
theorem TwoL_lv {row row' : Nat → Int32} {v v' : Nat → Nat} {W : Int32} {ev fc lc : Int64} {MK LV : Int32} {gr ar : Nat → Int64} {ki ce se pa pa' : Nat → Int32} (S : TwoL row v W ev fc lc MK LV gr ar ki ce se pa) (R' : Rm row' v') (e : ∀ i, i < 147 → v' i = v i) (hw : WFL v') (hp : ∀ j, j < 5 * v' 147 → pa' j = nI (v' (148 + j))) : TwoL row' v' W ev fc lc MK (nI (v' 147)) gr ar ki ce se pa' := by
  obtain ⟨R, ⟨w1, w2, w3, w4, w5, w6, w7, w8, w9, w10⟩, G, ⟨s1, s2, s3, s4, s5, s6, s7, s8⟩, r, m⟩ := S
  have e0 : v' 0 = v 0 := e 0 (by decide)
  have e1 : v' 1 = v 1 := e 1 (by decide)
  have e122 : v' 122 = v 122 := e 122 (by decide)
  refine ⟨R', ⟨by rw [e0]; exact w1, by rw [e0]; exact w2, by rw [e1]; exact w3, by rw [e1]; exact w4, by rw [e0, e1]; exact w5, fun d hd => ?_, fun i hi => by rw [e _ (by omega)]; exact w7 i hi, by rw [e122]; exact w8, fun i hi => ?_, hw⟩, by rw [e0, e1]; exact G, ⟨by rw [e122]; exact s1, by rw [e122]; exact s2, rfl, fun i hi => ?_, hp, hw, fun d => ?_, ?_⟩, ?_, fun i hi => ?_⟩
  · rw [e0, e1] at hd
    rw [e (2 + d) (by omega), e (38 + d) (by omega), e (74 + d) (by omega)]
    exact w6 d hd
  · rw [e122] at hi
    rw [e0, e1, e (123 + 4 * i) (by omega), e (124 + 4 * i) (by omega), e (125 + 4 * i) (by omega), e (126 + 4 * i) (by omega)]
    exact w9 i hi
  · rw [e122] at hi
    rw [e _ (by omega)]
    exact s4 i hi
  · rw [e0, e1]
    by_cases hd : d < 36
    · rw [e _ (by omega)]
      exact s7 d
    · exact Or.inr (by omega)
  · rw [e0, e1]
    exact RS_ag s8 fun d hd => e _ (by omega)
  · rw [e0, e1]
    exact RS_ag r fun d hd => e _ (by omega)
  · rw [e122] at hi
    rw [e0, e1, e (123 + 4 * i) (by omega), e (124 + 4 * i) (by omega)]
    exact m i hi
def vlv (v : Nat → Nat) (n m o f t l : Nat) : Nat → Nat := vs (vs (vs (vs (vs (vs v (148 + 5 * n) m) (149 + 5 * n) o) (150 + 5 * n) f) (151 + 5 * n) t) (152 + 5 * n) l) 147 (n + 1)
theorem vlv_ne {v : Nat → Nat} {n m o f t l i : Nat} (h : i ≠ 147) (h2 : ¬ (148 + 5 * n ≤ i ∧ i < 153 + 5 * n)) : vlv v n m o f t l i = v i := by
  unfold vlv
  rw [vs_ne h, vs_ne (by omega), vs_ne (by omega), vs_ne (by omega), vs_ne (by omega), vs_ne (by omega)]
theorem vlv_at {v : Nat → Nat} {n m o f t l : Nat} : vlv v n m o f t l 147 = n + 1 ∧ vlv v n m o f t l (148 + 5 * n) = m ∧ vlv v n m o f t l (149 + 5 * n) = o ∧ vlv v n m o f t l (150 + 5 * n) = f ∧ vlv v n m o f t l (151 + 5 * n) = t ∧ vlv v n m o f t l (152 + 5 * n) = l := by
  unfold vlv
  refine ⟨vs_same, ?_, ?_, ?_, ?_, ?_⟩
  · rw [vs_ne (by omega), vs_ne (by omega), vs_ne (by omega), vs_ne (by omega), vs_ne (by omega), vs_same]
  · rw [vs_ne (by omega), vs_ne (by omega), vs_ne (by omega), vs_ne (by omega), vs_same]
  · rw [vs_ne (by omega), vs_ne (by omega), vs_ne (by omega), vs_same]
  · rw [vs_ne (by omega), vs_ne (by omega), vs_same]
  · rw [vs_ne (by omega), vs_same]
theorem addLeave_two {row : Nat → Int32} {v : Nat → Nat} {W : Int32} {ev fc lc : Int64} {MK LV : Int32} {gr ar : Nat → Int64} {ki ce se pa : Nat → Int32} (S : TwoL row v W ev fc lc MK LV gr ar ki ce se pa) (hn : v 147 < 8) {m o f t l : Nat} (hm : m < v 122) (ho : o < 6) (hf : f ≤ t) (ht : t < 24) (hl : 1 ≤ l) (hl2 : l ≤ 20) :
    ∃ pa' row', f_Ld_addLeave LV pa (nI m) (nI o) (nI f) (nI t) (nI l) = some (nI (v 147 + 1), pa') ∧ f_Mo_addLeave row (nI m) (nI o) (nI f) (nI t) (nI l) = some (nI (v 147), row') ∧ TwoL row' (vlv v (v 147) m o f t l) W ev fc lc MK (nI (v 147 + 1)) gr ar ki ce se pa' ∧ ∀ i, ¬ (147 ≤ i ∧ i < 188) → row' i = row i := by
  have R := S.1
  have hLV : LV = nI (v 147) := S.2.2.2.1.2.2.1
  have hw := S.2.1.2.2.2.2.2.2.2.2.2
  have s5 := S.2.2.2.1.2.2.2.2.1
  have r147 : row (147 : Int32).toNatClampNeg = nI (v 147) := R 147 (by decide) (by decide)
  obtain ⟨e147, em, eo, ef, et, el⟩ := vlv_at (v := v) (n := v 147) (m := m) (o := o) (f := f) (t := t) (l := l)
  have k0 : v 147 * 5 = 5 * v 147 := Nat.mul_comm _ _
  have c1 : f_Ld_addLeave LV pa (nI m) (nI o) (nI f) (nI t) (nI l) = some (nI (v 147 + 1), upd (upd (upd (upd (upd pa (5 * v 147) (nI m)) (5 * v 147 + 1) (nI o)) (5 * v 147 + 2) (nI f)) (5 * v 147 + 3) (nI t)) (5 * v 147 + 4) (nI l)) := by
    rw [hLV]
    unfold f_Ld_addLeave
    simp only [if_neg (show ¬ (8 : Int32) ≤ nI (v 147) from nI_ge (b := 8) hn (by decide)), show (5 : Int32) = nI 5 from rfl, pk_mul, ltE, nI1]
    simp only [show (0 : Int32) = nI 0 from rfl, show (1 : Int32) = nI 1 from rfl, show (2 : Int32) = nI 2 from rfl, show (3 : Int32) = nI 3 from rfl, show (4 : Int32) = nI 4 from rfl, nIa, k0, Nat.add_zero]
    simp only [gd_nI (show 5 * v 147 < 40 by omega) (show 40 < 2 ^ 31 by decide), gd_nI (show 5 * v 147 + 1 < 40 by omega) (show 40 < 2 ^ 31 by decide), gd_nI (show 5 * v 147 + 2 < 40 by omega) (show 40 < 2 ^ 31 by decide), gd_nI (show 5 * v 147 + 3 < 40 by omega) (show 40 < 2 ^ 31 by decide), gd_nI (show 5 * v 147 + 4 < 40 by omega) (show 40 < 2 ^ 31 by decide), nI_clamp (show 5 * v 147 < 2 ^ 31 by omega), nI_clamp (show 5 * v 147 + 1 < 2 ^ 31 by omega), nI_clamp (show 5 * v 147 + 2 < 2 ^ 31 by omega), nI_clamp (show 5 * v 147 + 3 < 2 ^ 31 by omega), nI_clamp (show 5 * v 147 + 4 < 2 ^ 31 by omega)]
  have c2 : f_Mo_addLeave row (nI m) (nI o) (nI f) (nI t) (nI l) = some (nI (v 147), upd (upd (upd (upd (upd (upd row (148 + 5 * v 147) (nI m)) (149 + 5 * v 147) (nI o)) (150 + 5 * v 147) (nI f)) (151 + 5 * v 147) (nI t)) (152 + 5 * v 147) (nI l)) 147 (nI (v 147 + 1))) := by
    unfold f_Mo_addLeave
    simp only [ltE, r147, show (148 : Int32) = nI 148 from rfl, show (5 : Int32) = nI 5 from rfl, pk_mul, nIa, nI1]
    simp only [show (1 : Int32) = nI 1 from rfl, show (2 : Int32) = nI 2 from rfl, show (3 : Int32) = nI 3 from rfl, show (4 : Int32) = nI 4 from rfl, nIa]
    simp only [gd_nI (show 148 + 5 * v 147 < 1551 by omega) (show 1551 < 2 ^ 31 by decide), gd_nI (show 149 + 5 * v 147 < 1551 by omega) (show 1551 < 2 ^ 31 by decide), gd_nI (show 150 + 5 * v 147 < 1551 by omega) (show 1551 < 2 ^ 31 by decide), gd_nI (show 151 + 5 * v 147 < 1551 by omega) (show 1551 < 2 ^ 31 by decide), gd_nI (show 152 + 5 * v 147 < 1551 by omega) (show 1551 < 2 ^ 31 by decide), nI_clamp (show 148 + 5 * v 147 < 2 ^ 31 by omega), nI_clamp (show 149 + 5 * v 147 < 2 ^ 31 by omega), nI_clamp (show 150 + 5 * v 147 < 2 ^ 31 by omega), nI_clamp (show 151 + 5 * v 147 < 2 ^ 31 by omega), nI_clamp (show 152 + 5 * v 147 < 2 ^ 31 by omega), show 148 + 5 * v 147 + 1 = 149 + 5 * v 147 from by omega, show 148 + 5 * v 147 + 2 = 150 + 5 * v 147 from by omega, show 148 + 5 * v 147 + 3 = 151 + 5 * v 147 from by omega, show 148 + 5 * v 147 + 4 = 152 + 5 * v 147 from by omega]
    have e : ∀ z, upd (upd (upd (upd (upd row (148 + 5 * v 147) (nI m)) (149 + 5 * v 147) (nI o)) (150 + 5 * v 147) (nI f)) (151 + 5 * v 147) (nI t)) (152 + 5 * v 147) z (147 : Int32).toNatClampNeg = nI (v 147) := fun z => by
      rw [m147, upd_ne (by omega), upd_ne (by omega), upd_ne (by omega), upd_ne (by omega), upd_ne (by omega)]
      exact r147
    rw [e, m147, upd_same, nIa, pk_sub (by omega), Nat.add_sub_cancel]
  refine ⟨_, _, c1, c2, ?_, fun i hi => ?_⟩
  · have hwL : WFL (vlv v (v 147) m o f t l) := by
      refine ⟨by rw [e147]; omega, fun j hj => ?_⟩
      rw [e147] at hj
      rw [vlv_ne (i := 122) (by omega) (by omega)]
      by_cases q : j = v 147
      · rw [q, em, eo, ef, et, el]
        exact ⟨hm, ho, hf, ht, hl, hl2⟩
      · rw [vlv_ne (i := 148 + 5 * j) (by omega) (by omega), vlv_ne (i := 149 + 5 * j) (by omega) (by omega), vlv_ne (i := 150 + 5 * j) (by omega) (by omega), vlv_ne (i := 151 + 5 * j) (by omega) (by omega), vlv_ne (i := 152 + 5 * j) (by omega) (by omega)]
        exact hw.2 j (by omega)
    have := TwoL_lv S (row' := upd (upd (upd (upd (upd (upd row (148 + 5 * v 147) (nI m)) (149 + 5 * v 147) (nI o)) (150 + 5 * v 147) (nI f)) (151 + 5 * v 147) (nI t)) (152 + 5 * v 147) (nI l)) 147 (nI (v 147 + 1))) (v' := vlv v (v 147) m o f t l) (pa' := upd (upd (upd (upd (upd pa (5 * v 147) (nI m)) (5 * v 147 + 1) (nI o)) (5 * v 147 + 2) (nI f)) (5 * v 147 + 3) (nI t)) (5 * v 147 + 4) (nI l)) (Rm_set (Rm_set (Rm_set (Rm_set (Rm_set (Rm_set R _ _) _ _) _ _) _ _) _ _) _ _) (fun i hi => vlv_ne (by omega) (by omega)) hwL (fun j hj => by
      rw [e147] at hj
      by_cases q0 : j < 5 * v 147
      · rw [upd_ne (by omega), upd_ne (by omega), upd_ne (by omega), upd_ne (by omega), upd_ne (by omega), vlv_ne (by omega) (by omega), s5 j q0]
      · have : j = 5 * v 147 ∨ j = 5 * v 147 + 1 ∨ j = 5 * v 147 + 2 ∨ j = 5 * v 147 + 3 ∨ j = 5 * v 147 + 4 := by omega
        rcases this with rfl | rfl | rfl | rfl | rfl
        · rw [upd_ne (by omega), upd_ne (by omega), upd_ne (by omega), upd_ne (by omega), upd_same, em]
        · rw [upd_ne (by omega), upd_ne (by omega), upd_ne (by omega), upd_same, show 148 + (5 * v 147 + 1) = 149 + 5 * v 147 from by omega, eo]
        · rw [upd_ne (by omega), upd_ne (by omega), upd_same, show 148 + (5 * v 147 + 2) = 150 + 5 * v 147 from by omega, ef]
        · rw [upd_ne (by omega), upd_same, show 148 + (5 * v 147 + 3) = 151 + 5 * v 147 from by omega, et]
        · rw [upd_same, show 148 + (5 * v 147 + 4) = 152 + 5 * v 147 from by omega, el])
    rw [e147] at this
    exact this
  · rw [upd_ne (by omega), upd_ne (by omega), upd_ne (by omega), upd_ne (by omega), upd_ne (by omega), upd_ne (by omega)]
theorem isFull_eq (full : Int32) : f_Mo_isFull full = some (-4, full + 1) := rfl
theorem isNo_eq (no x : Int32) : f_Mo_isNo no x = some (x, no + 1) := rfl
theorem TwoL_kp {row row' : Nat → Int32} {v : Nat → Nat} {W : Int32} {ev fc lc : Int64} {MK LV : Int32} {gr ar : Nat → Int64} {ki ce se pa : Nat → Int32} (S : TwoL row v W ev fc lc MK LV gr ar ki ce se pa) (R' : Rm row' (kp v)) : TwoL row' (kp v) W ev fc lc MK LV gr ar ki ce se pa := by
  have hLV : LV = nI (v 147) := S.2.2.2.1.2.2.1
  have hw := S.2.1.2.2.2.2.2.2.2.2.2
  have e147 : kp v 147 = v 147 := kp_lo (by omega)
  have h8 := hw.1
  have := TwoL_lv S R' (fun i hi => kp_lo (by omega)) (WFL_ag hw (kp_lo (by omega)) fun i h1 h2 => kp_lo h2) (pa' := pa) (fun j hj => by
    rw [e147] at hj
    rw [kp_lo (by omega)]
    exact S.2.2.2.1.2.2.2.2.1 j hj)
  rw [e147, ← hLV] at this
  exact this
theorem leave_call {row : Nat → Int32} {v : Nat → Nat} {W : Int32} {ev fc lc : Int64} {MK LV : Int32} {gr ar : Nat → Int64} {ki ce se pa : Nat → Int32} (S : TwoL row v W ev fc lc MK LV gr ar ki ce se pa) {ps : Nat → Int32} (P : PsR v ps) {rf : Nat → Int32} {bad no full : Int32} (T : StR rf bad no full) (a b c d e : Int32) :
    ∃ r rf' bad' full' LV' pa' ps' row' v', f_Ai_leave MK LV (nI (v 188)) rf pa ps a b c d e = some (r, rf', LV', pa', nI (v' 188), ps') ∧ f_Mo_leave bad full row a b c d e = some (r, row', bad', full') ∧ StR rf' bad' no full' ∧ TwoL row' v' W ev fc lc MK LV' gr ar ki ce se pa' ∧ PsR v' ps' ∧ (∀ i, i < 147 → v' i = v i) ∧ ∀ i, ¬ (147 ≤ i ∧ i < 517) → row' i = row i := by
  obtain ⟨k1, rfl, k3, k4⟩ := TwoL_mk S
  have B := refuse_bad T (-2)
  have F := refuse_full T (-4)
  have hLV : LV = nI (v 147) := S.2.2.2.1.2.2.1
  have hw := S.2.1.2.2.2.2.2.2.2.2.2
  have bad2 : ∃ r rf' bad' full' LV' pa' ps' row' v', (bd (f_Ai_refuse rf (-2)) fun ((x3, x4) : Int32 × (Nat → Int32)) => some (x3, x4, LV, pa, nI (v 188), ps)) = some (r, rf', LV', pa', nI (v' 188), ps') ∧ (bd (f_Mo_isBad bad) fun ((x3, x4) : Int32 × Int32) => some (x3, row, x4, full)) = some (r, row', bad', full') ∧ StR rf' bad' no full' ∧ TwoL row' v' W ev fc lc (nI (v 122)) LV' gr ar ki ce se pa' ∧ PsR v' ps' ∧ (∀ i, i < 147 → v' i = v i) ∧ ∀ i, ¬ (147 ≤ i ∧ i < 517) → row' i = row i := by
    rw [bd_some (refuse_is B.1), bd_some (isBad_eq bad)]
    exact ⟨_, _, _, _, _, _, _, _, v, rfl, rfl, B.2, S, P, fun _ _ => rfl, fun _ _ => rfl⟩
  unfold f_Ai_leave f_Mo_leave
  rcases in_or a (n := v 122) (by omega) with ⟨m, hm, rfl⟩ | ⟨q1, q2⟩
  rotate_left
  · simp only [bd_some (isMaker_f q1), bd_some (mMaker_f S.1 (show v 122 < 2 ^ 31 by omega) q2), jnE, if_pos (show (0 : Int32) = 0 from rfl)]
    exact bad2
  simp only [bd_some (isMaker_t (show v 122 < 2 ^ 31 by omega) hm), bd_some (mMaker_t S.1 (show v 122 < 2 ^ 31 by omega) hm), jnE, if_neg (show ¬ (1 : Int32) = 0 from by decide)]
  rcases in_or b (n := 6) (by decide) with ⟨o, ho, rfl⟩ | ⟨q1, q2⟩
  rotate_left
  · simp only [bd_some (isOwner_f q1), bd_some (mOwner_f q2), if_pos (show (0 : Int32) = 0 from rfl)]
    exact bad2
  simp only [bd_some (isOwner_t ho), bd_some (mOwner_t ho), if_neg (show ¬ (1 : Int32) = 0 from by decide)]
  rcases in_or c (n := 24) (by decide) with ⟨f, hf, rfl⟩ | ⟨q1, q2⟩
  rotate_left
  · simp only [bd_some (isHour_f q1), bd_some (mHour_f q2), if_pos (show (0 : Int32) = 0 from rfl)]
    exact bad2
  simp only [bd_some (isHour_t hf), bd_some (mHour_t hf), if_neg (show ¬ (1 : Int32) = 0 from by decide)]
  rcases in_or d (n := 24) (by decide) with ⟨t, ht, rfl⟩ | ⟨q1, q2⟩
  rotate_left
  · simp only [bd_some (isHour_f q1), bd_some (mHour_f q2), if_pos (show (0 : Int32) = 0 from rfl)]
    exact bad2
  simp only [bd_some (isHour_t ht), bd_some (mHour_t ht), if_neg (show ¬ (1 : Int32) = 0 from by decide)]
  by_cases hft : t < f
  · simp only [if_pos (nI_lt hft (show f < 2 ^ 31 by omega))]
    exact bad2
  simp only [if_neg (nI_nlt (show f ≤ t by omega) (show t < 2 ^ 31 by omega))]
  rcases loud_or e with ⟨l, hl, hl2, rfl⟩ | ⟨q1, q2⟩
  rotate_left
  · simp only [bd_some (isLoud_f q1), bd_some (mLoud_f q2), if_pos (show (0 : Int32) = 0 from rfl)]
    exact bad2
  have r147 : row (147 : Int32).toNatClampNeg = nI (v 147) := S.1 147 (by decide) (by decide)
  simp only [bd_some (isLoud_t hl hl2), bd_some (mLoud_t hl hl2), if_neg (show ¬ (1 : Int32) = 0 from by decide), r147]
  by_cases h8 : v 147 = 8
  · rw [hLV, if_neg (show ¬ nI (v 147) < (8 : Int32) from by rw [h8]; decide), if_pos (show nI (v 147) = (8 : Int32) from by rw [h8]; rfl), bd_some (refuse_is F.1), bd_some (isFull_eq full)]
    exact ⟨_, _, _, _, _, _, _, _, v, rfl, rfl, F.2, hLV ▸ S, P, fun _ _ => rfl, fun _ _ => rfl⟩
  have hn : v 147 < 8 := by
    have := hw.1
    omega
  obtain ⟨ps', c1, c2⟩ := kp_cls P hw (pa := pa) S.2.2.2.1.2.2.2.2.1
  obtain ⟨row1, d1, d2, d3⟩ := kp_ref S.1 P.1
  have S1 := TwoL_kp S d2
  have e147 : kp v 147 = v 147 := kp_lo (by omega)
  have e122 : kp v 122 = v 122 := kp_lo (by omega)
  obtain ⟨pa', row2, g1, g2, g3, g4⟩ := addLeave_two S1 (by omega) (m := m) (o := o) (f := f) (t := t) (l := l) (by omega) ho (by omega) ht hl hl2
  rw [e147] at g1 g2 g3
  have hs : nI (v 147 + 1) - 1 = nI (v 147) := by
    rw [show (1 : Int32) = nI 1 from rfl, pk_sub (by omega), Nat.add_sub_cancel]
  rw [hLV] at g1 ⊢
  rw [if_pos (show nI (v 147) < (8 : Int32) from nI_lt (b := 8) hn (by decide)), if_neg (show ¬ nI (v 147) = (8 : Int32) from fun z => h8 ((nI_eq (b := 8) (by omega) (by decide)).mp z)), bd_some c1, bd_some d1]
  dsimp only
  rw [bd_some g1, bd_some g2]
  dsimp only
  rw [hs]
  refine ⟨_, _, _, _, _, _, ps', _, vlv (kp v) (v 147) m o f t l, ?_, rfl, T, g3, ?_, fun i hi => ?_, fun i hi => ?_⟩
  · rw [vlv_ne (by omega) (by omega)]
  · exact PsR_ag c2 (by rw [vlv_ne (by omega) (by omega)]; exact Nat.le_refl _) (by rw [vlv_ne (by omega) (by omega)]; exact Nat.le_refl _) fun i h1 h2 => vlv_ne (by omega) (by omega)
  · rw [vlv_ne (by omega) (by omega), kp_lo (by omega)]
  · rw [g4 i (by omega), d3 i (by omega)]

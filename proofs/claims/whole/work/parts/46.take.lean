/-! leaves taken back, undone -/
def td (v : Nat → Nat) (l : Nat) : Nat → Nat := fun j => if j = 147 then v 147 - 1 else if 148 + 5 * l ≤ j ∧ j < 143 + 5 * v 147 then v (j + 5) else v j
theorem td147 {v : Nat → Nat} {l : Nat} : td v l 147 = v 147 - 1 := if_pos rfl
theorem td_in {v : Nat → Nat} {l j : Nat} (h1 : 148 + 5 * l ≤ j) (h2 : j < 143 + 5 * v 147) : td v l j = v (j + 5) := by
  unfold td
  rw [if_neg (by omega), if_pos ⟨h1, h2⟩]
theorem td_out {v : Nat → Nat} {l j : Nat} (h : j ≠ 147) (h1 : ¬ (148 + 5 * l ≤ j ∧ j < 143 + 5 * v 147)) : td v l j = v j := by
  unfold td
  rw [if_neg h, if_neg h1]
theorem drop_cls {n l : Nat} {pa : Nat → Int32} (hn : n ≤ 8) (hl : l < n) : f_Ld_dropLeave (nI n) pa (nI l) = some (nI (n - 1), seg (5 * l) (5 * (n - 1) - 5 * l) (fun j => pa (j + 5)) pa) := by
  unfold f_Ld_dropLeave
  have hs : nI n - 1 = nI (n - 1) := by rw [show (1 : Int32) = nI 1 from rfl, pk_sub (by omega)]
  rw [if_neg (nI_pos (show l < 2 ^ 31 by omega)), if_neg (nI_ge hl (by omega)), hs, show (5 : Int32) = nI 5 from rfl, pk_mul, ltE, show l * 5 = 5 * l from Nat.mul_comm _ _, jnE]
  obtain ⟨y, rfl, h⟩ := lp_fam (f := f_Ld_dropLeave_L16 (nI n)) (fun i (y : Int32 × (Nat → Int32)) => y = (nI (5 * l + i), seg (5 * l) i (fun j => pa (j + 5)) pa)) (5 * (n - 1) - 5 * l) (by omega) (by
    rintro i _ hi rfl
    refine ⟨_, rfl, fun J rec => ?_⟩
    unfold f_Ld_dropLeave_L16
    dsimp only
    rw [hs, show (5 : Int32) = nI 5 from rfl, pk_mul, if_neg (nI_ge (show 5 * l + i < (n - 1) * 5 by omega) (by omega)), nIa, gd_nI (show 5 * l + i + 5 < 40 by omega) (by decide), gd_nI (show 5 * l + i < 40 by omega) (by decide), ltE, ltE, nI_clamp (show 5 * l + i < 2 ^ 31 by omega), nI_clamp (show 5 * l + i + 5 < 2 ^ 31 by omega), nI1, seg_out (show ¬ (5 * l ≤ 5 * l + i + 5 ∧ 5 * l + i + 5 < 5 * l + i) by omega), seg_s rfl rfl]
    rfl) (x0 := (nI (5 * l), pa)) (by rw [seg_0]; rfl)
  obtain ⟨rec, q⟩ := h (fun x2 => lt (nI (n - 1)) fun x3 => some (x3, x2))
  rw [q]
  unfold f_Ld_dropLeave_L16
  dsimp only
  rw [hs, show (5 : Int32) = nI 5 from rfl, pk_mul, if_pos (nI_le (show (n - 1) * 5 ≤ 5 * l + (5 * (n - 1) - 5 * l) by omega) (by omega)), ltE]
theorem take_ref {row : Nat → Int32} {n l : Nat} (hn : n ≤ 8) (hl : l ≤ n) (h147 : row 147 = nI n) {α : Type} (J : (Nat → Int32) → Option (Int32 × (Nat → Int32) × Int32)) : lp (f_Mo_take_L33 J) FU (nI (5 * l), row) = J (seg (148 + 5 * l) (5 * n - 5 * l) (fun j => row (j + 5)) row) := by
  obtain ⟨y, rfl, h⟩ := lp_fam (f := f_Mo_take_L33) (fun i (y : Int32 × (Nat → Int32)) => y = (nI (5 * l + i), seg (148 + 5 * l) i (fun j => row (j + 5)) row)) (5 * n - 5 * l) (by omega) (by
    rintro i _ hi rfl
    refine ⟨_, rfl, fun J rec => ?_⟩
    unfold f_Mo_take_L33
    dsimp only
    rw [m147, seg_out (show ¬ (148 + 5 * l ≤ 147 ∧ 147 < 148 + 5 * l + i) by omega), h147, show (5 : Int32) = nI 5 from rfl, show (148 : Int32) = nI 148 from rfl, pk_mul, if_neg (nI_ge (show 5 * l + i < 5 * n by omega) (by omega)), nIa, nIa, gd_nI (show 148 + (5 * l + i) + 5 < 1551 by omega) (by decide), gd_nI (show 148 + (5 * l + i) < 1551 by omega) (by decide), ltE, ltE, nI_clamp (show 148 + (5 * l + i) < 2 ^ 31 by omega), nI_clamp (show 148 + (5 * l + i) + 5 < 2 ^ 31 by omega), nI1, seg_out (show ¬ (148 + 5 * l ≤ 148 + (5 * l + i) + 5 ∧ 148 + (5 * l + i) + 5 < 148 + 5 * l + i) by omega), seg_s (show 148 + (5 * l + i) = 148 + 5 * l + i by omega) (by rw [show 148 + (5 * l + i) = 148 + 5 * l + i from by omega])]
    rfl) (x0 := (nI (5 * l), row)) (by rw [seg_0]; rfl)
  obtain ⟨rec, q⟩ := h J
  rw [q]
  unfold f_Mo_take_L33
  dsimp only
  rw [m147, seg_out (by omega), h147, show (5 : Int32) = nI 5 from rfl, pk_mul, if_pos (nI_le (show 5 * n ≤ 5 * l + (5 * n - 5 * l) by omega) (by omega))]
theorem take_call {row : Nat → Int32} {v : Nat → Nat} {W : Int32} {ev fc lc : Int64} {MK LV : Int32} {gr ar : Nat → Int64} {ki ce se pa : Nat → Int32} (S : TwoL row v W ev fc lc MK LV gr ar ki ce se pa) {ps : Nat → Int32} (P : PsR v ps) {rf : Nat → Int32} {bad no full : Int32} (T : StR rf bad no full) (a : Int32) :
    ∃ r rf' bad' LV' pa' ps' row' v', f_Ai_take LV (nI (v 188)) rf pa ps a = some (r, rf', LV', pa', nI (v' 188), ps') ∧ f_Mo_take bad row a = some (r, row', bad') ∧ StR rf' bad' no full ∧ TwoL row' v' W ev fc lc MK LV' gr ar ki ce se pa' ∧ PsR v' ps' ∧ (∀ i, i < 147 → v' i = v i) ∧ ∀ i, ¬ (147 ≤ i ∧ i < 517) → row' i = row i := by
  have B := refuse_bad T (-2)
  have hLV : LV = nI (v 147) := S.2.2.2.1.2.2.1
  have hw := S.2.1.2.2.2.2.2.2.2.2.2
  have h8 := hw.1
  have s5 := S.2.2.2.1.2.2.2.2.1
  unfold f_Ai_take f_Mo_take
  rcases in_or a (n := v 147) (by omega) with ⟨l, hl, rfl⟩ | ⟨q1, q2⟩
  rotate_left
  · rw [hLV, bd_some (isLeave_f q1), bd_some (mLeave_f S.1 (show v 147 < 2 ^ 31 by omega) q2), if_pos rfl, if_pos rfl, bd_some (refuse_is B.1), bd_some (isBad_eq bad)]
    exact ⟨_, _, _, _, _, _, _, v, rfl, rfl, B.2, hLV ▸ S, P, fun _ _ => rfl, fun _ _ => rfl⟩
  obtain ⟨ps', c1, c2⟩ := kp_cls P hw (pa := pa) s5
  obtain ⟨row1, d1, d2, d3⟩ := kp_ref S.1 P.1
  have S1 := TwoL_kp S d2
  have e147 : kp v 147 = v 147 := kp_lo (by omega)
  have e122 : kp v 122 = v 122 := kp_lo (by omega)
  have r147 : row1 147 = nI (v 147) := by rw [d2 147 (by omega) (by omega), e147]
  have hs : nI (v 147) - 1 = nI (v 147 - 1) := by rw [show (1 : Int32) = nI 1 from rfl, pk_sub (by omega)]
  have ht := take_ref (row := upd row1 147 (nI (v 147 - 1))) (n := v 147 - 1) (l := l) (α := Nat) (by omega) (by omega) upd_same
  rw [hLV, bd_some (isLeave_t (show v 147 < 2 ^ 31 by omega) hl), bd_some (mLeave_t S.1 (show v 147 < 2 ^ 31 by omega) hl), if_neg (by decide), if_neg (by decide), bd_some c1, bd_some d1]
  dsimp only
  rw [bd_some (drop_cls h8 hl), m147, r147, hs, ltE, show (5 : Int32) = nI 5 from rfl, pk_mul, ltE, jnE, ht, seg_out (by omega), upd_same]
  dsimp only
  have hT : ∀ j, j < 147 → td (kp v) l j = v j := fun j hj => by rw [td_out (by omega) (by omega), kp_lo (by omega)]
  have hR : Rm (seg (148 + 5 * l) (5 * (v 147 - 1) - 5 * l) (fun j => upd row1 147 (nI (v 147 - 1)) (j + 5)) (upd row1 147 (nI (v 147 - 1)))) (td (kp v) l) := by
    intro i h1 h2
    by_cases q : 148 + 5 * l ≤ i ∧ i < 143 + 5 * v 147
    · rw [seg_in q.1 (by omega), upd_ne (by omega), d2 _ (by omega) (by omega), td_in q.1 (by rw [e147]; exact q.2)]
    · rw [seg_out (by omega)]
      by_cases q2 : i = 147
      · rw [q2, upd_same, td147, e147]
      · rw [upd_ne q2, d2 i h1 h2, td_out q2 (by rw [e147]; exact q)]
  have hL : WFL (td (kp v) l) := by
    have hw1 : WFL (kp v) := S1.2.1.2.2.2.2.2.2.2.2.2
    refine ⟨by rw [td147, e147]; omega, fun j hj => ?_⟩
    rw [td147, e147] at hj
    rw [td_out (j := 122) (by omega) (by omega)]
    by_cases q : l ≤ j
    · have := hw1.2 (j + 1) (by rw [e147]; omega)
      rw [td_in (j := 148 + 5 * j) (by omega) (by omega), td_in (j := 149 + 5 * j) (by omega) (by omega), td_in (j := 150 + 5 * j) (by omega) (by omega), td_in (j := 151 + 5 * j) (by omega) (by omega), td_in (j := 152 + 5 * j) (by omega) (by omega)]
      exact this
    · have := hw1.2 j (by rw [e147]; omega)
      rw [td_out (j := 148 + 5 * j) (by omega) (by omega), td_out (j := 149 + 5 * j) (by omega) (by omega), td_out (j := 150 + 5 * j) (by omega) (by omega), td_out (j := 151 + 5 * j) (by omega) (by omega), td_out (j := 152 + 5 * j) (by omega) (by omega)]
      exact this
  have hS := TwoL_lv S hR hT hL (pa' := seg (5 * l) (5 * (v 147 - 1) - 5 * l) (fun j => pa (j + 5)) pa) (fun j hj => by
    rw [td147, e147] at hj
    by_cases q : 5 * l ≤ j
    · rw [seg_in q (by omega), td_in (by omega) (by omega), kp_lo (by omega), s5 _ (by omega)]
      exact congrArg nI (congrArg v (by omega))
    · rw [seg_out (by omega), td_out (by omega) (by omega), kp_lo (by omega), s5 _ (by omega)])
  rw [td147, e147] at hS
  have e188 : td (kp v) l 188 = kp v 188 := td_out (by omega) (by omega)
  refine ⟨_, _, _, _, _, ps', _, td (kp v) l, by rw [e188], rfl, T, hS, PsR_ag c2 ?_ ?_ fun i h1 h2 => td_out (by omega) (by omega), hT, fun i hi => ?_⟩
  · rw [td_out (by omega) (by omega)]
    exact Nat.le_refl _
  · rw [e188]
    exact Nat.le_refl _
  · rw [seg_out (by omega), upd_ne (by omega), d3 i (by omega)]
/-- what is left when one more is undone -/
def ud (v : Nat → Nat) : Nat → Nat := fun j => if j = 188 then v 188 - 1 else if 147 ≤ j ∧ j < 188 then v (148 + 41 * v 188 + (j - 147)) else v j
theorem ud188 {v : Nat → Nat} : ud v 188 = v 188 - 1 := if_pos rfl
theorem ud_in {v : Nat → Nat} {j : Nat} (h1 : 147 ≤ j) (h2 : j < 188) : ud v j = v (148 + 41 * v 188 + (j - 147)) := by
  unfold ud
  rw [if_neg (by omega), if_pos ⟨h1, h2⟩]
theorem ud_out {v : Nat → Nat} {j : Nat} (h : ¬ (147 ≤ j ∧ j < 189)) : ud v j = v j := by
  unfold ud
  rw [if_neg (by omega), if_neg (by omega)]
theorem undo_ref {row : Nat → Int32} {p : Nat} (hp : p < 8) (h8 : row 188 = nI p) (J : (Nat → Int32) → Option (Int32 × (Nat → Int32) × Int32)) : lp (f_Mo_undo_L32 J) FU (0, row) = J (seg 147 41 (fun j => row (189 + 41 * p + (j - 147))) row) := by
  obtain ⟨y, rfl, h⟩ := lp_fam (f := f_Mo_undo_L32) (fun i (y : Int32 × (Nat → Int32)) => y = (nI i, seg 147 i (fun j => row (189 + 41 * p + (j - 147))) row)) 41 (by decide) (by
    rintro i _ hi rfl
    refine ⟨_, rfl, fun J rec => ?_⟩
    unfold f_Mo_undo_L32
    dsimp only
    rw [if_neg (show ¬ (41 : Int32) ≤ nI i from nI_ge (b := 41) hi (by decide)), m188, seg_out (show ¬ (147 ≤ 188 ∧ 188 < 147 + i) by omega), h8, show (189 : Int32) = nI 189 from rfl, show (41 : Int32) = nI 41 from rfl, show (147 : Int32) = nI 147 from rfl, pk_mul, nIa, nIa, nIa, gd_nI (show 189 + 41 * p + i < 1551 by omega) (by decide), gd_nI (show 147 + i < 1551 by omega) (by decide), ltE, ltE, nI_clamp (show 189 + 41 * p + i < 2 ^ 31 by omega), nI_clamp (show 147 + i < 2 ^ 31 by omega), nI1, seg_out (show ¬ (147 ≤ 189 + 41 * p + i ∧ 189 + 41 * p + i < 147 + i) by omega), seg_s rfl (by rw [Nat.add_sub_cancel_left])]) (x0 := ((0 : Int32), row)) (by rw [seg_0]; rfl)
  obtain ⟨rec, q⟩ := h J
  rw [q]
  unfold f_Mo_undo_L32
  dsimp only
  rw [if_pos (show (41 : Int32) ≤ nI 41 from by decide)]
theorem undo_call {row : Nat → Int32} {v : Nat → Nat} {W : Int32} {ev fc lc : Int64} {MK LV : Int32} {gr ar : Nat → Int64} {ki ce se pa : Nat → Int32} (S : TwoL row v W ev fc lc MK LV gr ar ki ce se pa) {ps : Nat → Int32} (P : PsR v ps) {rf : Nat → Int32} {bad no full : Int32} (T : StR rf bad no full) :
    ∃ r rf' no' LV' pa' row' v', f_Ai_undo LV (nI (v 188)) rf pa ps = some (r, rf', LV', pa', nI (v' 188)) ∧ f_Mo_undo no row = some (r, row', no') ∧ StR rf' bad no' full ∧ TwoL row' v' W ev fc lc MK LV' gr ar ki ce se pa' ∧ PsR v' ps ∧ (∀ i, i < 147 → v' i = v i) ∧ ∀ i, ¬ (147 ≤ i ∧ i < 517) → row' i = row i := by
  have B := refuse_no T (-3)
  have h8 := P.1
  have r188 : row 188 = nI (v 188) := S.1 188 (by decide) (by decide)
  unfold f_Ai_undo f_Mo_undo
  rw [m188, r188]
  by_cases h0 : v 188 = 0
  · rw [if_neg (show ¬ (1 : Int32) ≤ nI (v 188) from by rw [h0]; decide), if_pos (show nI (v 188) = 0 from by rw [h0]; rfl), bd_some (refuse_is B.1), bd_some (isNo_eq no (-3))]
    exact ⟨_, _, _, _, _, _, v, rfl, rfl, B.2, S, P, fun _ _ => rfl, fun _ _ => rfl⟩
  have hp : v 188 - 1 < v 188 := by omega
  obtain ⟨p1, p2, p3⟩ := P.2 (v 188 - 1) hp
  have hn8 := PsR_n P hp
  have hs : nI (v 188) - 1 = nI (v 188 - 1) := by rw [show (1 : Int32) = nI 1 from rfl, pk_sub (by omega)]
  have i1 : 189 + 41 * (v 188 - 1) = 148 + 41 * v 188 := by omega
  have e147 : ud v 147 = v (148 + 41 * v 188) := ud_in (by omega) (by omega)
  have bk : f_Ld_goBack LV (nI (v 188)) pa ps = some (nI (ud v 147), va_cpy ps pa (41 * (v 188 - 1) + 1) 0 40, nI (v 188 - 1)) := by
    unfold f_Ld_goBack
    simp only [if_neg (show ¬ nI (v 188) ≤ 0 from nI_ge (a := 0) (b := v 188) (by omega) (by omega)), hs, show (41 : Int32) = nI 41 from rfl, pk_mul, ltE, show (v 188 - 1) * 41 = 41 * (v 188 - 1) from Nat.mul_comm _ _, nI1]
    rw [gd_nI (show 41 * (v 188 - 1) < 328 by omega) (by decide), gd_t (by
      unfold cpOk
      refine decide_eq_true ⟨nI_pos (by omega), by decide, by decide, ?_, by decide⟩
      rw [nI_clamp (by omega), show ((40 : Int32).toNatClampNeg) = 40 from by decide]
      omega)]
    rw [show ((0 : Int32).toNatClampNeg) = 0 from by decide, show ((40 : Int32).toNatClampNeg) = 40 from by decide, nI_clamp (show 41 * (v 188 - 1) < 2 ^ 31 by omega), nI_clamp (show 41 * (v 188 - 1) + 1 < 2 ^ 31 by omega), p2, e147, i1]
  have hT : ∀ j, j < 147 → ud v j = v j := fun j hj => ud_out (by omega)
  have hR : Rm (seg 147 41 (fun j => upd row 188 (nI (v 188 - 1)) (189 + 41 * (v 188 - 1) + (j - 147))) (upd row 188 (nI (v 188 - 1)))) (ud v) := by
    intro i h1 h2
    by_cases q : 147 ≤ i ∧ i < 188
    · rw [seg_in q.1 (by omega), upd_ne (by omega), S.1 _ (by omega) (by omega), ud_in q.1 q.2, i1]
    · rw [seg_out (by omega)]
      by_cases q2 : i = 188
      · rw [q2, upd_same, ud188]
      · rw [upd_ne q2, S.1 i h1 h2, ud_out (by omega)]
  have hL : WFL (ud v) := WFL_ag p1 (by rw [ud_out (by omega), sh_ne (by omega)]) fun i h1 h2 => by
    rw [ud_in h1 h2, sh_at h1 h2]
    exact congrArg v (by omega)
  have hS := TwoL_lv S hR hT hL (pa' := va_cpy ps pa (41 * (v 188 - 1) + 1) 0 40) (fun j hj => by
    rw [e147] at hj
    rw [i1] at hn8 p3
    rw [ud_in (by omega) (by omega)]
    unfold va_cpy
    rw [if_pos (by omega), Nat.sub_zero, p3 j hj]
    exact congrArg nI (congrArg v (by omega)))
  have hr : seg 147 41 (fun j => upd row 188 (nI (v 188 - 1)) (189 + 41 * (v 188 - 1) + (j - 147))) (upd row 188 (nI (v 188 - 1))) 147 = nI (ud v 147) := hR 147 (by decide) (by decide)
  rw [if_pos (show (1 : Int32) ≤ nI (v 188) from nI_le (a := 1) (by omega) (by omega)), if_neg (show ¬ nI (v 188) = 0 from fun z => h0 ((nI_eq (b := 0) (by omega) (by decide)).mp z)), bd_some bk, hs, ltE, jnE, undo_ref (p := v 188 - 1) (by omega) upd_same, m147, hr]
  dsimp only
  exact ⟨_, _, _, _, _, _, ud v, by rw [ud188], rfl, T, hS, PsR_ag P (by rw [ud_out (by omega)]; exact Nat.le_refl _) (by rw [ud188]; omega) fun i h1 h2 => ud_out (by omega), hT, fun i hi => by rw [seg_out (by omega), upd_ne (by omega)]⟩

/-! still: the searches -/
theorem sub_lt {a b : Nat} (h : sub a b) (hne : a ≠ b) : a < b := by
  have := sub_le h
  omega
theorem nI_cle {a b : Nat} (ha : a ≤ 8) (hb : b ≤ 8) : nI a ≤ nI b ↔ a ≤ b := nI_leI (by omega) (by omega)
theorem ct_le (x : Nat) : ct x ≤ 8 := cnt_le _ _
def clsB (v : Nat → Nat) (hr ld q H i b : Nat) : Prop := sub b H ∧ Stl v hr ld q b ∧ (∀ g, g < i → sub g H → Stl v hr ld q g → lex b g) ∧ (b = H ∨ b < i)
set_option maxRecDepth 100000 in
theorem still_cls {row : Nat → Int32} {v : Nat → Nat} {W : Int32} {ev fc lc : Int64} {MK LV : Int32} {gr ar : Nat → Int64} {ki ce se pa : Nat → Int32} (S : TwoL row v W ev fc lc MK LV gr ar ki ce se pa) {hr ld q H : Nat} (hl : 1 ≤ ld) (hl2 : ld ≤ 20) (hhr : hr < 24) (hH : H < 256) (hq : q < v 0 * v 1) (hS : Stl v hr ld q H) (rf : Nat → Int32) (aN sl : Nat) (s1 s2 s3 s4 s5 : Int32) (s6 s7 : Int64) (may ways echo echoes : Nat → Int64) :
    ∃ b X, lp (f_Ai_still_L57 aN W ev fc lc MK LV rf gr ar ki ce se pa (nI ld) (nI hr) (nI q) (nI H)) FU (nI H, 0, sl, s1, s2, s3, s4, s5, may, ways, echo, echoes, s6, s7) = some (nI b, rf, X) ∧ sub b H ∧ Stl v hr ld q b ∧ ∀ g, sub g H → Stl v hr ld q g → lex b g := by
  refine lp_or (fun i (x : Int32 × Int32 × Nat × Int32 × Int32 × Int32 × Int32 × Int32 × (Nat → Int64) × (Nat → Int64) × (Nat → Int64) × (Nat → Int64) × Int64 × Int64) => x.2.1 = nI i ∧ ∃ b, x.1 = nI b ∧ clsB v hr ld q H i b) (fun r => ∃ b X, r = some (nI b, rf, X) ∧ sub b H ∧ Stl v hr ld q b ∧ ∀ g, sub g H → Stl v hr ld q g → lex b g) H (by omega) ?_ ?_ ⟨rfl, H, rfl, fun _ h => h, hS, fun g hg => by omega, Or.inl rfl⟩
  · rintro i ⟨x26, x27, x28, x29, x30, x31, x32, x33, x34, x35, x36, x37, x38, x39⟩ hi ⟨e, b, e2, p1, p2, p3, p4⟩
    dsimp only at e e2
    subst e; subst e2
    have hb : b < 256 := by omega
    have keep : (¬ sub i H ∨ ct b ≤ ct i ∨ ¬ Stl v hr ld q i) → clsB v hr ld q H (i + 1) b := by
      intro h
      refine ⟨p1, p2, fun g hg g1 g2 => ?_, by omega⟩
      by_cases e : g = i
      · subst e
        rcases h with h | h | h
        · exact absurd g1 h
        · rcases p4 with p4 | p4
          · subst p4
            have := sub_eq (by omega) hH g1 h
            omega
          · unfold lex
            omega
        · exact absurd g2 h
      · exact p3 g (by omega) g1 g2
    obtain ⟨z, y1, y2, y3, y4, y5, y6, y7, y8, y9, y10, y11, y12, z1, z2⟩ := isStill_cls S hl hl2 hhr (g := i) (by omega) hq aN x28 x29 x30 x31 x32 x33 x38 x39 x34 x35 x36 x37
    unfold f_Ai_still_L57
    dsimp only
    simp only [if_neg (nI_ge hi (show H < 2 ^ 31 by omega)), jnE, bd_some (ji_count i (by omega)), bd_some (ji_count b hb), bd_some z1, ltE, nI1]
    by_cases g1 : sub i H
    · by_cases g2 : ct b ≤ ct i
      · refine Or.inl ⟨(nI b, nI (i + 1), x28, x29, x30, x31, x32, x33, x34, x35, x36, x37, x38, x39), ⟨rfl, b, rfl, keep (Or.inr (Or.inl g2))⟩, fun rec => ?_⟩
        rw [if_pos ((sub_int (by omega)).mpr g1), if_pos ((nI_cle (ct_le _) (ct_le _)).mpr g2), if_pos trivial]
      · have g2' : ¬ nI (ct b) ≤ nI (ct i) := fun z => g2 ((nI_cle (ct_le _) (ct_le _)).mp z)
        rcases z2 with ⟨z2, z3⟩ | ⟨z2, z3⟩
        · subst z2
          refine Or.inl ⟨(nI i, nI (i + 1), y1, y2, y3, y4, y5, y6, y7, y8, y9, y10, y11, y12), ⟨rfl, i, rfl, g1, z3, fun g hg h1 h2 => ?_, Or.inr (by omega)⟩, fun rec => ?_⟩
          · by_cases e : g = i
            · subst e
              exact Or.inr ⟨rfl, Nat.le_refl _⟩
            · have := p3 g (by omega) h1 h2
              unfold lex at this ⊢
              omega
          · rw [if_pos ((sub_int (by omega)).mpr g1), if_neg g2', if_neg (show ¬ (1 : Int32) = 0 from by decide), if_neg (show ¬ (1 : Int32) = 0 from by decide)]
        · subst z2
          refine Or.inl ⟨(nI b, nI (i + 1), y1, y2, y3, y4, y5, y6, y7, y8, y9, y10, y11, y12), ⟨rfl, b, rfl, keep (Or.inr (Or.inr z3))⟩, fun rec => ?_⟩
          rw [if_pos ((sub_int (by omega)).mpr g1), if_neg g2', if_neg (show ¬ (1 : Int32) = 0 from by decide), if_pos rfl]
    · refine Or.inl ⟨(nI b, nI (i + 1), x28, x29, x30, x31, x32, x33, x34, x35, x36, x37, x38, x39), ⟨rfl, b, rfl, keep (Or.inl g1)⟩, fun rec => ?_⟩
      rw [if_neg (fun z => g1 ((sub_int (by omega)).mp z)), if_pos trivial]
  · rintro ⟨x26, x27, x28, x29, x30, x31, x32, x33, x34, x35, x36, x37, x38, x39⟩ ⟨e, b, e2, p1, p2, p3, p4⟩ rec
    dsimp only at e e2
    subst e; subst e2
    unfold f_Ai_still_L57
    dsimp only
    rw [if_pos (nI_le (Nat.le_refl _) (by omega))]
    refine ⟨b, _, rfl, p1, p2, fun g h1 h2 => ?_⟩
    by_cases e : g = H
    · rw [e]
      exact lex_sub p1
    · exact p3 g (sub_lt h1 e) h1 h2
theorem nI_m1 {b : Nat} (hb : b < 2 ^ 31) : ¬ nI b = -1 := fun z => by
  have := nI_pos hb
  rw [z] at this
  exact this (by decide)
def refB (v : Nat → Nat) (hr ld q i : Nat) (x : Int32) : Prop := (x = -1 ∧ ∀ g, g < i → ¬ Stl v hr ld q g) ∨ ∃ b, x = nI b ∧ b < i ∧ Stl v hr ld q b ∧ ∀ g, g < i → Stl v hr ld q g → lex b g
set_option maxRecDepth 100000 in
theorem still_ref {row : Nat → Int32} {v : Nat → Nat} (R : Rm row v) (W : WFv v) {hr ld q : Nat} (hl : 1 ≤ ld) (hl2 : ld ≤ 20) (hhr : hr < 24) (hq : q < v 0 * v 1) (go kd mk ow ho bu : Int32) (comes direct all tried : Nat → Int32) {β : Type} (Z : Option (Int32 × Int32 × (Nat → Int32) × (Nat → Int32) × (Nat → Int32) × (Nat → Int32) × Int32 × Int32 × Int32 × Int32 × Int32) → Prop) (J : (Int32 × (Nat → Int32) × (Nat → Int32) × (Nat → Int32) × (Nat → Int32) × Int32 × Int32 × Int32 × Int32 × Int32) → Option (Int32 × Int32 × (Nat → Int32) × (Nat → Int32) × (Nat → Int32) × (Nat → Int32) × Int32 × Int32 × Int32 × Int32 × Int32)) (hJ : ∀ x X, refB v hr ld q (2 ^ v 147) x → Z (J (x, X))) :
    Z (lp (f_Mo_still_L33 0 0 0 bu row (nI ld) (nI hr) (nI q) J) FU (-1, 0, comes, direct, all, tried, go, kd, mk, ow, ho)) := by
  have h8 := W.2.2.2.2.2.2.2.2.2.1
  have h256 : 2 ^ v 147 ≤ 2 ^ 8 := Nat.pow_le_pow_right (by decide) h8
  have r147 : row (147 : Int32).toNatClampNeg = nI (v 147) := R 147 (by decide) (by decide)
  refine lp_or (fun i (x : Int32 × Int32 × (Nat → Int32) × (Nat → Int32) × (Nat → Int32) × (Nat → Int32) × Int32 × Int32 × Int32 × Int32 × Int32) => x.2.1 = nI i ∧ refB v hr ld q i x.1) Z (2 ^ v 147) (by omega) ?_ ?_ ⟨rfl, Or.inl ⟨rfl, fun g hg => by omega⟩⟩
  · rintro i ⟨x20, x21, x22, x23, x24, x25, x26, x27, x28, x29, x30⟩ hi ⟨e, p⟩
    dsimp only at e p
    subst e
    have hi256 : i < 256 := by omega
    obtain ⟨z, y1, y2, y3, y4, y5, y6, y7, y8, z1, z2⟩ := isStill_ref R W hl hl2 hhr (g := i) hi256 hq x27 x28 x29 x30 bu x22 x23 x24 x25
    unfold f_Mo_still_L33
    dsimp only
    simp only [r147, shl_one (v 147) (by omega), if_neg (nI_ge hi (show 2 ^ v 147 < 2 ^ 31 by omega)), jnE, bd_some (bits_eq hi256), bd_some z1, ltE, nI1]
    rcases p with ⟨rfl, p⟩ | ⟨b, rfl, p1, p2, p3⟩
    · simp only [if_pos trivial]
      rcases z2 with ⟨rfl, z3⟩ | ⟨rfl, z3⟩
      · refine Or.inl ⟨(nI i, nI (i + 1), y1, y2, y3, y4, nI i, y5, y6, y7, y8), ⟨rfl, Or.inr ⟨i, rfl, by omega, z3, fun g hg h => ?_⟩⟩, fun rec => by rw [if_neg (by decide)]⟩
        by_cases e : g = i
        · subst e
          exact Or.inr ⟨rfl, Nat.le_refl _⟩
        · exact absurd h (p g (by omega))
      · refine Or.inl ⟨(-1, nI (i + 1), y1, y2, y3, y4, nI i, y5, y6, y7, y8), ⟨rfl, Or.inl ⟨rfl, fun g hg h => ?_⟩⟩, fun rec => by rw [if_pos rfl]⟩
        by_cases e : g = i
        · subst e
          exact z3 h
        · exact p g (by omega) h
    · simp only [if_neg (nI_m1 (show b < 2 ^ 31 by omega)), bd_some (bits_eq (show b < 256 by omega))]
      by_cases g2 : ct b ≤ ct i
      · refine Or.inl ⟨(nI b, nI (i + 1), x22, x23, x24, x25, x26, x27, x28, x29, x30), ⟨rfl, Or.inr ⟨b, rfl, by omega, p2, fun g hg h => ?_⟩⟩, fun rec => by rw [if_pos ((nI_cle (ct_le _) (ct_le _)).mpr g2)]⟩
        by_cases e : g = i
        · subst e
          unfold lex
          omega
        · exact p3 g (by omega) h
      · have g2' : ¬ nI (ct b) ≤ nI (ct i) := fun z => g2 ((nI_cle (ct_le _) (ct_le _)).mp z)
        rcases z2 with ⟨rfl, z3⟩ | ⟨rfl, z3⟩
        · refine Or.inl ⟨(nI i, nI (i + 1), y1, y2, y3, y4, nI i, y5, y6, y7, y8), ⟨rfl, Or.inr ⟨i, rfl, by omega, z3, fun g hg h => ?_⟩⟩, fun rec => by rw [if_neg g2', if_neg (by decide)]⟩
          by_cases e : g = i
          · subst e
            exact Or.inr ⟨rfl, Nat.le_refl _⟩
          · have := p3 g (by omega) h
            unfold lex at this ⊢
            omega
        · refine Or.inl ⟨(nI b, nI (i + 1), y1, y2, y3, y4, nI i, y5, y6, y7, y8), ⟨rfl, Or.inr ⟨b, rfl, by omega, p2, fun g hg h => ?_⟩⟩, fun rec => by rw [if_neg g2', if_pos rfl]⟩
          by_cases e : g = i
          · subst e
            exact absurd h z3
          · exact p3 g (by omega) h
  · rintro ⟨x20, x21, x22, x23, x24, x25, x26, x27, x28, x29, x30⟩ ⟨e, p⟩ rec
    dsimp only at e p
    subst e
    unfold f_Mo_still_L33
    dsimp only
    rw [r147, shl_one (v 147) (by omega), if_pos (nI_le (Nat.le_refl _) (by omega))]
    exact hJ _ _ p
theorem still_call {row : Nat → Int32} {v : Nat → Nat} {W : Int32} {ev fc lc : Int64} {MK LV : Int32} {gr ar : Nat → Int64} {ki ce se pa : Nat → Int32} (S : TwoL row v W ev fc lc MK LV gr ar ki ce se pa) {rf : Nat → Int32} {bad no full : Int32} (T : StR rf bad no full) (aN sl : Nat) (s1 s2 s3 s4 s5 : Int32) (s6 s7 : Int64) (may ways echo echoes : Nat → Int64) (kd mk ow ho bu : Int32) (comes direct all tried : Nat → Int32) (a b c : Int32) :
    ∃ r rf' bad' X x1 x2 x3 x4 Y, f_Ai_still aN W (nI (v 1)) ev fc lc MK LV sl s1 s2 s3 s4 s5 s6 s7 rf gr ar ki ce se pa may ways echo echoes a b c = some (r, rf', X) ∧ f_Mo_still bad 0 0 0 0 kd mk ow ho bu row comes direct all tried a b c = some (r, bad', x1, x2, x3, x4, 0, Y) ∧ StR rf' bad' no full := by
  obtain ⟨k1, rfl, k3, k4⟩ := TwoL_mk S
  have hW : W = nI (v 0) := S.2.2.1.2.2.2.1
  have hLV : LV = nI (v 147) := S.2.2.2.1.2.2.1
  have hwf := S.2.1
  have hwl := hwf.2.2.2.2.2.2.2.2.2
  have B := refuse_bad T (-2)
  have bad2 : ∃ r rf' bad' X x1 x2 x3 x4 Y, (bd (f_Ai_refuse rf (-2)) fun ((x3, x4) : Int32 × (Nat → Int32)) => some (x3, x4, sl, s1, s2, s3, s4, s5, may, ways, echo, echoes, s6, s7)) = some (r, rf', X) ∧ (bd (f_Mo_isBad bad) fun ((x3, x4) : Int32 × Int32) => some (x3, x4, comes, direct, all, tried, (0 : Int32), kd, mk, ow, ho)) = some (r, bad', x1, x2, x3, x4, 0, Y) ∧ StR rf' bad' no full := by
    rw [bd_some (refuse_is B.1), bd_some (isBad_eq bad)]
    exact ⟨_, _, _, _, _, _, _, _, _, rfl, rfl, B.2⟩
  unfold f_Ai_still f_Mo_still
  rcases loud_or a with ⟨ld, hl, hl2, rfl⟩ | ⟨q1, q2⟩
  rotate_left
  · rw [bd_some (isLoud_f q1), bd_some (mLoud_f q2), jnE, jnE, if_pos rfl, if_pos rfl]
    exact bad2
  rw [bd_some (isLoud_t hl hl2), bd_some (mLoud_t hl hl2), jnE, jnE, if_neg (show ¬ (1 : Int32) = 0 from by decide), if_neg (show ¬ (1 : Int32) = 0 from by decide)]
  rcases in_or b (n := 24) (by decide) with ⟨hr, hhr, rfl⟩ | ⟨q1, q2⟩
  rotate_left
  · rw [bd_some (isHour_f q1), bd_some (mHour_f q2), if_pos rfl, if_pos rfl]
    exact bad2
  rw [bd_some (isHour_t hhr), bd_some (mHour_t hhr), if_neg (show ¬ (1 : Int32) = 0 from by decide), if_neg (show ¬ (1 : Int32) = 0 from by decide)]
  rcases in_or c (n := v 0 * v 1) (by omega) with ⟨q, hq, rfl⟩ | ⟨q1, q2⟩
  rotate_left
  · rw [hW, bd_some (isCell_f q1), bd_some (mCell_f S.1 (by omega) q2), if_pos rfl, if_pos rfl]
    exact bad2
  have i1 : f_Ai_isCell W (nI (v 1)) (nI q) = some 1 := by rw [hW]; exact isCell_t (by omega) hq
  obtain ⟨H, H1, H2, H3⟩ := leavesIn_eq hwl S.2.2.2.1.2.2.2.2.1 hhr
  have h256 : 2 ^ v 147 ≤ 2 ^ 8 := Nat.pow_le_pow_right (by decide) hwl.1
  obtain ⟨z, y1, y2, y3, y4, y5, y6, y7, y8, y9, y10, y11, y12, z1, z2⟩ := isStill_cls S hl hl2 hhr (g := H) (by omega) hq aN sl s1 s2 s3 s4 s5 s6 s7 may ways echo echoes
  rw [← hLV] at H2
  rw [bd_some i1, bd_some (mCell_t S.1 (by omega) hq), if_neg (show ¬ (1 : Int32) = 0 from by decide), if_neg (show ¬ (1 : Int32) = 0 from by decide), bd_some H2, bd_some z1, jnE]
  dsimp only
  rcases z2 with ⟨rfl, z3⟩ | ⟨rfl, z3⟩
  · rw [if_neg (show ¬ (1 : Int32) = 0 from by decide)]
    obtain ⟨b, X, c1, c2, c3, c4⟩ := still_cls S hl hl2 hhr (H := H) (by omega) hq z3 rf aN y1 y2 y3 y4 y5 y6 y11 y12 y7 y8 y9 y10
    rw [c1]
    have key := still_ref S.1 hwf hl hl2 hhr hq 0 kd mk ow ho bu comes direct all tried (β := Nat) (fun r => ∃ bad' x1 x2 x3 x4 Y, r = some (nI b, bad', x1, x2, x3, x4, 0, Y) ∧ StR rf bad' no full) (fun ((x10, x11, x12, x13, x14, x15, x16, x17, x18, x19) : Int32 × (Nat → Int32) × (Nat → Int32) × (Nat → Int32) × (Nat → Int32) × Int32 × Int32 × Int32 × Int32 × Int32) => some (x10, bad, x11, x12, x13, x14, 0, x16, x17, x18, x19)) (by
      rintro x ⟨x11, x12, x13, x14, x15, x16, x17, x18, x19⟩ h
      rcases h with ⟨h1, h2⟩ | ⟨g, rfl, h1, h2, h3⟩
      · exact absurd z3 (h2 H H1)
      · have e : g = b := by
          have a1 := h3 b (Nat.lt_of_le_of_lt (sub_le c2) H1) c3
          have a2 := c4 (g &&& H) (and_sub g H).2 ((Stl_cg (fun j hj => by rw [Nat.testBit_and, (H3 j).mpr hj, Bool.and_true])).mp h2)
          have a3 := sub_ct (and_sub g H).1
          have a4 := sub_le (and_sub g H).1
          unfold lex at a1 a2
          omega
        subst e
        exact ⟨_, _, _, _, _, _, rfl, T⟩)
    obtain ⟨bad', x1, x2, x3, x4, Y, k1, k2⟩ := key
    exact ⟨_, _, _, _, _, _, _, _, _, rfl, k1, k2⟩
  · rw [if_pos rfl]
    have key := still_ref S.1 hwf hl hl2 hhr hq 0 kd mk ow ho bu comes direct all tried (β := Nat) (fun r => ∃ bad' x1 x2 x3 x4 Y, r = some (-1, bad', x1, x2, x3, x4, 0, Y) ∧ StR rf bad' no full) (fun ((x10, x11, x12, x13, x14, x15, x16, x17, x18, x19) : Int32 × (Nat → Int32) × (Nat → Int32) × (Nat → Int32) × (Nat → Int32) × Int32 × Int32 × Int32 × Int32 × Int32) => some (x10, bad, x11, x12, x13, x14, 0, x16, x17, x18, x19)) (by
      rintro x ⟨x11, x12, x13, x14, x15, x16, x17, x18, x19⟩ h
      rcases h with ⟨rfl, h2⟩ | ⟨g, rfl, h1, h2, h3⟩
      · exact ⟨_, _, _, _, _, _, rfl, T⟩
      · exact absurd (Stl_all hl hl2 k4 (fun j hj => (H3 j).mpr hj) h2) z3)
    obtain ⟨bad', x1, x2, x3, x4, Y, k1, k2⟩ := key
    exact ⟨_, _, _, _, _, _, _, _, _, rfl, k1, k2⟩

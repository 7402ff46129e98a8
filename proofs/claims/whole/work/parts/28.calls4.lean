/-! first, peal -/
def Zst {α β γ : Type} (rf : Nat → Int32) (bad : Int32) (A : Option (α × (Nat → Int32) × β)) (B : Option (α × Int32 × γ)) : Prop := ∃ r X Y, A = some (r, rf, X) ∧ B = some (r, bad, Y)
theorem same_st {α β γ : Type} {rf : Nat → Int32} {bad no full : Int32} (T : StR rf bad no full) {A : Option (α × (Nat → Int32) × β)} {B : Option (α × Int32 × γ)} (h : Zst rf bad A B) : ∃ r rf' bad' X Y, A = some (r, rf', X) ∧ B = some (r, bad', Y) ∧ StR rf' bad' no full := by
  obtain ⟨r, X, Y, q1, q2⟩ := h
  exact ⟨r, rf, bad, X, Y, q1, q2, T⟩
theorem nI_gt {k n : Nat} (hk : k < 2 ^ 31) (hn : n < 2 ^ 31) : nI n < nI k ↔ n < k := nI_ltI hn hk
set_option maxRecDepth 100000 in
theorem first_call {row : Nat → Int32} {v : Nat → Nat} {W : Int32} {ev fc lc : Int64} {MK LV : Int32} {gr ar : Nat → Int64} {ki ce se pa : Nat → Int32} (S : TwoL row v W ev fc lc MK LV gr ar ki ce se pa) {rf : Nat → Int32} {bad no full : Int32} (T : StR rf bad no full) (aN sl : Nat) (s1 s2 s3 s4 s5 : Int32) (s6 s7 : Int64) (may ways echo echoes : Nat → Int64) (kd mk ow ho bu : Int32) (comes direct all tried : Nat → Int32) (a b c d : Int32) :
    ∃ r rf' bad' X Y, f_Ai_first aN W (nI (v 1)) ev fc lc MK LV sl s1 s2 s3 s4 s5 s6 s7 rf gr ar ki ce se pa may ways echo echoes a b c d = some (r, rf', X) ∧ f_Mo_first bad 0 0 0 0 kd mk ow ho bu row comes direct all tried a b c d = some (r, bad', Y) ∧ StR rf' bad' no full := by
  obtain ⟨k1, rfl, k3, k4⟩ := TwoL_mk S
  have hW : W = nI (v 0) := S.2.2.1.2.2.2.1
  have B := refuse_bad T (-2)
  unfold f_Ai_first f_Mo_first
  rcases sound_or S.1 k1 a b c with ⟨m, ld, hr, hm, hl, hl2, hhr, rfl, rfl, rfl, e1, e2⟩ | ⟨e1, e2⟩
  · simp only [bd_some e1, bd_some e2, jnE, if_neg (show ¬ (1 : Int32) = 0 from by decide)]
    rcases in_or d (n := v 0 * v 1) (by omega) with ⟨q, hq, rfl⟩ | ⟨q1, q2⟩
    · have i1 : f_Ai_isCell W (nI (v 1)) (nI q) = some 1 := by rw [hW]; exact isCell_t (by omega) hq
      simp only [bd_some i1, bd_some (mCell_t S.1 (show v 0 * v 1 < 2 ^ 31 by omega) hq), if_neg (show ¬ (1 : Int32) = 0 from by decide)]
      refine same_st T (lp_two (fun i (x : Int32 × Nat × Int32 × Int32 × Int32 × Int32 × Int32 × (Nat → Int64) × (Nat → Int64) × (Nat → Int64) × (Nat → Int64) × Int64 × Int64) (y : Int32 × (Nat → Int32) × (Nat → Int32) × (Nat → Int32) × (Nat → Int32) × Int32 × Int32 × Int32 × Int32) => x.1 = nI (hr + i) ∧ y.1 = nI (hr + i)) (Zst rf bad) (24 - hr) (by omega) ?_ ?_ ⟨rfl, rfl⟩)
      · rintro i ⟨x8, x9, x10, x11, x12, x13, x14, x15, x16, x17, x18, x19, x20⟩ ⟨y8, y9, y10, y11, y12, y13, y14, y15, y16⟩ hi ⟨p1, p2⟩
        dsimp only at p1 p2
        subst p1 p2
        obtain ⟨a1, a2, a3, a4, a5, a6, h1, h2, h3, h4, h5, h6, h7⟩ := makeSound_eq S hm hl hl2 (hr := hr + i) (by omega) x15 x16 x17 x18
        obtain ⟨b1, b2, b3, b4, b5, g1, g2, g3⟩ := lay_eq S.1 S.2.1 (gs0 v) (g := 0) (b := 0) (hr := hr + i) (m := m) (ld := ld) (bu := bu) (by decide) (by decide) (by omega) hm (Or.inl rfl) hl hl2 y9 y10 y11 y12
        have g1' : f_Mo_lay 0 0 0 0 bu row y9 y10 y11 y12 (nI m) (nI ld) (nI (hr + i)) = _ := g1
        have hq3 := q_all k3 g3 h5 q hq
        unfold f_Ai_first_L29 f_Mo_first_L27
        dsimp only
        simp only [if_neg (show ¬ (23 : Int32) < nI (hr + i) from nI_nlt (a := 23) (b := hr + i) (by omega) (by omega)), if_neg (show ¬ (24 : Int32) ≤ nI (hr + i) from nI_ge (b := 24) (by omega) (by decide)), bd_some h1, bd_some g1', bd_some (hasCell_eq a6 (k := q) (by omega)), gd_nI (show q < 36 by omega) (by decide), nI_clamp (show q < 2 ^ 31 by omega), ltE, nI1]
        by_cases ha : tb a6 q = true
        · refine Or.inr fun rec rec' => ?_
          rw [if_pos ha, if_neg (by decide), if_neg (fun z => (hq3.mp z) ha)]
          exact ⟨_, _, _, rfl, rfl⟩
        · refine Or.inl ⟨(nI (hr + i + 1), aN, nI m, nI ld, nI (hr + i), 0, 0, a1, a2, a3, a4, a5, a6), (nI (hr + i + 1), b1, b2, b3, b4, 0, -1, b5, nI (hr + i)), ⟨rfl, rfl⟩, fun rec => ?_, fun rec => ?_⟩
          · rw [if_neg ha, if_pos rfl]
          · rw [if_pos (hq3.mpr ha)]
      · rintro ⟨x8, x9, x10, x11, x12, x13, x14, x15, x16, x17, x18, x19, x20⟩ ⟨y8, y9, y10, y11, y12, y13, y14, y15, y16⟩ ⟨p1, p2⟩ rec rec'
        dsimp only at p1 p2
        rw [show hr + (24 - hr) = 24 from by omega] at p1 p2
        subst p1 p2
        unfold f_Ai_first_L29 f_Mo_first_L27
        dsimp only
        rw [if_pos (by decide), if_pos (by decide)]
        exact ⟨_, _, _, rfl, rfl⟩
    · rw [hW, bd_some (isCell_f q1), bd_some (mCell_f S.1 (by omega) q2), if_pos rfl, if_pos rfl, bd_some (refuse_is B.1), bd_some (isBad_eq bad)]
      exact ⟨_, _, _, _, _, rfl, rfl, B.2⟩
  · simp only [bd_some e1, bd_some e2, jnE, if_pos (show (0 : Int32) = 0 from rfl), bd_some (refuse_is B.1), bd_some (isBad_eq bad)]
    exact ⟨_, _, _, _, _, rfl, rfl, B.2⟩
theorem either_or (p : Int32) : ((p = 0 ∨ p = 1) ∧ f_Ai_isEither p = some 1 ∧ f_Mo_in p.toInt64 0 1 = some 1) ∨ (f_Ai_isEither p = some 0 ∧ f_Mo_in p.toInt64 0 1 = some 0) := by
  unfold f_Ai_isEither
  simp only [jnE]
  by_cases h0 : p = 0
  · subst h0
    exact Or.inl ⟨Or.inl rfl, by decide, by decide⟩
  · by_cases h1 : p = 1
    · subst h1
      exact Or.inl ⟨Or.inr rfl, by decide, by decide⟩
    · refine Or.inr ⟨by rw [if_neg h0, if_neg h1], min_f (a := 0) (b := 1) (by decide) (by decide) fun k _ hk q => ?_⟩
      rcases Nat.eq_zero_or_pos k with z | z
      · subst z; exact h0 q
      · have : k = 1 := by omega
        subst this; exact h1 q
set_option maxRecDepth 100000 in
theorem peal_call {row : Nat → Int32} {v : Nat → Nat} {W : Int32} {ev fc lc : Int64} {MK LV : Int32} {gr ar : Nat → Int64} {ki ce se pa : Nat → Int32} (S : TwoL row v W ev fc lc MK LV gr ar ki ce se pa) {rf : Nat → Int32} {bad no full : Int32} (T : StR rf bad no full) (aN sl : Nat) (s1 s2 s3 s4 s5 : Int32) (s6 s7 : Int64) (may ways echo echoes : Nat → Int64) (kd mk ow ho bu : Int32) (comes direct all tried : Nat → Int32) (a b c : Int32) :
    ∃ r rf' bad' X Y, f_Ai_peal aN W ev fc lc MK LV sl s1 s2 s3 s4 s5 s6 s7 rf gr ar ki ce se pa may ways echo echoes a b c = some (r, rf', X) ∧ f_Mo_peal bad 0 0 0 0 kd mk ow ho bu row comes direct all tried a b c = some (r, bad', Y) ∧ StR rf' bad' no full := by
  obtain ⟨k1, rfl, k3, k4⟩ := TwoL_mk S
  have B := refuse_bad T (-2)
  have bad2 : ∃ r rf' bad' X Y, (bd (f_Ai_refuse rf (-2)) fun ((x3, x4) : Int32 × (Nat → Int32)) => some (x3, x4, sl, s1, s2, s3, s4, s5, may, ways, echo, echoes, s6, s7)) = some (r, rf', X) ∧ (bd (f_Mo_isBad bad) fun ((x3, x4) : Int32 × Int32) => some (x3, x4, comes, direct, all, tried, kd, mk, ow, ho)) = some (r, bad', Y) ∧ StR rf' bad' no full := by
    rw [bd_some (refuse_is B.1), bd_some (isBad_eq bad)]
    exact ⟨_, _, _, _, _, rfl, rfl, B.2⟩
  unfold f_Ai_peal f_Mo_peal
  rcases in_or a (n := v 122) (by omega) with ⟨m, hm, rfl⟩ | ⟨q1, q2⟩
  · simp only [bd_some (isMaker_t (show v 122 < 2 ^ 31 by omega) hm), bd_some (mMaker_t S.1 (show v 122 < 2 ^ 31 by omega) hm), jnE, if_neg (show ¬ (1 : Int32) = 0 from by decide)]
    rcases in_or b (n := 24) (by decide) with ⟨hr, hhr, rfl⟩ | ⟨q1, q2⟩
    · simp only [bd_some (isHour_t hhr), bd_some (mHour_t hhr), if_neg (show ¬ (1 : Int32) = 0 from by decide)]
      rcases either_or c with ⟨hc, i1, i2⟩ | ⟨i1, i2⟩
      · simp only [bd_some i1, bd_some i2, if_neg (show ¬ (1 : Int32) = 0 from by decide)]
        refine same_st T (lp_two (fun i (x : Int32 × Int32 × Int32 × Nat × Int32 × Int32 × Int32 × Int32 × Int32 × (Nat → Int64) × (Nat → Int64) × (Nat → Int64) × (Nat → Int64) × Int64 × Int64) (y : Int32 × Int32 × Int32 × (Nat → Int32) × (Nat → Int32) × (Nat → Int32) × (Nat → Int32) × Int32 × Int32 × Int32 × Int32) => x.1 = y.1 ∧ x.2.1 = y.2.1 ∧ x.2.2.1 = nI (1 + i) ∧ y.2.2.1 = nI (1 + i)) (Zst rf bad) 20 (by omega) ?_ ?_ ⟨rfl, rfl, rfl, rfl⟩)
        · rintro i ⟨x24, x25, x26, x27, x28, x29, x30, x31, x32, x33, x34, x35, x36, x37, x38⟩ ⟨y20, y21, y22, y23, y24, y25, y26, y27, y28, y29, y30⟩ hi ⟨p1, p2, p3, p4⟩
          dsimp only at p1 p2 p3 p4
          subst p1 p2 p3 p4
          obtain ⟨a1, a2, a3, a4, a5, a6, h1, h2, h3, h4, h5, h6, h7⟩ := makeSound_eq S hm (ld := 1 + i) (by omega) (by omega) hhr x33 x34 x35 x36
          obtain ⟨b1, b2, b3, b4, b5, g1, g2, g3⟩ := lay_eq S.1 S.2.1 (gs0 v) (g := 0) (b := 0) (hr := hr) (m := m) (ld := 1 + i) (bu := bu) (by decide) (by decide) hhr hm (Or.inl rfl) (by omega) (by omega) y23 y24 y25 y26
          have g1' : f_Mo_lay 0 0 0 0 bu row y23 y24 y25 y26 (nI m) (nI (1 + i)) (nI hr) = _ := g1
          have hM := heardMany_eq S.1 k3 (q_all k3 g3 h5)
          unfold f_Ai_peal_L38 f_Mo_peal_L39
          dsimp only
          simp only [if_neg (show ¬ (20 : Int32) < nI (1 + i) from nI_nlt (a := 20) (b := 1 + i) (by omega) (by omega)), if_neg (show ¬ (21 : Int32) ≤ nI (1 + i) from nI_ge (b := 21) (by omega) (by decide)), bd_some h1, bd_some g1', bd_some (jl_count a6), bits_n k3 h7, bd_some hM, ltE, jnE, nI1]
          by_cases hb : nI (cnt (tb a6) (v 0 * v 1)) ≤ x25
          · refine Or.inl ⟨(x24, x25, nI (1 + i + 1), aN, nI m, nI (1 + i), nI hr, 0, 0, a1, a2, a3, a4, a5, a6), (x24, x25, nI (1 + i + 1), b1, b2, b3, b4, 0, -1, b5, nI hr), ⟨rfl, rfl, rfl, rfl⟩, fun rec => ?_, fun rec => ?_⟩
            · rw [if_pos hb]
            · rw [if_pos hb, if_pos hb]
          · refine Or.inl ⟨(nI (1 + i), nI (cnt (tb a6) (v 0 * v 1)), nI (1 + i + 1), aN, nI m, nI (1 + i), nI hr, 0, 0, a1, a2, a3, a4, a5, a6), (nI (1 + i), nI (cnt (tb a6) (v 0 * v 1)), nI (1 + i + 1), b1, b2, b3, b4, 0, -1, b5, nI hr), ⟨rfl, rfl, rfl, rfl⟩, fun rec => ?_, fun rec => ?_⟩
            · rw [if_neg hb]
            · rw [if_neg hb, if_neg hb]
        · rintro ⟨x24, x25, x26, x27, x28, x29, x30, x31, x32, x33, x34, x35, x36, x37, x38⟩ ⟨y20, y21, y22, y23, y24, y25, y26, y27, y28, y29, y30⟩ ⟨p1, p2, p3, p4⟩ rec rec'
          dsimp only at p1 p2 p3 p4
          subst p1 p2 p3 p4
          unfold f_Ai_peal_L38 f_Mo_peal_L39
          dsimp only
          rw [if_pos (show (20 : Int32) < nI (1 + 20) from by decide), if_pos (show (21 : Int32) ≤ nI (1 + 20) from by decide)]
          by_cases h0 : c = 0
          · rw [if_pos h0, if_pos h0]
            exact ⟨_, _, _, rfl, rfl⟩
          · rw [if_neg h0, if_neg h0]
            exact ⟨_, _, _, rfl, rfl⟩
      · simp only [bd_some i1, bd_some i2, if_pos (show (0 : Int32) = 0 from rfl)]
        exact bad2
    · simp only [bd_some (isHour_f q1), bd_some (mHour_f q2), if_pos (show (0 : Int32) = 0 from rfl)]
      exact bad2
  · simp only [bd_some (isMaker_f q1), bd_some (mMaker_f S.1 (show v 122 < 2 ^ 31 by omega) q2), jnE, if_pos (show (0 : Int32) = 0 from rfl)]
    exact bad2

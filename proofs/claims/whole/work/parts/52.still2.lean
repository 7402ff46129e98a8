/-! still: both sides -/
def SdT : Type := Nat × Int32 × Int32 × Int32 × Int32 × Int32 × (Nat → Int64) × (Nat → Int64) × (Nat → Int64) × (Nat → Int64) × Int64 × Int64
theorem isStill_cls {row : Nat → Int32} {v : Nat → Nat} {W : Int32} {ev fc lc : Int64} {MK LV : Int32} {gr ar : Nat → Int64} {ki ce se pa : Nat → Int32} (S : TwoL row v W ev fc lc MK LV gr ar ki ce se pa) {hr ld q g : Nat} (hl : 1 ≤ ld) (hl2 : ld ≤ 20) (hhr : hr < 24) (hg : g < 256) (hq : q < v 0 * v 1) (aN sl : Nat) (s1 s2 s3 s4 s5 : Int32) (s6 s7 : Int64) (may ways echo echoes : Nat → Int64) :
    ∃ z x1 x2 x3 x4 x5 x6 x7 x8 x9 x10 x11 x12, f_Ai_isStill aN W ev fc lc MK LV sl s1 s2 s3 s4 s5 s6 s7 gr ar ki ce se pa may ways echo echoes (nI ld) (nI hr) (nI q) (nI g) = some (z, x1, x2, x3, x4, x5, x6, x7, x8, x9, x10, x11, x12) ∧ ((z = 1 ∧ Stl v hr ld q g) ∨ (z = 0 ∧ ¬ Stl v hr ld q g)) := by
  obtain ⟨k1, rfl, k3, k4⟩ := TwoL_mk S
  unfold f_Ai_isStill
  refine lp_or (fun i (x : Int32 × Nat × Int32 × Int32 × Int32 × Int32 × Int32 × (Nat → Int64) × (Nat → Int64) × (Nat → Int64) × (Nat → Int64) × Int64 × Int64) => x.1 = nI i ∧ ∀ m, m < i → ¬ ∃ l, hrd v hr g 0 m ld 0 l q) (fun r => ∃ z x1 x2 x3 x4 x5 x6 x7 x8 x9 x10 x11 x12, r = some (z, x1, x2, x3, x4, x5, x6, x7, x8, x9, x10, x11, x12) ∧ ((z = 1 ∧ Stl v hr ld q g) ∨ (z = 0 ∧ ¬ Stl v hr ld q g))) (v 122) (by omega) ?_ ?_ ⟨rfl, fun m hm => by omega⟩
  · rintro i ⟨x1, x2, x3, x4, x5, x6, x7, x8, x9, x10, x11, x12, x13⟩ hi ⟨e, h⟩
    dsimp only at e
    subst e
    obtain ⟨a1, a2, a3, a4, a5, a6, h1, h2, h3, h4, h5, h6, h7⟩ := make_b S hi hl hl2 hhr (b := 0) (g := g) (by decide) hg x8 x9 x10 x11
    have h1' : f_Sd_make W ev fc lc (nI (v 122)) LV gr ar ki ce se pa x8 x9 x10 x11 (nI i) (nI ld) (nI hr) 0 (nI g) = _ := h1
    unfold f_Ai_isStill_L3
    dsimp only
    simp only [if_neg (nI_ge hi (show v 122 < 2 ^ 31 by omega)), bd_some h1', bd_some (hasCell_eq a6 (k := q) (by omega))]
    by_cases ha : tb a6 q = true
    · refine Or.inr fun rec => ⟨0, _, _, _, _, _, _, _, _, _, _, _, _, by rw [if_pos ha, if_neg (by decide)], Or.inr ⟨rfl, fun z => z i hi ((h5 q (by omega)).mp ha)⟩⟩
    · refine Or.inl ⟨(nI (i + 1), _, _, _, _, _, _, _, _, _, _, _, _), ⟨rfl, fun m hm => ?_⟩, fun rec => by rw [if_neg ha, if_pos rfl, ltE, nI1]⟩
      by_cases e : m = i
      · subst e
        exact fun z => ha ((h5 q (by omega)).mpr z)
      · exact h m (by omega)
  · rintro ⟨x1, x2, x3, x4, x5, x6, x7, x8, x9, x10, x11, x12, x13⟩ ⟨e, h⟩ rec
    dsimp only at e
    subst e
    unfold f_Ai_isStill_L3
    dsimp only
    rw [if_pos (nI_le (Nat.le_refl _) (by omega))]
    exact ⟨1, _, _, _, _, _, _, _, _, _, _, _, _, rfl, Or.inl ⟨rfl, h⟩⟩
theorem isStill_ref {row : Nat → Int32} {v : Nat → Nat} (R : Rm row v) (W : WFv v) {hr ld q g : Nat} (hl : 1 ≤ ld) (hl2 : ld ≤ 20) (hhr : hr < 24) (hg : g < 256) (hq : q < v 0 * v 1) (kd mk ow ho bu : Int32) (comes direct all tried : Nat → Int32) :
    ∃ z x1 x2 x3 x4 x5 x6 x7 x8, f_Mo_isStill 0 (nI g) 0 0 kd mk ow ho bu row comes direct all tried (nI ld) (nI hr) (nI q) = some (z, x1, x2, x3, x4, x5, x6, x7, x8) ∧ ((z = 1 ∧ Stl v hr ld q g) ∨ (z = 0 ∧ ¬ Stl v hr ld q g)) := by
  have k3 := W.2.2.2.2.1
  have k1 := W.2.2.2.2.2.2.2.1
  have r122 : row (122 : Int32).toNatClampNeg = nI (v 122) := R 122 (by decide) (by decide)
  unfold f_Mo_isStill
  refine lp_or (fun i (x : Int32 × Int32 × (Nat → Int32) × (Nat → Int32) × (Nat → Int32) × (Nat → Int32) × Int32 × Int32 × Int32 × Int32) => x.2.1 = nI i ∧ ((x.1 = 1 ∧ ∀ m, m < i → ¬ ∃ l, hrd v hr g 0 m ld 0 l q) ∨ (x.1 = 0 ∧ ¬ Stl v hr ld q g))) (fun r => ∃ z x1 x2 x3 x4 x5 x6 x7 x8, r = some (z, x1, x2, x3, x4, x5, x6, x7, x8) ∧ ((z = 1 ∧ Stl v hr ld q g) ∨ (z = 0 ∧ ¬ Stl v hr ld q g))) (v 122) (by omega) ?_ ?_ ⟨rfl, Or.inl ⟨rfl, fun m hm => by omega⟩⟩
  · rintro i ⟨x1, x2, x3, x4, x5, x6, x7, x8, x9, x10⟩ hi ⟨e, ⟨e2, h⟩ | ⟨e2, h⟩⟩ <;> dsimp only at e e2 <;> subst e <;> subst e2 <;> unfold f_Mo_isStill_L6 <;> dsimp only
    · obtain ⟨b1, b2, b3, b4, b5, g1, g2, g3⟩ := lay_eq R W (gs0 v) (g := g) (b := 0) (hr := hr) (m := i) (ld := ld) (bu := bu) hg (by decide) hhr hi (Or.inl rfl) hl hl2 x3 x4 x5 x6
      have g1' : f_Mo_lay 0 (nI g) 0 0 bu row x3 x4 x5 x6 (nI i) (nI ld) (nI hr) = _ := g1
      obtain ⟨L, L1, L2, L3⟩ := g3 q (by omega)
      have h0 := lev00 L2 L1 L3
      simp only [if_neg (show ¬ (1 : Int32) = 0 from by decide), r122, if_neg (nI_ge hi (show v 122 < 2 ^ 31 by omega)), bd_some g1', gd_nI (show q < 36 by omega) (show 36 < 2 ^ 31 by decide), jnE, nI_clamp (show q < 2 ^ 31 by omega)]
      by_cases ha : b3 q = 0
      · refine Or.inl ⟨(1, nI (i + 1), b1, b2, b3, b4, 0, -1, b5, nI hr), ⟨rfl, Or.inl ⟨rfl, fun m hm => ?_⟩⟩, fun rec => by rw [if_pos ha, ltE, nI1]⟩
        by_cases e : m = i
        · subst e
          exact h0.mp ha
        · exact h m (by omega)
      · refine Or.inl ⟨(0, nI (i + 1), b1, b2, b3, b4, 0, -1, b5, nI hr), ⟨rfl, Or.inr ⟨rfl, fun z => ha (h0.mpr (z i hi))⟩⟩, fun rec => by rw [if_neg ha, ltE, nI1]⟩
    · refine Or.inr fun rec => ?_
      rw [if_pos rfl, gd_t (by decide)]
      exact ⟨0, _, _, _, _, _, _, _, _, rfl, Or.inr ⟨rfl, h⟩⟩
  · rintro ⟨x1, x2, x3, x4, x5, x6, x7, x8, x9, x10⟩ ⟨e, ⟨e2, h⟩ | ⟨e2, h⟩⟩ rec <;> dsimp only at e e2 <;> subst e <;> subst e2 <;> unfold f_Mo_isStill_L6 <;> dsimp only
    · rw [if_neg (show ¬ (1 : Int32) = 0 from by decide), r122, if_pos (nI_le (Nat.le_refl _) (by omega)), gd_t (by decide)]
      exact ⟨1, _, _, _, _, _, _, _, _, rfl, Or.inl ⟨rfl, h⟩⟩
    · rw [if_pos rfl, gd_t (by decide)]
      exact ⟨0, _, _, _, _, _, _, _, _, rfl, Or.inr ⟨rfl, h⟩⟩
theorem shl_one : ∀ j, j < 31 → ((1 : Int32) <<< (nI j &&& 31)) = nI (2 ^ j) := by decide +kernel
theorem or_bit {a j : Nat} (ha : a < 2 ^ j) (hj : j < 31) : nI a ||| nI (2 ^ j) = nI (a + 2 ^ j) := by
  apply ti_ext
  intro c hc
  rw [ti_or, ti_nI hc, ti_nI hc, ti_nI hc, Nat.testBit_two_pow]
  have e : a + 2 ^ j = 2 ^ j ||| a := by
    have := Nat.two_pow_add_eq_or_of_lt ha 1
    rw [Nat.mul_one] at this
    rw [← this, Nat.add_comm]
  rw [e, Nat.testBit_or, Nat.testBit_two_pow, Bool.or_comm]
/-- the leaves in an hour, as bits -/
theorem leavesIn_eq {v : Nat → Nat} {pa : Nat → Int32} (hw : WFL v) (hp : ∀ j, j < 5 * v 147 → pa j = nI (v (148 + j))) {hr : Nat} (hhr : hr < 24) : ∃ H, H < 2 ^ v 147 ∧ f_Ai_leavesIn (nI (v 147)) pa (nI hr) = some (nI H) ∧ ∀ j, H.testBit j = true ↔ inQ v hr j := by
  have h8 := hw.1
  unfold f_Ai_leavesIn
  obtain ⟨⟨a, b⟩, rec, ⟨e, H, h1, h2, h3⟩, h⟩ := lp_inv (f := f_Ai_leavesIn_L4 (nI (v 147)) pa (nI hr)) (fun i (y : Int32 × Int32) => y.2 = nI i ∧ ∃ H, H < 2 ^ i ∧ y.1 = nI H ∧ ∀ j, H.testBit j = true ↔ j < i ∧ inQ v hr j) (v 147) (by omega) (by
    rintro i ⟨a, b⟩ hi ⟨e, H, h1, h2, h3⟩
    dsimp only at e h2
    subst e; subst h2
    have w := hw.2 i hi
    have ii := isIn_eq pa (j := i) (hr := hr) (a := v (150 + 5 * i)) (b := v (151 + 5 * i)) (by omega) (by rw [hp _ (by omega)]; exact congrArg nI (congrArg v (by omega))) (by rw [hp _ (by omega)]; exact congrArg nI (congrArg v (by omega))) (by omega) (by omega) (by omega)
    have hp2 : (2 : Nat) ^ (i + 1) = 2 ^ i + 2 ^ i := by rw [Nat.pow_succ]; omega
    unfold f_Ai_leavesIn_L4
    dsimp only
    simp only [if_neg (nI_ge hi (show v 147 < 2 ^ 31 by omega)), bd_some ii, jnE, ltE, nI1, shl_one i (by omega), or_bit h1 (show i < 31 by omega)]
    by_cases q : v (150 + 5 * i) ≤ hr ∧ hr ≤ v (151 + 5 * i)
    · refine ⟨(nI (H + 2 ^ i), nI (i + 1)), ⟨rfl, H + 2 ^ i, by omega, rfl, fun j => ?_⟩, fun rec => by rw [if_pos q, if_neg (by decide)]⟩
      have e : H + 2 ^ i = 2 ^ i ||| H := by
        have := Nat.two_pow_add_eq_or_of_lt h1 1
        rw [Nat.mul_one] at this
        rw [← this, Nat.add_comm]
      rw [e, Nat.testBit_or, Nat.testBit_two_pow, Bool.or_eq_true, decide_eq_true_iff, h3]
      constructor
      · rintro (rfl | ⟨a, b⟩)
        · exact ⟨by omega, hi, q⟩
        · exact ⟨by omega, b⟩
      · rintro ⟨a, b⟩
        by_cases ej : i = j
        · exact Or.inl ej
        · exact Or.inr ⟨by omega, b⟩
    · refine ⟨(nI H, nI (i + 1)), ⟨rfl, H, by omega, rfl, fun j => ?_⟩, fun rec => by rw [if_neg q, if_pos rfl]⟩
      rw [h3]
      constructor
      · rintro ⟨a, b⟩
        exact ⟨by omega, b⟩
      · rintro ⟨a, b⟩
        refine ⟨?_, b⟩
        by_cases ej : j = i
        · subst ej
          exact absurd b.2 q
        · omega) (x0 := ((0 : Int32), (0 : Int32))) ⟨rfl, 0, by decide, rfl, fun j => ⟨fun z => (by rw [Nat.zero_testBit] at z; cases z), fun z => by omega⟩⟩
  dsimp only at e h2
  subst e; subst h2
  refine ⟨H, h1, ?_, fun j => (h3 j).trans ⟨fun z => z.2, fun z => ⟨z.1, z⟩⟩⟩
  rw [h]
  unfold f_Ai_leavesIn_L4
  dsimp only
  rw [if_pos (nI_le (Nat.le_refl _) (by omega))]

/-! as told -/
theorem lN0 : (0 : Int64) = lN 0 := rfl
/-- the sound is heard as the ears say -/
def asTold (v : Nat → Nat) (q : Nat → Bool) : Prop := ∀ c, c < v 0 * v 1 → v (74 + c) = 0 ∨ (q c = true ↔ v (74 + c) = 1)
theorem isAsTold_eq {v : Nat → Nat} {to : Nat → Int64} {al : Int64} (hT : RS 3 (v 0 * v 1) to (fun c => v (74 + c))) (h3 : ∀ c, c < v 0 * v 1 → v (74 + c) < 3) (hn : v 0 * v 1 ≤ 36) : ∃ r, f_Ai_isAsTold al to = some r ∧ ((r = 1 ∧ asTold v (tb al)) ∨ (r = 0 ∧ ¬ asTold v (tb al))) := by
  unfold f_Ai_isAsTold
  rw [show (1 : Int32).toNatClampNeg = 1 from by decide, show (2 : Int32).toNatClampNeg = 2 from by decide]
  have k1 : lg_cmp (to 1 &&& (al ^^^ (-1))) 0 = 0 ↔ ∀ c, c < v 0 * v 1 → v (74 + c) = 1 → tb al c = true := by
    rw [lg0, tb_eq0]
    constructor
    · intro h c hc h1
      have := h c (by omega)
      rw [tb_and, tb_not _ (by omega), hT 1 (by decide) c (by omega)] at this
      simpa [hc, h1] using this
    · intro h c hc
      rw [tb_and, tb_not _ hc, hT 1 (by decide) c hc]
      by_cases hx : c < v 0 * v 1 ∧ v (74 + c) = 1
      · rw [h c hx.1 hx.2]
        simp
      · simp only [decide_eq_false hx, Bool.false_and]
  have k2 : lg_cmp (to 2 &&& al) 0 = 0 ↔ ∀ c, c < v 0 * v 1 → v (74 + c) = 2 → ¬ tb al c = true := by
    rw [lg0, tb_eq0]
    constructor
    · intro h c hc h1
      have := h c (by omega)
      rw [tb_and, hT 2 (by decide) c (by omega)] at this
      simpa [hc, h1] using this
    · intro h c hc
      rw [tb_and, hT 2 (by decide) c hc]
      by_cases hx : c < v 0 * v 1 ∧ v (74 + c) = 2
      · have := h c hx.1 hx.2
        simp [this]
      · simp only [decide_eq_false hx, Bool.false_and]
  by_cases h1 : ∀ c, c < v 0 * v 1 → v (74 + c) = 1 → tb al c = true
  · rw [if_pos (k1.mpr h1)]
    by_cases h2 : ∀ c, c < v 0 * v 1 → v (74 + c) = 2 → ¬ tb al c = true
    · rw [if_pos (k2.mpr h2)]
      refine ⟨1, rfl, Or.inl ⟨rfl, fun c hc => ?_⟩⟩
      have := h3 c hc
      rcases Nat.lt_or_ge (v (74 + c)) 1 with q | q
      · exact Or.inl (by omega)
      · rcases Nat.lt_or_ge (v (74 + c)) 2 with q2 | q2
        · exact Or.inr ⟨fun _ => by omega, fun z => h1 c hc z⟩
        · exact Or.inr ⟨fun z => absurd z (h2 c hc (by omega)), fun z => by omega⟩
    · rw [if_neg (fun z => h2 (k2.mp z))]
      refine ⟨0, rfl, Or.inr ⟨rfl, fun z => h2 fun c hc q e => ?_⟩⟩
      rcases z c hc with z | z
      · omega
      · have := z.mp e
        omega
  · rw [if_neg (fun z => h1 (k1.mp z))]
    refine ⟨0, rfl, Or.inr ⟨rfl, fun z => h1 fun c hc q => ?_⟩⟩
    rcases z c hc with z | z
    · omega
    · exact z.mpr q
theorem isHeardSo_eq {row all : Nat → Int32} {v : Nat → Nat} (R : Rm row v) (W : WFv v) {q : Nat → Bool} (hq : ∀ c, c < v 0 * v 1 → (all c ≤ 0 ↔ ¬ q c = true)) : ∃ r, f_Mo_isHeardSo row all = some r ∧ ((r = 1 ∧ asTold v q) ∨ (r = 0 ∧ ¬ asTold v q)) := by
  obtain ⟨w1, w2, w3, w4, hn, hc3, hfe, hmk, hmks, hwf⟩ := W
  unfold f_Mo_isHeardSo
  refine lp_or (fun i (y : Int32 × Int32) => y.2 = nI i ∧ ((y.1 = 1 ∧ ∀ c, c < i → v (74 + c) = 0 ∨ (q c = true ↔ v (74 + c) = 1)) ∨ (y.1 = 0 ∧ ¬ asTold v q))) (fun r => ∃ x, r = some x ∧ ((x = 1 ∧ asTold v q) ∨ (x = 0 ∧ ¬ asTold v q))) (v 0 * v 1) (by omega) ?_ ?_ ⟨rfl, Or.inl ⟨rfl, fun c hc => by omega⟩⟩
  · rintro i ⟨a, b⟩ hi ⟨e, h⟩
    dsimp only at e
    subst e
    have c3 := (hc3 i hi).2.2
    unfold f_Mo_isHeardSo_L4
    dsimp only at h ⊢
    simp only [bd_some (mCells_eq R), if_neg (nI_ge hi (show v 0 * v 1 < 2 ^ 31 by omega)), jnE, ltE]
    simp only [show (74 : Int32) = nI 74 from rfl, nIa, gd_nI (show 74 + i < 1551 by omega) (by decide), gd_nI (show i < 36 by omega) (by decide), nI_clamp (show 74 + i < 2 ^ 31 by omega), nI_clamp (show i < 2 ^ 31 by omega), R (74 + i) (by omega) (by omega), nI1]
    rcases h with ⟨rfl, h⟩ | ⟨rfl, h⟩
    · simp only [if_neg (show ¬ (1 : Int32) = 0 from by decide)]
      have e0 : nI (v (74 + i)) = 0 ↔ v (74 + i) = 0 := nI_eq (b := 0) (by omega) (by decide)
      have e1 : nI (v (74 + i)) = 1 ↔ v (74 + i) = 1 := nI_eq (b := 1) (by omega) (by decide)
      by_cases g : v (74 + i) = 0 ∨ (q i = true ↔ v (74 + i) = 1)
      · refine Or.inl ⟨(1, nI (i + 1)), ⟨rfl, Or.inl ⟨rfl, fun c hc => ?_⟩⟩, fun rec => ?_⟩
        · by_cases hci : c = i
          · rw [hci]; exact g
          · exact h c (by omega)
        · by_cases g0 : v (74 + i) = 0
          · rw [if_pos (e0.mpr g0)]
          · rw [if_neg (fun z => g0 (e0.mp z))]
            have g1 := g.resolve_left g0
            by_cases g2 : q i = true
            · rw [if_neg (fun z => (hq i hi).mp z g2), if_pos (e1.mpr (g1.mp g2)), if_pos trivial]
            · rw [if_pos ((hq i hi).mpr g2), if_neg (fun z => g2 (g1.mpr (e1.mp z))), if_pos trivial]
      · refine Or.inl ⟨(0, nI (i + 1)), ⟨rfl, Or.inr ⟨rfl, fun z => g (z i hi)⟩⟩, fun rec => ?_⟩
        have g0 : ¬ v (74 + i) = 0 := fun z => g (Or.inl z)
        rw [if_neg (fun z => g0 (e0.mp z))]
        by_cases g2 : q i = true
        · rw [if_neg (fun z => (hq i hi).mp z g2), if_neg (fun z => g (Or.inr ⟨fun _ => e1.mp z, fun _ => g2⟩))]
        · have g1 : v (74 + i) = 1 := Classical.byContradiction fun z => g (Or.inr ⟨fun y => absurd y g2, fun y => absurd y z⟩)
          rw [if_pos ((hq i hi).mpr g2), if_pos (e1.mpr g1), if_neg (by decide)]
    · exact Or.inl ⟨(0, nI (i + 1)), ⟨rfl, Or.inr ⟨rfl, h⟩⟩, fun rec => by simp⟩
  · rintro ⟨a, b⟩ ⟨e, h⟩ rec
    dsimp only at e
    subst e
    unfold f_Mo_isHeardSo_L4
    dsimp only at h ⊢
    rw [bd_some (mCells_eq R), if_pos (nI_le (Nat.le_refl _) (by omega))]
    rcases h with ⟨rfl, h⟩ | ⟨rfl, h⟩
    · exact ⟨1, rfl, Or.inl ⟨rfl, h⟩⟩
    · exact ⟨0, rfl, Or.inr ⟨rfl, h⟩⟩
/-- how loud in a cell: the class -/
theorem loudIn_eq (ways echoes : Nat → Int64) {c : Nat} (hc : c < 64) : ∃ L, L ≤ 20 ∧ f_Sd_loudIn ways echoes (nI c) = some (nI L) ∧ lvl (fun l d => XO ways l d ∨ XO echoes l d) c L := by
  unfold f_Sd_loudIn
  refine lp_or (fun i (y : Int32) => y = nI (20 - i) ∧ ∀ l, 20 - i < l → ¬ (XO ways l c ∨ XO echoes l c)) (fun r => ∃ L, L ≤ 20 ∧ r = some (nI L) ∧ lvl (fun l d => XO ways l d ∨ XO echoes l d) c L) 20 (by decide) ?_ ?_ ⟨rfl, fun l hl z => ?_⟩
  · rintro i _ hi ⟨rfl, h⟩
    have e : ∀ rec, f_Sd_loudIn_L3 ways echoes (nI c) rec (nI (20 - i)) = if tb (ways (20 - i)) c = true ∨ tb (echoes (20 - i)) c = true then some (nI (20 - i)) else rec (nI (20 - (i + 1))) := by
      intro rec
      unfold f_Sd_loudIn_L3
      rw [if_neg (show ¬ nI (20 - i) ≤ 0 from nI_ge (b := 20 - i) (a := 0) (by omega) (by omega)), gd_nI (n := 20 - i) (by omega) (by decide), gd_nI (n := 20 - i) (by omega) (by decide), nI_clamp (n := 20 - i) (by omega), bd_some (hasCell_eq _ hc), tb_or]
      have m1 : nI (20 - i) + (-1) = nI (20 - (i + 1)) := by
        have : ∀ i, i < 20 → nI (20 - i) + (-1) = nI (20 - (i + 1)) := by decide +kernel
        exact this i hi
      by_cases q : tb (ways (20 - i)) c = true ∨ tb (echoes (20 - i)) c = true
      · rw [if_pos q, if_pos (show (tb (ways (20 - i)) c || tb (echoes (20 - i)) c) = true by simpa using q), if_neg (by decide)]
      · rw [if_neg q, if_neg (show ¬ (tb (ways (20 - i)) c || tb (echoes (20 - i)) c) = true by simpa using q), if_pos rfl, ltE, m1]
    by_cases q : tb (ways (20 - i)) c = true ∨ tb (echoes (20 - i)) c = true
    · refine Or.inr fun rec => ⟨20 - i, by omega, by rw [e, if_pos q], Or.inr ⟨by omega, ?_, fun l hl => ?_⟩⟩
      · rcases q with q | q
        · exact Or.inl ⟨by omega, by omega, hc, q⟩
        · exact Or.inr ⟨by omega, by omega, hc, q⟩
      · exact Nat.le_of_not_lt fun z => h l z hl
    · refine Or.inl ⟨nI (20 - (i + 1)), ⟨rfl, fun l hl z => ?_⟩, fun rec => by rw [e, if_neg q]⟩
      by_cases g : l = 20 - i
      · subst g
        rcases z with z | z
        · exact q (Or.inl z.2.2.2)
        · exact q (Or.inr z.2.2.2)
      · exact h l (by omega) z
  · rintro _ ⟨rfl, h⟩ rec
    refine ⟨0, by decide, ?_, Or.inl ⟨rfl, fun l z => ?_⟩⟩
    · unfold f_Sd_loudIn_L3
      rw [if_pos (by decide)]
      rfl
    · refine h l ?_ z
      rcases z with z | z
      · exact z.1
      · exact z.1
  · rcases z with z | z
    · have := z.2.1
      omega
    · have := z.2.1
      omega

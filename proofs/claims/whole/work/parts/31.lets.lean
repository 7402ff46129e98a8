/-! who lets whom -/
theorem php : ∀ (n : Nat) (f : Nat → Nat), (∀ i, i ≤ n → f i < n) → ∃ i j, i < j ∧ j ≤ n ∧ f i = f j
  | 0, f, h => by have := h 0 (Nat.le_refl _); omega
  | n + 1, f, h => by
    by_cases hc : ∃ i, i ≤ n ∧ f i = f (n + 1)
    · obtain ⟨i, h1, h2⟩ := hc
      exact ⟨i, n + 1, by omega, Nat.le_refl _, h2⟩
    · have hc' : ∀ i, i ≤ n → f i ≠ f (n + 1) := fun i hi q => hc ⟨i, hi, q⟩
      obtain ⟨i, j, h1, h2, h3⟩ := php n (fun i => if f i = n then f (n + 1) else f i) (fun i hi => by
        have a := h i (by omega)
        have b := h (n + 1) (Nat.le_refl _)
        have c := hc' i hi
        split <;> omega)
      have c1 := hc' i (by omega)
      have c2 := hc' j h2
      refine ⟨i, j, h1, by omega, ?_⟩
      split at h3 <;> split at h3 <;> omega
/-- who let it to x, the n-th before; 6: nobody -/
def orb (L : Nat → Nat) (x : Nat) : Nat → Nat
  | 0 => x
  | n + 1 => if orb L x n = 6 then 6 else L (orb L x n)
theorem orb_s (L : Nat → Nat) (x n : Nat) : orb L x (n + 1) = if orb L x n = 6 then 6 else L (orb L x n) := rfl
theorem orb_le {L : Nat → Nat} (hL : ∀ k, k < 6 → L k ≤ 6) {x : Nat} (hx : x < 6) : ∀ n, orb L x n ≤ 6
  | 0 => by show x ≤ 6; omega
  | n + 1 => by
    have := orb_le hL hx n
    rw [orb_s]
    split
    · exact Nat.le_refl _
    · exact hL _ (by omega)
theorem orb_6 {L : Nat → Nat} {x i : Nat} (h : orb L x i = 6) : ∀ t, orb L x (i + t) = 6
  | 0 => h
  | t + 1 => by
    show orb L x (i + t + 1) = 6
    rw [orb_s, if_pos (orb_6 h t)]
theorem orb_eq {L : Nat → Nat} {x i j : Nat} (h : orb L x i = orb L x j) : ∀ t, orb L x (i + t) = orb L x (j + t)
  | 0 => h
  | t + 1 => by
    show orb L x (i + t + 1) = orb L x (j + t + 1)
    rw [orb_s, orb_s, orb_eq h t]
theorem orb_end {L : Nat → Nat} (hL : ∀ k, k < 6 → L k ≤ 6) {x : Nat} (hx : x < 6) (h : ∀ j, j ≤ 6 → orb L x j ≠ 6) : orb L x 7 ≠ 6 := by
  obtain ⟨i, j, h1, h2, h3⟩ := php 6 (orb L x) (fun i hi => by have := orb_le hL hx i; have := h i hi; omega)
  have := orb_eq h3 (7 - j)
  rw [show j + (7 - j) = 7 from by omega] at this
  rw [← this]
  exact h _ (by omega)
theorem orb_ring {L : Nat → Nat} (hL : ∀ k, k < 6 → L k ≤ 6) {x : Nat} (hx : x < 6) (h : ∀ j, 1 ≤ j → j ≤ 6 → orb L x j ≠ x) : orb L x 7 ≠ x := by
  intro q
  have h6 : ∀ j, j ≤ 6 → orb L x j ≠ 6 := fun j hj z => by
    have := orb_6 z (7 - j)
    rw [show j + (7 - j) = 7 from by omega] at this
    omega
  obtain ⟨i, j, h1, h2, h3⟩ := php 6 (orb L x) (fun i hi => by have := orb_le hL hx i; have := h6 i hi; omega)
  have := orb_eq h3 (7 - j)
  rw [show j + (7 - j) = 7 from by omega] at this
  exact h (i + (7 - j)) (by omega) (by omega) (this.trans q)
def enc (x : Nat) : Int32 := if x = 6 then -1 else nI x
theorem enc_lt {x : Nat} (h : x < 6) : enc x = nI x := if_neg (by omega)
theorem enc_6 : enc 6 = -1 := rfl
theorem enc_eq {a b : Nat} (ha : a ≤ 6) (hb : b ≤ 6) : enc a = enc b ↔ a = b := by
  have : ∀ a, a ≤ 6 → ∀ b, b ≤ 6 → (enc a = enc b ↔ a = b) := by decide +kernel
  exact this a ha b hb
theorem enc_n {a : Nat} (ha : a ≤ 6) : enc a = -1 ↔ a = 6 := enc_eq (b := 6) ha (Nat.le_refl _)
theorem zero_ne6 {L : Nat → Nat} {x : Nat} (hx : x < 6) : ∀ j, j ≤ 0 → orb L x j ≠ 6 := by
  intro j hj
  have : j = 0 := by omega
  subst this
  show x ≠ 6
  omega
/-- both know who lets whom -/
def LtR (row : Nat → Int32) (lt : Nat → Int32) (L : Nat → Nat) : Prop := ∀ k, k < 6 → L k ≤ 6 ∧ lt k = enc (L k) ∧ row (116 + k) = enc (L k)
theorem letBy_eq {row lt : Nat → Int32} {L : Nat → Nat} (h : LtR row lt L) {x : Nat} (hx : x ≤ 6) : f_Ld_letBy lt (enc x) = some (enc (if x = 6 then 6 else L x)) := by
  unfold f_Ld_letBy
  by_cases h6 : x = 6
  · subst h6
    rfl
  · rw [if_neg h6, enc_lt (show x < 6 by omega), if_neg (nI_pos (by omega)), if_neg (show ¬ (6 : Int32) ≤ nI x from nI_ge (b := 6) (by omega) (by decide)), gd_nI (by omega) (by decide), nI_clamp (by omega), (h x (by omega)).2.1]
theorem rowLet {row lt : Nat → Int32} {L : Nat → Nat} (h : LtR row lt L) {x : Nat} (hx : x < 6) : inB ((116 : Int32) + nI x) 1551 = true ∧ row ((116 : Int32) + nI x).toNatClampNeg = enc (L x) := by
  rw [show (116 : Int32) = nI 116 from rfl, nIa, inB_nI (by omega), nI_clamp (by omega)]
  exact ⟨decide_eq_true (by omega), (h x hx).2.2⟩
theorem liable_call {row lt : Nat → Int32} {L : Nat → Nat} (h : LtR row lt L) {rf : Nat → Int32} {bad no full : Int32} (T : StR rf bad no full) (a : Int32) : ∃ r rf' bad', f_Ai_liable rf lt a = some (r, rf') ∧ f_Mo_liable bad row a = some (r, bad') ∧ StR rf' bad' no full := by
  have B := refuse_bad T (-2)
  have hL : ∀ k, k < 6 → L k ≤ 6 := fun k hk => (h k hk).1
  unfold f_Ai_liable f_Mo_liable
  rcases in_or a (n := 6) (by decide) with ⟨x, hx, rfl⟩ | ⟨q1, q2⟩
  · simp only [bd_some (isOwner_t hx), bd_some (mOwner_t hx), jnE, if_neg (show ¬ (1 : Int32) = 0 from by decide)]
    have key : ∀ A B, (∃ r, A = some (r, rf) ∧ B = some (r, bad)) → ∃ (r : Int32) (rf' : Nat → Int32) (bad' : Int32), A = some (r, rf') ∧ B = some (r, bad') ∧ StR rf' bad' no full := by
      rintro A B ⟨r, q1, q2⟩
      exact ⟨r, rf, bad, q1, q2, T⟩
    apply key
    refine lp_two (fun i (y z : Int32 × Int32) => y = (nI (orb L x i), nI i) ∧ z = y ∧ ∀ j, j ≤ i → orb L x j ≠ 6) (fun A B => ∃ r, A = some (r, rf) ∧ B = some (r, bad)) 6 (by decide) ?_ ?_ ⟨rfl, rfl, zero_ne6 hx⟩
    · rintro i _ _ hi ⟨rfl, rfl, h6⟩
      have ho := orb_le hL hx i
      have hn := h6 i (Nat.le_refl _)
      have e1 : ¬ (6 : Int32) ≤ nI i := nI_ge (b := 6) hi (by decide)
      obtain ⟨r1, r2⟩ := rowLet h (x := orb L x i) (by omega)
      have lb := letBy_eq h ho
      rw [enc_lt (show orb L x i < 6 by omega), if_neg hn] at lb
      unfold f_Ai_liable_L18 f_Mo_liable_L16
      dsimp only
      simp only [if_neg e1, bd_some lb, gd_t r1, r2, ltE, nI1]
      by_cases hq : L (orb L x i) = 6
      · refine Or.inr fun rec rec' => ⟨nI (orb L x i), ?_, ?_⟩
        · rw [if_pos ((enc_n (hL _ (by omega))).mpr hq)]
        · rw [if_pos ((enc_n (hL _ (by omega))).mpr hq), if_pos ((enc_n (hL _ (by omega))).mpr hq)]
      · have hs : orb L x (i + 1) = L (orb L x i) := by rw [orb_s, if_neg hn]
        have hl := hL _ (show orb L x i < 6 by omega)
        refine Or.inl ⟨(nI (orb L x (i + 1)), nI (i + 1)), (nI (orb L x (i + 1)), nI (i + 1)), ⟨rfl, rfl, fun j hj => ?_⟩, fun rec => ?_, fun rec => ?_⟩
        · by_cases hj1 : j = i + 1
          · rw [hj1, hs]; exact hq
          · exact h6 j (by omega)
        · rw [if_neg (fun z => hq ((enc_n hl).mp z)), hs, enc_lt (by omega)]
        · rw [if_neg (fun z => hq ((enc_n hl).mp z)), hs, enc_lt (by omega)]
    · rintro _ _ ⟨rfl, rfl, h6⟩ rec rec'
      have ho := orb_le hL hx 6
      have hn := h6 6 (Nat.le_refl _)
      obtain ⟨r1, r2⟩ := rowLet h (x := orb L x 6) (by omega)
      have h7 := orb_end hL hx h6
      rw [orb_s, if_neg hn] at h7
      unfold f_Ai_liable_L18 f_Mo_liable_L16
      dsimp only
      rw [if_pos (by decide), if_pos (by decide), gd_t r1, r2, if_neg (fun z => h7 ((enc_n (hL _ (by omega))).mp z))]
      exact ⟨_, rfl, rfl⟩
  · simp only [bd_some (isOwner_f q1), bd_some (mOwner_f q2), if_pos (show (0 : Int32) = 0 from rfl), bd_some (refuse_is B.1), bd_some (isBad_eq bad)]
    exact ⟨_, _, _, rfl, rfl, B.2⟩

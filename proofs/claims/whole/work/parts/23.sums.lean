/-! two loops side by side, and what the answers add up -/
theorem lp_two {σ τ α β : Type} {f : (σ → Option α) → σ → Option α} {g : (τ → Option β) → τ → Option β} (P : Nat → σ → τ → Prop) (Z : Option α → Option β → Prop) (e : Nat) (he : e < 4096) (hs : ∀ i x y, i < e → P i x y → (∃ x' y', P (i + 1) x' y' ∧ (∀ rec, f rec x = rec x') ∧ ∀ rec, g rec y = rec y') ∨ ∀ rec rec', Z (f rec x) (g rec' y)) (hx : ∀ x y, P e x y → ∀ rec rec', Z (f rec x) (g rec' y)) {x0 : σ} {y0 : τ} (h0 : P 0 x0 y0) : Z (lp f FU x0) (lp g FU y0) := by
  have key : ∀ k n i x y, k = e - i → i ≤ e → e < n + i → P i x y → Z (lp f n x) (lp g n y) := by
    intro k
    induction k with
    | zero =>
      intro n i x y hk hi hn hP
      have : i = e := by omega
      subst this
      cases n with
      | zero => omega
      | succ n => exact hx x y hP _ _
    | succ k ih =>
      intro n i x y hk hi hn hP
      cases n with
      | zero => omega
      | succ n =>
        rcases hs i x y (by omega) hP with ⟨x', y', hP', hf, hg⟩ | hz
        · show Z (f (lp f n) x) (g (lp g n) y)
          rw [hf, hg]
          exact ih n (i + 1) x' y' (by omega) (by omega) (by omega) hP'
        · exact hz _ _
  exact key (e - 0) FU 0 x0 y0 rfl (Nat.zero_le _) (by show e < 4096 + 0; omega) h0
theorem nI1 (n : Nat) : nI n + 1 = nI (n + 1) := (Int32.ofNat_add n 1).symm
theorem cnt_s {p : Nat → Bool} {n : Nat} (h : p n = true) : cnt p (n + 1) = cnt p n + 1 := by
  show cnt p n + (if p n = true then 1 else 0) = _
  rw [if_pos h]
theorem cnt_z {p : Nat → Bool} {n : Nat} (h : ¬ p n = true) : cnt p (n + 1) = cnt p n := by
  show cnt p n + (if p n = true then 1 else 0) = _
  rw [if_neg h]
  rfl
theorem count36 {x : Int64} (h : ∀ c, c < 64 → tb x c = true → c < 36) : cnt (tb x) 64 = cnt (tb x) 36 :=
  cnt_cut (by decide) fun c hc => by
    by_cases h64 : c < 64
    · cases hb : tb x c
      · rfl
      · exact absurd (h c h64 hb) (by omega)
    · exact tb_big (by omega)
/-- the same cell of a set, or how many -/
theorem pick_eq {x : Int64} (h : ∀ c, c < 64 → tb x c = true → c < 36) (p : Int32) : ∃ r, f_Ai_pick x p = some r ∧ f_Mo_ofSet x p = some r := by
  unfold f_Ai_pick f_Mo_ofSet
  simp only [jnE]
  by_cases hp : p = -1
  · subst hp
    rw [if_pos rfl, bd_some (jl_count x), count36 h]
    refine ⟨_, rfl, ?_⟩
    refine lp_or (fun i (y : Int32 × Int32) => y = (nI (cnt (tb x) i), nI i)) (fun r => r = some (nI (cnt (tb x) 36))) 36 (by decide) ?_ ?_ rfl
    · rintro i _ hi rfl
      refine Or.inl ⟨(nI (cnt (tb x) (i + 1)), nI (i + 1)), rfl, fun rec => ?_⟩
      unfold f_Mo_ofSet_L6
      dsimp only
      rw [if_neg (show ¬ (36 : Int32) ≤ nI i from nI_ge (b := 36) hi (by decide)), bd_some (mhas_eq x (k := i) (by omega)), jnE]
      by_cases hb : tb x i = true
      · rw [if_pos hb, if_neg (by decide), if_neg]
        · simp only [ltE]
          rw [nI1, nI1, cnt_s hb]
        · have : ∀ k, k ≤ 64 → nI k ≠ -1 := by decide +kernel
          exact this _ (Nat.le_trans (cnt_le _ _) (by omega))
      · rw [if_neg hb, if_pos rfl]
        simp only [ltE]
        rw [nI1, cnt_z hb]
    · rintro _ rfl rec
      unfold f_Mo_ofSet_L6
      dsimp only
      rw [if_pos (show (36 : Int32) ≤ nI 36 from by decide), if_pos rfl]
  · rw [if_neg hp]
    have key : ∀ a b : Option Int32, (∃ r, a = some r ∧ b = some r) → ∃ r, a = some r ∧ b = some r := fun _ _ h => h
    refine lp_two (fun i (y z : Int32 × Int32) => y = (nI (cnt (tb x) i), nI i) ∧ z = y) (fun a b => ∃ r, a = some r ∧ b = some r) 36 (by decide) ?_ ?_ ⟨rfl, rfl⟩
    · rintro i _ _ hi ⟨rfl, rfl⟩
      have e1 : ¬ (36 : Int32) ≤ nI i := nI_ge (b := 36) hi (by decide)
      unfold f_Mo_ofSet_L6 f_Ai_pick_L15
      dsimp only
      simp only [jnE, ltE]
      simp only [bd_some (mhas_eq x (k := i) (by omega)), bd_some (hasCell_eq x (k := i) (by omega)), if_neg e1]
      by_cases hb : tb x i = true
      · simp only [if_pos hb, if_neg (show ¬ (1 : Int32) = 0 from by decide)]
        by_cases hq : nI (cnt (tb x) i) = p
        · refine Or.inr fun rec rec' => ⟨nI i, ?_, ?_⟩
          · rw [if_pos hq]
          · rw [if_pos hq]
        · refine Or.inl ⟨_, _, ⟨rfl, rfl⟩, fun rec => ?_, fun rec => ?_⟩
          · rw [if_neg hq, nI1, nI1, cnt_s hb]
          · rw [if_neg hq, nI1, nI1, cnt_s hb]
      · simp only [if_neg hb, if_pos (show (0 : Int32) = 0 from rfl)]
        refine Or.inl ⟨_, _, ⟨rfl, rfl⟩, fun rec => ?_, fun rec => ?_⟩
        · rw [nI1, cnt_z hb]
          exact if_pos trivial
        · rw [nI1, cnt_z hb]
          exact if_pos trivial
    · rintro _ _ ⟨rfl, rfl⟩ rec rec'
      unfold f_Mo_ofSet_L6 f_Ai_pick_L15
      dsimp only
      rw [if_pos (show (36 : Int32) ≤ nI 36 from by decide), if_pos (show (36 : Int32) ≤ nI 36 from by decide), if_neg hp]
      exact ⟨_, rfl, rfl⟩
/-- how many hear it -/
theorem heardMany_eq {row all : Nat → Int32} {v : Nat → Nat} (R : Rm row v) (hn : v 0 * v 1 ≤ 36) {q : Nat → Bool} (hq : ∀ c, c < v 0 * v 1 → (all c ≤ 0 ↔ ¬ q c = true)) : f_Mo_heardMany row all = some (nI (cnt q (v 0 * v 1))) := by
  unfold f_Mo_heardMany
  refine lp_or (fun i (y : Int32 × Int32) => y = (nI (cnt q i), nI i)) (fun r => r = some (nI (cnt q (v 0 * v 1)))) (v 0 * v 1) (by omega) ?_ ?_ rfl
  · rintro i _ hi rfl
    refine Or.inl ⟨(nI (cnt q (i + 1)), nI (i + 1)), rfl, fun rec => ?_⟩
    unfold f_Mo_heardMany_L4
    dsimp only
    rw [bd_some (mCells_eq R), if_neg (nI_ge hi (by omega)), gd_nI (by omega) (by decide), nI_clamp (by omega), jnE]
    simp only [ltE]
    by_cases hb : q i = true
    · rw [if_neg (fun h => (hq i hi).mp h hb), cnt_s hb, nI1, nI1]
    · rw [if_pos ((hq i hi).mpr hb), cnt_z hb, nI1, Int32.add_zero]
  · rintro _ rfl rec
    unfold f_Mo_heardMany_L4
    dsimp only
    rw [bd_some (mCells_eq R), if_pos (nI_le (Nat.le_refl _) (by omega))]
/-- a sum -/
def smn (f : Nat → Nat) : Nat → Nat
  | 0 => 0
  | n + 1 => smn f n + f n
theorem smn_congr {f g : Nat → Nat} {n : Nat} (h : ∀ c, c < n → f c = g c) : smn f n = smn g n := by
  induction n with
  | zero => rfl
  | succ n ih =>
    show smn f n + f n = smn g n + g n
    rw [ih fun c hc => h c (by omega), h n (by omega)]
theorem smn_add (f g : Nat → Nat) (n : Nat) : smn (fun o => f o + g o) n = smn f n + smn g n := by
  induction n with
  | zero => rfl
  | succ n ih =>
    show smn _ n + (f n + g n) = (smn f n + f n) + (smn g n + g n)
    rw [ih]
    omega
theorem smn_zero {f : Nat → Nat} {n : Nat} (h : ∀ c, c < n → f c = 0) : smn f n = 0 := by
  induction n with
  | zero => rfl
  | succ n ih =>
    show smn f n + f n = 0
    rw [ih fun c hc => h c (by omega), h n (by omega)]
theorem smn_at {a x n : Nat} (ha : a < n) : smn (fun o => if o = a then x else 0) n = x := by
  induction n with
  | zero => omega
  | succ n ih =>
    show smn _ n + (if n = a then x else 0) = x
    by_cases h : n = a
    · rw [if_pos h, smn_zero (fun c hc => if_neg (by omega)), Nat.zero_add]
    · rw [if_neg h, ih (by omega), Nat.add_zero]
/-- by cells or by owners: the same sum -/
theorem smn_swap {st : Nat → Bool} {air fee : Nat → Nat} {s : Nat} : ∀ {n : Nat}, (∀ c, c < n → air c < 6) → smn (fun o => if o = s then 0 else fee o * cnt (fun c => st c && decide (air c = o)) n) 6 = smn (fun c => if st c = true ∧ air c ≠ s then fee (air c) else 0) n := by
  intro n
  induction n with
  | zero =>
    intro _
    refine (smn_zero fun c _ => ?_).trans rfl
    show (if c = s then 0 else fee c * 0) = 0
    split <;> simp
  | succ n ih =>
    intro h
    show _ = smn (fun c => if st c = true ∧ air c ≠ s then fee (air c) else 0) n + (if st n = true ∧ air n ≠ s then fee (air n) else 0)
    rw [← ih fun c hc => h c (by omega)]
    have e : smn (fun o => if o = air n then (if st n = true ∧ air n ≠ s then fee (air n) else 0) else 0) 6 = (if st n = true ∧ air n ≠ s then fee (air n) else 0) := smn_at (h n (by omega))
    rw [← e, ← smn_add]
    apply smn_congr
    intro o _
    by_cases ho : o = s
    · rw [if_pos ho, if_pos ho]
      by_cases ha : o = air n
      · rw [if_pos ha, if_neg (fun q => q.2 (by omega))]
      · rw [if_neg ha]
    · rw [if_neg ho, if_neg ho]
      show fee o * (cnt _ n + (if (st n && decide (air n = o)) = true then 1 else 0)) = _
      rw [Nat.mul_add]
      by_cases hs : st n = true
      · by_cases ha : o = air n
        · rw [if_pos ha, if_pos (show st n = true ∧ air n ≠ s from ⟨hs, fun q => ho (ha.trans q)⟩), if_pos (by simp [hs, ha]), Nat.mul_one, ha]
        · rw [if_neg ha, if_neg (by simp [hs]; omega), Nat.mul_zero]
      · rw [if_neg (by simp [hs]), Nat.mul_zero]
        by_cases ha : o = air n
        · rw [if_pos ha, if_neg (fun q => hs q.1)]
        · rw [if_neg ha]
theorem smn_s (f : Nat → Nat) (n : Nat) : smn f (n + 1) = smn f n + f n := rfl
theorem nIa (a b : Nat) : nI a + nI b = nI (a + b) := (Int32.ofNat_add a b).symm
/-- the class' bill -/
theorem costSum_eq {v : Nat → Nat} {ar : Nat → Int64} {fe se : Nat → Int32} {st : Int64} {m : Nat} (hA : RS 6 (v 0 * v 1) ar (fun c => v (38 + c))) (hn : v 0 * v 1 ≤ 36) (hf : ∀ i, i < 6 → fe i = nI (v (110 + i))) (hmk : v 122 ≤ 6) (hm : m < v 122) (hse : se m = nI (v (125 + 4 * m))) (hso : v (125 + 4 * m) < 6) : f_Ai_costOfSound (nI (v 122)) st ar fe se (nI m) = some (nI (smn (fun o => if o = v (125 + 4 * m) then 0 else v (110 + o) * cnt (fun c => tb st c && decide (v (38 + c) = o)) (v 0 * v 1)) 6)) := by
  unfold f_Ai_costOfSound
  refine lp_or (fun i (y : Int32 × Int32) => y = (nI (smn (fun o => if o = v (125 + 4 * m) then 0 else v (110 + o) * cnt (fun c => tb st c && decide (v (38 + c) = o)) (v 0 * v 1)) i), nI i)) (fun r => r = _) 6 (by decide) ?_ ?_ rfl
  · rintro i _ hi rfl
    refine Or.inl ⟨(_, nI (i + 1)), rfl, fun rec => ?_⟩
    unfold f_Ai_costOfSound_L4
    dsimp only
    rw [if_neg (show ¬ (6 : Int32) ≤ nI i from nI_ge (b := 6) hi (by decide)), bd_some (selfOf_eq se hm hmk), jnE, hse]
    simp only [ltE]
    rw [smn_s]
    by_cases h : i = v (125 + 4 * m)
    · rw [if_pos ((nI_eq (by omega) (by omega)).mpr h), if_pos h, nI1]
      rfl
    · rw [if_neg (fun q => h ((nI_eq (by omega) (by omega)).mp q)), if_neg h, gd_nI hi (by decide), gd_nI hi (by decide), nI_clamp (by omega), bd_some (jl_count _), hf i hi]
      have e : cnt (tb (st &&& ar i)) 64 = cnt (fun c => tb st c && decide (v (38 + c) = i)) (v 0 * v 1) := by
        rw [show (64 : Nat) = 64 from rfl, cnt_cut (n := v 0 * v 1) (by omega)]
        · apply cnt_congr
          intro c hc
          rw [tb_and, hA i hi c (by omega)]
          simp [hc]
        · intro c hc
          rw [tb_and]
          by_cases h64 : c < 64
          · rw [hA i hi c h64]
            simp [show ¬ c < v 0 * v 1 from by omega]
          · rw [tb_big (by omega)]
            rfl
      rw [e, pk_mul, nIa, nI1]
  · rintro _ rfl rec
    unfold f_Ai_costOfSound_L4
    dsimp only
    rw [if_pos (show (6 : Int32) ≤ nI 6 from by decide)]
/-- the reference's bill -/
theorem costOf_eq {row direct : Nat → Int32} {v : Nat → Nat} (R : Rm row v) (W : WFv v) {m : Nat} (hm : m < v 122) {q : Nat → Bool} (hq : ∀ c, c < v 0 * v 1 → (direct c ≤ 0 ↔ ¬ q c = true)) : f_Mo_costOf row direct (nI m) = some (nI (smn (fun c => if q c = true ∧ v (38 + c) ≠ v (125 + 4 * m) then v (110 + v (38 + c)) else 0) (v 0 * v 1))) := by
  obtain ⟨w1, w2, w3, w4, hn, hc3, hfe, hmk, hmks, hwf⟩ := W
  unfold f_Mo_costOf
  refine lp_or (fun i (y : Int32 × Int32) => y = (nI (smn (fun c => if q c = true ∧ v (38 + c) ≠ v (125 + 4 * m) then v (110 + v (38 + c)) else 0) i), nI i)) (fun r => r = _) (v 0 * v 1) (by omega) ?_ ?_ rfl
  · rintro i _ hi rfl
    refine Or.inl ⟨(_, nI (i + 1)), rfl, fun rec => ?_⟩
    unfold f_Mo_costOf_L4
    dsimp only
    obtain ⟨c1, c2, c3⟩ := hc3 i hi
    have hse := (hmks m hm).2.2.1
    rw [bd_some (mCells_eq R), if_neg (nI_ge hi (by omega)), show (38 : Int32) = nI 38 from rfl, nIa, gd_nI (n := 38 + i) (by omega) (by decide), nI_clamp (n := 38 + i) (by omega), R (38 + i) (by omega) (by omega)]
    simp only [ltE, jnE]
    rw [gd_nI (n := i) (by omega) (by decide), nI_clamp (n := i) (by omega), show (123 : Int32) = nI 123 from rfl, show (4 : Int32) = nI 4 from rfl, show (2 : Int32) = nI 2 from rfl, pk_mul, nIa, nIa, gd_nI (n := 123 + 4 * m + 2) (by omega) (by decide), nI_clamp (n := 123 + 4 * m + 2) (by omega), row_mk R (m := m) (t := 2) (by omega) (by decide), show (110 : Int32) = nI 110 from rfl, nIa, gd_nI (n := 110 + v (38 + i)) (by omega) (by decide), nI_clamp (n := 110 + v (38 + i)) (by omega), R (110 + v (38 + i)) (by omega) (by omega), nI1, Int32.add_zero, nIa, smn_s]
    rw [show 123 + 4 * m + 2 = 125 + 4 * m from by omega]
    by_cases h : q i = true
    · rw [if_neg (fun z => (hq i hi).mp z h)]
      by_cases h2 : v (38 + i) = v (125 + 4 * m)
      · rw [if_pos ((nI_eq (by omega) (by omega)).mpr h2), if_neg (fun z => z.2 h2)]
        rfl
      · rw [if_neg (fun z => h2 ((nI_eq (by omega) (by omega)).mp z)), if_pos ⟨h, h2⟩]
    · rw [if_pos ((hq i hi).mpr h), if_neg (fun z => h z.1)]
      rfl
  · rintro _ rfl rec
    unfold f_Mo_costOf_L4
    dsimp only
    rw [bd_some (mCells_eq R), if_pos (nI_le (Nat.le_refl _) (by omega))]

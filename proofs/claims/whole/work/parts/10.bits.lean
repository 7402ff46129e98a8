/-! numbers and bits -/
theorem zI (n : Nat) : (OfNat.ofNat n : Int32) = nI n := rfl
theorem zL (n : Nat) : (OfNat.ofNat n : Int64) = lN n := rfl
theorem z1L : (1 : Int64) = lN 1 := rfl
theorem inB_nI {n N : Nat} (h : n < 2 ^ 31) : inB (nI n) N = decide (n < N) := by
  unfold inB
  rw [nI_clamp h]
  have : ¬ nI n < 0 := nI_pos h
  simp [this]
theorem gd_t {α : Type} {b : Bool} {k : Option α} (h : b = true) : gd b k = k := by unfold gd; rw [if_pos h]
theorem gd_nI {α : Type} {n N : Nat} {k : Option α} (h : n < N) (hN : N < 2 ^ 31) : gd (inB (nI n) N) k = k := gd_t (by rw [inB_nI (Nat.lt_trans h hN)]; exact decide_eq_true h)
theorem bd_some {α β : Type} {x : Option α} {v : α} {k : α → Option β} (h : x = some v) : bd x k = k v := by subst h; rfl
theorem jnE {σ α : Type} (k : σ → Option α) (b : (σ → Option α) → Option α) : jn k b = b k := rfl
theorem ltE {α β : Type} (x : α) (k : α → β) : lt x k = k x := rfl
def tb (x : Int64) (c : Nat) : Bool := x.toBitVec.getLsbD c
theorem tb_ext {x y : Int64} (h : ∀ c, c < 64 → tb x c = tb y c) : x = y := by
  apply Int64.toBitVec_inj.mp
  exact BitVec.eq_of_getLsbD_eq fun i hi => h i hi
theorem tb_big {x : Int64} {c : Nat} (h : 64 ≤ c) : tb x c = false := BitVec.getLsbD_of_ge _ _ h
theorem tb_or (x y : Int64) (c : Nat) : tb (x ||| y) c = (tb x c || tb y c) := by simp [tb]
theorem tb_and (x y : Int64) (c : Nat) : tb (x &&& y) c = (tb x c && tb y c) := by simp [tb]
theorem tb_0 (c : Nat) : tb 0 c = false := by simp [tb]
theorem tb_not (x : Int64) {c : Nat} (h : c < 64) : tb (x ^^^ (-1)) c = !tb x c := by
  have : ((-1 : Int64)).toBitVec = BitVec.allOnes 64 := by decide
  simp [tb, this, h]
theorem tb_shl (x : Int64) {k : Nat} (hk : k < 64) (c : Nat) : tb (x <<< ((nI k).toInt64 &&& 63)) c = (decide (k ≤ c) && decide (c < 64) && tb x (c - k)) := by
  have e : ∀ k, k < 64 → (((nI k).toInt64 &&& 63).toBitVec.smod 64).toNat = k := by decide +kernel
  simp only [tb, Int64.toBitVec_shiftLeft, e k hk, BitVec.shiftLeft_eq', BitVec.getLsbD_shiftLeft]
  by_cases h1 : k ≤ c <;> by_cases h2 : c < 64 <;> simp [h1, h2] <;> omega
theorem tb_ushr (x : Int64) {k : Nat} (hk : k < 64) (c : Nat) : tb ((x.toUInt64 >>> ((nI k).toInt64.toUInt64 &&& Int64.toUInt64 63)).toInt64) c = tb x (k + c) := by
  have e : ∀ k, k < 64 → (((nI k).toInt64.toUInt64 &&& Int64.toUInt64 63).toBitVec % 64).toNat = k := by decide +kernel
  simp only [tb, UInt64.toBitVec_toInt64, UInt64.toBitVec_shiftRight, BitVec.ushiftRight_eq', BitVec.getLsbD_ushiftRight, e k hk]
  rfl
theorem tb_one {k : Nat} (hk : k < 64) (c : Nat) : tb ((1 : Int64) <<< ((nI k).toInt64 &&& 63)) c = decide (c = k) := by
  rw [tb_shl _ hk]
  have e : ∀ j, tb 1 j = decide (j = 0) := by
    intro j
    simp only [tb]
    have : ((1 : Int64)).toBitVec = 1#64 := by decide
    rw [this]
    simp [BitVec.getLsbD_one]
  rw [e]
  by_cases h1 : k ≤ c <;> by_cases h2 : c < 64 <;> simp [h1, h2] <;> omega
theorem tb_eq0 {x : Int64} : x = 0 ↔ ∀ c, c < 64 → tb x c = false := by
  constructor
  · rintro rfl c _
    exact tb_0 c
  · intro h
    exact tb_ext fun c hc => by rw [h c hc, tb_0]
theorem lg_eq {x y : Int64} : lg_cmp x y = 0 ↔ x = y := by
  unfold lg_cmp
  by_cases h1 : y < x
  · have : x ≠ y := fun e => by rw [e] at h1; exact absurd h1 (Int64.lt_irrefl)
    simp [h1, this]
  · by_cases h : x = y
    · simp [h]
    · simp [h, h1]
theorem lg0 {x : Int64} : lg_cmp x 0 = 0 ↔ x = 0 := lg_eq
theorem lg_lt {x y : Int64} : lg_cmp x y < 0 ↔ x < y := by
  unfold lg_cmp
  by_cases h1 : y < x
  · have : ¬ x < y := Int64.lt_asymm h1
    simp [h1, this]
  · by_cases h : x = y
    · simp [h]
    · have : x < y := Int64.lt_of_le_of_ne (Int64.not_lt.mp h1) h
      simp [h, h1, this]
theorem lg_gt {x y : Int64} : 0 < lg_cmp x y ↔ y < x := by
  unfold lg_cmp
  by_cases h1 : y < x
  · simp [h1]
  · by_cases h : x = y
    · simp [h]
    · simp [h, h1]
theorem hasCell_eq (x : Int64) {k : Nat} (hk : k < 64) : f_Ai_hasCell x (nI k) = some (if tb x k = true then 1 else 0) := by
  unfold f_Ai_hasCell
  have key : ((x >>> ((nI k).toInt64 &&& 63)) &&& 1 = 0) ↔ tb x k = false := by
    have e : ∀ k, k < 64 → (((nI k).toInt64 &&& 63).toBitVec.smod 64).toNat = k := by decide +kernel
    have o : ∀ j, tb 1 j = decide (j = 0) := by
      intro j
      simp only [tb]
      have : ((1 : Int64)).toBitVec = 1#64 := by decide
      rw [this]
      simp [BitVec.getLsbD_one]
    rw [tb_eq0]
    have s0 : tb (x >>> ((nI k).toInt64 &&& 63)) 0 = tb x k := by
      simp only [tb, Int64.toBitVec_shiftRight, e k hk, BitVec.sshiftRight_eq', BitVec.getLsbD_sshiftRight]
      simp [hk]
    constructor
    · intro h
      have := h 0 (by decide)
      rw [tb_and, o, s0] at this
      simpa using this
    · intro h c hc
      rw [tb_and, o]
      by_cases h0 : c = 0
      · subst h0; rw [s0, h]; rfl
      · simp [h0]
  by_cases h : tb x k = true
  · rw [if_pos h, if_neg]
    rw [lg0, key, h]
    decide
  · rw [if_neg h, if_pos]
    rw [lg0, key]
    simpa using h
/-! loops -/
theorem lp_inv {σ α : Type} {f : (σ → Option α) → σ → Option α} (P : Nat → σ → Prop) (e : Nat) (he : e < 4096) (hs : ∀ i x, i < e → P i x → ∃ x', P (i + 1) x' ∧ ∀ rec, f rec x = rec x') {x0 : σ} (h0 : P 0 x0) : ∃ x rec, P e x ∧ lp f FU x0 = f rec x := by
  have key : ∀ k n i x, k = e - i → i ≤ e → e < n + i → P i x → ∃ x' rec, P e x' ∧ lp f n x = f rec x' := by
    intro k
    induction k with
    | zero =>
      intro n i x hk hi hn hP
      have : i = e := by omega
      subst this
      cases n with
      | zero => omega
      | succ n => exact ⟨x, lp f n, hP, rfl⟩
    | succ k ih =>
      intro n i x hk hi hn hP
      cases n with
      | zero => omega
      | succ n =>
        obtain ⟨x', hP', hf⟩ := hs i x (by omega) hP
        obtain ⟨x2, rec, h2, h3⟩ := ih n (i + 1) x' (by omega) (by omega) (by omega) hP'
        exact ⟨x2, rec, h2, by rw [← h3]; exact hf _⟩
  exact key (e - 0) FU 0 x0 rfl (Nat.zero_le _) (by show e < 4096 + 0; omega) h0
/-- the same for loops that go on differently behind -/
theorem lp_fam {ι σ α : Type} {f : ι → (σ → Option α) → σ → Option α} (P : Nat → σ → Prop) (e : Nat) (he : e < 4096) (hs : ∀ i x, i < e → P i x → ∃ x', P (i + 1) x' ∧ ∀ J rec, f J rec x = rec x') {x0 : σ} (h0 : P 0 x0) : ∃ x, P e x ∧ ∀ J, ∃ rec, lp (f J) FU x0 = f J rec x := by
  have key : ∀ k i x, k = e - i → i ≤ e → P i x → ∃ x', P e x' ∧ ∀ J n, e < n + i → ∃ rec, lp (f J) n x = f J rec x' := by
    intro k
    induction k with
    | zero =>
      intro i x hk hi hP
      have : i = e := by omega
      subst this
      refine ⟨x, hP, fun J n hn => ?_⟩
      cases n with
      | zero => omega
      | succ n => exact ⟨lp (f J) n, rfl⟩
    | succ k ih =>
      intro i x hk hi hP
      obtain ⟨x', hP', hf⟩ := hs i x (by omega) hP
      obtain ⟨x2, h2, h3⟩ := ih (i + 1) x' (by omega) (by omega) hP'
      refine ⟨x2, h2, fun J n hn => ?_⟩
      cases n with
      | zero => omega
      | succ n =>
        obtain ⟨rec, h4⟩ := h3 J n (by omega)
        exact ⟨rec, by rw [← h4]; exact hf _ _⟩
  obtain ⟨x, h1, h2⟩ := key (e - 0) 0 x0 rfl (Nat.zero_le _) h0
  exact ⟨x, h1, fun J => h2 J FU (by show e < 4096 + 0; omega)⟩
/-- a loop that may end early -/
theorem lp_or {σ α : Type} {f : (σ → Option α) → σ → Option α} (P : Nat → σ → Prop) (Z : Option α → Prop) (e : Nat) (he : e < 4096) (hs : ∀ i x, i < e → P i x → (∃ x', P (i + 1) x' ∧ ∀ rec, f rec x = rec x') ∨ ∀ rec, Z (f rec x)) (hx : ∀ x, P e x → ∀ rec, Z (f rec x)) {x0 : σ} (h0 : P 0 x0) : Z (lp f FU x0) := by
  have key : ∀ k n i x, k = e - i → i ≤ e → e < n + i → P i x → Z (lp f n x) := by
    intro k
    induction k with
    | zero =>
      intro n i x hk hi hn hP
      have : i = e := by omega
      subst this
      cases n with
      | zero => omega
      | succ n => exact hx x hP _
    | succ k ih =>
      intro n i x hk hi hn hP
      cases n with
      | zero => omega
      | succ n =>
        rcases hs i x (by omega) hP with ⟨x', hP', hf⟩ | hz
        · show Z (f (lp f n) x)
          rw [hf]
          exact ih n (i + 1) x' (by omega) (by omega) (by omega) hP'
        · exact hz _
  exact key (e - 0) FU 0 x0 rfl (Nat.zero_le _) (by show e < 4096 + 0; omega) h0

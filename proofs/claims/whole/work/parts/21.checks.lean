/-! numbers as told: both say the same -/
theorem rng (p : Int32) {N : Nat} (hN : N < 2 ^ 31) : (∃ k, k < N ∧ p = nI k) ∨ ((p < 0 ∨ nI N ≤ p) ∧ ∀ k, k < N → p ≠ nI k) := by
  rcases pk_ix p hN with h | h | h
  · refine Or.inr ⟨Or.inl h, fun k hk e => ?_⟩
    rw [e] at h
    exact nI_pos (by omega) h
  · refine Or.inr ⟨Or.inr h, fun k hk e => ?_⟩
    rw [e] at h
    exact nI_ge hk hN h
  · exact Or.inl h
theorem l64_int (p : Int32) : p.toInt64.toInt = p.toInt := Int32.toInt_toInt64 p
theorem min_iff (p : Int32) {a b : Nat} (ha : a < 2 ^ 31) (hb : b < 2 ^ 31) : (lN a ≤ p.toInt64 ∧ p.toInt64 ≤ lN b) ↔ ∃ k, a ≤ k ∧ k ≤ b ∧ p = nI k := by
  rw [Int64.le_iff_toInt_le, Int64.le_iff_toInt_le, lN_toInt ha, lN_toInt hb, l64_int]
  constructor
  · rintro ⟨h1, h2⟩
    refine ⟨p.toInt.toNat, by omega, by omega, ?_⟩
    apply Int32.toInt_inj.mp
    rw [nI_toInt (by omega)]
    omega
  · rintro ⟨k, h1, h2, rfl⟩
    rw [nI_toInt (by omega)]
    omega
theorem min_t {p : Int32} {a b : Nat} (ha : a < 2 ^ 31) (hb : b < 2 ^ 31) (h : ∃ k, a ≤ k ∧ k ≤ b ∧ p = nI k) : f_Mo_in p.toInt64 (lN a) (lN b) = some 1 := by
  rw [min_eq, if_pos ((min_iff p ha hb).mpr h)]
theorem min_f {p : Int32} {a b : Nat} (ha : a < 2 ^ 31) (hb : b < 2 ^ 31) (h : ∀ k, a ≤ k → k ≤ b → p ≠ nI k) : f_Mo_in p.toInt64 (lN a) (lN b) = some 0 := by
  rw [min_eq, if_neg (fun q => by obtain ⟨k, h1, h2, h3⟩ := (min_iff p ha hb).mp q; exact h k h1 h2 h3)]
theorem min_less (p : Int32) {n : Nat} (hn : n < 2 ^ 31) : ((∃ k, k < n ∧ p = nI k) → f_Mo_in p.toInt64 0 ((nI n - 1).toInt64) = some 1) ∧ ((∀ k, k < n → p ≠ nI k) → f_Mo_in p.toInt64 0 ((nI n - 1).toInt64) = some 0) := by
  rcases Nat.eq_zero_or_pos n with h0 | h0
  · subst h0
    refine ⟨fun ⟨k, q, _⟩ => by omega, fun _ => ?_⟩
    rw [min_eq, if_neg]
    rw [show ((nI 0 - 1).toInt64) = -1 from by decide, Int64.le_iff_toInt_le, Int64.le_iff_toInt_le, show (0 : Int64).toInt = 0 from by decide, show (-1 : Int64).toInt = -1 from by decide]
    omega
  · rw [show (1 : Int32) = nI 1 from rfl, pk_sub h0, nI_l (by omega)]
    exact ⟨fun ⟨k, q1, q2⟩ => min_t (a := 0) (by decide) (by omega) ⟨k, Nat.zero_le _, by omega, q2⟩, fun h => min_f (a := 0) (by decide) (by omega) (fun k _ q => h k (by omega))⟩
/-- the class' test of a number from 0 on -/
theorem lo_t {N k : Nat} (hN : N < 2 ^ 31) (hk : k < N) {A B C : Option Int32} : (if nI k < 0 then A else if nI N ≤ nI k then B else C) = C := by
  rw [if_neg (nI_pos (by omega)), if_neg (nI_ge hk hN)]
theorem lo_f {p : Int32} {N : Nat} (h : p < 0 ∨ nI N ≤ p) {A C : Option Int32} : (if p < 0 then A else if nI N ≤ p then A else C) = A := by
  by_cases q : p < 0
  · rw [if_pos q]
  · rw [if_neg q, if_pos (h.resolve_left q)]
theorem gdz1 {k : Option Int32} : gd (isZ 1) k = k := gd_t rfl
theorem gdz0 {k : Option Int32} : gd (isZ 0) k = k := gd_t rfl
/-- p is one of n numbers -/
def In (p : Int32) (n : Nat) : Prop := ∃ k, k < n ∧ p = nI k
theorem in_or (p : Int32) {n : Nat} (hn : n < 2 ^ 31) : In p n ∨ ((p < 0 ∨ nI n ≤ p) ∧ ∀ k, k < n → p ≠ nI k) := rng p hn
theorem isMaker_t {k n : Nat} (hn : n < 2 ^ 31) (hk : k < n) : f_Ai_isMaker (nI n) (nI k) = some 1 := by unfold f_Ai_isMaker; exact lo_t hn hk
theorem isMaker_f {p : Int32} {n : Nat} (h : p < 0 ∨ nI n ≤ p) : f_Ai_isMaker (nI n) p = some 0 := by unfold f_Ai_isMaker; exact lo_f h
theorem isLeave_t {k n : Nat} (hn : n < 2 ^ 31) (hk : k < n) : f_Ai_isLeave (nI n) (nI k) = some 1 := by unfold f_Ai_isLeave; exact lo_t hn hk
theorem isLeave_f {p : Int32} {n : Nat} (h : p < 0 ∨ nI n ≤ p) : f_Ai_isLeave (nI n) p = some 0 := by unfold f_Ai_isLeave; exact lo_f h
theorem isCell_t {k w h : Nat} (hn : w * h < 2 ^ 31) (hk : k < w * h) : f_Ai_isCell (nI w) (nI h) (nI k) = some 1 := by unfold f_Ai_isCell; rw [pk_mul]; exact lo_t hn hk
theorem isCell_f {p : Int32} {w h : Nat} (q : p < 0 ∨ nI (w * h) ≤ p) : f_Ai_isCell (nI w) (nI h) p = some 0 := by unfold f_Ai_isCell; rw [pk_mul]; exact lo_f q
theorem isOwner_t {k : Nat} (hk : k < 6) : f_Ai_isOwner (nI k) = some 1 := by unfold f_Ai_isOwner; exact lo_t (N := 6) (by decide) hk
theorem isOwner_f {p : Int32} (h : p < 0 ∨ nI 6 ≤ p) : f_Ai_isOwner p = some 0 := by unfold f_Ai_isOwner; exact lo_f (N := 6) h
theorem isHour_t {k : Nat} (hk : k < 24) : f_Ai_isHour (nI k) = some 1 := by
  unfold f_Ai_isHour
  rw [if_neg (nI_pos (by omega)), show (23 : Int32) = nI 23 from rfl, if_neg (nI_nlt (by omega) (by omega))]
theorem isHour_f {p : Int32} (h : p < 0 ∨ nI 24 ≤ p) : f_Ai_isHour p = some 0 := by
  unfold f_Ai_isHour
  by_cases q : p < 0
  · rw [if_pos q]
  · rw [if_neg q, if_pos]
    have h2 := h.resolve_left q
    rw [Int32.le_iff_toInt_le] at h2
    rw [Int32.lt_iff_toInt_lt]
    have e1 : (nI 24).toInt = 24 := by decide
    have e2 : (23 : Int32).toInt = 23 := by decide
    omega
/-- so loud: 1 to 20 -/
theorem loud_or (p : Int32) : (∃ k, 1 ≤ k ∧ k ≤ 20 ∧ p = nI k) ∨ ((p < 1 ∨ 20 < p) ∧ ∀ k, 1 ≤ k → k ≤ 20 → p ≠ nI k) := by
  by_cases h : 1 ≤ p.toInt ∧ p.toInt ≤ 20
  · refine Or.inl ⟨p.toInt.toNat, by omega, by omega, ?_⟩
    apply Int32.toInt_inj.mp
    rw [nI_toInt (by omega)]
    omega
  · refine Or.inr ⟨?_, fun k h1 h2 e => ?_⟩
    · rw [Int32.lt_iff_toInt_lt, Int32.lt_iff_toInt_lt]
      have e1 : (1 : Int32).toInt = 1 := by decide
      have e2 : (20 : Int32).toInt = 20 := by decide
      omega
    · rw [e, nI_toInt (by omega)] at h
      omega
theorem isLoud_t {k : Nat} (h1 : 1 ≤ k) (h2 : k ≤ 20) : f_Ai_isLoud (nI k) = some 1 := by
  unfold f_Ai_isLoud
  rw [show (1 : Int32) = nI 1 from rfl, show (20 : Int32) = nI 20 from rfl, if_neg (nI_nlt h1 (by omega)), if_neg (nI_nlt h2 (by omega))]
theorem isLoud_f {p : Int32} (h : p < 1 ∨ 20 < p) : f_Ai_isLoud p = some 0 := by
  unfold f_Ai_isLoud
  by_cases q : p < 1
  · rw [if_pos q]
  · rw [if_neg q, if_pos (h.resolve_left q)]
theorem mCells_eq {row : Nat → Int32} {v : Nat → Nat} (R : Rm row v) : f_Mo_cells row = some (nI (v 0 * v 1)) := by
  unfold f_Mo_cells
  rw [show (0 : Int32).toNatClampNeg = 0 from by decide, show (1 : Int32).toNatClampNeg = 1 from by decide, R 0 (by decide) (by decide), R 1 (by decide) (by decide), pk_mul]
theorem mCell_t {row : Nat → Int32} {v : Nat → Nat} (R : Rm row v) (hn : v 0 * v 1 < 2 ^ 31) {k : Nat} (hk : k < v 0 * v 1) : f_Mo_isCell row (nI k) = some 1 := by
  unfold f_Mo_isCell
  rw [bd_some (mCells_eq R), bd_some ((min_less (nI k) hn).1 ⟨k, hk, rfl⟩), gdz1]
theorem mCell_f {row : Nat → Int32} {v : Nat → Nat} (R : Rm row v) (hn : v 0 * v 1 < 2 ^ 31) {p : Int32} (h : ∀ k, k < v 0 * v 1 → p ≠ nI k) : f_Mo_isCell row p = some 0 := by
  unfold f_Mo_isCell
  rw [bd_some (mCells_eq R), bd_some ((min_less p hn).2 h), gdz0]
theorem mMaker_t {row : Nat → Int32} {v : Nat → Nat} (R : Rm row v) (hn : v 122 < 2 ^ 31) {k : Nat} (hk : k < v 122) : f_Mo_isMaker row (nI k) = some 1 := by
  unfold f_Mo_isMaker
  rw [show (122 : Int32).toNatClampNeg = 122 from by decide, R 122 (by decide) (by decide), bd_some ((min_less (nI k) hn).1 ⟨k, hk, rfl⟩), gdz1]
theorem mMaker_f {row : Nat → Int32} {v : Nat → Nat} (R : Rm row v) (hn : v 122 < 2 ^ 31) {p : Int32} (h : ∀ k, k < v 122 → p ≠ nI k) : f_Mo_isMaker row p = some 0 := by
  unfold f_Mo_isMaker
  rw [show (122 : Int32).toNatClampNeg = 122 from by decide, R 122 (by decide) (by decide), bd_some ((min_less p hn).2 h), gdz0]
theorem mLeave_t {row : Nat → Int32} {v : Nat → Nat} (R : Rm row v) (hn : v 147 < 2 ^ 31) {k : Nat} (hk : k < v 147) : f_Mo_isLeave row (nI k) = some 1 := by
  unfold f_Mo_isLeave
  rw [show (147 : Int32).toNatClampNeg = 147 from by decide, R 147 (by decide) (by decide), bd_some ((min_less (nI k) hn).1 ⟨k, hk, rfl⟩), gdz1]
theorem mLeave_f {row : Nat → Int32} {v : Nat → Nat} (R : Rm row v) (hn : v 147 < 2 ^ 31) {p : Int32} (h : ∀ k, k < v 147 → p ≠ nI k) : f_Mo_isLeave row p = some 0 := by
  unfold f_Mo_isLeave
  rw [show (147 : Int32).toNatClampNeg = 147 from by decide, R 147 (by decide) (by decide), bd_some ((min_less p hn).2 h), gdz0]
theorem mOwner_t {k : Nat} (hk : k < 6) : f_Mo_isOwner (nI k) = some 1 := by
  unfold f_Mo_isOwner
  rw [bd_some (show f_Mo_in (nI k).toInt64 0 5 = some 1 from min_t (a := 0) (b := 5) (by decide) (by decide) ⟨k, Nat.zero_le _, by omega, rfl⟩), gdz1]
theorem mOwner_f {p : Int32} (h : ∀ k, k < 6 → p ≠ nI k) : f_Mo_isOwner p = some 0 := by
  unfold f_Mo_isOwner
  rw [bd_some (show f_Mo_in p.toInt64 0 5 = some 0 from min_f (a := 0) (b := 5) (by decide) (by decide) (fun k _ q => h k (by omega))), gdz0]
theorem mHour_t {k : Nat} (hk : k < 24) : f_Mo_isHour (nI k) = some 1 := by
  unfold f_Mo_isHour
  rw [bd_some (show f_Mo_in (nI k).toInt64 0 23 = some 1 from min_t (a := 0) (b := 23) (by decide) (by decide) ⟨k, Nat.zero_le _, by omega, rfl⟩), gdz1]
theorem mHour_f {p : Int32} (h : ∀ k, k < 24 → p ≠ nI k) : f_Mo_isHour p = some 0 := by
  unfold f_Mo_isHour
  rw [bd_some (show f_Mo_in p.toInt64 0 23 = some 0 from min_f (a := 0) (b := 23) (by decide) (by decide) (fun k _ q => h k (by omega))), gdz0]
theorem mLoud_t {k : Nat} (h1 : 1 ≤ k) (h2 : k ≤ 20) : f_Mo_isLoud (nI k) = some 1 := by
  unfold f_Mo_isLoud
  rw [bd_some (show f_Mo_in (nI k).toInt64 1 20 = some 1 from min_t (a := 1) (b := 20) (by decide) (by decide) ⟨k, h1, h2, rfl⟩), gdz1]
theorem mLoud_f {p : Int32} (h : ∀ k, 1 ≤ k → k ≤ 20 → p ≠ nI k) : f_Mo_isLoud p = some 0 := by
  unfold f_Mo_isLoud
  rw [bd_some (show f_Mo_in p.toInt64 1 20 = some 0 from min_f (a := 1) (b := 20) (by decide) (by decide) h), gdz0]
/-- a sound as told, or refused by both -/
theorem sound_or {row : Nat → Int32} {v : Nat → Nat} (R : Rm row v) (hm : v 122 ≤ 6) (a b c : Int32) :
    (∃ m ld hr, m < v 122 ∧ 1 ≤ ld ∧ ld ≤ 20 ∧ hr < 24 ∧ a = nI m ∧ b = nI ld ∧ c = nI hr ∧ f_Ai_isSound (nI (v 122)) a b c = some 1 ∧ f_Mo_isSound row a b c = some 1) ∨ (f_Ai_isSound (nI (v 122)) a b c = some 0 ∧ f_Mo_isSound row a b c = some 0) := by
  unfold f_Ai_isSound f_Mo_isSound
  rcases in_or a (n := v 122) (by omega) with ⟨m, hm1, rfl⟩ | ⟨h1, h2⟩
  · rw [bd_some (isMaker_t (by omega) hm1), bd_some (mMaker_t R (by omega) hm1), if_neg (by decide), if_neg (by decide)]
    rcases loud_or b with ⟨ld, l1, l2, rfl⟩ | ⟨h1, h2⟩
    · rw [bd_some (isLoud_t l1 l2), bd_some (mLoud_t l1 l2), if_neg (by decide), if_neg (by decide)]
      rcases in_or c (n := 24) (by decide) with ⟨hr, k1, rfl⟩ | ⟨h1, h2⟩
      · rw [bd_some (isHour_t k1), bd_some (mHour_t k1)]
        exact Or.inl ⟨m, ld, hr, hm1, l1, l2, k1, rfl, rfl, rfl, rfl, rfl⟩
      · rw [bd_some (isHour_f h1), bd_some (mHour_f h2)]
        exact Or.inr ⟨rfl, rfl⟩
    · rw [bd_some (isLoud_f h1), bd_some (mLoud_f h2)]
      exact Or.inr ⟨rfl, rfl⟩
  · rw [bd_some (isMaker_f h1), bd_some (mMaker_f R (by omega) h2)]
    exact Or.inr ⟨rfl, rfl⟩
/-- what was refused, by reason -/
def StR (rf : Nat → Int32) (bad no full : Int32) : Prop := rf 0 = bad ∧ rf 1 = no ∧ rf 2 = full
theorem refuse_bad {rf : Nat → Int32} {bad no full : Int32} (S : StR rf bad no full) (x : Int32) : f_Ai_refuseAs rf (-2) x = some (x, upd rf 0 (rf 0 + 1)) ∧ StR (upd rf 0 (rf 0 + 1)) (bad + 1) no full := by
  refine ⟨rfl, ?_, ?_, ?_⟩
  · rw [upd_same, S.1]
  · rw [upd_ne (by decide)]; exact S.2.1
  · rw [upd_ne (by decide)]; exact S.2.2
theorem refuse_no {rf : Nat → Int32} {bad no full : Int32} (S : StR rf bad no full) (x : Int32) : f_Ai_refuseAs rf (-3) x = some (x, upd rf 1 (rf 1 + 1)) ∧ StR (upd rf 1 (rf 1 + 1)) bad (no + 1) full := by
  refine ⟨rfl, ?_, ?_, ?_⟩
  · rw [upd_ne (by decide)]; exact S.1
  · rw [upd_same, S.2.1]
  · rw [upd_ne (by decide)]; exact S.2.2
theorem refuse_full {rf : Nat → Int32} {bad no full : Int32} (S : StR rf bad no full) (x : Int32) : f_Ai_refuseAs rf (-4) x = some (x, upd rf 2 (rf 2 + 1)) ∧ StR (upd rf 2 (rf 2 + 1)) bad no (full + 1) := by
  refine ⟨rfl, ?_, ?_, ?_⟩
  · rw [upd_ne (by decide)]; exact S.1
  · rw [upd_ne (by decide)]; exact S.2.1
  · rw [upd_same, S.2.2]
theorem refuse_is {rf rf' : Nat → Int32} {x : Int32} (h : f_Ai_refuseAs rf x x = some (x, rf')) : f_Ai_refuse rf x = some (x, rf') := by
  unfold f_Ai_refuse
  rw [bd_some h]

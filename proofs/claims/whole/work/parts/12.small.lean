/-! small programs of the class -/
theorem nI_add' (a : Nat) : nI a + 1 = nI (a + 1) := nI_1 a
theorem fillJ_eq (n : Nat) (hn : n < 4096) (f : Nat → Int64) (x : Int64) : f_JA_fillJ n f x = some (fun j => if j < n then x else f j) := by
  simp only [f_JA_fillJ, lt]
  obtain ⟨y, rec, ⟨h1, h2⟩, h3⟩ := lp_inv (f := f_JA_fillJ_L6 n x (Int32.ofNat n)) (fun i (y : Int32 × (Nat → Int64)) => y.1 = nI i ∧ y.2 = fun j => if j < i then x else f j) n hn (by
    rintro i ⟨a, b⟩ hi ⟨h1, h2⟩
    simp only at h1 h2
    subst h1; subst h2
    refine ⟨(nI (i + 1), fun j => if j < i + 1 then x else f j), ⟨rfl, rfl⟩, fun rec => ?_⟩
    show (if nI n ≤ nI i then _ else _) = _
    rw [if_neg (nI_ge hi (by omega)), gd_nI hi (by omega)]
    simp only [lt]
    rw [nI_clamp (by omega), nI_1]
    congr 2
    funext j
    unfold vp_updL
    by_cases e : j = i
    · simp [e]
    · by_cases e2 : j < i
      · have : j < i + 1 := by omega
        simp [e, e2, this]
      · have : ¬ j < i + 1 := by omega
        simp [e, e2, this]) (x0 := (0, f)) ⟨rfl, by funext j; simp⟩
  obtain ⟨a, b⟩ := y
  simp only at h1 h2
  subst h1; subst h2
  rw [h3]
  show (if nI n ≤ nI n then _ else _) = _
  rw [if_pos (nI_le (Nat.le_refl n) (by omega))]
theorem fillI_eq (n : Nat) (hn : n < 4096) (f : Nat → Int32) (x : Int32) : f_JA_fillI n f x = some (fun j => if j < n then x else f j) := by
  simp only [f_JA_fillI, lt]
  obtain ⟨y, rec, ⟨h1, h2⟩, h3⟩ := lp_inv (f := f_JA_fillI_L5 n x (Int32.ofNat n)) (fun i (y : Int32 × (Nat → Int32)) => y.1 = nI i ∧ y.2 = fun j => if j < i then x else f j) n hn (by
    rintro i ⟨a, b⟩ hi ⟨h1, h2⟩
    simp only at h1 h2
    subst h1; subst h2
    refine ⟨(nI (i + 1), fun j => if j < i + 1 then x else f j), ⟨rfl, rfl⟩, fun rec => ?_⟩
    show (if nI n ≤ nI i then _ else _) = _
    rw [if_neg (nI_ge hi (by omega)), gd_nI hi (by omega)]
    simp only [lt]
    rw [nI_clamp (by omega), nI_1]
    congr 2
    funext j
    unfold upd
    by_cases e : j = i
    · simp [e]
    · by_cases e2 : j < i
      · have : j < i + 1 := by omega
        simp [e, e2, this]
      · have : ¬ j < i + 1 := by omega
        simp [e, e2, this]) (x0 := (0, f)) ⟨rfl, by funext j; simp⟩
  obtain ⟨a, b⟩ := y
  simp only at h1 h2
  subst h1; subst h2
  rw [h3]
  show (if nI n ≤ nI n then _ else _) = _
  rw [if_pos (nI_le (Nat.le_refl n) (by omega))]
theorem airOf_eq (ar : Nat → Int64) {o : Nat} (h : o < 6) : f_Ld_airOf ar (nI o) = some (ar o) := by
  unfold f_Ld_airOf
  rw [if_neg (nI_pos (by omega)), show (6 : Int32) = nI 6 from rfl, if_neg (nI_ge h (by omega)), gd_nI h (by omega), nI_clamp (by omega)]
theorem selfOf_eq {mk m : Nat} (se : Nat → Int32) (h : m < mk) (hk : mk ≤ 6) : f_Ld_selfOf (nI mk) se (nI m) = some (se m) := by
  unfold f_Ld_selfOf
  rw [if_neg (nI_pos (by omega)), if_neg (nI_ge h (by omega)), gd_nI (by omega) (by omega), nI_clamp (by omega)]
theorem part_eq (pa : Nat → Int32) {j t : Nat} (h : 5 * j + t < 40) : f_Ld_part pa (nI j) (nI t) = some (pa (5 * j + t)) := by
  simp only [f_Ld_part, lt]
  rw [show (5 : Int32) = nI 5 from rfl, show (40 : Int32) = nI 40 from rfl, pk_mul, nI_add, if_neg (nI_pos (by omega)), if_neg (nI_ge (by omega) (by omega)), gd_nI (by omega) (by omega), nI_clamp (by omega), Nat.mul_comm j 5]
theorem isIn_eq (pa : Nat → Int32) {j hr a b : Nat} (h : j < 8) (ha : pa (5 * j + 2) = nI a) (hb : pa (5 * j + 3) = nI b) (h1 : a < 100) (h2 : b < 100) (h3 : hr < 100) : f_Ld_isIn pa (nI j) (nI hr) = some (if a ≤ hr ∧ hr ≤ b then 1 else 0) := by
  unfold f_Ld_isIn
  rw [show (2 : Int32) = nI 2 from rfl, show (3 : Int32) = nI 3 from rfl, bd_some (part_eq pa (by omega)), ha]
  by_cases c1 : a ≤ hr
  · rw [if_neg (nI_nlt c1 (by omega)), bd_some (part_eq pa (by omega)), hb]
    by_cases c2 : hr ≤ b
    · rw [if_neg (nI_nlt c2 (by omega)), if_pos ⟨c1, c2⟩]
    · rw [if_pos (nI_lt (by omega) (by omega)), if_neg (fun q => c2 q.2)]
  · rw [if_pos (nI_lt (by omega) (by omega)), if_neg (fun q => c1 q.1)]
/-- a bit of a small number -/
theorem bit_eq {b q : Nat} (hb : b < 2 ^ 31) (hq : q < 31) : ((nI b >>> (nI q &&& 31)) &&& 1) = 0 ↔ b.testBit q = false := by
  have e : ∀ q, q < 31 → (nI q &&& 31) = nI q ∧ ((nI q).toBitVec.smod 32).toNat = q := by decide +kernel
  rw [(e q hq).1, pk_shrN hb _ q (e q hq).2, pk_andN (Nat.lt_of_le_of_lt (Nat.div_le_self _ _) (by omega)) 1 (by decide)]
  rw [show (0 : Int32) = nI 0 from rfl, nI_eq (by omega) (by omega), Nat.testBit_eq_decide_div_mod_eq]
  simp

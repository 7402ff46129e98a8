/-! words and numbers of the text -/
def MT (tx : Nat → Nat) (p q k : Nat) : Prop := q - p = sLen.getD k 0 ∧ ∀ i, i < sLen.getD k 0 → nI (tx (p + i)) = sCh k i
theorem sLen_lt : ∀ k, k < 6 → 3 ≤ sLen.getD k 0 ∧ sLen.getD k 0 ≤ 6 := by decide
theorem isAt_eq {n : Nat} {tx : Nat → Nat} {t1 t2 : Nat → Int32} (X : TXn n tx t1 t2) {p q k : Nat} (hp : p ≤ q) (hq : q ≤ n) (hk : k < 6) : ∃ z, f_Rd_isAtPlace (nI n) (nI p) (nI q) t1 k = some z ∧ ((z = 1 ∧ MT tx p q k) ∨ (z = 0 ∧ ¬ MT tx p q k)) := by
  have hn := X.1
  have hl := sLen_lt k hk
  generalize hL : sLen.getD k 0 = L at hl
  unfold f_Rd_isAtPlace
  rw [pk_sub hp, hL, show Int32.ofNat L = nI L from rfl]
  by_cases h : q - p = L
  rotate_left
  · rw [if_neg (fun z => h ((nI_eq (by omega) (by omega)).mp z))]
    exact ⟨0, rfl, Or.inr ⟨rfl, fun z => h (z.1.trans hL)⟩⟩
  rw [if_pos (by rw [h])]
  refine lp_or (fun i (y : Int32) => y = nI i ∧ ∀ j, j < i → nI (tx (p + j)) = sCh k j) (fun r => ∃ z, r = some z ∧ ((z = 1 ∧ MT tx p q k) ∨ (z = 0 ∧ ¬ MT tx p q k))) L (by omega) ?_ ?_ ⟨rfl, fun j hj => by omega⟩
  · rintro i _ hi ⟨rfl, hj⟩
    unfold f_Rd_isAtPlace_L20
    simp only [hL, show Int32.ofNat L = nI L from rfl, if_neg (nI_ge hi (show L < 2 ^ 31 by omega)), nIa, bd_some (at_eq X (show p + i < n by omega)), gd_nI hi (show L < 2 ^ 31 by omega), nI_clamp (show i < 2 ^ 31 by omega), ltE, nI1]
    by_cases g : nI (tx (p + i)) = sCh k i
    · refine Or.inl ⟨nI (i + 1), ⟨rfl, fun j hj2 => ?_⟩, fun rec => by rw [if_pos g]⟩
      by_cases e : j = i
      · rw [e]
        exact g
      · exact hj j (by omega)
    · exact Or.inr fun rec => ⟨0, by rw [if_neg g], Or.inr ⟨rfl, fun z => g (z.2 i (by rw [hL]; exact hi))⟩⟩
  · rintro _ ⟨rfl, hj⟩ rec
    unfold f_Rd_isAtPlace_L20
    rw [hL, show Int32.ofNat L = nI L from rfl, if_pos (nI_le (Nat.le_refl _) (by omega))]
    exact ⟨1, rfl, Or.inl ⟨rfl, h.trans hL.symm, fun i hi => hj i (by rw [hL] at hi; exact hi)⟩⟩
def wNum (k : Nat) : Int32 := [844509238, 149601863, 18721, 5286, 19049517, 5964972].getD k 0
theorem wNum_ch : ∀ k, k < 6 → ∀ i, i < sLen.getD k 0 → (96 : Int32) + ((wNum k >>> (((5 : Int32) * nI i) &&& 31)) &&& 31) = sCh k i := by decide +kernel
theorem isWord_eq {n : Nat} {tx : Nat → Nat} {t1 t2 : Nat → Int32} (X : TXn n tx t1 t2) {p q k : Nat} (hp : p ≤ q) (hq : q ≤ n) (hk : k < 6) : ∃ z, f_Mo_isWord (nI p) (nI q) t2 (wNum k) (nI (sLen.getD k 0)) = some z ∧ ((z = 1 ∧ MT tx p q k) ∨ (z = 0 ∧ ¬ MT tx p q k)) := by
  have hn := X.1
  have hl := sLen_lt k hk
  have hch := wNum_ch k hk
  unfold f_Mo_isWord
  rw [pk_sub hp, jnE]
  by_cases h : q - p = sLen.getD k 0
  rotate_left
  · rw [if_neg (fun z => h ((nI_eq (by omega) (by omega)).mp z))]
    refine ⟨0, ?_, Or.inr ⟨rfl, fun z => h z.1⟩⟩
    obtain ⟨y, rec, rfl, g⟩ := lp_inv (f := f_Mo_isWord_L22 (nI p) t2 (wNum k) (nI (sLen.getD k 0))) (fun _ (y : Int32 × Int32) => y = (0, 0)) 0 (by decide) (fun i y hi => by omega) (x0 := ((0 : Int32), (0 : Int32))) rfl
    dsimp only
    rw [g]
    unfold f_Mo_isWord_L22
    dsimp only
    rw [if_pos rfl, gd_t (by decide)]
  rw [if_pos (by rw [h])]
  refine lp_or (fun i (y : Int32 × Int32) => y.2 = nI i ∧ ((y.1 = 1 ∧ ∀ j, j < i → nI (tx (p + j)) = sCh k j) ∨ (y.1 = 0 ∧ ¬ MT tx p q k))) (fun r => ∃ z, r = some z ∧ ((z = 1 ∧ MT tx p q k) ∨ (z = 0 ∧ ¬ MT tx p q k))) (sLen.getD k 0) (by omega) ?_ ?_ ⟨rfl, Or.inl ⟨rfl, fun j hj => by omega⟩⟩
  · rintro i ⟨a, b⟩ hi ⟨e, ⟨e2, hj⟩ | ⟨e2, hj⟩⟩ <;> dsimp only at e e2 <;> subst e <;> subst e2 <;> unfold f_Mo_isWord_L22 <;> dsimp only
    · simp only [if_neg (show ¬ (1 : Int32) = 0 from by decide), if_neg (nI_ge hi (show sLen.getD k 0 < 2 ^ 31 by omega)), nIa, gd_nI (show p + i < 150 by omega) (show 150 < 2 ^ 31 by decide), nI_clamp (show p + i < 2 ^ 31 by omega), (X.2 (p + i) (by omega)).2.2, hch i hi, jnE, ltE, nI1]
      by_cases g : nI (tx (p + i)) = sCh k i
      · refine Or.inl ⟨(1, nI (i + 1)), ⟨rfl, Or.inl ⟨rfl, fun j hj2 => ?_⟩⟩, fun rec => by rw [if_pos g]⟩
        by_cases e : j = i
        · rw [e]
          exact g
        · exact hj j (by omega)
      · exact Or.inl ⟨(0, nI (i + 1)), ⟨rfl, Or.inr ⟨rfl, fun z => g (z.2 i hi)⟩⟩, fun rec => by rw [if_neg g]⟩
    · refine Or.inr fun rec => ?_
      rw [if_pos rfl, gd_t (by decide)]
      exact ⟨0, rfl, Or.inr ⟨rfl, hj⟩⟩
  · rintro ⟨a, b⟩ ⟨e, ⟨e2, hj⟩ | ⟨e2, hj⟩⟩ rec <;> dsimp only at e e2 <;> subst e <;> subst e2 <;> unfold f_Mo_isWord_L22 <;> dsimp only
    · rw [if_neg (show ¬ (1 : Int32) = 0 from by decide), if_pos (nI_le (Nat.le_refl _) (by omega)), gd_t (by decide)]
      exact ⟨1, rfl, Or.inl ⟨rfl, h, hj⟩⟩
    · rw [if_pos rfl, gd_t (by decide)]
      exact ⟨0, rfl, Or.inr ⟨rfl, hj⟩⟩
theorem spelling_eq : ∀ k, k < 6 → f_Rd_spelling (nI k) = k := by decide +kernel
theorem sCh_ltr : ∀ k, k < 6 → ∃ b, b < 128 ∧ sCh k 0 = nI b ∧ 97 ≤ b ∧ b ≤ 122 := by
  intro k hk
  have : k = 0 ∨ k = 1 ∨ k = 2 ∨ k = 3 ∨ k = 4 ∨ k = 5 := by omega
  rcases this with rfl | rfl | rfl | rfl | rfl | rfl
  · exact ⟨118, by decide, rfl, by decide, by decide⟩
  · exact ⟨103, by decide, rfl, by decide, by decide⟩
  · exact ⟨97, by decide, rfl, by decide, by decide⟩
  · exact ⟨102, by decide, rfl, by decide, by decide⟩
  · exact ⟨109, by decide, rfl, by decide, by decide⟩
  · exact ⟨108, by decide, rfl, by decide, by decide⟩
/-- the word of a token, 6: none -/
theorem word_eq {n : Nat} {tx : Nat → Nat} {t1 t2 : Nat → Int32} (X : TXn n tx t1 t2) {e p q tk : Nat} (T : TK n tx e p q tk) : ∃ w, w ≤ 6 ∧ (tk = 1 → f_Rd_wordAtPlace (nI n) (nI p) (nI q) t1 = some (nI w)) ∧ (tk ≠ 1 → w = 6) ∧ f_Mo_itemWord (nI p) (nI q) t2 = some (if w = 6 then -1 else nI w) ∧ (w < 6 → p < n ∧ p < q ∧ tk = 1) := by
  obtain ⟨T1, T2, T3, T4⟩ := T
  have hpq : p ≤ q := by
    rcases T4 with ⟨a, b, _⟩ | ⟨_, a, _⟩ <;> omega
  have tk1 : ∀ k, k < 6 → MT tx p q k → p < n ∧ p < q ∧ tk = 1 := fun k hk m => by
    have hl := sLen_lt k hk
    have h1 := m.1
    have hpn : p < n := by omega
    obtain ⟨b, b1, b2, b3, b4⟩ := sCh_ltr k hk
    have h2 := m.2 0 (by omega)
    rw [b2, Nat.add_zero] at h2
    have b5 := (X.2 p hpn).1
    have e : tx p = b := (nI_eq (by omega) (by omega)).mp h2
    have hltr : ltr (tx p) := by
      rw [e]
      exact ⟨b3, b4⟩
    rcases T4 with ⟨a, _⟩ | ⟨_, c, ⟨_, d⟩ | ⟨d, _⟩ | ⟨d, _⟩⟩
    · omega
    · exact ⟨hpn, c, d⟩
    · unfold ltr at hltr
      unfold fig at d
      omega
    · exact absurd hltr d
  have key : ∃ w, w ≤ 6 ∧ (w < 6 → MT tx p q w) ∧ ∀ k, k < w → ¬ MT tx p q k := by
    have : ∀ d i, i + d = 6 → (∀ k, k < i → ¬ MT tx p q k) → ∃ w, w ≤ 6 ∧ (w < 6 → MT tx p q w) ∧ ∀ k, k < w → ¬ MT tx p q k := by
      intro d
      induction d with
      | zero =>
        intro i hi h
        exact ⟨i, by omega, fun z => by omega, h⟩
      | succ d ih =>
        intro i hi h
        by_cases m : MT tx p q i
        · exact ⟨i, by omega, fun _ => m, h⟩
        · refine ih (i + 1) (by omega) fun k hk => ?_
          by_cases ek : k = i
          · rw [ek]
            exact m
          · exact h k (by omega)
    exact this 6 0 rfl fun k hk => by omega
  obtain ⟨w, w1, w2, w3⟩ := key
  have wrd : ∀ k, k < 6 → ∃ z, f_Mo_isWord (nI p) (nI q) t2 (wNum k) (nI (sLen.getD k 0)) = some z ∧ (k < w → z = 0) ∧ (k = w → z = 1) := fun k hk => by
    obtain ⟨z, z1, ⟨z2, z3⟩ | ⟨z2, z3⟩⟩ := isWord_eq X hpq T3 hk
    · exact ⟨z, z1, fun h => absurd z3 (w3 k h), fun _ => z2⟩
    · exact ⟨z, z1, fun _ => z2, fun h => absurd (by rw [h]; exact w2 (by omega)) z3⟩
  obtain ⟨z0, a0, b0, c0⟩ := wrd 0 (by decide)
  obtain ⟨z1, a1, b1, c1⟩ := wrd 1 (by decide)
  obtain ⟨z2, a2, b2, c2⟩ := wrd 2 (by decide)
  obtain ⟨z3, a3, b3, c3⟩ := wrd 3 (by decide)
  obtain ⟨z4, a4, b4, c4⟩ := wrd 4 (by decide)
  obtain ⟨z5, a5, b5, c5⟩ := wrd 5 (by decide)
  refine ⟨w, w1, fun _ => ?_, fun h => ?_, ?_, fun h => tk1 w h (w2 h)⟩
  · unfold f_Rd_wordAtPlace
    refine lp_or (fun i (y : Int32) => y = nI i ∧ i ≤ w) (fun r => r = some (nI w)) 6 (by decide) ?_ ?_ ⟨rfl, Nat.zero_le _⟩
    · rintro i _ hi ⟨rfl, hw⟩
      obtain ⟨z, y1, ⟨y2, y3⟩ | ⟨y2, y3⟩⟩ := isAt_eq X hpq T3 hi
      · have e : i = w := by
          refine Nat.le_antisymm hw (Nat.le_of_not_lt fun h => w3 i h y3)
        refine Or.inr fun rec => ?_
        unfold f_Rd_wordAtPlace_L2
        rw [if_neg (show ¬ (6 : Int32) ≤ nI i from nI_ge (b := 6) hi (by decide)), spelling_eq i hi, bd_some y1, y2, if_neg (by decide), e]
      · refine Or.inl ⟨nI (i + 1), ⟨rfl, Nat.lt_of_le_of_ne hw fun h => y3 (by rw [h]; exact w2 (by omega))⟩, fun rec => ?_⟩
        unfold f_Rd_wordAtPlace_L2
        rw [if_neg (show ¬ (6 : Int32) ≤ nI i from nI_ge (b := 6) hi (by decide)), spelling_eq i hi, bd_some y1, y2, if_pos rfl, ltE, nI1]
    · rintro _ ⟨rfl, hw⟩ rec
      have e : w = 6 := by omega
      unfold f_Rd_wordAtPlace_L2
      rw [if_pos (show (6 : Int32) ≤ nI 6 from by decide), e]
      rfl
  · refine Classical.byContradiction fun z => h ?_
    exact (tk1 w (by omega) (w2 (by omega))).2.2
  · have d0 : f_Mo_isWord (nI p) (nI q) t2 844509238 6 = some z0 := a0
    have d1 : f_Mo_isWord (nI p) (nI q) t2 149601863 6 = some z1 := a1
    have d2 : f_Mo_isWord (nI p) (nI q) t2 18721 3 = some z2 := a2
    have d3 : f_Mo_isWord (nI p) (nI q) t2 5286 3 = some z3 := a3
    have d4 : f_Mo_isWord (nI p) (nI q) t2 19049517 5 = some z4 := a4
    have d5 : f_Mo_isWord (nI p) (nI q) t2 5964972 5 = some z5 := a5
    unfold f_Mo_itemWord
    have hw7 : w = 0 ∨ w = 1 ∨ w = 2 ∨ w = 3 ∨ w = 4 ∨ w = 5 ∨ w = 6 := by omega
    rw [bd_some d0, bd_some d1, bd_some d2, bd_some d3, bd_some d4, bd_some d5]
    rcases hw7 with rfl | rfl | rfl | rfl | rfl | rfl | rfl
    · rw [c0 rfl, if_neg (by decide)]
      rfl
    · rw [b0 (by decide), c1 rfl, if_pos rfl, if_neg (by decide)]
      rfl
    · rw [b0 (by decide), b1 (by decide), c2 rfl, if_pos rfl, if_pos rfl, if_neg (by decide)]
      rfl
    · rw [b0 (by decide), b1 (by decide), b2 (by decide), c3 rfl, if_pos rfl, if_pos rfl, if_pos rfl, if_neg (by decide)]
      rfl
    · rw [b0 (by decide), b1 (by decide), b2 (by decide), b3 (by decide), c4 rfl, if_pos rfl, if_pos rfl, if_pos rfl, if_pos rfl, if_neg (by decide)]
      rfl
    · rw [b0 (by decide), b1 (by decide), b2 (by decide), b3 (by decide), b4 (by decide), c5 rfl, if_pos rfl, if_pos rfl, if_pos rfl, if_pos rfl, if_pos rfl, if_neg (by decide)]
      rfl
    · rw [b0 (by decide), b1 (by decide), b2 (by decide), b3 (by decide), b4 (by decide), b5 (by decide), if_pos rfl, if_pos rfl, if_pos rfl, if_pos rfl, if_pos rfl, if_pos rfl]
      rfl
/-! numbers -/
def vl (tx : Nat → Nat) (p : Nat) : Nat → Nat
  | 0 => 0
  | k + 1 => 10 * vl tx p k + (tx (p + k) - 48)
theorem vl_lt {tx : Nat → Nat} {p : Nat} : ∀ k, (∀ i, i < k → fig (tx (p + i))) → vl tx p k < 10 ^ k
  | 0, _ => Nat.zero_lt_one
  | k + 1, h => by
    have h1 := vl_lt k fun i hi => h i (by omega)
    obtain ⟨h2, h3⟩ := h k (by omega)
    have e : (10 : Nat) ^ (k + 1) = 10 * 10 ^ k := by rw [Nat.pow_succ]; omega
    show 10 * vl tx p k + (tx (p + k) - 48) < _
    omega
theorem dig {a b : Nat} (h1 : 48 ≤ b) : (10 : Int32) * nI a + nI b - 48 = nI (10 * a + (b - 48)) := by
  rw [show (10 : Int32) = nI 10 from rfl, show (48 : Int32) = nI 48 from rfl, pk_mul, nIa, pk_sub (by omega)]
  exact congrArg nI (by omega)
theorem num_cls {n : Nat} {tx : Nat → Nat} {t1 t2 : Nat → Int32} (X : TXn n tx t1 t2) {p q : Nat} (hp : p ≤ q) (hq : q ≤ n) (hf : ∀ i, p ≤ i → i < q → fig (tx i)) : f_Rd_numberAtPlace (nI n) (nI p) (nI q) t1 = some (nI (vl tx p (q - p))) := by
  have hn := X.1
  unfold f_Rd_numberAtPlace
  obtain ⟨y, rec, rfl, h⟩ := lp_inv (f := f_Rd_numberAtPlace_L7 (nI n) (nI q) t1) (fun i (y : Int32 × Int32) => y = (nI (vl tx p i), nI (p + i))) (q - p) (by omega) (by
    rintro i _ hi rfl
    refine ⟨_, rfl, fun rec => ?_⟩
    unfold f_Rd_numberAtPlace_L7
    dsimp only
    rw [if_neg (nI_ge (show p + i < q by omega) (by omega)), bd_some (at_eq X (show p + i < n by omega)), dig (hf _ (by omega) (by omega)).1, ltE, ltE, nI1]
    rfl) (x0 := ((0 : Int32), nI p)) rfl
  rw [h]
  unfold f_Rd_numberAtPlace_L7
  dsimp only
  rw [if_pos (nI_le (show q ≤ p + (q - p) by omega) (by omega))]
theorem num_ref {n : Nat} {tx : Nat → Nat} {t1 t2 : Nat → Int32} (X : TXn n tx t1 t2) {p q : Nat} (hp : p ≤ q) (hq : q ≤ n) (hf : ∀ i, p ≤ i → i < q → fig (tx i)) (J : Int32 → Option (Int32 × Int32 × Int32 × Int32 × (Nat → Int32))) : lp (f_Mo_reads_L51 (nI q) t2 J) FU (0, nI p) = J (nI (vl tx p (q - p))) := by
  have hn := X.1
  obtain ⟨y, rfl, h⟩ := lp_fam (f := f_Mo_reads_L51 (nI q) t2) (fun i (y : Int32 × Int32) => y = (nI (vl tx p i), nI (p + i))) (q - p) (by omega) (by
    rintro i _ hi rfl
    refine ⟨_, rfl, fun J rec => ?_⟩
    unfold f_Mo_reads_L51
    dsimp only
    rw [if_neg (nI_ge (show p + i < q by omega) (by omega)), gd_nI (by omega) (by decide), nI_clamp (by omega), (X.2 (p + i) (by omega)).2.2, dig (hf _ (by omega) (by omega)).1, ltE, ltE, nI1]
    rfl) (x0 := ((0 : Int32), nI p)) rfl
  obtain ⟨rec, g⟩ := h J
  rw [g]
  unfold f_Mo_reads_L51
  dsimp only
  rw [if_pos (nI_le (show q ≤ p + (q - p) by omega) (by omega))]
theorem min_int (a b c : Int32) : f_Mo_in a.toInt64 b.toInt64 c.toInt64 = some (if b ≤ a ∧ a ≤ c then 1 else 0) := by
  have e : ∀ x y : Int32, x.toInt64 ≤ y.toInt64 ↔ x ≤ y := fun x y => by
    rw [Int64.le_iff_toInt_le, Int32.le_iff_toInt_le, l64_int, l64_int]
  rw [min_eq]
  by_cases h : b ≤ a ∧ a ≤ c
  · rw [if_pos h, if_pos ⟨(e _ _).mpr h.1, (e _ _).mpr h.2⟩]
  · rw [if_neg h, if_neg (fun z => h ⟨(e _ _).mp z.1, (e _ _).mp z.2⟩)]
theorem tk2 {n : Nat} {tx : Nat → Nat} {e p q tk : Nat} (T : TK n tx e p q tk) (h : tk = 2) : p < n ∧ p < q ∧ q - p ≤ 2 ∧ fig (tx p) ∧ ∀ i, p ≤ i → i < q → fig (tx i) := by
  obtain ⟨_, _, _, T4⟩ := T
  rcases T4 with ⟨_, _, a⟩ | ⟨a, b, ⟨_, c⟩ | ⟨c, d, f⟩ | ⟨_, _, c⟩⟩
  · omega
  · omega
  · refine ⟨a, b, ?_, c, d⟩
    by_cases g : q - p ≤ 2
    · exact g
    · rw [if_neg g] at f
      omega
  · by_cases g : tx p = 59
    · rw [if_pos g] at c
      omega
    · rw [if_neg g] at c
      omega
theorem tk2_vl {n : Nat} {tx : Nat → Nat} {e p q tk : Nat} (T : TK n tx e p q tk) (h : tk = 2) : vl tx p (q - p) < 100 := by
  obtain ⟨a, b, c, d, f⟩ := tk2 T h
  have := vl_lt (tx := tx) (p := p) (q - p) fun i hi => f _ (by omega) (by omega)
  exact Nat.lt_of_lt_of_le this (Nat.pow_le_pow_right (n := 10) (j := 2) (by decide) c)
theorem reads_ok {n : Nat} {tx : Nat → Nat} {t1 t2 : Nat → Int32} (X : TXn n tx t1 t2) {e p q tk : Nat} (T : TK n tx e p q tk) (h : tk = 2) {lo hi : Int32} (h1 : lo ≤ nI (vl tx p (q - p))) (h2 : nI (vl tx p (q - p)) ≤ hi) {M k : Nat} (hM : 6 * M + k < 450) {p' q' : Nat} (ht : f_Mo_token (nI n) (nI q) t2 = some (nI q', nI p', nI q')) (rd : Nat → Int32) : f_Mo_reads (nI n) (nI q) (nI p) (nI q) (nI M) t2 rd (nI k) lo hi = some (1, nI q', nI p', nI q', upd rd (6 * M + k) (nI (vl tx p (q - p)))) := by
  obtain ⟨a, b, c, d, f⟩ := tk2 T h
  have hn := X.1
  unfold f_Mo_reads
  rw [if_neg (fun z => by have := (nI_eq (show p < 2 ^ 31 by omega) (by omega)).mp z; omega), gd_nI (by omega) (by decide), nI_clamp (by omega), (X.2 p a).2.2, bd_some (sort_2 d), if_pos rfl, pk_sub (Nat.le_of_lt b), if_pos (show nI (q - p) ≤ 2 from nI_le (b := 2) c (by decide)), jnE, num_ref X (Nat.le_of_lt b) T.2.2.1 f, min_int, if_pos (show lo ≤ nI (vl tx p (q - p)) ∧ nI (vl tx p (q - p)) ≤ hi from ⟨h1, h2⟩), bd_some rfl, if_neg (show ¬ (1 : Int32) = 0 from by decide), show (6 : Int32) = nI 6 from rfl, pk_mul, nIa, gd_nI hM (by decide), nI_clamp (by omega), ltE, bd_some ht]
theorem reads_no {n : Nat} {tx : Nat → Nat} {t1 t2 : Nat → Int32} (X : TXn n tx t1 t2) {e p q tk : Nat} (T : TK n tx e p q tk) {lo hi : Int32} (h : ¬ (tk = 2 ∧ lo ≤ nI (vl tx p (q - p)) ∧ nI (vl tx p (q - p)) ≤ hi)) (M k : Int32) (rd : Nat → Int32) : f_Mo_reads (nI n) (nI q) (nI p) (nI q) M t2 rd k lo hi = some (0, nI q, nI p, nI q, rd) := by
  have hn := X.1
  have T0 := T
  obtain ⟨T1, T2, T3, T4⟩ := T
  unfold f_Mo_reads
  rcases T4 with ⟨a, _⟩ | ⟨a, b, T4⟩
  · rw [if_pos (by rw [a])]
  · rw [if_neg (fun z => by have := (nI_eq (show p < 2 ^ 31 by omega) (by omega)).mp z; omega), gd_nI (by omega) (by decide), nI_clamp (by omega), (X.2 p a).2.2]
    rcases T4 with ⟨c, _⟩ | ⟨c, d, f⟩ | ⟨c1, c2, _⟩
    · rw [bd_some (sort_1 c), if_neg (by decide)]
    · rw [bd_some (sort_2 c), if_pos rfl, pk_sub (Nat.le_of_lt b)]
      by_cases g : q - p ≤ 2
      · rw [if_pos g] at f
        rw [if_pos (show nI (q - p) ≤ 2 from nI_le (b := 2) g (by decide)), jnE, num_ref X (Nat.le_of_lt b) T3 d, min_int, bd_some rfl, if_neg (fun z => h ⟨f, z⟩), if_pos rfl]
      · rw [if_neg (show ¬ nI (q - p) ≤ 2 from nI_ge (a := 2) (b := q - p) (by omega) (by omega))]
    · rw [bd_some (sort_0 (X.2 p a).1 c1 c2), if_neg (by decide)]

/-! the text: its tokens, as both read them -/
def ltr (b : Nat) : Prop := 97 ≤ b ∧ b ≤ 122
def fig (b : Nat) : Prop := 48 ≤ b ∧ b ≤ 57
/-- the text as numbers -/
def TXn (n : Nat) (tx : Nat → Nat) (t1 t2 : Nat → Int32) : Prop := n ≤ 150 ∧ ∀ i, i < n → tx i < 128 ∧ t1 i = nI (tx i) ∧ t2 i = nI (tx i)
theorem TxR_n {t1 t2 : Nat → Int32} {n : Nat} (X : TxR t1 t2 n) : ∃ tx, TXn n tx t1 t2 := by
  obtain ⟨h1, h2⟩ := X
  refine ⟨fun i => (t2 i).toNatClampNeg, h1, fun i hi => ?_⟩
  obtain ⟨e, k, hk, hk2⟩ := h2 i hi
  dsimp only
  rw [e, hk2, nI_clamp (by omega)]
  exact ⟨hk, rfl, rfl⟩
theorem at_eq {n : Nat} {tx : Nat → Nat} {t1 t2 : Nat → Int32} (X : TXn n tx t1 t2) {i : Nat} (hi : i < n) : f_Rd_at (nI n) t1 (nI i) = some (nI (tx i)) := by
  have h1 := X.1
  unfold f_Rd_at
  rw [if_neg (nI_pos (by omega)), if_neg (nI_ge hi (by omega)), if_neg (show ¬ (150 : Int32) ≤ nI i from nI_ge (b := 150) (by omega) (by decide)), gd_nI (by omega) (by decide), nI_clamp (by omega), (X.2 i hi).2.1]
theorem lt97 {b : Nat} (hb : b < 128) : nI b < 97 ↔ b < 97 := nI_ltI (b := 97) (by omega) (by decide)
theorem gt122 {b : Nat} (hb : b < 128) : (122 : Int32) < nI b ↔ 122 < b := nI_ltI (a := 122) (by decide) (by omega)
theorem lt48 {b : Nat} (hb : b < 128) : nI b < 48 ↔ b < 48 := nI_ltI (b := 48) (by omega) (by decide)
theorem gt57 {b : Nat} (hb : b < 128) : (57 : Int32) < nI b ↔ 57 < b := nI_ltI (a := 57) (by decide) (by omega)
theorem isLetter_t {b : Nat} (h : ltr b) : f_Rd_isLetter (nI b) = some 1 := by
  obtain ⟨h1, h2⟩ := h
  unfold f_Rd_isLetter
  rw [if_neg (fun z => by have := (lt97 (by omega)).mp z; omega), if_neg (fun z => by have := (gt122 (by omega)).mp z; omega)]
theorem isLetter_f {b : Nat} (hb : b < 128) (h : ¬ ltr b) : f_Rd_isLetter (nI b) = some 0 := by
  unfold f_Rd_isLetter
  unfold ltr at h
  by_cases q : b < 97
  · rw [if_pos ((lt97 hb).mpr q)]
  · rw [if_neg (fun z => q ((lt97 hb).mp z)), if_pos ((gt122 hb).mpr (by omega))]
theorem isFigure_t {b : Nat} (h : fig b) : f_Rd_isFigure (nI b) = some 1 := by
  obtain ⟨h1, h2⟩ := h
  unfold f_Rd_isFigure
  rw [if_neg (fun z => by have := (lt48 (by omega)).mp z; omega), if_neg (fun z => by have := (gt57 (by omega)).mp z; omega)]
theorem isFigure_f {b : Nat} (hb : b < 128) (h : ¬ fig b) : f_Rd_isFigure (nI b) = some 0 := by
  unfold f_Rd_isFigure
  unfold fig at h
  by_cases q : b < 48
  · rw [if_pos ((lt48 hb).mpr q)]
  · rw [if_neg (fun z => q ((lt48 hb).mp z)), if_pos ((gt57 hb).mpr (by omega))]
theorem sort_1 {b : Nat} (h : ltr b) : f_Mo_sort (nI b) = some 1 := by
  obtain ⟨h1, h2⟩ := h
  unfold f_Mo_sort
  rw [jnE, if_neg (fun z => by have := (lt97 (by omega)).mp z; omega), if_neg (fun z => by have := (gt122 (by omega)).mp z; omega)]
theorem sort_2 {b : Nat} (h : fig b) : f_Mo_sort (nI b) = some 2 := by
  obtain ⟨h1, h2⟩ := h
  unfold f_Mo_sort
  rw [jnE, if_pos ((lt97 (by omega)).mpr (by omega)), if_neg (fun z => by have := (lt48 (by omega)).mp z; omega), if_neg (fun z => by have := (gt57 (by omega)).mp z; omega)]
theorem sort_0 {b : Nat} (hb : b < 128) (h1 : ¬ ltr b) (h2 : ¬ fig b) : f_Mo_sort (nI b) = some 0 := by
  unfold ltr at h1
  unfold fig at h2
  have inner : (if nI b < 48 then some (0 : Int32) else if 57 < nI b then some 0 else some 2) = some 0 := by
    by_cases q : b < 48
    · rw [if_pos ((lt48 hb).mpr q)]
    · rw [if_neg (fun z => q ((lt48 hb).mp z)), if_pos ((gt57 hb).mpr (by omega))]
  unfold f_Mo_sort
  rw [jnE]
  dsimp only
  by_cases q : b < 97
  · rw [if_pos ((lt97 hb).mpr q)]
    exact inner
  · rw [if_neg (fun z => q ((lt97 hb).mp z)), if_pos ((gt122 hb).mpr (by omega))]
    exact inner
/-- a stretch of bytes of one sort goes on to its end -/
theorem run_to {n : Nat} (Q : Nat → Prop) (e : Nat) (he : e ≤ n) : ∃ q, e ≤ q ∧ q ≤ n ∧ (∀ i, e ≤ i → i < q → Q i) ∧ (q < n → ¬ Q q) := by
  have key : ∀ k e, n - e = k → e ≤ n → ∃ q, e ≤ q ∧ q ≤ n ∧ (∀ i, e ≤ i → i < q → Q i) ∧ (q < n → ¬ Q q) := by
    intro k
    induction k with
    | zero =>
      intro e hk he
      exact ⟨e, Nat.le_refl _, he, fun i h1 h2 => by omega, fun h => by omega⟩
    | succ k ih =>
      intro e hk he
      by_cases h : Q e
      · obtain ⟨q, q1, q2, q3, q4⟩ := ih (e + 1) (by omega) (by omega)
        refine ⟨q, by omega, q2, fun i h1 h2 => ?_, q4⟩
        by_cases ei : i = e
        · rw [ei]
          exact h
        · exact q3 i (by omega) h2
      · exact ⟨e, Nat.le_refl _, he, fun i h1 h2 => by omega, fun _ => h⟩
  exact key (n - e) e rfl he
/-- a token: from p to q, of a sort -/
def TK (n : Nat) (tx : Nat → Nat) (e p q tk : Nat) : Prop := e ≤ p ∧ p ≤ n ∧ q ≤ n ∧ ((p = n ∧ q = n ∧ tk = 0) ∨ (p < n ∧ p < q ∧ ((ltr (tx p) ∧ tk = 1) ∨ (fig (tx p) ∧ (∀ i, p ≤ i → i < q → fig (tx i)) ∧ tk = if q - p ≤ 2 then 2 else 4) ∨ (¬ ltr (tx p) ∧ ¬ fig (tx p) ∧ tk = if tx p = 59 then 3 else 4))))
/-- a loop over places of a stretch -/
theorem lp_run {α : Type} {f : (Int32 → Option α) → (Int32 → Option α) → Int32 → Option α} {e q : Nat} (h : e ≤ q) (hq : q < 4096) (step : ∀ i, e ≤ i → i < q → ∀ J rec, f J rec (nI i) = rec (nI (i + 1))) (stop : ∀ J rec, f J rec (nI q) = J (nI q)) (J : Int32 → Option α) : lp (f J) FU (nI e) = J (nI q) := by
  obtain ⟨x, rfl, g⟩ := lp_fam (f := f) (fun i (y : Int32) => y = nI (e + i)) (q - e) (by omega) (by
    rintro i _ hi rfl
    exact ⟨_, rfl, fun J rec => step (e + i) (by omega) (by omega) J rec⟩) (x0 := nI e) rfl
  obtain ⟨rec, h2⟩ := g J
  rw [h2, show e + (q - e) = q from by omega, stop]
theorem tok_eq {n : Nat} {tx : Nat → Nat} {t1 t2 : Nat → Int32} (X : TXn n tx t1 t2) {e : Nat} (he : e ≤ n) : ∃ p q tk, TK n tx e p q tk ∧ f_Rd_nextToken (nI n) (nI e) t1 = some (nI p, nI q, nI tk) ∧ f_Mo_token (nI n) (nI e) t2 = some (nI q, nI p, nI q) := by
  have hn := X.1
  obtain ⟨p, p1, p2, p3, p4⟩ := run_to (n := n) (fun i => tx i = 32) e he
  have n32 : ∀ i, i < n → (nI (tx i) = 32 ↔ tx i = 32) := fun i hi => nI_eq (b := 32) (by have := (X.2 i hi).1; omega) (by decide)
  have sk1 : ∀ J, lp (f_Rd_nextToken_L8 (nI n) t1 J) FU (nI e) = J (nI p) := fun J => lp_run p1 (by omega) (fun i h1 h2 J rec => by
    unfold f_Rd_nextToken_L8
    rw [if_neg (nI_ge (show i < n by omega) (by omega)), bd_some (at_eq X (show i < n by omega)), if_pos ((n32 i (by omega)).mpr (p3 i h1 h2)), ltE, nI1]) (fun J rec => by
    unfold f_Rd_nextToken_L8
    by_cases h : p < n
    · rw [if_neg (nI_ge h (by omega)), bd_some (at_eq X h), if_neg (fun z => p4 h ((n32 p h).mp z))]
    · rw [if_pos (nI_le (by omega) (by omega))]) J
  have sk2 : ∀ J, lp (f_Mo_token_L0 (nI n) t2 J) FU (nI e) = J (nI p) := fun J => lp_run p1 (by omega) (fun i h1 h2 J rec => by
    unfold f_Mo_token_L0
    rw [if_neg (nI_ge (show i < n by omega) (by omega)), gd_nI (by omega) (by decide), nI_clamp (by omega), (X.2 i (by omega)).2.2, if_pos ((n32 i (by omega)).mpr (p3 i h1 h2)), ltE, nI1]) (fun J rec => by
    unfold f_Mo_token_L0
    by_cases h : p < n
    · rw [if_neg (nI_ge h (by omega)), gd_nI (by omega) (by decide), nI_clamp (by omega), (X.2 p h).2.2, if_neg (fun z => p4 h ((n32 p h).mp z))]
    · rw [if_pos (nI_le (by omega) (by omega))]) J
  by_cases hp : p < n
  rotate_left
  · have e1 : p = n := by omega
    subst e1
    have st : ∀ J rec, f_Mo_token_L71 (nI p) t2 (nI p) J rec (nI p) = J (nI p) := fun J rec => by
      unfold f_Mo_token_L71
      rw [if_pos (nI_le (Nat.le_refl _) (by omega))]
    refine ⟨p, p, 0, ⟨p1, p2, Nat.le_refl _, Or.inl ⟨rfl, rfl, rfl⟩⟩, ?_, ?_⟩
    · unfold f_Rd_nextToken
      rw [jnE, sk1, if_neg (nI_nlt (Nat.le_refl _) (by omega))]
      rfl
    · unfold f_Mo_token
      rw [jnE, sk2, jnE, if_pos (nI_le (Nat.le_refl _) (by omega))]
      dsimp only
      rw [show nI p + 0 = nI p from Int32.add_zero _, ltE, jnE]
      exact lp_run (f := fun J => f_Mo_token_L71 (nI p) t2 (nI p) J) (Nat.le_refl p) (by omega) (fun i h1 h2 => by omega) st _
  have b128 := (X.2 p hp).1
  have tp1 := (X.2 p hp).2.1
  have tp2 := (X.2 p hp).2.2
  have hlt : nI p < nI n := nI_lt hp (by omega)
  have hge : ¬ nI n ≤ nI p := nI_ge hp (by omega)
  have refN : f_Mo_token (nI n) (nI e) t2 = lp (f_Mo_token_L71 (nI n) t2 (nI p) fun x4 => some (x4, nI p, x4)) FU (nI (p + 1)) := by
    unfold f_Mo_token
    rw [jnE, sk2, jnE, if_neg hge]
    dsimp only
    rw [nI1, ltE, jnE]
  rw [refN]
  unfold f_Rd_nextToken
  rw [jnE, sk1, if_pos hlt, bd_some (at_eq X hp)]
  by_cases hl : ltr (tx p)
  · -- letters
    obtain ⟨q, q1, q2, q3, q4⟩ := run_to (n := n) (fun i => ltr (tx i)) p p2
    have hpq : p < q := by
      refine Nat.lt_of_le_of_ne q1 fun z => ?_
      subst z
      exact q4 hp hl
    refine ⟨p, q, 1, ⟨p1, p2, q2, Or.inr ⟨hp, hpq, Or.inl ⟨hl, rfl⟩⟩⟩, ?_, ?_⟩
    · rw [bd_some (isLetter_t hl), if_neg (by decide), jnE]
      exact lp_run (f := f_Rd_nextToken_L86 (nI n) t1) q1 (by omega) (fun i h1 h2 J rec => by
        unfold f_Rd_nextToken_L86
        rw [if_neg (nI_ge (show i < n by omega) (by omega)), bd_some (at_eq X (show i < n by omega)), bd_some (isLetter_t (q3 i h1 h2)), if_neg (by decide), ltE, nI1]) (fun J rec => by
        unfold f_Rd_nextToken_L86
        by_cases h : q < n
        · rw [if_neg (nI_ge h (by omega)), bd_some (at_eq X h), bd_some (isLetter_f (X.2 q h).1 (q4 h)), if_pos rfl]
        · rw [if_pos (nI_le (by omega) (by omega))]) _
    · exact lp_run (f := fun J => f_Mo_token_L71 (nI n) t2 (nI p) J) (show p + 1 ≤ q from hpq) (by omega) (fun i h1 h2 J rec => by
        unfold f_Mo_token_L71
        simp only [if_neg (nI_ge (show i < n by omega) (show n < 2 ^ 31 by omega)), gd_nI (show p < 150 by omega) (show 150 < 2 ^ 31 by decide), gd_nI (show i < 150 by omega) (show 150 < 2 ^ 31 by decide), nI_clamp (show p < 2 ^ 31 by omega), nI_clamp (show i < 2 ^ 31 by omega), tp2, (X.2 i (by omega)).2.2, bd_some (sort_1 hl), bd_some (sort_1 (q3 i (by omega) h2)), ltE, nI1]
        rfl) (fun J rec => by
        unfold f_Mo_token_L71
        by_cases h : q < n
        · have hs : ∃ s, f_Mo_sort (nI (tx q)) = some s ∧ ¬ s = 1 := by
            by_cases hf : fig (tx q)
            · exact ⟨2, sort_2 hf, by decide⟩
            · exact ⟨0, sort_0 (X.2 q h).1 (q4 h) hf, by decide⟩
          obtain ⟨s, s1, s2⟩ := hs
          simp only [if_neg (nI_ge h (show n < 2 ^ 31 by omega)), gd_nI (show p < 150 by omega) (show 150 < 2 ^ 31 by decide), gd_nI (show q < 150 by omega) (show 150 < 2 ^ 31 by decide), nI_clamp (show p < 2 ^ 31 by omega), nI_clamp (show q < 2 ^ 31 by omega), tp2, (X.2 q h).2.2, bd_some (sort_1 hl), bd_some s1]
          rw [if_neg (by decide), if_neg s2]
        · rw [if_pos (nI_le (by omega) (by omega))]) _
  · by_cases hf : fig (tx p)
    · -- figures
      obtain ⟨q, q1, q2, q3, q4⟩ := run_to (n := n) (fun i => fig (tx i)) p p2
      have hpq : p < q := by
        refine Nat.lt_of_le_of_ne q1 fun z => ?_
        subst z
        exact q4 hp hf
      refine ⟨p, q, if q - p ≤ 2 then 2 else 4, ⟨p1, p2, q2, Or.inr ⟨hp, hpq, Or.inr (Or.inl ⟨hf, q3, rfl⟩)⟩⟩, ?_, ?_⟩
      · rw [bd_some (isLetter_f b128 hl), if_pos rfl, bd_some (at_eq X hp), bd_some (isFigure_t hf), if_neg (by decide), jnE]
        refine (lp_run (f := f_Rd_nextToken_L146 (nI n) t1) q1 (by omega) (fun i h1 h2 J rec => by
          unfold f_Rd_nextToken_L146
          rw [if_neg (nI_ge (show i < n by omega) (by omega)), bd_some (at_eq X (show i < n by omega)), bd_some (isFigure_t (q3 i h1 h2)), if_neg (by decide), ltE, nI1]) (fun J rec => by
          unfold f_Rd_nextToken_L146
          by_cases h : q < n
          · rw [if_neg (nI_ge h (by omega)), bd_some (at_eq X h), bd_some (isFigure_f (X.2 q h).1 (q4 h)), if_pos rfl]
          · rw [if_pos (nI_le (by omega) (by omega))]) _).trans ?_
        rw [jnE, pk_sub (Nat.le_of_lt hpq)]
        by_cases h2 : q - p ≤ 2
        · rw [if_pos (show nI (q - p) ≤ 2 from nI_le (b := 2) h2 (by decide)), if_pos h2]
          rfl
        · rw [if_neg (show ¬ nI (q - p) ≤ 2 from nI_ge (a := 2) (b := q - p) (by omega) (by omega)), if_neg h2]
          rfl
      · exact lp_run (f := fun J => f_Mo_token_L71 (nI n) t2 (nI p) J) (show p + 1 ≤ q from hpq) (by omega) (fun i h1 h2 J rec => by
          unfold f_Mo_token_L71
          simp only [if_neg (nI_ge (show i < n by omega) (show n < 2 ^ 31 by omega)), gd_nI (show p < 150 by omega) (show 150 < 2 ^ 31 by decide), gd_nI (show i < 150 by omega) (show 150 < 2 ^ 31 by decide), nI_clamp (show p < 2 ^ 31 by omega), nI_clamp (show i < 2 ^ 31 by omega), tp2, (X.2 i (by omega)).2.2, bd_some (sort_2 hf), bd_some (sort_2 (q3 i (by omega) h2)), ltE, nI1]
          rfl) (fun J rec => by
          unfold f_Mo_token_L71
          by_cases h : q < n
          · have hs : ∃ s, f_Mo_sort (nI (tx q)) = some s ∧ ¬ s = 2 := by
              by_cases hl2 : ltr (tx q)
              · exact ⟨1, sort_1 hl2, by decide⟩
              · exact ⟨0, sort_0 (X.2 q h).1 hl2 (q4 h), by decide⟩
            obtain ⟨s, s1, s2⟩ := hs
            simp only [if_neg (nI_ge h (show n < 2 ^ 31 by omega)), gd_nI (show p < 150 by omega) (show 150 < 2 ^ 31 by decide), gd_nI (show q < 150 by omega) (show 150 < 2 ^ 31 by decide), nI_clamp (show p < 2 ^ 31 by omega), nI_clamp (show q < 2 ^ 31 by omega), tp2, (X.2 q h).2.2, bd_some (sort_2 hf), bd_some s1]
            rw [if_neg (by decide), if_neg s2]
          · rw [if_pos (nI_le (by omega) (by omega))]) _
    · -- all else
      have n59 : nI (tx p) = 59 ↔ tx p = 59 := nI_eq (b := 59) (by omega) (by decide)
      refine ⟨p, p + 1, if tx p = 59 then 3 else 4, ⟨p1, p2, hp, Or.inr ⟨hp, by omega, Or.inr (Or.inr ⟨hl, hf, rfl⟩)⟩⟩, ?_, ?_⟩
      · rw [bd_some (isLetter_f b128 hl), if_pos rfl, bd_some (at_eq X hp), bd_some (isFigure_f b128 hf), if_pos rfl, nI1, ltE, bd_some (at_eq X hp), jnE]
        by_cases h : tx p = 59
        · rw [if_pos (n59.mpr h), if_pos h]
          rfl
        · rw [if_neg (fun z => h (n59.mp z)), if_neg h]
          rfl
      · exact lp_run (f := fun J => f_Mo_token_L71 (nI n) t2 (nI p) J) (Nat.le_refl (p + 1)) (by omega) (fun i h1 h2 => by omega) (fun J rec => by
          unfold f_Mo_token_L71
          by_cases h : p + 1 < n
          · rw [if_neg (nI_ge h (by omega)), gd_nI (show p < 150 by omega) (by decide), nI_clamp (by omega), tp2, bd_some (sort_0 b128 hl hf), if_pos (by decide)]
          · rw [if_pos (nI_le (by omega) (by omega))]) _

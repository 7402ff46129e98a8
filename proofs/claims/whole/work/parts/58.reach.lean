/-! criers: the ways -/
def rch (E : Nat → Nat → Prop) (to : Nat) : Nat → Nat → Prop
  | 0, _ => False
  | k + 1, m => m = to ∨ ∃ o, E m o ∧ rch E to k o
theorem rch_s {E : Nat → Nat → Prop} {to k m : Nat} : rch E to (k + 1) m ↔ m = to ∨ ∃ o, E m o ∧ rch E to k o := Iff.rfl
theorem rch_up {E : Nat → Nat → Prop} {to : Nat} : ∀ k m, rch E to k m → rch E to (k + 1) m
  | 0, _, h => h.elim
  | k + 1, m, h => by
    rcases h with h | ⟨o, h1, h2⟩
    · exact Or.inl h
    · exact Or.inr ⟨o, h1, rch_up k o h2⟩
theorem rch_le {E : Nat → Nat → Prop} {to k j m : Nat} (h : k ≤ j) (q : rch E to k m) : rch E to j m := by
  obtain ⟨d, rfl⟩ : ∃ d, j = k + d := ⟨j - k, by omega⟩
  induction d with
  | zero => exact q
  | succ d ih => exact rch_up _ _ (ih (by omega))
theorem rch_stab {E : Nat → Nat → Prop} {to k : Nat} (h : ∀ m, rch E to (k + 1) m → rch E to k m) : ∀ j m, rch E to j m → rch E to k m
  | 0, _, q => q.elim
  | j + 1, m, q => by
    rcases q with q | ⟨o, h1, h2⟩
    · exact h m (Or.inl q)
    · exact h m (Or.inr ⟨o, h1, rch_stab h j o h2⟩)
noncomputable def rcB (E : Nat → Nat → Prop) (to k m : Nat) : Bool := @decide (rch E to k m) (Classical.propDecidable _)
theorem rcB_iff {E : Nat → Nat → Prop} {to k m : Nat} : rcB E to k m = true ↔ rch E to k m := @decide_eq_true_iff _ (Classical.propDecidable _)
theorem cnt_all (n : Nat) : cnt (fun _ => true) n = n := by
  induction n with
  | zero => rfl
  | succ n ih => rw [cnt_s rfl, ih]
/-- who comes there comes there by at most all makers -/
theorem rch_all {E : Nat → Nat → Prop} {to n : Nat} (hto : to < n) (hE : ∀ m o, E m o → m < n) {k m : Nat} (h : rch E to k m) : rch E to n m := by
  have hin : ∀ k m, rch E to k m → m < n := fun k m q => by
    cases k with
    | zero => exact q.elim
    | succ k =>
      rcases q with rfl | ⟨o, q1, _⟩
      · exact hto
      · exact hE m o q1
  have key : ∀ k, (∃ i, i ≤ k ∧ ∀ m, rch E to (i + 1) m → rch E to i m) ∨ k ≤ cnt (rcB E to k) n := by
    intro k
    induction k with
    | zero => exact Or.inr (Nat.zero_le _)
    | succ k ih =>
      rcases ih with ⟨i, h1, h2⟩ | ih
      · exact Or.inl ⟨i, by omega, h2⟩
      · by_cases q : ∀ m, rch E to (k + 1) m → rch E to k m
        · exact Or.inl ⟨k, by omega, q⟩
        · refine Or.inr (Classical.byContradiction fun z => q fun m hm => ?_)
          have e := cnt_same (p := rcB E to k) (q := rcB E to (k + 1)) (n := n) (fun c _ hc => rcB_iff.mpr (rch_up k c (rcB_iff.mp hc))) (by omega) m (hin _ _ hm)
          rw [rcB_iff.mpr hm] at e
          exact rcB_iff.mp e
  rcases key n with ⟨i, h1, h2⟩ | q
  · exact rch_le h1 (rch_stab h2 k m h)
  · have e := cnt_same (p := rcB E to n) (q := fun _ => true) (n := n) (fun _ _ _ => rfl) (by rw [cnt_all]; exact q) m (hin _ _ h)
    exact rcB_iff.mp e
/-! the reference: how far, by rounds -/
def FR (E : Nat → Nat → Prop) (to : Nat) (y : Nat → Int32) (f : Nat → Nat) : Prop := ∀ m, m < 6 → y m = nI (f m) ∧ 1 ≤ f m ∧ f m ≤ 99 ∧ (f m = 99 ∨ rch E to (f m) m)
def Ed (mk : Nat) (h : Nat → Nat) (m o : Nat) : Prop := m < mk ∧ o < mk ∧ (h m).testBit o = true
theorem relax_in {row : Nat → Int32} {v : Nat → Nat} (R : Rm row v) (hk : v 122 ≤ 6) {hs : Nat → Int32} {h : Nat → Nat} (hh : ∀ m, m < v 122 → hs m = nI (h m) ∧ h m < 64) {to : Nat} {y : Nat → Int32} {f : Nat → Nat} (hF : FR (Ed (v 122) h) to y f) {m : Nat} (hm : m < v 122) :
    ∃ y', (∀ J, lp (f_Mo_criers_L107 row hs (nI m) J) FU (0, y) = J y') ∧ ∃ f', FR (Ed (v 122) h) to y' f' ∧ (∀ a, a ≠ m → f' a = f a) ∧ f' m ≤ f m ∧ ∀ o, Ed (v 122) h m o → f' m ≤ f o + 1 := by
  have r122 : row (122 : Int32).toNatClampNeg = nI (v 122) := R 122 (by decide) (by decide)
  obtain ⟨hm1, hm2⟩ := hh m hm
  obtain ⟨⟨a, y'⟩, ⟨e, f', p1, p2, p3, p4⟩, g⟩ := lp_fam (f := f_Mo_criers_L107 row hs (nI m)) (fun i (z : Int32 × (Nat → Int32)) => z.1 = nI i ∧ ∃ f', FR (Ed (v 122) h) to z.2 f' ∧ (∀ a, a ≠ m → f' a = f a) ∧ f' m ≤ f m ∧ ∀ o, o < i → Ed (v 122) h m o → f' m ≤ f o + 1) (v 122) (by omega) (by
    rintro i ⟨a, z⟩ hi ⟨e, f', p1, p2, p3, p4⟩
    dsimp only at e p1
    subst e
    obtain ⟨qm1, qm2, qm3, qm4⟩ := p1 m (by omega)
    obtain ⟨qi1, qi2, qi3, qi4⟩ := p1 i (by omega)
    have hhas : f_Mo_has (nI (h m)).toInt64 (nI i) = some (if (h m).testBit i = true then 1 else 0) := by
      rw [nI_l (by omega), mhas_eq _ (by omega), lN_tb (by omega) (by omega)]
    have same : upd z m (nI (f' m)) = z := by
      funext j
      by_cases q : j = m
      · rw [q, upd_same, qm1]
      · rw [upd_ne q]
    have run : ∀ J rec, f_Mo_criers_L107 row hs (nI m) J rec (nI i, z) = if (h m).testBit i = true ∧ f' i + 1 < f' m then rec (nI (i + 1), upd z m (nI (f' i + 1))) else rec (nI (i + 1), z) := by
      intro J rec
      unfold f_Mo_criers_L107
      dsimp only
      simp only [r122, if_neg (nI_ge hi (show v 122 < 2 ^ 31 by omega)), gd_nI (show m < 6 by omega) (show 6 < 2 ^ 31 by decide), gd_nI (show i < 6 by omega) (show 6 < 2 ^ 31 by decide), nI_clamp (show i < 2 ^ 31 by omega), nI_clamp (show m < 2 ^ 31 by omega), hm1, bd_some hhas, jnE, ltE, qm1, qi1, nI1, same]
      by_cases q : (h m).testBit i = true
      · by_cases q2 : f' i + 1 < f' m
        · rw [if_pos q, if_neg (by decide), if_neg (nI_ge q2 (by omega)), if_pos (show (h m).testBit i = true ∧ f' i + 1 < f' m from ⟨q, q2⟩)]
        · rw [if_pos q, if_neg (by decide), if_pos (nI_le (by omega) (by omega)), if_neg (show ¬ ((h m).testBit i = true ∧ f' i + 1 < f' m) from fun w => q2 w.2)]
      · rw [if_neg q, if_pos rfl, if_neg (show ¬ ((h m).testBit i = true ∧ f' i + 1 < f' m) from fun w => q w.1)]
    by_cases q : (h m).testBit i = true ∧ f' i + 1 < f' m
    · refine ⟨(nI (i + 1), upd z m (nI (f' i + 1))), ⟨rfl, vs f' m (f' i + 1), fun a ha => ?_, fun a ha => ?_, ?_, fun o ho hE => ?_⟩, fun J rec => by rw [run, if_pos q]⟩
      · by_cases ea : a = m
        · subst ea
          dsimp only
          rw [upd_same, vs_same]
          refine ⟨rfl, by omega, by omega, Or.inr ?_⟩
          rcases qi4 with qi4 | qi4
          · omega
          · exact Or.inr ⟨i, ⟨hm, hi, q.1⟩, qi4⟩
        · dsimp only
          rw [upd_ne ea, vs_ne ea]
          exact p1 a ha
      · rw [vs_ne ha]
        exact p2 a ha
      · rw [vs_same]
        omega
      · rw [vs_same]
        by_cases eo : o = i
        · subst eo
          by_cases em : o = m
          · subst em
            omega
          · rw [p2 o em]
            exact Nat.le_refl _
        · have := p4 o (by omega) hE
          omega
    · refine ⟨(nI (i + 1), z), ⟨rfl, f', p1, p2, p3, fun o ho hE => ?_⟩, fun J rec => by rw [run, if_neg q]⟩
      by_cases eo : o = i
      · subst eo
        by_cases em : o = m
        · subst em
          omega
        · have : ¬ f' o + 1 < f' m := fun w => q ⟨hE.2.2, w⟩
          rw [p2 o em] at this
          omega
      · exact p4 o (by omega) hE) (x0 := ((0 : Int32), y)) ⟨rfl, f, hF, fun _ _ => rfl, Nat.le_refl _, fun o ho => by omega⟩
  dsimp only at e p1
  subst e
  refine ⟨y', fun J => ?_, f', p1, p2, p3, fun o hE => p4 o hE.2.1 hE⟩
  obtain ⟨rec, q⟩ := g J
  rw [q]
  unfold f_Mo_criers_L107
  dsimp only
  rw [r122, if_pos (nI_le (Nat.le_refl _) (by omega))]
theorem relax_round {row : Nat → Int32} {v : Nat → Nat} (R : Rm row v) (hk : v 122 ≤ 6) {hs : Nat → Int32} {h : Nat → Nat} (hh : ∀ m, m < v 122 → hs m = nI (h m) ∧ h m < 64) {to : Nat} {y : Nat → Int32} {f : Nat → Nat} (hF : FR (Ed (v 122) h) to y f) :
    ∃ y', (∀ J, lp (f_Mo_criers_L92 row hs J) FU (0, y) = J y') ∧ ∃ f', FR (Ed (v 122) h) to y' f' ∧ (∀ a, f' a ≤ f a) ∧ ∀ m o, Ed (v 122) h m o → f' m ≤ f o + 1 := by
  have r122 : row (122 : Int32).toNatClampNeg = nI (v 122) := R 122 (by decide) (by decide)
  obtain ⟨⟨a, y'⟩, ⟨e, f', p1, p2, p3⟩, g⟩ := lp_fam (f := f_Mo_criers_L92 row hs) (fun i (z : Int32 × (Nat → Int32)) => z.1 = nI i ∧ ∃ f', FR (Ed (v 122) h) to z.2 f' ∧ (∀ a, f' a ≤ f a) ∧ ∀ m o, m < i → Ed (v 122) h m o → f' m ≤ f o + 1) (v 122) (by omega) (by
    rintro i ⟨a, z⟩ hi ⟨e, f1, p1, p2, p3⟩
    dsimp only at e p1
    subst e
    obtain ⟨z', k1, f2, k2, k3, k4, k5⟩ := relax_in R hk hh p1 hi
    have mono : ∀ a, f2 a ≤ f1 a := fun a => by
      by_cases q : a = i
      · rw [q]
        exact k4
      · rw [k3 a q]
        exact Nat.le_refl _
    refine ⟨(nI (i + 1), z'), ⟨rfl, f2, k2, fun a => Nat.le_trans (mono a) (p2 a), fun m o hm hE => ?_⟩, fun J rec => ?_⟩
    · by_cases em : m = i
      · subst em
        have := k5 o hE
        have := p2 o
        omega
      · have := p3 m o (by omega) hE
        have := mono m
        omega
    · unfold f_Mo_criers_L92
      dsimp only
      rw [r122, if_neg (nI_ge hi (by omega)), jnE, k1, ltE, nI1]) (x0 := ((0 : Int32), y)) ⟨rfl, f, hF, fun _ => Nat.le_refl _, fun m o hm => by omega⟩
  dsimp only at e p1
  subst e
  refine ⟨y', fun J => ?_, f', p1, p2, fun m o hE => p3 m o hE.1 hE⟩
  obtain ⟨rec, q⟩ := g J
  rw [q]
  unfold f_Mo_criers_L92
  dsimp only
  rw [r122, if_pos (nI_le (Nat.le_refl _) (by omega))]
theorem fars_eq {row : Nat → Int32} {v : Nat → Nat} (R : Rm row v) (hk : v 122 ≤ 6) {hs : Nat → Int32} {h : Nat → Nat} (hh : ∀ m, m < v 122 → hs m = nI (h m) ∧ h m < 64) {to : Nat} (hto : to < v 122) (y : Nat → Int32) :
    ∃ y', (∀ J, lp (f_Mo_criers_L47 (nI to) J) FU (0, y) = J y') ∧ ∃ y2, (∀ J, lp (f_Mo_criers_L82 row hs J) FU (0, y') = J y2) ∧ ∃ f, FR (Ed (v 122) h) to y2 f ∧ ∀ k m, k ≤ 7 → rch (Ed (v 122) h) to k m → f m ≤ k := by
  have hin : ∀ k m, rch (Ed (v 122) h) to k m → m < v 122 := fun k m q => by
    cases k with
    | zero => exact q.elim
    | succ k =>
      rcases q with rfl | ⟨o, q1, _⟩
      · exact hto
      · exact q1.1
  obtain ⟨⟨a, y1⟩, ⟨e, hy⟩, g⟩ := lp_fam (f := f_Mo_criers_L47 (nI to)) (fun i (z : Int32 × (Nat → Int32)) => z.1 = nI i ∧ ∀ m, m < i → z.2 m = nI (if m = to then 1 else 99)) 6 (by decide) (by
    rintro i ⟨a, z⟩ hi ⟨e, hz⟩
    dsimp only at e hz
    subst e
    refine ⟨(nI (i + 1), upd z i (nI (if i = to then 1 else 99))), ⟨rfl, fun m hm => ?_⟩, fun J rec => ?_⟩
    · dsimp only
      by_cases q : m = i
      · rw [q, upd_same]
      · rw [upd_ne q]
        exact hz m (by omega)
    · unfold f_Mo_criers_L47
      dsimp only
      rw [if_neg (show ¬ (6 : Int32) ≤ nI i from nI_ge (b := 6) hi (by decide)), jnE]
      by_cases q : i = to
      · rw [if_pos (show nI i = nI to from by rw [q])]
        dsimp only
        rw [gd_nI hi (by decide), nI_clamp (by omega), ltE, ltE, nI1, if_pos q]
        rfl
      · rw [if_neg (fun w => q ((nI_eq (by omega) (by omega)).mp w))]
        dsimp only
        rw [gd_nI hi (by decide), nI_clamp (by omega), ltE, ltE, nI1, if_neg q]
        rfl) (x0 := ((0 : Int32), y)) ⟨rfl, fun m hm => by omega⟩
  dsimp only at e hy
  subst e
  refine ⟨y1, fun J => ?_, ?_⟩
  · obtain ⟨rec, q⟩ := g J
    rw [q]
    unfold f_Mo_criers_L47
    dsimp only
    rw [if_pos (show (6 : Int32) ≤ nI 6 from by decide)]
  obtain ⟨⟨a, y2⟩, ⟨e, f, p1, p2⟩, g⟩ := lp_fam (f := f_Mo_criers_L82 row hs) (fun i (z : Int32 × (Nat → Int32)) => z.1 = nI i ∧ ∃ f, FR (Ed (v 122) h) to z.2 f ∧ ∀ k m, k ≤ i + 1 → rch (Ed (v 122) h) to k m → f m ≤ k) 6 (by decide) (by
    rintro i ⟨a, z⟩ hi ⟨e, f, p1, p2⟩
    dsimp only at e p1
    subst e
    obtain ⟨z', k1, f2, k2, k3, k4⟩ := relax_round R hk hh p1
    refine ⟨(nI (i + 1), z'), ⟨rfl, f2, k2, fun k m hk2 hr => ?_⟩, fun J rec => ?_⟩
    · cases k with
      | zero => exact hr.elim
      | succ k =>
        rcases hr with hr | ⟨o, o1, o2⟩
        · have := p2 1 m (by omega) (Or.inl hr)
          have := k3 m
          omega
        · have := p2 k o (by omega) o2
          have := k4 m o o1
          omega
    · unfold f_Mo_criers_L82
      dsimp only
      rw [if_neg (show ¬ (6 : Int32) ≤ nI i from nI_ge (b := 6) hi (by decide)), jnE, k1, ltE, nI1]) (x0 := ((0 : Int32), y1)) ⟨rfl, fun m => if m = to then 1 else 99, fun m hm => by
        refine ⟨hy m hm, ?_, ?_, ?_⟩ <;> dsimp only
        · by_cases q : m = to
          · rw [if_pos q]
            exact Nat.le_refl _
          · rw [if_neg q]
            decide
        · by_cases q : m = to
          · rw [if_pos q]
            decide
          · rw [if_neg q]
            exact Nat.le_refl _
        · by_cases q : m = to
          · rw [if_pos q]
            exact Or.inr (Or.inl q)
          · rw [if_neg q]
            exact Or.inl rfl, fun k m hk2 hr => by
        dsimp only
        have : k = 0 ∨ k = 1 := by omega
        rcases this with rfl | rfl
        · exact hr.elim
        · rcases hr with hr | ⟨o, _, hr⟩
          · rw [if_pos hr]
            exact Nat.le_refl _
          · exact hr.elim⟩
  dsimp only at e p1
  subst e
  refine ⟨y2, fun J => ?_, f, p1, fun k m hk2 => p2 k m hk2⟩
  obtain ⟨rec, q⟩ := g J
  rw [q]
  unfold f_Mo_criers_L82
  dsimp only
  rw [if_pos (show (6 : Int32) ≤ nI 6 from by decide)]
/-! the class: ever wider -/
theorem and0 {a b : Nat} (ha : a < 64) : nI a &&& nI b = 0 ↔ ∀ o, ¬ (a.testBit o = true ∧ b.testBit o = true) := by
  rw [and_nI]
  have hlt : a &&& b < 2 ^ 31 := Nat.lt_of_le_of_lt Nat.and_le_left (by omega)
  rw [show (0 : Int32) = nI 0 from rfl, nI_eq hlt (by decide)]
  constructor
  · rintro e o ⟨h1, h2⟩
    have : (a &&& b).testBit o = true := by rw [Nat.testBit_and, h1, h2]; rfl
    rw [e, Nat.zero_testBit] at this
    cases this
  · intro h
    apply Nat.eq_of_testBit_eq
    intro o
    rw [Nat.zero_testBit, Nat.testBit_and]
    cases ha : a.testBit o
    · rfl
    · cases hb : b.testBit o
      · rfl
      · exact absurd ⟨ha, hb⟩ (h o)
theorem behind_eq {mk : Nat} (hk : mk ≤ 6) {hs : Nat → Int32} {h : Nat → Nat} (hh : ∀ m, m < mk → hs m = nI (h m) ∧ h m < 64) {nr : Nat} (hnr : nr < 64) : ∃ nr', nr' < 64 ∧ f_Ai_behind (nI mk) hs (nI nr) = some (nI nr') ∧ ∀ m, nr'.testBit m = true ↔ nr.testBit m = true ∨ (m < mk ∧ ∃ o, (h m).testBit o = true ∧ nr.testBit o = true) := by
  unfold f_Ai_behind
  refine lp_or (fun i (z : Int32 × Int32) => z.2 = nI i ∧ ∃ b, b < 64 ∧ z.1 = nI b ∧ ∀ m, b.testBit m = true ↔ nr.testBit m = true ∨ (m < i ∧ ∃ o, (h m).testBit o = true ∧ nr.testBit o = true)) (fun r => ∃ nr', nr' < 64 ∧ r = some (nI nr') ∧ ∀ m, nr'.testBit m = true ↔ nr.testBit m = true ∨ (m < mk ∧ ∃ o, (h m).testBit o = true ∧ nr.testBit o = true)) mk (by omega) ?_ ?_ ⟨rfl, nr, hnr, rfl, fun m => ⟨Or.inl, fun z => z.elim (fun w => w) (fun w => by omega)⟩⟩
  · rintro i ⟨a, z⟩ hi ⟨e, b, b1, b2, b3⟩
    dsimp only at e b2
    subst e; subst b2
    obtain ⟨c1, c2⟩ := hh i hi
    have h64 : b ||| 2 ^ i < 64 := Nat.or_lt_two_pow (n := 6) b1 (Nat.pow_lt_pow_right (by decide) (by omega))
    unfold f_Ai_behind_L4
    dsimp only
    simp only [if_neg (nI_ge hi (show mk < 2 ^ 31 by omega)), gd_nI (show i < 6 by omega) (show 6 < 2 ^ 31 by decide), nI_clamp (show i < 2 ^ 31 by omega), c1, jnE, ltE, nI1, shl_one i (by omega), or_nI]
    by_cases q : ∀ o, ¬ ((h i).testBit o = true ∧ nr.testBit o = true)
    · refine Or.inl ⟨(nI b, nI (i + 1)), ⟨rfl, b, b1, rfl, fun m => ?_⟩, fun rec => by rw [if_pos ((and0 c2).mpr q)]⟩
      rw [b3]
      refine or_congr Iff.rfl ⟨fun w => ⟨by omega, w.2⟩, fun w => ⟨?_, w.2⟩⟩
      by_cases em : m = i
      · subst em
        obtain ⟨o, w⟩ := w.2
        exact absurd w (q o)
      · omega
    · refine Or.inl ⟨(nI (b ||| 2 ^ i), nI (i + 1)), ⟨rfl, _, h64, rfl, fun m => ?_⟩, fun rec => by rw [if_neg (fun w => q ((and0 c2).mp w))]⟩
      rw [Nat.testBit_or, Nat.testBit_two_pow, Bool.or_eq_true, decide_eq_true_iff, b3]
      constructor
      · rintro ((w | w) | rfl)
        · exact Or.inl w
        · exact Or.inr ⟨by omega, w.2⟩
        · refine Or.inr ⟨by omega, Classical.byContradiction fun w => q fun o ho => w ⟨o, ho⟩⟩
      · rintro (w | ⟨w1, w2⟩)
        · exact Or.inl (Or.inl w)
        · by_cases em : i = m
          · exact Or.inr em
          · exact Or.inl (Or.inr ⟨by omega, w2⟩)
  · rintro ⟨a, z⟩ ⟨e, b, b1, b2, b3⟩ rec
    dsimp only at e b2
    subst e; subst b2
    unfold f_Ai_behind_L4
    dsimp only
    rw [if_pos (nI_le (Nat.le_refl _) (by omega))]
    exact ⟨b, b1, rfl, b3⟩
/-- the least bit -/
theorem leastOf_eq {b : Nat} (hb : b < 64) : (f_Ai_leastOf (nI b) = some (-1) ∧ ∀ o, ¬ b.testBit o = true) ∨ ∃ o, o < 6 ∧ f_Ai_leastOf (nI b) = some (nI o) ∧ b.testBit o = true ∧ ∀ p, p < o → ¬ b.testBit p = true := by
  unfold f_Ai_leastOf
  refine lp_or (fun i (z : Int32) => z = nI i ∧ ∀ o, o < i → ¬ b.testBit o = true) (fun r => (r = some (-1) ∧ ∀ o, ¬ b.testBit o = true) ∨ ∃ o, o < 6 ∧ r = some (nI o) ∧ b.testBit o = true ∧ ∀ p, p < o → ¬ b.testBit p = true) 6 (by decide) ?_ ?_ ⟨rfl, fun o ho => by omega⟩
  · rintro i _ hi ⟨rfl, h⟩
    have bq := bit_eq (b := b) (q := i) (by omega) (by omega)
    unfold f_Ai_leastOf_L2
    simp only [if_neg (show ¬ (6 : Int32) ≤ nI i from nI_ge (b := 6) hi (by decide)), ltE, nI1]
    by_cases q : b.testBit i = true
    · refine Or.inr fun rec => Or.inr ⟨i, hi, by rw [if_neg (fun w => by rw [bq.mp w] at q; cases q)], q, h⟩
    · refine Or.inl ⟨nI (i + 1), ⟨rfl, fun o ho => ?_⟩, fun rec => by rw [if_pos (bq.mpr (by rw [Bool.not_eq_true] at q; exact q))]⟩
      by_cases eo : o = i
      · rw [eo]
        exact q
      · exact h o (by omega)
  · rintro _ ⟨rfl, h⟩ rec
    unfold f_Ai_leastOf_L2
    rw [if_pos (show (6 : Int32) ≤ nI 6 from by decide)]
    refine Or.inl ⟨rfl, fun o => ?_⟩
    by_cases q : o < 6
    · exact h o q
    · rw [Nat.testBit_lt_two_pow (Nat.lt_of_lt_of_le hb (Nat.pow_le_pow_right (n := 2) (i := 6) (by decide) (by omega)))]
      decide

/-! the reference's spread, whole; what is laid -/
/-- the loudest level of a cell, or 0 -/
def lvl (X : Nat → Nat → Prop) (c L : Nat) : Prop := (L = 0 ∧ ∀ l, ¬ X l c) ∨ (0 < L ∧ top X c L)
theorem lvl_iff {X Y : Nat → Nat → Prop} (h : ∀ l c, X l c ↔ Y l c) (c L : Nat) : lvl X c L ↔ lvl Y c L :=
  or_congr (and_congr Iff.rfl ⟨fun q l z => q l ((h _ _).mpr z), fun q l z => q l ((h _ _).mp z)⟩) (and_congr Iff.rfl (top_iff h c L))
theorem lvl_one {X : Nat → Nat → Prop} {c L L' : Nat} (h : lvl X c L) (h' : lvl X c L') : L = L' := by
  rcases h with ⟨a, b⟩ | ⟨a, b⟩ <;> rcases h' with ⟨a', b'⟩ | ⟨a', b'⟩
  · omega
  · exact absurd b'.1 (b _)
  · exact absurd b.1 (b' _)
  · have := b.2 _ b'.1
    have := b'.2 _ b.1
    omega
theorem lvl_pos {X : Nat → Nat → Prop} {c L : Nat} (h : lvl X c L) : 0 < L ↔ ∃ l, X l c := by
  rcases h with ⟨a, b⟩ | ⟨a, b⟩
  · exact ⟨fun q => by omega, fun ⟨l, q⟩ => absurd q (b l)⟩
  · exact ⟨fun _ => ⟨L, b.1⟩, fun _ => a⟩
theorem mspread_eq {bo go : Int32} {gs : Int64} {fr kd mk ow ho bu : Int32} {row : Nat → Int32} {w h : Nat} {cost : Nat → Nat} {may : Nat → Nat → Prop} (S : MS bo go gs fr kd mk ow ho bu row (w * h) cost may) (hw : 1 ≤ w) (hw6 : w ≤ 6) (hn : w * h ≤ 36) (hr0 : row 0 = nI w) (hr1 : row 1 = nI h) (comes tried : Nat → Int32) {cell ld : Nat} (hc : cell < w * h) (hl : 1 ≤ ld) (hl2 : ld ≤ 20) :
    ∃ comes' tried', f_Mo_spread bo go gs fr kd mk ow ho bu row comes tried (nI cell) (nI ld) = some (comes', tried') ∧ ∀ c, c < 36 → ∃ L, L ≤ 20 ∧ tried' c = nI L ∧ lvl (prc w (w * h) cost may 20 (fun l c => l = ld ∧ c = cell)) c L := by
  have hcells : f_Mo_cells row = some (nI (w * h)) := by
    unfold f_Mo_cells
    rw [show (0 : Int32).toNatClampNeg = 0 from by decide, show (1 : Int32).toNatClampNeg = 1 from by decide, hr0, hr1, pk_mul]
  simp only [f_Mo_spread]
  rw [jnE]
  -- all is cleared
  obtain ⟨⟨a0, y0⟩, ⟨e0, hy0⟩, hrun0⟩ := lp_fam (f := f_Mo_spread_L2) (fun i (y : Int32 × (Nat → Int32)) => y.1 = nI i ∧ ∀ k, k < i → y.2 k = 0) 756 (by decide) (by
    rintro i ⟨a, y⟩ hi ⟨e, hy⟩
    simp only at e hy
    subst e
    refine ⟨(nI (i + 1), upd y i 0), ⟨rfl, fun k hk => ?_⟩, fun J rec => ?_⟩
    · dsimp only
      by_cases q : k = i
      · rw [q, upd_same]
      · rw [upd_ne q, hy k (by omega)]
    · simp only [f_Mo_spread_L2]
      rw [show (756 : Int32) = nI 756 from rfl, if_neg (nI_ge hi (by decide)), gd_nI hi (by decide), nI_clamp (by omega), ltE, ltE, nI_add']) (x0 := (0, comes)) ⟨rfl, fun k hk => by omega⟩
  simp only at e0 hy0
  subst e0
  obtain ⟨rec0, hrun0⟩ := hrun0 (fun x1 => gd (inB ((21 * nI cell) + nI ld) 756) <| lt (upd x1 ((21 * nI cell) + nI ld).toNatClampNeg 1) fun x2 => lt (row (0 : Int32).toNatClampNeg) fun x3 => jn (fun x4 => lp (f_Mo_spread_L198 x4) FU (0, tried)) fun J195 => lp (f_Mo_spread_L44 bo go gs fr kd mk ow ho bu row x3 J195) FU (nI ld, x2))
  rw [hrun0]
  simp only [f_Mo_spread_L2]
  rw [if_pos (by decide), show (21 : Int32) = nI 21 from rfl, pk_mul, nI_add, gd_nI (by omega) (by decide), nI_clamp (by omega), ltE, ltE, show (0 : Int32).toNatClampNeg = 0 from by decide, hr0, jnE]
  -- level by level
  have hX0 : ∀ l c, XM (upd y0 (21 * cell + ld) 1) l c ↔ l = ld ∧ c = cell := by
    intro l c
    unfold XM
    constructor
    · rintro ⟨z1, z2, z3, z4⟩
      by_cases q : 21 * c + l = 21 * cell + ld
      · omega
      · rw [upd_ne q, hy0 _ (by omega)] at z4
        exact absurd rfl z4
    · rintro ⟨rfl, rfl⟩
      exact ⟨by omega, by omega, by omega, by rw [upd_same]; decide⟩
  obtain ⟨⟨a1, y1⟩, ⟨e1, hy1⟩, hrun1⟩ := lp_fam (f := f_Mo_spread_L44 bo go gs fr kd mk ow ho bu row (nI w)) (fun i (y : Int32 × (Nat → Int32)) => y.1 = nI (ld - i) ∧ ∀ l c, prc w (w * h) cost may (ld - i) (XM y.2) l c ↔ prc w (w * h) cost may 20 (fun l c => l = ld ∧ c = cell) l c) ld (by omega) (by
    rintro i ⟨a, y⟩ hi ⟨e, hy⟩
    simp only at e hy
    subst e
    obtain ⟨u, hu⟩ : ∃ u, ld - i = u + 1 := ⟨ld - i - 1, by omega⟩
    have hu2 : ld - (i + 1) = u := by omega
    rw [hu] at hy
    rw [hu, hu2]
    obtain ⟨⟨a2, y2⟩, ⟨e2, hy2⟩, hrun2⟩ := lp_fam (f := f_Mo_spread_L52 bo go gs fr kd mk ow ho bu row (nI w) (nI (u + 1))) (fun c (z : Int32 × (Nat → Int32)) => z.1 = nI c ∧ ∀ l d, XM z.2 l d ↔ XM y l d ∨ ∃ e, e < c ∧ 0 < l ∧ may l d ∧ adj w (w * h) e d ∧ XM y (u + 1) e ∧ cost e ≠ 0 ∧ l + cost e = u + 1) (w * h) (by omega) (by
      rintro c ⟨a, z⟩ hcn ⟨e, hz⟩
      simp only at e hz
      subst e
      obtain ⟨r, hr1', hr2'⟩ := cell_eq S hw hw6 hn hr0 hr1 z (e := c) (u := u + 1) hcn (by omega) (by omega)
      refine ⟨(nI (c + 1), r), ⟨rfl, fun l d => ?_⟩, hr1'⟩
      dsimp only
      have hsame : XM z (u + 1) c ↔ XM y (u + 1) c := by
        rw [hz (u + 1) c]
        refine ⟨fun q => q.resolve_right ?_, Or.inl⟩
        rintro ⟨e, q1, q2, q3, q4, q5, q6, q7⟩
        omega
      rw [hr2' l d, hz l d, hsame]
      constructor
      · rintro ((q | ⟨e, q1, q2⟩) | q)
        · exact Or.inl q
        · exact Or.inr ⟨e, by omega, q2⟩
        · exact Or.inr ⟨c, by omega, q⟩
      · rintro (q | ⟨e, q1, q2⟩)
        · exact Or.inl (Or.inl q)
        · by_cases q : e = c
          · subst q
            exact Or.inr q2
          · exact Or.inl (Or.inr ⟨e, by omega, q2⟩)) (x0 := (0, y)) ⟨rfl, fun l d => ⟨Or.inl, fun q => q.elim id (fun ⟨e, q, _⟩ => by omega)⟩⟩
    simp only at e2 hy2
    subst e2
    refine ⟨(nI u, y2), ⟨rfl, fun l c => ?_⟩, fun J rec => ?_⟩
    · rw [← hy l c]
      refine prc_congr u (fun l d => ?_) l c
      dsimp only
      rw [hy2 l d]
      constructor
      · rintro (q | ⟨e, q1, q2, q3, q4, q5, q6, q7⟩)
        · exact Or.inl q
        · exact Or.inr ⟨q2, q3, e, q4, q5, q6, q7⟩
      · rintro (q | ⟨q2, q3, e, q4, q5, q6, q7⟩)
        · exact Or.inl q
        · exact Or.inr ⟨e, q4.1, q2, q3, q4, q5, q6, q7⟩
    · simp only [f_Mo_spread_L44]
      rw [if_neg (nI_nle (by omega) (by omega)), jnE]
      obtain ⟨rec2, h2⟩ := hrun2 (fun x17 => lt (nI (u + 1) + (-1)) fun x18 => rec (x18, x17))
      rw [h2]
      simp only [f_Mo_spread_L52]
      rw [bd_some hcells, if_pos (nI_le (Nat.le_refl _) (by omega)), ltE, pk_m1]) (x0 := (nI ld, upd y0 (21 * cell + ld) 1)) ⟨rfl, fun l c => by
        dsimp only
        rw [Nat.sub_zero, prc_congr ld hX0 l c]
        exact (prc_low (k := ld) (fun l c q => by omega) 20 hl2 l c).symm⟩
  simp only [Nat.sub_self] at e1 hy1
  subst e1
  obtain ⟨rec1, hrun1⟩ := hrun1 (fun x4 => lp (f_Mo_spread_L198 x4) FU (0, tried))
  rw [hrun1]
  simp only [f_Mo_spread_L44]
  rw [if_pos (by decide)]
  -- how loud it is, cell by cell
  have hXM : ∀ l c, XM y1 l c ↔ prc w (w * h) cost may 20 (fun l c => l = ld ∧ c = cell) l c := hy1
  obtain ⟨⟨a3, y3⟩, rec3, ⟨e3, hy3⟩, hrun3⟩ := lp_inv (f := f_Mo_spread_L198 y1) (fun i (y : Int32 × (Nat → Int32)) => y.1 = nI i ∧ ∀ c, c < i → ∃ L, L ≤ 20 ∧ y.2 c = nI L ∧ lvl (XM y1) c L) 36 (by decide) (by
    rintro i ⟨a, y⟩ hi ⟨e, hy⟩
    simp only at e hy
    subst e
    obtain ⟨⟨a4, y4⟩, ⟨e4, ho4, L4, h4a, h4b, h4c⟩, hrun4⟩ := lp_fam (f := f_Mo_spread_L216 y1 (nI i)) (fun j (z : Int32 × (Nat → Int32)) => z.1 = nI (j + 1) ∧ (∀ c, c ≠ i → z.2 c = y c) ∧ ∃ L, L ≤ j ∧ z.2 i = nI L ∧ ((L = 0 ∧ ∀ l, l < j + 1 → ¬ XM y1 l i) ∨ (0 < L ∧ XM y1 L i ∧ ∀ l, l < j + 1 → XM y1 l i → l ≤ L))) 20 (by decide) (by
      rintro j ⟨a, z⟩ hj ⟨e, ho, L, hL, hz, hlv⟩
      simp only at e ho hz
      subst e
      by_cases q : y1 (21 * i + (j + 1)) = 0
      · refine ⟨(nI (j + 2), upd z i (z i)), ⟨rfl, fun c hc => ?_, L, by omega, ?_, ?_⟩, fun J rec => ?_⟩
        · dsimp only
          rw [upd_ne hc, ho c hc]
        · dsimp only
          rw [upd_same, hz]
        · have hno : ¬ XM y1 (j + 1) i := fun z => z.2.2.2 q
          rcases hlv with ⟨z1, z2⟩ | ⟨z1, z2, z3⟩
          · refine Or.inl ⟨z1, fun l hl => ?_⟩
            by_cases q2 : l = j + 1
            · rw [q2]; exact hno
            · exact z2 l (by omega)
          · refine Or.inr ⟨z1, z2, fun l hl hx => ?_⟩
            by_cases q2 : l = j + 1
            · rw [q2] at hx; exact absurd hx hno
            · exact z3 l (by omega) hx
        · simp only [f_Mo_spread_L216]
          rw [show (21 : Int32) = nI 21 from rfl, if_neg (nI_ge (by omega) (by omega)), pk_mul, nI_add, gd_nI (by omega) (by decide), nI_clamp (n := 21 * i + (j + 1)) (by omega), nI_clamp (n := i) (by omega), jnE, if_pos q, gd_nI hi (by decide)]
          dsimp only
          rw [gd_nI hi (by decide), ltE, ltE, nI_add']
      · refine ⟨(nI (j + 2), upd z i (nI (j + 1))), ⟨rfl, fun c hc => ?_, j + 1, by omega, ?_, ?_⟩, fun J rec => ?_⟩
        · dsimp only
          rw [upd_ne hc, ho c hc]
        · dsimp only
          rw [upd_same]
        · exact Or.inr ⟨by omega, ⟨hi, by omega, by omega, q⟩, fun l hl _ => by omega⟩
        · simp only [f_Mo_spread_L216]
          rw [show (21 : Int32) = nI 21 from rfl, if_neg (nI_ge (by omega) (by omega)), pk_mul, nI_add, gd_nI (by omega) (by decide), nI_clamp (n := 21 * i + (j + 1)) (by omega), nI_clamp (n := i) (by omega), jnE, if_neg q]
          dsimp only
          rw [gd_nI hi (by decide), ltE, ltE, nI_add']) (x0 := (1, upd y i 0)) ⟨rfl, fun c hc => by
            dsimp only
            rw [upd_ne hc], 0, by omega, by
            dsimp only
            rw [upd_same]
            rfl, Or.inl ⟨rfl, fun l hl hx => by have := hx.2.1; omega⟩⟩
    simp only at e4 ho4 h4b
    subst e4
    refine ⟨(nI (i + 1), y4), ⟨rfl, fun c hc => ?_⟩, fun rec => ?_⟩
    · dsimp only
      by_cases q : c = i
      · subst q
        refine ⟨L4, h4a, h4b, ?_⟩
        rcases h4c with ⟨z1, z2⟩ | ⟨z1, z2, z3⟩
        · exact Or.inl ⟨z1, fun l hx => z2 l (by have := hx.2.2.1; omega) hx⟩
        · exact Or.inr ⟨z1, z2, fun l hx => z3 l (by have := hx.2.2.1; omega) hx⟩
      · obtain ⟨L, q1, q2, q3⟩ := hy c (by omega)
        exact ⟨L, q1, by rw [ho4 c q, q2], q3⟩
    · simp only [f_Mo_spread_L198]
      rw [show (36 : Int32) = nI 36 from rfl, if_neg (nI_ge hi (by omega)), gd_nI hi (by omega), nI_clamp (by omega), ltE, jnE]
      obtain ⟨rec4, h4⟩ := hrun4 (fun x8 => lt (nI i + 1) fun x9 => rec (x9, x8))
      rw [h4]
      simp only [f_Mo_spread_L216]
      rw [if_pos (by decide), ltE, nI_add']) (x0 := (0, tried)) ⟨rfl, fun c hc => by omega⟩
  simp only at e3 hy3
  subst e3
  refine ⟨y1, y3, ?_, fun c hc => ?_⟩
  · rw [hrun3]
    simp only [f_Mo_spread_L198]
    rw [if_pos (by decide)]
  · obtain ⟨L, q1, q2, q3⟩ := hy3 c hc
    exact ⟨L, q1, q2, (lvl_iff hXM c L).mp q3⟩

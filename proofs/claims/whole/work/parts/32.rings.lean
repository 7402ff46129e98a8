/-! rings, let -/
theorem ring_class {row lts : Nat → Int32} {L : Nat → Nat} (h : LtR row lts L) {i : Nat} (hi : i < 6) (acc : Int32) (J : Int32 → Option Int32) : ((∃ j, 1 ≤ j ∧ j ≤ 6 ∧ orb L i j = i) ∧ lp (f_Ai_rings_L15 lts (nI i) J) FU (acc, nI i, 0) = J (acc ||| ((1 : Int32) <<< (nI i &&& 31)))) ∨ ((∀ j, 1 ≤ j → j ≤ 6 → orb L i j ≠ i) ∧ lp (f_Ai_rings_L15 lts (nI i) J) FU (acc, nI i, 0) = J acc) := by
  have hL : ∀ k, k < 6 → L k ≤ 6 := fun k hk => (h k hk).1
  refine lp_or (fun t (y : Int32 × Int32 × Int32) => y.2.2 = nI t ∧ y.2.1 = enc (orb L i t) ∧ ((y.1 = acc ∧ ∀ j, 1 ≤ j → j ≤ t → orb L i j ≠ i) ∨ (y.1 = acc ||| ((1 : Int32) <<< (nI i &&& 31)) ∧ ∃ j, 1 ≤ j ∧ j ≤ t ∧ orb L i j = i))) (fun r => ((∃ j, 1 ≤ j ∧ j ≤ 6 ∧ orb L i j = i) ∧ r = J (acc ||| ((1 : Int32) <<< (nI i &&& 31)))) ∨ ((∀ j, 1 ≤ j → j ≤ 6 → orb L i j ≠ i) ∧ r = J acc)) 6 (by decide) ?_ ?_ ⟨rfl, (enc_lt hi).symm, Or.inl ⟨rfl, fun j h1 h2 => by omega⟩⟩
  · rintro t ⟨x5, x6, x7⟩ ht ⟨q1, q2, q3⟩
    dsimp only at q1 q2 q3
    subst q1 q2
    have ho := orb_le hL hi t
    have lb := letBy_eq h ho
    rw [← orb_s] at lb
    have ho1 := orb_le hL hi (t + 1)
    have e0 : enc (orb L i (t + 1)) = nI i ↔ orb L i (t + 1) = i := by
      rw [← enc_lt hi, enc_eq ho1 (by omega)]
    have e1 : ¬ (6 : Int32) ≤ nI t := nI_ge (b := 6) ht (by decide)
    have idem : ∀ x y : Int32, (x ||| y) ||| y = x ||| y := fun x y => by rw [Int32.or_assoc, Int32.or_self]
    by_cases hq : orb L i (t + 1) = i
    · refine Or.inl ⟨(acc ||| ((1 : Int32) <<< (nI i &&& 31)), enc (orb L i (t + 1)), nI (t + 1)), ⟨rfl, rfl, Or.inr ⟨rfl, t + 1, by omega, Nat.le_refl _, hq⟩⟩, fun rec => ?_⟩
      unfold f_Ai_rings_L15
      dsimp only
      simp only [if_neg e1, bd_some lb, jnE, ltE, nI1, if_pos (e0.mpr hq)]
      rcases q3 with ⟨rfl, _⟩ | ⟨rfl, _⟩
      · rfl
      · rw [idem]
    · refine Or.inl ⟨(x5, enc (orb L i (t + 1)), nI (t + 1)), ⟨rfl, rfl, ?_⟩, fun rec => ?_⟩
      · rcases q3 with ⟨z, g⟩ | ⟨z, j, j1, j2, j3⟩
        · refine Or.inl ⟨z, fun j h1 h2 => ?_⟩
          by_cases hj : j = t + 1
          · rw [hj]; exact hq
          · exact g j h1 (by omega)
        · exact Or.inr ⟨z, j, j1, by omega, j3⟩
      · unfold f_Ai_rings_L15
        dsimp only
        simp only [if_neg e1, bd_some lb, jnE, ltE, nI1, if_neg (fun z => hq (e0.mp z))]
  · rintro ⟨x5, x6, x7⟩ ⟨q1, q2, q3⟩ rec
    dsimp only at q1 q2 q3
    subst q1 q2
    unfold f_Ai_rings_L15
    dsimp only
    rw [if_pos (by decide)]
    rcases q3 with ⟨rfl, g⟩ | ⟨rfl, g⟩
    · exact Or.inr ⟨g, rfl⟩
    · exact Or.inl ⟨g, rfl⟩
theorem ring_ref {row lts : Nat → Int32} {L : Nat → Nat} (h : LtR row lts L) {i : Nat} (hi : i < 6) (J : Int32 → Option Int32) : ∃ r, lp (f_Mo_rings_L23 row (nI i) J) FU (enc (L i), 0) = J r ∧ (r = nI i ↔ ∃ j, 1 ≤ j ∧ j ≤ 6 ∧ orb L i j = i) := by
  have hL : ∀ k, k < 6 → L k ≤ 6 := fun k hk => (h k hk).1
  have o1 : orb L i 1 = L i := by
    show (if i = 6 then 6 else L i) = L i
    rw [if_neg (by omega)]
  refine lp_or (fun t (y : Int32 × Int32) => y.2 = nI t ∧ y.1 = enc (orb L i (t + 1)) ∧ ∀ j, 1 ≤ j → j ≤ t → orb L i j ≠ i) (fun a => ∃ r, a = J r ∧ (r = nI i ↔ ∃ j, 1 ≤ j ∧ j ≤ 6 ∧ orb L i j = i)) 6 (by decide) ?_ ?_ ⟨rfl, by rw [o1], fun j h1 h2 => by omega⟩
  · rintro t ⟨x8, x9⟩ ht ⟨q1, q2, q3⟩
    dsimp only at q1 q2
    subst q1 q2
    have ho1 := orb_le hL hi (t + 1)
    have e0 : enc (orb L i (t + 1)) = nI i ↔ orb L i (t + 1) = i := by
      rw [← enc_lt hi, enc_eq ho1 (by omega)]
    have e1 : ¬ (6 : Int32) ≤ nI t := nI_ge (b := 6) ht (by decide)
    by_cases h6 : orb L i (t + 1) = 6
    · refine Or.inr fun rec => ⟨enc (orb L i (t + 1)), ?_, ?_⟩
      · unfold f_Mo_rings_L23
        dsimp only
        rw [if_neg e1, if_pos ((enc_n ho1).mpr h6)]
      · rw [e0]
        refine ⟨fun z => by omega, fun ⟨j, j1, j2, j3⟩ => ?_⟩
        by_cases hj : j ≤ t
        · exact absurd j3 (q3 j j1 hj)
        · have := orb_6 h6 (j - (t + 1))
          rw [show t + 1 + (j - (t + 1)) = j from by omega] at this
          omega
    · by_cases hq : orb L i (t + 1) = i
      · refine Or.inr fun rec => ⟨enc (orb L i (t + 1)), ?_, e0.trans ⟨fun z => ⟨t + 1, by omega, by omega, z⟩, fun _ => hq⟩⟩
        unfold f_Mo_rings_L23
        dsimp only
        rw [if_neg e1, if_neg (fun z => h6 ((enc_n ho1).mp z)), if_pos (e0.mpr hq)]
      · refine Or.inl ⟨(enc (orb L i (t + 1 + 1)), nI (t + 1)), ⟨rfl, rfl, fun j h1 h2 => ?_⟩, fun rec => ?_⟩
        · by_cases hj : j = t + 1
          · rw [hj]; exact hq
          · exact q3 j h1 (by omega)
        · obtain ⟨r1, r2⟩ := rowLet h (x := orb L i (t + 1)) (by omega)
          have en := enc_lt (show orb L i (t + 1) < 6 by omega)
          unfold f_Mo_rings_L23
          dsimp only
          rw [if_neg e1, if_neg (fun z => h6 ((enc_n ho1).mp z)), if_neg (fun z => hq (e0.mp z)), en, gd_t r1, r2, ltE, ltE, nI1, orb_s L i (t + 1), if_neg h6]
  · rintro ⟨x8, x9⟩ ⟨q1, q2, q3⟩ rec
    dsimp only at q1 q2
    subst q1 q2
    have ho1 := orb_le hL hi 7
    refine ⟨enc (orb L i 7), ?_, ?_⟩
    · unfold f_Mo_rings_L23
      dsimp only
      rw [if_pos (by decide)]
    · rw [← enc_lt hi, enc_eq ho1 (by omega)]
      exact ⟨fun z => absurd z (orb_ring hL hi q3), fun ⟨j, j1, j2, j3⟩ => absurd j3 (q3 j j1 j2)⟩
theorem rings_call {row lts : Nat → Int32} {L : Nat → Nat} (h : LtR row lts L) : ∃ r, f_Ai_rings lts = some r ∧ f_Mo_rings row = some r := by
  unfold f_Ai_rings f_Mo_rings
  refine lp_two (fun i (y z : Int32 × Int32) => y.2 = nI i ∧ z = y) (fun A B => ∃ r, A = some r ∧ B = some r) 6 (by decide) ?_ ?_ ⟨rfl, rfl⟩
  · rintro i ⟨a, _⟩ _ hi ⟨q, rfl⟩
    dsimp only at q
    subst q
    have e1 : ¬ (6 : Int32) ≤ nI i := nI_ge (b := 6) hi (by decide)
    obtain ⟨r1, r2⟩ := rowLet h hi
    by_cases hh : ∃ j, 1 ≤ j ∧ j ≤ 6 ∧ orb L i j = i
    · refine Or.inl ⟨(a ||| ((1 : Int32) <<< (nI i &&& 31)), nI (i + 1)), (a ||| ((1 : Int32) <<< (nI i &&& 31)), nI (i + 1)), ⟨rfl, rfl⟩, fun rec => ?_, fun rec => ?_⟩
      · unfold f_Ai_rings_L4
        dsimp only
        simp only [if_neg e1, jnE]
        rcases ring_class h hi a (fun x3 => lt (nI i + 1) fun x4 => rec (x3, x4)) with ⟨_, e⟩ | ⟨z, _⟩
        · rw [e, ltE, nI1]
        · obtain ⟨j, j1, j2, j3⟩ := hh
          exact absurd j3 (z j j1 j2)
      · unfold f_Mo_rings_L4
        dsimp only
        simp only [if_neg e1, gd_t r1, r2, jnE, ltE]
        obtain ⟨r, g1, g2⟩ := ring_ref h hi (fun x4 => if x4 = nI i then rec (a ||| ((1 : Int32) <<< (nI i &&& 31)), nI i + 1) else rec (a ||| 0, nI i + 1))
        rw [g1, if_pos (g2.mpr hh), nI1]
    · refine Or.inl ⟨(a, nI (i + 1)), (a, nI (i + 1)), ⟨rfl, rfl⟩, fun rec => ?_, fun rec => ?_⟩
      · unfold f_Ai_rings_L4
        dsimp only
        simp only [if_neg e1, jnE]
        rcases ring_class h hi a (fun x3 => lt (nI i + 1) fun x4 => rec (x3, x4)) with ⟨z, _⟩ | ⟨_, e⟩
        · exact absurd z hh
        · rw [e, ltE, nI1]
      · unfold f_Mo_rings_L4
        dsimp only
        simp only [if_neg e1, gd_t r1, r2, jnE, ltE]
        obtain ⟨r, g1, g2⟩ := ring_ref h hi (fun x4 => if x4 = nI i then rec (a ||| ((1 : Int32) <<< (nI i &&& 31)), nI i + 1) else rec (a ||| 0, nI i + 1))
        rw [g1, if_neg (fun z => hh (g2.mp z)), nI1, Int32.or_zero]
  · rintro ⟨a, _⟩ _ ⟨q, rfl⟩ rec rec'
    dsimp only at q
    subst q
    unfold f_Ai_rings_L4 f_Mo_rings_L4
    dsimp only
    rw [if_pos (by decide), if_pos (by decide)]
    exact ⟨_, rfl, rfl⟩
theorem upd_let {row lts : Nat → Int32} {v : Nat → Nat} {L : Nat → Nat} (R : Rm row v) (h : LtR row lts L) {x y : Nat} (hx : x < 6) (hy : y ≤ 6) : Rm (upd row (116 + x) (enc y)) v ∧ LtR (upd row (116 + x) (enc y)) (upd lts x (enc y)) (fun k => if k = x then y else L k) := by
  refine ⟨fun i h1 h2 => ?_, fun k hk => ?_⟩
  · rw [upd_ne (by omega), R i h1 h2]
  · dsimp only
    by_cases hkx : k = x
    · subst hkx
      rw [if_pos rfl, upd_same, upd_same]
      exact ⟨hy, rfl, rfl⟩
    · rw [if_neg hkx, upd_ne hkx, upd_ne (by omega)]
      exact h k hk
theorem let_call {row lts : Nat → Int32} {v : Nat → Nat} {L : Nat → Nat} (R : Rm row v) (h : LtR row lts L) {rf : Nat → Int32} {bad no full : Int32} (T : StR rf bad no full) (a b : Int32) : ∃ r rf' bad' lts' row' L', f_Ai_let rf lts a b = some (r, rf', lts') ∧ f_Mo_let bad row a b = some (r, row', bad') ∧ StR rf' bad' no full ∧ Rm row' v ∧ LtR row' lts' L' ∧ (∀ i, 517 ≤ i → row' i = row i) := by
  have B := refuse_bad T (-2)
  have bad2 : ∃ r rf' bad' lts' row' L', (bd (f_Ai_refuse rf (-2)) fun ((x3, x4) : Int32 × (Nat → Int32)) => some (x3, x4, lts)) = some (r, rf', lts') ∧ (bd (f_Mo_isBad bad) fun ((x3, x4) : Int32 × Int32) => some (x3, row, x4)) = some (r, row', bad') ∧ StR rf' bad' no full ∧ Rm row' v ∧ LtR row' lts' L' ∧ (∀ i, 517 ≤ i → row' i = row i) := by
    rw [bd_some (refuse_is B.1), bd_some (isBad_eq bad)]
    exact ⟨_, _, _, _, _, L, rfl, rfl, B.2, R, h, fun _ _ => rfl⟩
  unfold f_Ai_let f_Mo_let
  rcases in_or a (n := 6) (by decide) with ⟨x, hx, rfl⟩ | ⟨q1, q2⟩
  · simp only [bd_some (isOwner_t hx), bd_some (mOwner_t hx), jnE, if_neg (show ¬ (1 : Int32) = 0 from by decide)]
    have go : ∀ y, y ≤ 6 → ∃ r rf' bad' lts' row' L', (gd (inB (nI x) 6) <| lt (lts (nI x).toNatClampNeg) fun x6 => gd (inB (nI x) 6) <| lt (upd lts (nI x).toNatClampNeg (enc y)) fun x7 => some (x6, rf, x7)) = some (r, rf', lts') ∧ (gd (inB ((116 : Int32) + nI x) 1551) <| lt (row ((116 : Int32) + nI x).toNatClampNeg) fun x6 => gd (inB ((116 : Int32) + nI x) 1551) <| lt (upd row ((116 : Int32) + nI x).toNatClampNeg (enc y)) fun x7 => some (x6, x7, bad)) = some (r, row', bad') ∧ StR rf' bad' no full ∧ Rm row' v ∧ LtR row' lts' L' ∧ (∀ i, 517 ≤ i → row' i = row i) := by
      intro y hy
      simp only [ltE, show (116 : Int32) = nI 116 from rfl, nIa, gd_nI hx (show 6 < 2 ^ 31 by decide), gd_nI (show 116 + x < 1551 by omega) (by decide), nI_clamp (show x < 2 ^ 31 by omega), nI_clamp (show 116 + x < 2 ^ 31 by omega), (h x hx).2.1, (h x hx).2.2]
      obtain ⟨u1, u2⟩ := upd_let R h hx hy
      exact ⟨_, _, _, _, _, _, rfl, rfl, T, u1, u2, fun i hi => upd_ne (by omega)⟩
    by_cases hb : b = -1
    · subst hb
      have e : ¬ (-1 : Int32) = nI x := fun q => by
        have := (enc_eq (a := 6) (b := x) (by omega) (by omega)).mp (q.trans (enc_lt hx).symm)
        omega
      simp only [if_neg e, if_pos (show (-1 : Int32) = -1 from rfl)]
      exact go 6 (Nat.le_refl _)
    · simp only [if_neg hb]
      rcases in_or b (n := 6) (by decide) with ⟨y, hy, rfl⟩ | ⟨q1, q2⟩
      · simp only [bd_some (isOwner_t hy), bd_some (mOwner_t hy), if_neg (show ¬ (1 : Int32) = 0 from by decide)]
        by_cases hxy : nI y = nI x
        · simp only [if_pos hxy]
          exact bad2
        · simp only [if_neg hxy]
          have := go y (by omega)
          rw [enc_lt hy] at this
          exact this
      · simp only [bd_some (isOwner_f q1), bd_some (mOwner_f q2), if_pos (show (0 : Int32) = 0 from rfl)]
        by_cases hxy : b = nI x
        · simp only [if_pos hxy]
          exact bad2
        · simp only [if_neg hxy]
          exact bad2
  · simp only [bd_some (isOwner_f q1), bd_some (mOwner_f q2), jnE, if_pos (show (0 : Int32) = 0 from rfl)]
    exact bad2

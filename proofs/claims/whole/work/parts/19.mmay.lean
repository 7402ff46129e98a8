/-! where the reference's sounds may come -/
theorem nI_iff {a b : Nat} (ha : a < 2 ^ 31) (hb : b < 2 ^ 31) : nI a = nI b ↔ a = b := nI_eq ha hb
theorem hasLeave_eq {row : Nat → Int32} {v : Nat → Nat} (R : Rm row v) (hwf : WFL v) (hmk : v 122 ≤ 6) (hse : ∀ i, i < v 122 → v (125 + 4 * i) < 6) {g ow a hr l : Nat} (hg : g < 256) (how : ow < 6) (ha : a < 6) (hhr : hr < 24) (hl : l ≤ 20) {p1 : Int32} {sv : Nat → Prop}
    (hsv : ∀ j, j < v 147 → ((p1 = -1 ∧ (sv j ↔ v (125 + 4 * v (148 + 5 * j)) = ow)) ∨ (∃ q, q < 6 ∧ p1 = nI q ∧ (sv j ↔ v (148 + 5 * j) = q)))) :
    ∃ z : Int32, f_Mo_hasLeave (nI g) row p1 (nI ow) (nI a) (nI hr) (nI l) = some z ∧ (z = 0 ↔ ¬ LPv v hr g sv l a) := by
  have h147 : row (147 : Int32).toNatClampNeg = nI (v 147) := by rw [show (147 : Int32).toNatClampNeg = 147 from by decide]; exact R 147 (by decide) (by decide)
  have h8 := hwf.1
  obtain ⟨⟨y, b⟩, rec, ⟨e, hz, hy⟩, hrun⟩ := lp_inv (f := f_Mo_hasLeave_L6 (nI g) row p1 (nI ow) (nI a) (nI hr) (nI l)) (fun i (y : Int32 × Int32) => y.2 = nI i ∧ (y.1 = 0 ∨ y.1 = 1) ∧ (y.1 = 0 ↔ ¬ ∃ j, j < i ∧ sv j ∧ g.testBit j = false ∧ v (150 + 5 * j) ≤ hr ∧ hr ≤ v (151 + 5 * j) ∧ v (149 + 5 * j) = a ∧ l ≤ v (152 + 5 * j))) (v 147) (by omega) (by
    rintro j ⟨y, b⟩ hj ⟨e, hz, hy⟩
    simp only at e hz hy
    subst e
    obtain ⟨w1, w2, w3, w4, w5, w6⟩ := hwf.2 j hj
    have r0 : row (148 + 5 * j) = nI (v (148 + 5 * j)) := R _ (by omega) (by omega)
    have r1 : row (148 + 5 * j + 1) = nI (v (149 + 5 * j)) := by rw [R _ (by omega) (by omega)]; congr 2; omega
    have r2 : row (148 + 5 * j + 2) = nI (v (150 + 5 * j)) := by rw [R _ (by omega) (by omega)]; congr 2; omega
    have r3 : row (148 + 5 * j + 3) = nI (v (151 + 5 * j)) := by rw [R _ (by omega) (by omega)]; congr 2; omega
    have r4 : row (148 + 5 * j + 4) = nI (v (152 + 5 * j)) := by rw [R _ (by omega) (by omega)]; congr 2; omega
    have rs : row (123 + 4 * v (148 + 5 * j) + 2) = nI (v (125 + 4 * v (148 + 5 * j))) := by rw [R _ (by omega) (by omega)]; congr 2; omega
    have hs6 := hse _ w1
    -- whose it is
    have hhis : ∃ z : Int32, (z = 1 ∨ z = 0) ∧ (z = 0 ↔ ¬ sv j) ∧ ∀ K : Int32 → Option Int32, (jn K fun J81 => if p1 = (-1) then gd (inB (nI (148 + 5 * j)) 1551) <| gd (inB (((123 : Int32) + ((4 : Int32) * (row (nI (148 + 5 * j)).toNatClampNeg))) + 2) 1551) <| if (row (((123 : Int32) + ((4 : Int32) * (row (nI (148 + 5 * j)).toNatClampNeg))) + 2).toNatClampNeg) = nI ow then J81 1 else J81 0 else gd (inB (nI (148 + 5 * j)) 1551) <| if (row (nI (148 + 5 * j)).toNatClampNeg) = p1 then J81 1 else J81 0) = K z := by
      rw [nI_clamp (n := 148 + 5 * j) (by omega), r0]
      rcases hsv j hj with ⟨hp, hs⟩ | ⟨q, hq, hp, hs⟩
      · by_cases c : v (125 + 4 * v (148 + 5 * j)) = ow
        · refine ⟨1, Or.inl rfl, by simp [hs, c], fun K => ?_⟩
          rw [jnE, if_pos hp, gd_nI (by omega) (by decide), show (123 : Int32) = nI 123 from rfl, show (4 : Int32) = nI 4 from rfl, show (2 : Int32) = nI 2 from rfl, pk_mul, nI_add, nI_add, gd_nI (by omega) (by decide), nI_clamp (by omega), rs, c, if_pos rfl]
        · refine ⟨0, Or.inr rfl, by simp [hs, c], fun K => ?_⟩
          rw [jnE, if_pos hp, gd_nI (by omega) (by decide), show (123 : Int32) = nI 123 from rfl, show (4 : Int32) = nI 4 from rfl, show (2 : Int32) = nI 2 from rfl, pk_mul, nI_add, nI_add, gd_nI (by omega) (by decide), nI_clamp (by omega), rs, if_neg (fun z => c ((nI_eq (by omega) (by omega)).mp z))]
      · have hne : ¬ p1 = -1 := by
          rw [hp]
          intro z
          have := nI_pos (n := q) (by omega)
          rw [z] at this
          exact this (by decide)
        by_cases c : v (148 + 5 * j) = q
        · refine ⟨1, Or.inl rfl, by simp [hs, c], fun K => ?_⟩
          rw [jnE, if_neg hne, gd_nI (by omega) (by decide), hp, c, if_pos rfl]
        · refine ⟨0, Or.inr rfl, by simp [hs, c], fun K => ?_⟩
          rw [jnE, if_neg hne, gd_nI (by omega) (by decide), hp, if_neg (fun z => c ((nI_eq (by omega) (by omega)).mp z))]
    obtain ⟨z1, hz1, hs1, hr1⟩ := hhis
    have hhas : f_Mo_has (nI g).toInt64 (nI j) = some (if g.testBit j = true then 1 else 0) := by
      rw [nI_l (by omega), mhas_eq _ (by omega), lN_tb (by omega) (by omega)]
    have hgood : ∃ z : Int32, (z = 0 ∨ z = 1) ∧ (z = 0 ↔ y = 0 ∧ ¬ (sv j ∧ g.testBit j = false ∧ v (150 + 5 * j) ≤ hr ∧ hr ≤ v (151 + 5 * j) ∧ v (149 + 5 * j) = a ∧ l ≤ v (152 + 5 * j))) ∧ ∀ K : Int32 → Option Int32, (jn K fun J167 => jn (fun (_ : Unit) => J167 1) fun J162 => if y = 0 then jn (fun (_ : Unit) => J167 0) fun J166 => if z1 = 0 then J166 () else bd (f_Mo_has (nI g).toInt64 (nI j)) fun (x7 : Int32) => if x7 = 0 then gd (inB (nI (148 + 5 * j) + 1) 1551) <| if (row (nI (148 + 5 * j) + 1).toNatClampNeg) = nI a then gd (inB (nI (148 + 5 * j) + 2) 1551) <| gd (inB (nI (148 + 5 * j) + 3) 1551) <| bd (f_Mo_in (nI hr).toInt64 ((row (nI (148 + 5 * j) + 2).toNatClampNeg).toInt64) ((row (nI (148 + 5 * j) + 3).toNatClampNeg).toInt64)) fun (x9 : Int32) => if x9 = 0 then J166 () else gd (inB (nI (148 + 5 * j) + 4) 1551) <| if (row (nI (148 + 5 * j) + 4).toNatClampNeg) < nI l then J166 () else J162 () else J166 () else J166 () else J162 ()) = K z := by
      rw [hhas, show (3 : Int32) = nI 3 from rfl, show (4 : Int32) = nI 4 from rfl, show (2 : Int32) = nI 2 from rfl, nI_add', nI_add, nI_add, nI_add, nI_clamp (n := 148 + 5 * j + 1) (by omega), nI_clamp (n := 148 + 5 * j + 2) (by omega), nI_clamp (n := 148 + 5 * j + 3) (by omega), nI_clamp (n := 148 + 5 * j + 4) (by omega), r1, r2, r3, r4, min_nat (by omega) (by omega) (by omega)]
      by_cases c0 : y = 0
      · by_cases c1 : z1 = 0
        · refine ⟨0, Or.inl rfl, ?_, fun K => by rw [jnE, jnE, if_pos c0, jnE, if_pos c1]⟩
          exact ⟨fun _ => ⟨c0, fun q => (hs1.mp c1) q.1⟩, fun _ => rfl⟩
        · have c1' : sv j := Classical.byContradiction fun q => c1 (hs1.mpr q)
          by_cases c2 : g.testBit j = true
          · refine ⟨0, Or.inl rfl, ⟨fun _ => ⟨c0, fun q => by rw [c2] at q; exact absurd q.2.1 (by decide)⟩, fun _ => rfl⟩, fun K => ?_⟩
            rw [jnE, jnE, if_pos c0, jnE, if_neg c1, if_pos c2, bd_some rfl, if_neg (by decide)]
          · have c2' : g.testBit j = false := by simpa using c2
            by_cases c3 : v (149 + 5 * j) = a
            · by_cases c4 : v (150 + 5 * j) ≤ hr ∧ hr ≤ v (151 + 5 * j)
              · by_cases c5 : l ≤ v (152 + 5 * j)
                · refine ⟨1, Or.inr rfl, ⟨fun q => absurd q (by decide), fun q => absurd ⟨c1', c2', c4.1, c4.2, c3, c5⟩ q.2⟩, fun K => ?_⟩
                  rw [jnE, jnE, if_pos c0, jnE, if_neg c1, if_neg c2, bd_some rfl, if_pos rfl, gd_nI (by omega) (by decide), c3, if_pos rfl, gd_nI (by omega) (by decide), gd_nI (by omega) (by decide), if_pos c4, bd_some rfl, if_neg (by decide), gd_nI (by omega) (by decide), if_neg (nI_nlt c5 (by omega))]
                · refine ⟨0, Or.inl rfl, ⟨fun _ => ⟨c0, fun q => c5 q.2.2.2.2.2⟩, fun _ => rfl⟩, fun K => ?_⟩
                  rw [jnE, jnE, if_pos c0, jnE, if_neg c1, if_neg c2, bd_some rfl, if_pos rfl, gd_nI (by omega) (by decide), c3, if_pos rfl, gd_nI (by omega) (by decide), gd_nI (by omega) (by decide), if_pos c4, bd_some rfl, if_neg (by decide), gd_nI (by omega) (by decide), if_pos (nI_lt (by omega) (by omega))]
              · refine ⟨0, Or.inl rfl, ⟨fun _ => ⟨c0, fun q => c4 ⟨q.2.2.1, q.2.2.2.1⟩⟩, fun _ => rfl⟩, fun K => ?_⟩
                rw [jnE, jnE, if_pos c0, jnE, if_neg c1, if_neg c2, bd_some rfl, if_pos rfl, gd_nI (by omega) (by decide), c3, if_pos rfl, gd_nI (by omega) (by decide), gd_nI (by omega) (by decide), if_neg c4, bd_some rfl, if_pos rfl]
            · refine ⟨0, Or.inl rfl, ⟨fun _ => ⟨c0, fun q => c3 q.2.2.2.2.1⟩, fun _ => rfl⟩, fun K => ?_⟩
              rw [jnE, jnE, if_pos c0, jnE, if_neg c1, if_neg c2, bd_some rfl, if_pos rfl, gd_nI (by omega) (by decide), if_neg (fun z => c3 ((nI_eq (by omega) (by omega)).mp z))]
      · refine ⟨1, Or.inr rfl, ⟨fun q => absurd q (by decide), fun q => absurd q.1 c0⟩, fun K => by rw [jnE, jnE, if_neg c0]⟩
    obtain ⟨z2, hz2, hs2, hr2⟩ := hgood
    refine ⟨(z2, nI (j + 1)), ⟨rfl, hz2, ?_⟩, fun rec => ?_⟩
    · dsimp only
      rw [hs2, hy]
      constructor
      · rintro ⟨q1, q2⟩ ⟨i, q3, q4⟩
        by_cases q : i = j
        · subst q; exact q2 q4
        · exact q1 ⟨i, by omega, q4⟩
      · intro q
        exact ⟨fun ⟨i, q3, q4⟩ => q ⟨i, by omega, q4⟩, fun q4 => q ⟨j, by omega, q4⟩⟩
    · simp only [f_Mo_hasLeave_L6]
      rw [h147, if_neg (nI_ge hj (by omega)), show (148 : Int32) + (5 : Int32) * nI j = nI (148 + 5 * j) from by rw [show (148 : Int32) = nI 148 from rfl, show (5 : Int32) = nI 5 from rfl, pk_mul, nI_add], ltE, hr1, hr2, ltE, nI_add'])
    (x0 := (0, 0)) ⟨rfl, Or.inl rfl, ⟨fun _ ⟨j, q, _⟩ => by omega, fun _ => rfl⟩⟩
  simp only at e hz hy
  subst e
  refine ⟨y, ?_, ?_⟩
  · unfold f_Mo_hasLeave
    rw [hrun]
    simp only [f_Mo_hasLeave_L6]
    rw [h147, if_pos (nI_le (Nat.le_refl _) (by omega)), gd_t (by unfold isZ; exact decide_eq_true hz)]
  · exact hy
theorem mayCome_eq {row : Nat → Int32} {v : Nat → Nat} (R : Rm row v) (hwf : WFL v) (hmk : v 122 ≤ 6) (hse : ∀ i, i < v 122 → v (125 + 4 * i) < 6) {g ow hr l b c kd m : Nat} {gs : Int64} {fr mk bu : Int32} (hg : g < 256) (hb : b < 64) (how : ow < 6) (hhr : hr < 24) (hl : l ≤ 20) (hc : c < 36) (hai : v (38 + c) < 6) (hgr3 : v (2 + c) < 3) (hkd : kd < 6) (hm : m < v 122) (hbu : b = 0 ∨ bu = nI m) {sv : Nat → Prop} {BB : Prop}
    (hsv : ∀ j, j < v 147 → ((mk = -1 ∧ (sv j ↔ v (125 + 4 * v (148 + 5 * j)) = ow)) ∨ (∃ q, q < 6 ∧ mk = nI q ∧ (sv j ↔ v (148 + 5 * j) = q))))
    (hBB : b ≠ 0 → ((mk = -1 ∧ (BB ↔ v (125 + 4 * m) = ow)) ∨ (¬ mk = -1 ∧ (BB ↔ mk = nI m)))) :
    ∃ z : Int32, f_Mo_mayCome (nI b) (nI g) gs fr (nI kd) mk (nI ow) (nI hr) bu row (nI c) (nI l) = some z ∧ (z = 0 ↔ ¬ (¬ (kd = 3 ∧ grd v gs c = 1) ∧ ((¬ fr = 0 ∨ kd = 5 ∨ (kd = 4 ∧ l ≤ 3) ∨ v (38 + c) = ow) ∨ (b.testBit (v (38 + c)) = true ∧ BB) ∨ LPv v hr g sv l (v (38 + c))))) := by
  have hrow : row (38 + c) = nI (v (38 + c)) := R _ (by omega) (by omega)
  unfold f_Mo_mayCome
  rw [show (38 : Int32) + nI c = nI (38 + c) from by rw [show (38 : Int32) = nI 38 from rfl, nI_add], nI_clamp (n := 38 + c) (by omega), hrow]
  -- no leave is needed
  have h1 : ∃ z : Int32, (z = 0 ↔ ¬ (¬ fr = 0 ∨ kd = 5 ∨ (kd = 4 ∧ l ≤ 3) ∨ v (38 + c) = ow)) ∧ ∀ K : Int32 → Option Int32, (jn K fun J70 => jn (fun (_ : Unit) => J70 1) fun J65 => if fr = 0 then if nI kd = 5 then J65 () else jn (fun (_ : Unit) => if nI (v (38 + c)) = nI ow then J65 () else J70 0) fun J57 => if nI kd = 4 then if nI l ≤ 3 then J65 () else J57 () else J57 () else J65 ()) = K z := by
    rw [show (5 : Int32) = nI 5 from rfl, show (4 : Int32) = nI 4 from rfl, show (3 : Int32) = nI 3 from rfl]
    by_cases c1 : fr = 0
    · by_cases c2 : kd = 5
      · refine ⟨1, by simp [c2], fun K => by rw [jnE, jnE, if_pos c1, c2, if_pos rfl]⟩
      · have c2' : ¬ nI kd = nI 5 := fun z => c2 ((nI_eq (by omega) (by omega)).mp z)
        by_cases c3 : kd = 4 ∧ l ≤ 3
        · refine ⟨1, by simp [c3], fun K => by rw [jnE, jnE, if_pos c1, if_neg c2', jnE, c3.1, if_pos rfl, if_pos (nI_le c3.2 (by omega))]⟩
        · by_cases c4 : v (38 + c) = ow
          · refine ⟨1, by simp [c4], fun K => ?_⟩
            rw [jnE, jnE, if_pos c1, if_neg c2', jnE, c4, if_pos rfl]
            by_cases c5 : kd = 4
            · rw [c5, if_pos rfl, if_neg (nI_ge (by omega) (by omega))]
            · rw [if_neg (fun z => c5 ((nI_eq (by omega) (by omega)).mp z))]
          · have c4' : ¬ nI (v (38 + c)) = nI ow := fun z => c4 ((nI_eq (by omega) (by omega)).mp z)
            refine ⟨0, by simp [c1, c2, c4]; exact fun q => by omega, fun K => ?_⟩
            rw [jnE, jnE, if_pos c1, if_neg c2', jnE, if_neg c4']
            by_cases c5 : kd = 4
            · rw [c5, if_pos rfl, if_neg (nI_ge (by omega) (by omega))]
            · rw [if_neg (fun z => c5 ((nI_eq (by omega) (by omega)).mp z))]
    · refine ⟨1, by simp [c1], fun K => by rw [jnE, jnE, if_neg c1]⟩
  obtain ⟨z1, hs1, hr1⟩ := h1
  have hhas : f_Mo_has (nI b).toInt64 (nI (v (38 + c))) = some (if b.testBit (v (38 + c)) = true then 1 else 0) := by
    rw [nI_l (by omega), mhas_eq _ (by omega), lN_tb (by omega) (by omega)]
  have h2 : ∃ z : Int32, (z = 0 ↔ ¬ (b.testBit (v (38 + c)) = true ∧ BB)) ∧ ∀ K : Int32 → Option Int32, (jn K fun J134 => jn (fun (_ : Unit) => J134 0) fun J133 => if (if b.testBit (v (38 + c)) = true then (1 : Int32) else 0) = 0 then J133 () else jn (fun (_ : Unit) => J134 1) fun J129 => if mk = (-1) then gd (inB (((123 : Int32) + ((4 : Int32) * bu)) + 2) 1551) <| if (row (((123 : Int32) + ((4 : Int32) * bu)) + 2).toNatClampNeg) = nI ow then J129 () else J133 () else if mk = bu then J129 () else J133 ()) = K z := by
    by_cases c1 : b.testBit (v (38 + c)) = true
    · have hb0 : b ≠ 0 := by
        intro q
        rw [q, Nat.zero_testBit] at c1
        cases c1
      have hbu' : bu = nI m := hbu.resolve_left hb0
      have rs : row (123 + 4 * m + 2) = nI (v (125 + 4 * m)) := by rw [R _ (by omega) (by omega)]; congr 2; omega
      have hs6 := hse m hm
      rw [if_pos c1, hbu', show (123 : Int32) = nI 123 from rfl, show (4 : Int32) = nI 4 from rfl, show (2 : Int32) = nI 2 from rfl, pk_mul, nI_add, nI_add, nI_clamp (by omega), rs]
      rcases hBB hb0 with ⟨q1, q2⟩ | ⟨q1, q2⟩
      · by_cases c2 : v (125 + 4 * m) = ow
        · refine ⟨1, by simp [c1, q2, c2], fun K => by rw [jnE, jnE, if_neg (by decide), jnE, if_pos q1, gd_nI (by omega) (by decide), c2, if_pos rfl]⟩
        · refine ⟨0, by simp [q2, c2], fun K => by rw [jnE, jnE, if_neg (by decide), jnE, if_pos q1, gd_nI (by omega) (by decide), if_neg (fun z => c2 ((nI_eq (by omega) (by omega)).mp z))]⟩
      · by_cases c2 : mk = nI m
        · refine ⟨1, by simp [c1, q2, c2], fun K => by rw [jnE, jnE, if_neg (by decide), jnE, if_neg q1, if_pos c2]⟩
        · refine ⟨0, by simp [q2, c2], fun K => by rw [jnE, jnE, if_neg (by decide), jnE, if_neg q1, if_neg c2]⟩
    · refine ⟨0, by simp [c1], fun K => by rw [jnE, jnE, if_neg c1, if_pos rfl]⟩
  obtain ⟨z2, hs2, hr2⟩ := h2
  obtain ⟨z3, h3, hs3⟩ := hasLeave_eq R hwf hmk hse (g := g) (ow := ow) (a := v (38 + c)) (hr := hr) (l := l) hg how hai hhr hl hsv
  have h4 : ∃ z : Int32, (z = 0 ↔ ¬ ((¬ fr = 0 ∨ kd = 5 ∨ (kd = 4 ∧ l ≤ 3) ∨ v (38 + c) = ow) ∨ (b.testBit (v (38 + c)) = true ∧ BB) ∨ LPv v hr g sv l (v (38 + c)))) ∧ (gd (inB (nI (38 + c)) 1551) <| lt (nI (v (38 + c))) fun x1 => jn (fun (x2 : Int32) => bd (f_Mo_has (nI b).toInt64 x1) fun (x3 : Int32) => jn (fun (x5 : Int32) => jn (fun (_ : Unit) => some (1 : Int32)) fun J167 => if x2 = 0 then if x5 = 0 then bd (f_Mo_hasLeave (nI g) row mk (nI ow) x1 (nI hr) (nI l)) fun (x6 : Int32) => if x6 = 0 then some 0 else J167 () else J167 () else J167 ()) fun J134 => jn (fun (_ : Unit) => J134 0) fun J133 => if x3 = 0 then J133 () else jn (fun (_ : Unit) => J134 1) fun J129 => if mk = (-1) then gd (inB (((123 : Int32) + ((4 : Int32) * bu)) + 2) 1551) <| if (row (((123 : Int32) + ((4 : Int32) * bu)) + 2).toNatClampNeg) = nI ow then J129 () else J133 () else if mk = bu then J129 () else J133 ()) fun J70 => jn (fun (_ : Unit) => J70 1) fun J65 => if fr = 0 then if nI kd = 5 then J65 () else jn (fun (_ : Unit) => if x1 = nI ow then J65 () else J70 0) fun J57 => if nI kd = 4 then if nI l ≤ 3 then J65 () else J57 () else J57 () else J65 ()) = some z := by
    rw [gd_nI (by omega) (by decide), ltE, hr1, bd_some hhas, hr2, jnE]
    by_cases c1 : z1 = 0
    · by_cases c2 : z2 = 0
      · rw [if_pos c1, if_pos c2, bd_some h3]
        by_cases c3 : z3 = 0
        · refine ⟨0, ?_, by rw [if_pos c3]⟩
          have := hs1.mp c1
          have := hs2.mp c2
          have := hs3.mp c3
          simp only [true_iff]
          rintro (q | q | q) <;> contradiction
        · refine ⟨1, ?_, by rw [if_neg c3]⟩
          have : LPv v hr g sv l (v (38 + c)) := Classical.byContradiction fun q => c3 (hs3.mpr q)
          exact ⟨fun q => absurd q (by decide), fun q => absurd (Or.inr (Or.inr this)) q⟩
      · refine ⟨1, ?_, by rw [if_pos c1, if_neg c2]⟩
        have : b.testBit (v (38 + c)) = true ∧ BB := Classical.byContradiction fun q => c2 (hs2.mpr q)
        exact ⟨fun q => absurd q (by decide), fun q => absurd (Or.inr (Or.inl this)) q⟩
    · refine ⟨1, ?_, by rw [if_neg c1]⟩
      have : (¬ fr = 0 ∨ kd = 5 ∨ (kd = 4 ∧ l ≤ 3) ∨ v (38 + c) = ow) := Classical.byContradiction fun q => c1 (hs1.mpr q)
      exact ⟨fun q => absurd q (by decide), fun q => absurd (Or.inl this) q⟩
  obtain ⟨z4, hs4, hr4⟩ := h4
  by_cases c1 : kd = 3
  · by_cases c2 : grd v gs c = 1
    · refine ⟨0, ?_, ?_⟩
      · rw [jnE, c1, if_pos (show nI 3 = (3 : Int32) from rfl), bd_some (groundOf_eq R gs hc), c2, if_pos (show nI 1 = (1 : Int32) from rfl)]
      · simp [c1, c2]
    · refine ⟨z4, ?_, ?_⟩
      · rw [jnE, hr4, c1, if_pos (show nI 3 = (3 : Int32) from rfl), bd_some (groundOf_eq R gs hc), if_neg]
        have hg2 : grd v gs c < 2 ^ 31 := by
          unfold grd
          by_cases q : tb gs c = true
          · rw [if_pos q]; decide
          · rw [if_neg q]; omega
        exact fun z => c2 ((nI_eq (b := 1) hg2 (by omega)).mp z)
      · rw [hs4]
        simp [c2]
  · refine ⟨z4, ?_, ?_⟩
    · rw [jnE, hr4, if_neg (show ¬ nI kd = (3 : Int32) from fun z => c1 ((nI_eq (b := 3) (by omega) (by omega)).mp z))]
    · rw [hs4]
      simp [c1]
/-- one cliff set in a long: the bits of cells that are made grass; and the row that is well formed -/
def WFv (v : Nat → Nat) : Prop := 1 ≤ v 0 ∧ v 0 ≤ 6 ∧ 1 ≤ v 1 ∧ v 1 ≤ 6 ∧ v 0 * v 1 ≤ 36 ∧ (∀ c, c < v 0 * v 1 → v (2 + c) < 3 ∧ v (38 + c) < 6 ∧ v (74 + c) < 3) ∧ (∀ i, i < 6 → v (110 + i) ≤ 99) ∧ v 122 ≤ 6 ∧ (∀ i, i < v 122 → v (123 + 4 * i) < 6 ∧ v (124 + 4 * i) < v 0 * v 1 ∧ v (125 + 4 * i) < 6 ∧ v (126 + 4 * i) ≤ 20) ∧ WFL v
/-- cells made grass are cliffs -/
def gsOk (v : Nat → Nat) (gs : Int64) : Prop := ∀ c, c < v 0 * v 1 → tb gs c = true → v (2 + c) = 2
theorem grd_hedge {v : Nat → Nat} {gs : Int64} (h : gsOk v gs) {c : Nat} (hc : c < v 0 * v 1) : grd v gs c = 1 ↔ v (2 + c) = 1 := by
  unfold grd
  by_cases q : tb gs c = true
  · rw [if_pos q]
    have := h c hc q
    omega
  · rw [if_neg q]
theorem ms_direct {row : Nat → Int32} {v : Nat → Nat} (R : Rm row v) (W : WFv v) {gs : Int64} (hgs : gsOk v gs) {g b hr m : Nat} {fr bu : Int32} (hg : g < 256) (hb : b < 64) (hhr : hr < 24) (hm : m < v 122) (hbu : b = 0 ∨ bu = nI m) :
    MS (nI b) (nI g) gs fr (nI (v (123 + 4 * m))) (nI m) (nI (v (125 + 4 * m))) (nI hr) bu row (v 0 * v 1) (cst v (v (123 + 4 * m))) (mayD v hr g b (if fr = 0 then kFree (v (123 + 4 * m)) else 20) m) := by
  obtain ⟨w1, w2, w3, w4, w5, w6, w7, w8, w9, w10⟩ := W
  have hk := w9 m hm
  refine ⟨fun c hc => ⟨?_, ?_⟩, fun l c l1 l2 hc => ?_⟩
  · unfold cst kCost
    by_cases q : v (2 + c) = 1
    · by_cases q2 : v (123 + 4 * m) = 1 ∨ v (123 + 4 * m) = 4
      · simp [q, q2]
      · by_cases q3 : v (123 + 4 * m) = 5 <;> simp [q, q2, q3]
    · by_cases q2 : v (123 + 4 * m) = 2 ∨ v (123 + 4 * m) = 3 <;> simp [q, q2]
  · rw [costFrom_eq R gs (by omega) hk.1 (w6 c hc).1]
    have : decide (grd v gs c = 1) = decide (v (2 + c) = 1) := by
      by_cases q : v (2 + c) = 1
      · simp [q, (grd_hedge hgs hc).mpr q]
      · have : ¬ grd v gs c = 1 := fun z => q ((grd_hedge hgs hc).mp z)
        simp [q, this]
    rw [this]
    rfl
  · obtain ⟨z, h1, h2⟩ := mayCome_eq R w10 w8 (fun i hi => (w9 i hi).2.2.1) (g := g) (ow := v (125 + 4 * m)) (hr := hr) (l := l) (b := b) (c := c) (kd := v (123 + 4 * m)) (m := m) (gs := gs) (fr := fr) (mk := nI m) (bu := bu) (sv := fun j => v (148 + 5 * j) = m) (BB := True) hg hb hk.2.2.1 hhr l2 (by omega) (w6 c hc).2.1 (w6 c hc).1 hk.1 hm hbu (fun j hj => Or.inr ⟨m, by omega, rfl, Iff.rfl⟩) (fun _ => Or.inr ⟨fun z => by
      have := nI_pos (n := m) (by omega)
      rw [z] at this
      exact this (by decide), by simp⟩)
    refine ⟨z, h1, h2.trans (not_congr ?_)⟩
    rw [grd_hedge hgs hc]
    unfold mayD
    have hfr : (l ≤ (if fr = 0 then kFree (v (123 + 4 * m)) else 20)) ↔ (¬ fr = 0 ∨ v (123 + 4 * m) = 5 ∨ (v (123 + 4 * m) = 4 ∧ l ≤ 3)) := by
      by_cases q : fr = 0
      · rw [if_pos q]
        unfold kFree
        by_cases q4 : v (123 + 4 * m) = 4
        · simp [q, q4]
        · by_cases q5 : v (123 + 4 * m) = 5
          · simp [q5, l2]
          · simp [q, q4, q5]; omega
      · simp [q, l2]
    rw [hfr]
    constructor
    · rintro ⟨a1, a2⟩
      refine ⟨hc, a1, ?_⟩
      rcases a2 with (a2 | a2 | a2 | a2) | ⟨a2, _⟩ | a2
      · exact Or.inl (Or.inl a2)
      · exact Or.inl (Or.inr (Or.inl a2))
      · exact Or.inl (Or.inr (Or.inr a2))
      · exact Or.inr (Or.inl a2)
      · exact Or.inr (Or.inr (Or.inl a2))
      · exact Or.inr (Or.inr (Or.inr a2))
    · rintro ⟨_, a1, a2⟩
      refine ⟨a1, ?_⟩
      rcases a2 with (a2 | a2 | a2) | a2 | a2 | a2
      · exact Or.inl (Or.inl a2)
      · exact Or.inl (Or.inr (Or.inl a2))
      · exact Or.inl (Or.inr (Or.inr (Or.inl a2)))
      · exact Or.inl (Or.inr (Or.inr (Or.inr a2)))
      · exact Or.inr (Or.inl ⟨a2, trivial⟩)
      · exact Or.inr (Or.inr a2)
theorem ms_echo {row : Nat → Int32} {v : Nat → Nat} (R : Rm row v) (W : WFv v) {gs : Int64} (hgs : gsOk v gs) {g b hr m o : Nat} {bu : Int32} (hg : g < 256) (hb : b < 64) (hhr : hr < 24) (hm : m < v 122) (ho : o < 6) (hbu : b = 0 ∨ bu = nI m) :
    MS (nI b) (nI g) gs 0 0 (-1) (nI o) (nI hr) bu row (v 0 * v 1) (cst v 0) (mayE v hr g b m o) := by
  obtain ⟨w1, w2, w3, w4, w5, w6, w7, w8, w9, w10⟩ := W
  refine ⟨fun c hc => ⟨?_, ?_⟩, fun l c l1 l2 hc => ?_⟩
  · unfold cst kCost
    by_cases q : v (2 + c) = 1 <;> simp [q]
  · rw [show (0 : Int32) = nI 0 from rfl, costFrom_eq R gs (by omega) (by decide) (w6 c hc).1]
    have : decide (grd v gs c = 1) = decide (v (2 + c) = 1) := by
      by_cases q : v (2 + c) = 1
      · simp [q, (grd_hedge hgs hc).mpr q]
      · have : ¬ grd v gs c = 1 := fun z => q ((grd_hedge hgs hc).mp z)
        simp [q, this]
    rw [this]
    rfl
  · obtain ⟨z, h1, h2⟩ := mayCome_eq R w10 w8 (fun i hi => (w9 i hi).2.2.1) (g := g) (ow := o) (hr := hr) (l := l) (b := b) (c := c) (kd := 0) (m := m) (gs := gs) (fr := 0) (mk := -1) (bu := bu) (sv := fun j => v (125 + 4 * v (148 + 5 * j)) = o) (BB := v (125 + 4 * m) = o) hg hb ho hhr l2 (by omega) (w6 c hc).2.1 (w6 c hc).1 (by decide) hm hbu (fun j hj => Or.inl ⟨rfl, Iff.rfl⟩) (fun _ => Or.inl ⟨rfl, Iff.rfl⟩)
    refine ⟨z, h1, h2.trans (not_congr ?_)⟩
    unfold mayE
    constructor
    · rintro ⟨_, a2⟩
      refine ⟨hc, ?_⟩
      rcases a2 with (a2 | a2 | a2 | a2) | ⟨a2, a3⟩ | a2
      · exact absurd rfl a2
      · cases a2
      · exact absurd a2.1 (by decide)
      · exact Or.inl a2
      · exact Or.inr (Or.inl ⟨a2, a3.symm⟩)
      · exact Or.inr (Or.inr a2)
    · rintro ⟨_, a2⟩
      refine ⟨fun z => absurd z.1 (by decide), ?_⟩
      rcases a2 with a2 | ⟨a2, a3⟩ | a2
      · exact Or.inl (Or.inr (Or.inr (Or.inr a2)))
      · exact Or.inr (Or.inl ⟨a2, a3.symm⟩)
      · exact Or.inr (Or.inr a2)

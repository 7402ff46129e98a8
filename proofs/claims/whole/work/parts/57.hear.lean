/-! criers: who hears whom -/
def mkB (P : Nat → Bool) : Nat → Nat
  | 0 => 0
  | k + 1 => mkB P k + if P k = true then 2 ^ k else 0
theorem mkB_lt (P : Nat → Bool) : ∀ k, mkB P k < 2 ^ k
  | 0 => Nat.zero_lt_one
  | k + 1 => by
    have h := mkB_lt P k
    have hp2 : (2 : Nat) ^ (k + 1) = 2 ^ k + 2 ^ k := by rw [Nat.pow_succ]; omega
    show mkB P k + (if P k = true then 2 ^ k else 0) < _
    by_cases q : P k = true
    · rw [if_pos q]
      omega
    · rw [if_neg q]
      omega
theorem add_or {a k : Nat} (h : a < 2 ^ k) : a + 2 ^ k = 2 ^ k ||| a := by
  have := Nat.two_pow_add_eq_or_of_lt h 1
  rw [Nat.mul_one] at this
  rw [← this, Nat.add_comm]
theorem mkB_s {P : Nat → Bool} {k : Nat} (h : P k = true) : mkB P (k + 1) = mkB P k + 2 ^ k := by
  show mkB P k + (if P k = true then 2 ^ k else 0) = _
  rw [if_pos h]
theorem mkB_z {P : Nat → Bool} {k : Nat} (h : ¬ P k = true) : mkB P (k + 1) = mkB P k := by
  show mkB P k + (if P k = true then 2 ^ k else 0) = _
  rw [if_neg h]
  rfl
theorem mkB_bit (P : Nat → Bool) : ∀ k j, (mkB P k).testBit j = true ↔ j < k ∧ P j = true
  | 0, j => ⟨fun z => (by rw [show mkB P 0 = 0 from rfl, Nat.zero_testBit] at z; cases z), fun z => by omega⟩
  | k + 1, j => by
    have ih := mkB_bit P k j
    by_cases q : P k = true
    · rw [mkB_s q, add_or (mkB_lt P k), Nat.testBit_or, Nat.testBit_two_pow, Bool.or_eq_true, decide_eq_true_iff, ih]
      constructor
      · rintro (rfl | ⟨a, b⟩)
        · exact ⟨by omega, q⟩
        · exact ⟨by omega, b⟩
      · rintro ⟨a, b⟩
        by_cases ej : k = j
        · exact Or.inl ej
        · exact Or.inr ⟨by omega, b⟩
    · rw [mkB_z q, ih]
      constructor
      · rintro ⟨a, b⟩
        exact ⟨by omega, b⟩
      · rintro ⟨a, b⟩
        refine ⟨?_, b⟩
        by_cases ej : j = k
        · subst ej
          exact absurd b q
        · omega
theorem or_nI (a b : Nat) : nI a ||| nI b = nI (a ||| b) := by
  apply ti_ext
  intro c hc
  rw [ti_or, ti_nI hc, ti_nI hc, ti_nI hc, Nat.testBit_or]
theorem and_nI (a b : Nat) : nI a &&& nI b = nI (a &&& b) := by
  apply ti_ext
  intro c hc
  rw [ti_and, ti_nI hc, ti_nI hc, ti_nI hc, Nat.testBit_and]
/-- m's cry is heard by o -/
def hears (v : Nat → Nat) (hr m o : Nat) : Prop := 0 < v (126 + 4 * m) ∧ ∃ l, hrd v hr 0 0 m (v (126 + 4 * m)) 0 l (v (124 + 4 * o))
noncomputable def hrB (v : Nat → Nat) (hr m o : Nat) : Bool := @decide (hears v hr m o) (Classical.propDecidable _)
theorem hrB_iff {v : Nat → Nat} {hr m o : Nat} : hrB v hr m o = true ↔ hears v hr m o := @decide_eq_true_iff _ (Classical.propDecidable _)
noncomputable def hM (v : Nat → Nat) (hr m : Nat) : Nat := mkB (hrB v hr m) (v 122)
theorem mkB_none {P : Nat → Bool} {k : Nat} (h : ∀ j, ¬ P j = true) : mkB P k = 0 := by
  induction k with
  | zero => rfl
  | succ k ih => rw [mkB_z (h k), ih]
theorem upd_two {f : Nat → Int32} {k : Nat} {x y : Int32} : upd (upd f k x) k y = upd f k y := by
  funext j
  by_cases h : j = k
  · rw [h, upd_same, upd_same]
  · rw [upd_ne h, upd_ne h, upd_ne h]
theorem listen_in {v : Nat → Nat} {hr m : Nat} (hk : v 122 ≤ 6) (hm : m < v 122) {ce : Nat → Int32} (hce : ∀ i, i < v 122 → ce i = nI (v (124 + 4 * i)) ∧ v (124 + 4 * i) < 36) {al : Int64} (hal : ∀ o, o < v 122 → (tb al (v (124 + 4 * o)) = true ↔ hears v hr m o)) (aN : Nat) (x30 x31 x32 x33 x34 : Int32) (x35 x36 x37 x38 : Nat → Int64) (x39 : Int64) (y : Nat → Int32) :
    ∀ J, lp (f_Ai_listen_L58 aN (nI (v 122)) ce (nI m) J x30 x31 x32 x33 x34 x35 x36 x37 x38 x39 al) FU (0, upd y m 0) = J (upd y m (nI (hM v hr m)), aN, x30, x31, x32, x33, x34, x35, x36, x37, x38, x39, al) := by
  obtain ⟨z, rfl, g⟩ := lp_fam (f := fun J => f_Ai_listen_L58 aN (nI (v 122)) ce (nI m) J x30 x31 x32 x33 x34 x35 x36 x37 x38 x39 al) (fun i (z : Int32 × (Nat → Int32)) => z = (nI i, upd y m (nI (mkB (hrB v hr m) i)))) (v 122) (by omega) (by
    rintro i _ hi rfl
    refine ⟨_, rfl, fun J rec => ?_⟩
    unfold f_Ai_listen_L58
    dsimp only
    obtain ⟨c1, c2⟩ := hce i hi
    have hb := mkB_lt (hrB v hr m) i
    simp only [if_neg (nI_ge hi (show v 122 < 2 ^ 31 by omega)), gd_nI (show i < 6 by omega) (show 6 < 2 ^ 31 by decide), gd_nI (show m < 6 by omega) (show 6 < 2 ^ 31 by decide), nI_clamp (show i < 2 ^ 31 by omega), nI_clamp (show m < 2 ^ 31 by omega), c1, bd_some (hasCell_eq al (k := v (124 + 4 * i)) (by omega)), jnE, ltE, nI1, shl_one i (by omega), upd_same, or_bit hb (show i < 31 by omega), upd_two]
    by_cases q : hrB v hr m i = true
    · rw [if_pos ((hal i hi).mpr (hrB_iff.mp q)), if_neg (by decide), mkB_s q]
    · rw [if_neg (fun z => q (hrB_iff.mpr ((hal i hi).mp z))), if_pos rfl, mkB_z q]) (x0 := ((0 : Int32), upd y m 0)) rfl
  intro J
  obtain ⟨rec, q⟩ := g J
  refine q.trans ?_
  unfold f_Ai_listen_L58
  dsimp only
  rw [if_pos (nI_le (Nat.le_refl _) (by omega))]
  rfl
set_option maxRecDepth 100000 in
theorem listen_eq {row : Nat → Int32} {v : Nat → Nat} {W : Int32} {ev fc lc : Int64} {MK LV : Int32} {gr ar : Nat → Int64} {ki ce se pa : Nat → Int32} (S : TwoL row v W ev fc lc MK LV gr ar ki ce se pa) {cr : Nat → Int32} (hcr : ∀ i, i < v 122 → cr i = nI (v (126 + 4 * i))) {hr : Nat} (hhr : hr < 24) (aN sl : Nat) (s1 s2 s3 s4 s5 : Int32) (s6 s7 : Int64) (hb : Nat → Int32) (may ways echo echoes : Nat → Int64) :
    ∃ hb' x1 x2 x3 x4 x5 x6 x7 x8 x9 x10 x11 x12, f_Ai_listen aN W ev fc lc MK LV sl s1 s2 s3 s4 s5 s6 s7 hb gr ar ki ce se cr pa may ways echo echoes (nI hr) = some (hb', x1, x2, x3, x4, x5, x6, x7, x8, x9, x10, x11, x12) ∧ ∀ m, m < v 122 → hb' m = nI (hM v hr m) := by
  obtain ⟨k1, rfl, k3, k4⟩ := TwoL_mk S
  unfold f_Ai_listen
  refine lp_or (fun i (x : Int32 × (Nat → Int32) × Nat × Int32 × Int32 × Int32 × Int32 × Int32 × (Nat → Int64) × (Nat → Int64) × (Nat → Int64) × (Nat → Int64) × Int64 × Int64) => x.1 = nI i ∧ ∀ m, m < i → x.2.1 m = nI (hM v hr m)) (fun r => ∃ hb' : Nat → Int32, ∃ x1 x2 x3 x4 x5 x6 x7 x8 x9 x10 x11 x12, r = some (hb', x1, x2, x3, x4, x5, x6, x7, x8, x9, x10, x11, x12) ∧ ∀ m, m < v 122 → hb' m = nI (hM v hr m)) (v 122) (by omega) ?_ ?_ ⟨rfl, fun m hm => by omega⟩
  · rintro i ⟨x1, x2, x3, x4, x5, x6, x7, x8, x9, x10, x11, x12, x13, x14⟩ hi ⟨e, h⟩
    dsimp only at e h
    subst e
    have hc := (S.2.1.2.2.2.2.2.2.2.2.1 i hi).2.2.2
    unfold f_Ai_listen_L2
    dsimp only
    simp only [if_neg (nI_ge hi (show v 122 < 2 ^ 31 by omega)), gd_nI (show i < 6 by omega) (show 6 < 2 ^ 31 by decide), nI_clamp (show i < 2 ^ 31 by omega), hcr i hi, ltE, nI1]
    have up : ∀ m, m < i + 1 → upd x2 i (nI (hM v hr i)) m = nI (hM v hr m) := fun m hm => by
      by_cases e : m = i
      · rw [e, upd_same]
      · rw [upd_ne e]
        exact h m (by omega)
    by_cases h0 : v (126 + 4 * i) = 0
    · have hz : hM v hr i = 0 := mkB_none fun j z => by
        have := (hrB_iff.mp z).1
        omega
      refine Or.inl ⟨(nI (i + 1), upd x2 i 0, x3, x4, x5, x6, x7, x8, x9, x10, x11, x12, x13, x14), ⟨rfl, fun m hm => ?_⟩, fun rec => ?_⟩
      · have := up m hm
        rw [hz] at this
        exact this
      · rw [jnE, if_pos (show nI (v (126 + 4 * i)) ≤ 0 from by rw [h0]; decide)]
    · obtain ⟨a1, a2, a3, a4, a5, a6, h1, h2, h3, h4, h5, h6, h7⟩ := make_b S hi (ld := v (126 + 4 * i)) (by omega) hc hhr (b := 0) (g := 0) (by decide) (by decide) x9 x10 x11 x12
      have h1' : f_Sd_make W ev fc lc (nI (v 122)) LV gr ar ki ce se pa x9 x10 x11 x12 (nI i) (nI (v (126 + 4 * i))) (nI hr) 0 0 = _ := h1
      have li := listen_in (hr := hr) k1 hi (ce := ce) (fun i hi => ⟨(S.2.2.2.2.2 i hi).2.2.1, by have := k4 i hi; omega⟩) (al := a6) (fun o ho => by
        rw [h5 _ (by have := k4 o ho; omega)]
        exact ⟨fun z => ⟨by omega, z⟩, fun z => z.2⟩) aN (nI i) (nI (v (126 + 4 * i))) (nI hr) 0 0 a1 a2 a3 a4 a5 x2
      refine Or.inl ⟨(nI (i + 1), upd x2 i (nI (hM v hr i)), aN, nI i, nI (v (126 + 4 * i)), nI hr, 0, 0, a1, a2, a3, a4, a5, a6), ⟨rfl, up⟩, fun rec => ?_⟩
      rw [jnE, if_neg (show ¬ nI (v (126 + 4 * i)) ≤ 0 from nI_ge (a := 0) (b := v (126 + 4 * i)) (by omega) (by omega)), bd_some h1']
      dsimp only
      exact li _
  · rintro ⟨x1, x2, x3, x4, x5, x6, x7, x8, x9, x10, x11, x12, x13, x14⟩ ⟨e, h⟩ rec
    dsimp only at e h
    subst e
    unfold f_Ai_listen_L2
    dsimp only
    rw [if_pos (nI_le (Nat.le_refl _) (by omega))]
    exact ⟨_, _, _, _, _, _, _, _, _, _, _, _, _, rfl, h⟩
theorem hearers_in {row : Nat → Int32} {v : Nat → Nat} (R : Rm row v) {hr m : Nat} (hk : v 122 ≤ 6) (hm : m < v 122) (hce : ∀ i, i < v 122 → v (124 + 4 * i) < 36) {all : Nat → Int32} (hal : ∀ o, o < v 122 → (all (v (124 + 4 * o)) ≤ 0 ↔ ¬ hears v hr m o)) (x23 x24 x26 : Nat → Int32) (x27 x28 x29 x30 : Int32) (y : Nat → Int32) :
    ∀ J, lp (f_Mo_layHearers_L48 row (nI m) J x23 x24 all x26 x27 x28 x29 x30) FU (0, upd y m 0) = J (x23, x24, all, x26, x27, x28, x29, x30, upd y m (nI (hM v hr m))) := by
  have r122 : row (122 : Int32).toNatClampNeg = nI (v 122) := R 122 (by decide) (by decide)
  obtain ⟨z, rfl, g⟩ := lp_fam (f := fun J => f_Mo_layHearers_L48 row (nI m) J x23 x24 all x26 x27 x28 x29 x30) (fun i (z : Int32 × (Nat → Int32)) => z = (nI i, upd y m (nI (mkB (hrB v hr m) i)))) (v 122) (by omega) (by
    rintro i _ hi rfl
    refine ⟨_, rfl, fun J rec => ?_⟩
    unfold f_Mo_layHearers_L48
    dsimp only
    have c1 := hce i hi
    have hb := mkB_lt (hrB v hr m) i
    have hrow : row (123 + 4 * i + 1) = nI (v (124 + 4 * i)) := by rw [R _ (by omega) (by omega)]; exact congrArg nI (congrArg v (by omega))
    have e4 : nI 123 + nI 4 * nI i + nI 1 = nI (123 + 4 * i + 1) := by rw [pk_mul, nIa, nIa]
    simp only [r122, if_neg (nI_ge hi (show v 122 < 2 ^ 31 by omega)), show (123 : Int32) + (4 : Int32) * nI i + 1 = nI (123 + 4 * i + 1) from e4, gd_nI (show m < 6 by omega) (show 6 < 2 ^ 31 by decide), gd_nI (show 123 + 4 * i + 1 < 1551 by omega) (show 1551 < 2 ^ 31 by decide), nI_clamp (show 123 + 4 * i + 1 < 2 ^ 31 by omega), hrow, gd_nI c1 (show 36 < 2 ^ 31 by decide), nI_clamp (show v (124 + 4 * i) < 2 ^ 31 by omega), nI_clamp (show m < 2 ^ 31 by omega), jnE, ltE, nI1, shl_one i (by omega), upd_same, or_bit hb (show i < 31 by omega), upd_two]
    by_cases q : hrB v hr m i = true
    · rw [if_neg (fun z => ((hal i hi).mp z) (hrB_iff.mp q)), mkB_s q]
    · rw [if_pos ((hal i hi).mpr (fun z => q (hrB_iff.mpr z))), mkB_z q, show (0 : Int32) = nI 0 from rfl, or_nI, Nat.or_zero]) (x0 := ((0 : Int32), upd y m 0)) rfl
  intro J
  obtain ⟨rec, q⟩ := g J
  refine q.trans ?_
  unfold f_Mo_layHearers_L48
  dsimp only
  rw [r122, if_pos (nI_le (Nat.le_refl _) (by omega))]
  rfl
set_option maxRecDepth 100000 in
theorem hearers_eq {row : Nat → Int32} {v : Nat → Nat} (R : Rm row v) (W : WFv v) {hr : Nat} (hhr : hr < 24) (kd mk ow ho bu : Int32) (comes direct all tried he : Nat → Int32) :
    ∃ x1 x2 x3 x4 x5 x6 x7 x8 he', f_Mo_layHearers 0 0 0 0 kd mk ow ho bu row comes direct all tried he (nI hr) = some (x1, x2, x3, x4, x5, x6, x7, x8, he') ∧ ∀ m, m < v 122 → he' m = nI (hM v hr m) := by
  have k1 := W.2.2.2.2.2.2.2.1
  have k3 := W.2.2.2.2.1
  have r122 : row (122 : Int32).toNatClampNeg = nI (v 122) := R 122 (by decide) (by decide)
  unfold f_Mo_layHearers
  refine lp_or (fun i (x : Int32 × (Nat → Int32) × (Nat → Int32) × (Nat → Int32) × (Nat → Int32) × Int32 × Int32 × Int32 × Int32 × (Nat → Int32)) => x.1 = nI i ∧ ∀ m, m < i → x.2.2.2.2.2.2.2.2.2 m = nI (hM v hr m)) (fun r => ∃ x1 x2 x3 x4 x5 x6 x7 x8, ∃ he' : Nat → Int32, r = some (x1, x2, x3, x4, x5, x6, x7, x8, he') ∧ ∀ m, m < v 122 → he' m = nI (hM v hr m)) (v 122) (by omega) ?_ ?_ ⟨rfl, fun m hm => by omega⟩
  · rintro i ⟨x1, x2, x3, x4, x5, x6, x7, x8, x9, x10⟩ hi ⟨e, h⟩
    dsimp only at e h
    subst e
    have w9 := W.2.2.2.2.2.2.2.2.1 i hi
    have hc := w9.2.2.2
    have hrow : row (123 + 4 * i + 3) = nI (v (126 + 4 * i)) := by rw [R _ (by omega) (by omega)]; exact congrArg nI (congrArg v (by omega))
    have e4 : nI 123 + nI 4 * nI i + nI 3 = nI (123 + 4 * i + 3) := by rw [pk_mul, nIa, nIa]
    unfold f_Mo_layHearers_L2
    dsimp only
    simp only [r122, if_neg (nI_ge hi (show v 122 < 2 ^ 31 by omega)), show (123 : Int32) + (4 : Int32) * nI i + 3 = nI (123 + 4 * i + 3) from e4, gd_nI (show i < 6 by omega) (show 6 < 2 ^ 31 by decide), gd_nI (show 123 + 4 * i + 3 < 1551 by omega) (show 1551 < 2 ^ 31 by decide), nI_clamp (show 123 + 4 * i + 3 < 2 ^ 31 by omega), hrow, nI_clamp (show i < 2 ^ 31 by omega), ltE, nI1]
    have up : ∀ m, m < i + 1 → upd x10 i (nI (hM v hr i)) m = nI (hM v hr m) := fun m hm => by
      by_cases e : m = i
      · rw [e, upd_same]
      · rw [upd_ne e]
        exact h m (by omega)
    by_cases h0 : v (126 + 4 * i) = 0
    · have hz : hM v hr i = 0 := mkB_none fun j z => by
        have := (hrB_iff.mp z).1
        omega
      refine Or.inl ⟨(nI (i + 1), x2, x3, x4, x5, x6, x7, x8, x9, upd x10 i 0), ⟨rfl, fun m hm => ?_⟩, fun rec => ?_⟩
      · have := up m hm
        rw [hz] at this
        exact this
      · rw [jnE, if_pos (show nI (v (126 + 4 * i)) ≤ 0 from by rw [h0]; decide)]
    · obtain ⟨b1, b2, b3, b4, b5, g1, g2, g3⟩ := lay_eq R W (gs0 v) (g := 0) (b := 0) (hr := hr) (m := i) (ld := v (126 + 4 * i)) (bu := bu) (by decide) (by decide) hhr hi (Or.inl rfl) (by omega) hc x2 x3 x4 x5
      have g1' : f_Mo_lay 0 0 0 0 bu row x2 x3 x4 x5 (nI i) (nI (v (126 + 4 * i))) (nI hr) = _ := g1
      have li := hearers_in (hr := hr) R k1 hi (fun o ho => by have := (W.2.2.2.2.2.2.2.2.1 o ho).2.1; omega) (all := b3) (fun o ho => by
        have := (W.2.2.2.2.2.2.2.2.1 o ho).2.1
        obtain ⟨L, L1, L2, L3⟩ := g3 (v (124 + 4 * o)) (by omega)
        rw [lev0 L2 L1 L3]
        exact not_congr ⟨fun z => ⟨by omega, z⟩, fun z => z.2⟩) b1 b2 b4 0 (-1) b5 (nI hr) x10
      refine Or.inl ⟨(nI (i + 1), b1, b2, b3, b4, 0, -1, b5, nI hr, upd x10 i (nI (hM v hr i))), ⟨rfl, up⟩, fun rec => ?_⟩
      rw [jnE, if_neg (show ¬ nI (v (126 + 4 * i)) ≤ 0 from nI_ge (a := 0) (b := v (126 + 4 * i)) (by omega) (by omega)), bd_some g1']
      dsimp only
      exact li _
  · rintro ⟨x1, x2, x3, x4, x5, x6, x7, x8, x9, x10⟩ ⟨e, h⟩ rec
    dsimp only at e h
    subst e
    unfold f_Mo_layHearers_L2
    dsimp only
    rw [r122, if_pos (nI_le (Nat.le_refl _) (by omega))]
    exact ⟨_, _, _, _, _, _, _, _, _, rfl, h⟩

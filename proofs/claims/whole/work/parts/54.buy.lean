/-! buy -/
theorem smn_le {f : Nat → Nat} {B : Nat} : ∀ {n : Nat}, (∀ c, c < n → f c ≤ B) → smn f n ≤ n * B
  | 0, _ => by rw [Nat.zero_mul]; exact Nat.le_refl _
  | n + 1, h => by
    have h1 := smn_le (f := f) (B := B) (n := n) fun c hc => h c (by omega)
    have h2 := h n (by omega)
    rw [smn_s, Nat.succ_mul]
    omega
def byB (i : Nat) (bc bb rb rl : Int32) : Prop := (bb = -1 ∧ rb = -1 ∧ bc = -1 ∧ rl = 268435456) ∨ ∃ b k, b < i ∧ k ≤ 3564 ∧ bb = nI b ∧ rb = nI b ∧ bc = nI k ∧ rl = nI k
set_option maxRecDepth 100000 in
theorem buy_call {row : Nat → Int32} {v : Nat → Nat} {W : Int32} {ev fc lc : Int64} {MK LV : Int32} {gr ar : Nat → Int64} {ki ce se pa : Nat → Int32} (S : TwoL row v W ev fc lc MK LV gr ar ki ce se pa) {to : Nat → Int64} (hT : RS 3 (v 0 * v 1) to (fun c => v (74 + c))) {fe : Nat → Int32} (hfe : ∀ i, i < 6 → fe i = nI (v (110 + i))) {rf : Nat → Int32} {bad no full : Int32} (T : StR rf bad no full) (aN sl : Nat) (s1 s2 s3 s4 s5 : Int32) (s6 s7 : Int64) (may ways echo echoes : Nat → Int64) (kd mk ow ho bu : Int32) (comes direct all tried : Nat → Int32) (a b c d : Int32) :
    ∃ r rf' bad' X x1 x2 x3 x4 Y, f_Ai_buy aN W ev fc lc MK LV sl s1 s2 s3 s4 s5 s6 s7 rf gr ar to fe ki ce se pa may ways echo echoes a b c d = some (r, rf', X) ∧ f_Mo_buy bad 0 0 0 0 kd mk ow ho bu row comes direct all tried a b c d = some (r, bad', x1, x2, x3, x4, 0, Y) ∧ StR rf' bad' no full := by
  obtain ⟨k1, rfl, k3, k4⟩ := TwoL_mk S
  have hwf := S.2.1
  have B := refuse_bad T (-10)
  have bad2 : ∃ r rf' bad' X x1 x2 x3 x4 Y, (bd (f_Ai_refuseAs rf (-2) (-10)) fun ((x3, x4) : Int32 × (Nat → Int32)) => some (x3, x4, sl, s1, s2, s3, s4, s5, may, ways, echo, echoes, s6, s7)) = some (r, rf', X) ∧ (bd (f_Mo_isBadToo bad) fun ((x3, x4) : Int32 × Int32) => some (x3, x4, comes, direct, all, tried, (0 : Int32), kd, mk, ow, ho, bu)) = some (r, bad', x1, x2, x3, x4, 0, Y) ∧ StR rf' bad' no full := by
    rw [bd_some B.1, bd_some (isBadToo_eq bad)]
    exact ⟨_, _, _, _, _, _, _, _, _, rfl, rfl, B.2⟩
  unfold f_Ai_buy f_Mo_buy
  rcases sound_or S.1 k1 a b c with ⟨m, ld, hr, hm, hl, hl2, hhr, rfl, rfl, rfl, e1, e2⟩ | ⟨e1, e2⟩
  rotate_left
  · rw [bd_some e1, bd_some e2, jnE, jnE, jnE, jnE, if_pos rfl, if_pos rfl]
    exact bad2
  rw [bd_some e1, bd_some e2, jnE, jnE, jnE, jnE, if_neg (show ¬ (1 : Int32) = 0 from by decide), if_neg (show ¬ (1 : Int32) = 0 from by decide)]
  rcases either_or d with ⟨hd, i1, i2⟩ | ⟨i1, i2⟩
  rotate_left
  · rw [bd_some i1, bd_some i2, if_pos rfl, if_pos rfl]
    exact bad2
  rw [bd_some i1, bd_some i2, if_neg (show ¬ (1 : Int32) = 0 from by decide), if_neg (show ¬ (1 : Int32) = 0 from by decide)]
  have hsm := S.2.2.2.1.2.2.2.1 m hm
  have hrow : row (123 + 4 * m + 2) = nI (v (125 + 4 * m)) := by rw [S.1 _ (by omega) (by omega)]; exact congrArg nI (congrArg v (by omega))
  refine lp_two (fun i (x : Int32 × Int32 × Int32 × Nat × Int32 × Int32 × Int32 × Int32 × Int32 × (Nat → Int64) × (Nat → Int64) × (Nat → Int64) × (Nat → Int64) × Int64 × Int64) (y : Int32 × Int32 × Int32 × (Nat → Int32) × (Nat → Int32) × (Nat → Int32) × (Nat → Int32) × Int32 × Int32 × Int32 × Int32 × Int32) => x.2.2.1 = nI i ∧ y.2.2.1 = nI i ∧ byB i x.1 x.2.1 y.1 y.2.1) (fun A C => ∃ r rf' bad' X x1 x2 x3 x4 Y, A = some (r, rf', X) ∧ C = some (r, bad', x1, x2, x3, x4, 0, Y) ∧ StR rf' bad' no full) 64 (by decide) ?_ ?_ ⟨rfl, rfl, Or.inl ⟨rfl, rfl, rfl, rfl⟩⟩
  · rintro i ⟨x22, x23, x24, x25, x26, x27, x28, x29, x30, x31, x32, x33, x34, x35, x36⟩ ⟨y19, y20, y21, y22, y23, y24, y25, y26, y27, y28, y29, y30⟩ hi ⟨p1, p2, p3⟩
    dsimp only at p1 p2 p3
    subst p1; subst p2
    have up : byB (i + 1) x22 x23 y19 y20 := by
      rcases p3 with p3 | ⟨b, k, q⟩
      · exact Or.inl p3
      · exact Or.inr ⟨b, k, by omega, q.2⟩
    obtain ⟨a1, a2, a3, a4, a5, a6, h1, h2, h3, h4, h5, h6, h7⟩ := make_b S hm hl hl2 hhr (b := i) (g := 0) hi (by decide) x31 x32 x33 x34
    have h1' : f_Sd_make W ev fc lc (nI (v 122)) LV gr ar ki ce se pa x31 x32 x33 x34 (nI m) (nI ld) (nI hr) (nI i) 0 = _ := h1
    obtain ⟨b1, b2, b3, b4, b5, g1, g2, g3⟩ := lay_eq S.1 hwf (gs0 v) (g := 0) (b := i) (hr := hr) (m := m) (ld := ld) (bu := nI m) (by decide) hi hhr hm (Or.inr rfl) hl hl2 y22 y23 y24 y25
    have g1' : f_Mo_lay (nI i) 0 0 0 (nI m) row y22 y23 y24 y25 (nI m) (nI ld) (nI hr) = _ := g1
    have q2 : ∀ c, c < v 0 * v 1 → (b2 c ≤ 0 ↔ ¬ tb a5 c = true) := q_all k3 g2 h4
    have q3 : ∀ c, c < v 0 * v 1 → (b3 c ≤ 0 ↔ ¬ tb a6 c = true) := q_all k3 g3 h5
    have cc := costSum_eq (st := a5) S.2.2.2.1.2.2.2.2.2.2.2 k3 hfe k1 hm hsm.1 hsm.2
    rw [smn_swap (st := tb a5) (air := fun c => v (38 + c)) (fee := fun o => v (110 + o)) (fun c hc => (hwf.2.2.2.2.2.1 c hc).2.1)] at cc
    have cr := costOf_eq S.1 hwf hm q2
    have hK : smn (fun c => if tb a5 c = true ∧ v (38 + c) ≠ v (125 + 4 * m) then v (110 + v (38 + c)) else 0) (v 0 * v 1) ≤ 3564 := by
      refine Nat.le_trans (smn_le (B := 99) fun c hc => ?_) (show v 0 * v 1 * 99 ≤ 3564 by omega)
      by_cases q : tb a5 c = true ∧ v (38 + c) ≠ v (125 + 4 * m)
      · rw [if_pos q]
        exact hwf.2.2.2.2.2.2.1 _ (hwf.2.2.2.2.2.1 c hc).2.1
      · rw [if_neg q]
        exact Nat.zero_le _
    generalize hKe : smn (fun c => if tb a5 c = true ∧ v (38 + c) ≠ v (125 + 4 * m) then v (110 + v (38 + c)) else 0) (v 0 * v 1) = K at cc cr hK
    obtain ⟨t1, t2, t3⟩ := isAsTold_eq (al := a6) hT (fun c hc => (hwf.2.2.2.2.2.1 c hc).2.2) k3
    obtain ⟨u1, u2, u3⟩ := isHeardSo_eq S.1 hwf q3
    have htu : t1 = u1 := by
      rcases t3 with ⟨t3, t4⟩ | ⟨t3, t4⟩ <;> rcases u3 with ⟨u3, u4⟩ | ⟨u3, u4⟩
      · rw [t3, u3]
      · exact absurd t4 u4
      · exact absurd u4 t4
      · rw [t3, u3]
    subst htu
    have hb := bit_eq (b := i) (q := v (125 + 4 * m)) (by omega) (by omega)
    have hh : f_Mo_has (nI i).toInt64 (nI (v (125 + 4 * m))) = some (if i.testBit (v (125 + 4 * m)) = true then 1 else 0) := by
      rw [nI_l (by omega), mhas_eq _ (by omega), lN_tb (by omega) (by omega)]
    unfold f_Ai_buy_L36 f_Mo_buy_L42
    dsimp only
    simp only [if_neg (show ¬ (64 : Int32) ≤ nI i from nI_ge (b := 64) hi (by decide)), gd_nI (show m < 6 by omega) (show 6 < 2 ^ 31 by decide), nI_clamp (show m < 2 ^ 31 by omega), hsm.1, show (123 : Int32) = nI 123 from rfl, show (4 : Int32) = nI 4 from rfl, show (2 : Int32) = nI 2 from rfl, pk_mul, nIa, gd_nI (show 123 + 4 * m + 2 < 1551 by omega) (show 1551 < 2 ^ 31 by decide), nI_clamp (show 123 + 4 * m + 2 < 2 ^ 31 by omega), hrow, bd_some hh, jnE, ltE, nI1, bd_some h1', bd_some cc, bd_some t2, bd_some g1', bd_some u2, bd_some cr]
    by_cases hs : i.testBit (v (125 + 4 * m)) = true
    · have hs2 : ¬ ((nI i >>> (nI (v (125 + 4 * m)) &&& 31)) &&& 1) = 0 := fun z => by
        rw [hb.mp z] at hs
        cases hs
      refine Or.inl ⟨(x22, x23, nI (i + 1), x25, x26, x27, x28, x29, x30, x31, x32, x33, x34, x35, x36), (y19, y20, nI (i + 1), y22, y23, y24, y25, y26, y27, y28, y29, y30), ⟨rfl, rfl, up⟩, fun rec => ?_, fun rec => ?_⟩
      · rw [if_neg hs2]
      · rw [if_pos hs, if_neg (show ¬ (1 : Int32) = 0 from by decide)]
    · have hs2 : ((nI i >>> (nI (v (125 + 4 * m)) &&& 31)) &&& 1) = 0 := hb.mpr (by rw [Bool.not_eq_true] at hs; exact hs)
      simp only [if_pos hs2, if_neg hs, if_pos trivial]
      rcases t3 with ⟨rfl, t4⟩ | ⟨rfl, t4⟩
      · simp only [if_neg (show ¬ (1 : Int32) = 0 from by decide)]
        rcases p3 with ⟨rfl, rfl, rfl, rfl⟩ | ⟨b, k, z1, z2, rfl, rfl, rfl, rfl⟩
        · have hk : ¬ (268435456 : Int32) ≤ nI K := nI_ge (b := 268435456) (a := K) (by omega) (by decide)
          refine Or.inl ⟨(nI K, nI i, nI (i + 1), aN, nI m, nI ld, nI hr, nI i, nI 0, a1, a2, a3, a4, a5, a6), (nI i, nI K, nI (i + 1), b1, b2, b3, b4, nI i, 0, -1, b5, nI hr), ⟨rfl, rfl, Or.inr ⟨i, K, by omega, hK, rfl, rfl, rfl, rfl⟩⟩, fun rec => ?_, fun rec => ?_⟩
          · rw [if_pos rfl]
          · rw [if_neg hk]
        · simp only [if_neg (nI_m1 (show b < 2 ^ 31 by omega))]
          by_cases hk : nI k ≤ nI K
          · refine Or.inl ⟨(nI k, nI b, nI (i + 1), aN, nI m, nI ld, nI hr, nI i, nI 0, a1, a2, a3, a4, a5, a6), (nI b, nI k, nI (i + 1), b1, b2, b3, b4, nI i, 0, -1, b5, nI hr), ⟨rfl, rfl, Or.inr ⟨b, k, by omega, z2, rfl, rfl, rfl, rfl⟩⟩, fun rec => ?_, fun rec => ?_⟩
            · rw [if_pos hk]
            · rw [if_pos hk]
          · refine Or.inl ⟨(nI K, nI i, nI (i + 1), aN, nI m, nI ld, nI hr, nI i, nI 0, a1, a2, a3, a4, a5, a6), (nI i, nI K, nI (i + 1), b1, b2, b3, b4, nI i, 0, -1, b5, nI hr), ⟨rfl, rfl, Or.inr ⟨i, K, by omega, hK, rfl, rfl, rfl, rfl⟩⟩, fun rec => ?_, fun rec => ?_⟩
            · rw [if_neg hk]
            · rw [if_neg hk]
      · simp only [if_pos trivial]
        exact Or.inl ⟨(x22, x23, nI (i + 1), aN, nI m, nI ld, nI hr, nI i, nI 0, a1, a2, a3, a4, a5, a6), (y19, y20, nI (i + 1), b1, b2, b3, b4, nI i, 0, -1, b5, nI hr), ⟨rfl, rfl, up⟩, fun rec => rfl, fun rec => rfl⟩
  · rintro ⟨x22, x23, x24, x25, x26, x27, x28, x29, x30, x31, x32, x33, x34, x35, x36⟩ ⟨y19, y20, y21, y22, y23, y24, y25, y26, y27, y28, y29, y30⟩ ⟨p1, p2, p3⟩ rec rec'
    dsimp only at p1 p2 p3
    subst p1; subst p2
    unfold f_Ai_buy_L36 f_Mo_buy_L42
    dsimp only
    rw [if_pos (show (64 : Int32) ≤ nI 64 from by decide), if_pos (show (64 : Int32) ≤ nI 64 from by decide)]
    rcases p3 with ⟨rfl, rfl, rfl, rfl⟩ | ⟨b, k, z1, z2, rfl, rfl, rfl, rfl⟩
    · rw [if_pos rfl]
      by_cases h0 : d = 0
      · rw [if_pos h0]
        exact ⟨_, _, _, _, _, _, _, _, _, rfl, rfl, T⟩
      · rw [if_neg h0]
        exact ⟨_, _, _, _, _, _, _, _, _, rfl, rfl, T⟩
    · rw [if_neg (nI_m1 (show b < 2 ^ 31 by omega))]
      by_cases h0 : d = 0
      · rw [if_pos h0, if_pos h0]
        exact ⟨_, _, _, _, _, _, _, _, _, rfl, rfl, T⟩
      · rw [if_neg h0, if_neg h0]
        exact ⟨_, _, _, _, _, _, _, _, _, rfl, rfl, T⟩

/-! mend: the call -/
def mdB (Q : Nat → Prop) (i : Nat) (x : Int32) : Prop := (x = -1 ∧ ∀ g, g < i → ¬ Q g) ∨ ∃ b, x = nI b ∧ b < i ∧ Q b ∧ ∀ g, g < i → Q g → lex b g
theorem mdB_no {Q : Nat → Prop} {i : Nat} {x : Int32} (h : mdB Q i x) (hq : ¬ Q i) : mdB Q (i + 1) x := by
  rcases h with ⟨rfl, p⟩ | ⟨b, rfl, p1, p2, p3⟩
  · refine Or.inl ⟨rfl, fun g hg z => ?_⟩
    by_cases e : g = i
    · subst e
      exact hq z
    · exact p g (by omega) z
  · refine Or.inr ⟨b, rfl, by omega, p2, fun g hg z => ?_⟩
    by_cases e : g = i
    · subst e
      exact absurd z hq
    · exact p3 g (by omega) z
theorem mdB_big {Q : Nat → Prop} {i b : Nat} (hi : i < 2 ^ 31) (hb : b < 2 ^ 31) (h : mdB Q i (nI b)) (hc : ct b ≤ ct i) : mdB Q (i + 1) (nI b) := by
  rcases h with ⟨e, p⟩ | ⟨b', e, p1, p2, p3⟩
  · exact absurd e (nI_m1 hb)
  · refine Or.inr ⟨b', e, by omega, p2, fun g hg z => ?_⟩
    by_cases e2 : g = i
    · subst e2
      have : b = b' := (nI_eq hb (by omega)).mp e
      subst this
      unfold lex
      omega
    · exact p3 g (by omega) z
theorem mdB_yes {Q : Nat → Prop} {i : Nat} {x : Int32} (hi : i < 2 ^ 31) (h : mdB Q i x) (hq : Q i) (hx : x = -1 ∨ ∃ b, b < 2 ^ 31 ∧ x = nI b ∧ ct i < ct b) : mdB Q (i + 1) (nI i) := by
  refine Or.inr ⟨i, rfl, by omega, hq, fun g hg z => ?_⟩
  by_cases e2 : g = i
  · subst e2
    exact Or.inr ⟨rfl, Nat.le_refl _⟩
  · rcases h with ⟨e, p⟩ | ⟨b', e, p1, p2, p3⟩
    · exact absurd z (p g (by omega))
    · have := p3 g (by omega) z
      rcases hx with hx | ⟨b, h1, h2, h3⟩
      · rw [e] at hx
        by_cases h31 : b' < 2 ^ 31
        · exact absurd hx (nI_m1 h31)
        · omega
      · by_cases h31 : b' < 2 ^ 31
        · have : b = b' := (nI_eq h1 h31).mp (h2.symm.trans e)
          subst this
          unfold lex at this ⊢
          omega
        · omega
set_option maxRecDepth 100000 in
theorem mend_call {row : Nat → Int32} {v : Nat → Nat} {W : Int32} {ev fc lc : Int64} {MK LV : Int32} {gr ar : Nat → Int64} {ki ce se pa : Nat → Int32} (S : TwoL row v W ev fc lc MK LV gr ar ki ce se pa) {rf : Nat → Int32} {bad no full : Int32} (T : StR rf bad no full) (aN sl : Nat) (s1 s2 s3 s4 s5 : Int32) (s6 s7 : Int64) (may ways echo echoes : Nat → Int64) (kd mk ow ho bu cm : Int32) (comes direct all tried cl : Nat → Int32) (a b c : Int32) :
    ∃ r rf' bad' no' X x1 x2 x3 x4 Y, f_Ai_mend aN W ev fc lc MK LV sl s1 s2 s3 s4 s5 s6 s7 rf gr ar ki ce se pa may ways echo echoes a b c = some (r, rf', X) ∧ f_Mo_mend bad no 0 0 0 0 kd mk ow ho bu cm row comes direct all tried cl a b c = some (r, bad', no', x1, x2, x3, x4, 0, Y) ∧ StR rf' bad' no' full := by
  obtain ⟨k1, rfl, k3, k4⟩ := TwoL_mk S
  have hwf := S.2.1
  have B := refuse_bad T (-10)
  have N := refuse_no T (-20)
  unfold f_Ai_mend f_Mo_mend
  rcases sound_or S.1 k1 a b c with ⟨m, ld, hr, hm, hl, hl2, hhr, rfl, rfl, rfl, e1, e2⟩ | ⟨e1, e2⟩
  rotate_left
  · rw [bd_some e1, bd_some e2, if_pos rfl, if_pos rfl, bd_some B.1, bd_some (isBadToo_eq bad)]
    exact ⟨_, _, _, _, _, _, _, _, _, _, rfl, rfl, B.2⟩
  obtain ⟨cl', c1, c2⟩ := layCliffs_eq S.1 hwf cl
  have hcn : cnt (tb (gr 2)) 64 = cnt (isC v) (v 0 * v 1) := by
    have hg := S.2.2.2.2.1
    rw [bits_n k3 (fun c hc => by
      by_cases h64 : c < 64
      · rw [hg 2 (by decide) c h64, decide_eq_true_iff] at hc
        exact hc.1
      · rw [tb_big (by omega)] at hc
        cases hc)]
    refine cnt_congr fun c hc => ?_
    rw [hg 2 (by decide) c (by omega)]
    unfold isC
    simp [hc]
  have hcl := cnt_le (isC v) (v 0 * v 1)
  generalize hNe : cnt (isC v) (v 0 * v 1) = NC at c1 c2 hcn hcl
  rw [bd_some e1, bd_some e2, if_neg (show ¬ (1 : Int32) = 0 from by decide), if_neg (show ¬ (1 : Int32) = 0 from by decide), show (2 : Int32).toNatClampNeg = 2 from by decide, bd_some (jl_count (gr 2)), hcn, bd_some c1]
  dsimp only
  by_cases h8 : NC ≤ 8
  rotate_left
  · have h8' : ¬ nI NC ≤ 8 := fun z => h8 ((nI_leI (b := 8) (by omega) (by decide)).mp z)
    rw [if_neg h8', if_neg h8', bd_some N.1, bd_some (isNo_eq no (-20))]
    exact ⟨_, _, _, _, _, _, _, _, _, _, rfl, rfl, N.2⟩
  have h8' : nI NC ≤ 8 := (nI_leI (b := 8) (by omega) (by decide)).mpr h8
  have hpw : 2 ^ NC ≤ 2 ^ 8 := Nat.pow_le_pow_right (by decide) h8
  obtain ⟨a1, a2, a3, a4, a5, a6, h1, h2, h3, h4, h5, h6, h7⟩ := makeSound_eq S hm hl hl2 hhr may ways echo echoes
  obtain ⟨x, y1, y2, y3, z1, z2⟩ := carriers_eq S.2.2 (fun c hc => (hwf.2.2.2.2.2.1 c hc).2.1) hm hl hhr h4 h2 a1 a3 a4
  rw [if_pos h8', if_pos h8', bd_some h1]
  dsimp only
  rw [bd_some z1, jnE]
  dsimp only
  -- what is asked of a set of cliffs
  obtain ⟨G, G1, G2⟩ := bitsOf (fun k => ∃ c, c < v 0 * v 1 ∧ isC v c = true ∧ cnt (isC v) c = k ∧ need v hr m ld c) NC
  have nd : ∀ c, need v hr m ld c → c < v 0 * v 1 ∧ isC v c = true ∧ cnt (isC v) c < NC := fun c q => by
    have q2 : isC v c = true := isC_iff.mpr q.1.2.1
    refine ⟨q.1.1, q2, ?_⟩
    have := cnt_up (p := isC v) (show c + 1 ≤ v 0 * v 1 from q.1.1)
    rw [cnt_s q2, hNe] at this
    omega
  have hQ : ∀ s, s < 256 → ∀ gs : Int64, (∀ c, tb gs c = true ↔ c < v 0 * v 1 ∧ isC v c = true ∧ s.testBit (cnt (isC v) c) = true) → ((∀ e, need v hr m ld e → tb gs e = true) ↔ sub G s) := fun s hs gs hgs => by
    constructor
    · intro h j hj
      obtain ⟨j1, c, q1, q2, q3, q4⟩ := (G2 j).mp hj
      have := ((hgs c).mp (h c q4)).2.2
      rw [q3] at this
      exact this
    · intro h e he
      obtain ⟨n1, n2, n3⟩ := nd e he
      exact (hgs e).mpr ⟨n1, n2, h _ ((G2 _).mpr ⟨n3, e, n1, n2, rfl, he⟩)⟩
  have fin : ∀ s, s < 256 → sub G s → (∀ g, g < 2 ^ NC → sub G g → lex s g) → f_Mo_cliffSet (nI NC) cl' (nI s) = some x := fun s hs hsub hmin => by
    have e : s = G := by
      have q1 := hmin G G1 (fun _ h => h)
      have q2 := sub_ct hsub
      have : G = s := sub_eq (by omega) hs hsub (by unfold lex at q1; omega)
      exact this.symm
    subst e
    obtain ⟨gs, g1, g2⟩ := cliffSet_eq (s := s) k3 h8 hs c2 hNe.symm
    rw [g1]
    refine congrArg some (tb_ext fun c hc => ?_)
    rw [Bool.eq_iff_iff, g2, z2]
    constructor
    · rintro ⟨q1, q2, q3⟩
      obtain ⟨_, d, d1, d2, d3, d4⟩ := (G2 _).mp q3
      rw [cnt_inj q2 d2 d3.symm]
      exact d4
    · intro q
      obtain ⟨n1, n2, n3⟩ := nd c q
      exact ⟨n1, n2, (G2 _).mpr ⟨n3, c, n1, n2, rfl, q⟩⟩
  refine lp_or (fun i (w : Int32 × Int32 × (Nat → Int32) × (Nat → Int32) × (Nat → Int32) × (Nat → Int32) × Int64 × Int32 × Int32 × Int32 × Int32) => w.2.1 = nI i ∧ mdB (sub G) i w.1) (fun r => ∃ r1 rf' bad' no' X x1 x2 x3 x4 Y, some (x, rf, aN, nI m, nI ld, nI hr, (0 : Int32), (0 : Int32), y1, a2, y2, y3, a5, a6) = some (r1, rf', X) ∧ r = some (r1, bad', no', x1, x2, x3, x4, 0, Y) ∧ StR rf' bad' no' full) (2 ^ NC) (by omega) ?_ ?_ ⟨rfl, Or.inl ⟨rfl, fun g hg => by omega⟩⟩
  · rintro i ⟨w18, w19, w20, w21, w22, w23, w24, w25, w26, w27, w28⟩ hi ⟨e, p⟩
    dsimp only at e p
    subst e
    have hi256 : i < 256 := by omega
    obtain ⟨gs, g1, g2⟩ := cliffSet_eq (s := i) k3 h8 hi256 c2 hNe.symm
    have hgs : gsOk v gs := fun c _ hc => isC_iff.mp ((g2 c).mp hc).2.1
    obtain ⟨b1, b2, b3, b4, b5, l1, l2, l3⟩ := lay_eq S.1 hwf hgs (g := 0) (b := 0) (hr := hr) (m := m) (ld := ld) (bu := bu) (by decide) (by decide) hhr hm (Or.inl rfl) hl hl2 w20 w21 w22 w23
    have l1' : f_Mo_lay 0 0 gs 0 bu row w20 w21 w22 w23 (nI m) (nI ld) (nI hr) = _ := l1
    obtain ⟨cs, s1, s2⟩ := carriedSet_eq (direct := b2) (all := b3) S.1 k3 (p := fun c => ∃ l, snd v hr 0 0 (kFree (v (123 + 4 * m))) m ld l c) (q := fun c => ∃ l, hrd v hr 0 0 m ld gs l c) (fun c hc => by obtain ⟨L, p1, p2, p3⟩ := l2 c (by omega); exact lev00 p2 p1 p3) (fun c hc => by obtain ⟨L, p1, p2, p3⟩ := l3 c (by omega); exact lev0 p2 p1 p3)
    have hz : cs = 0 ↔ sub G i := by
      rw [← hQ i hi256 gs g2, ← need_iff, tb_eq0]
      constructor
      · intro z c hc q
        refine Classical.byContradiction fun w => ?_
        have := (s2 c).mpr ⟨hc, q, w⟩
        rw [z c (by omega)] at this
        cases this
      · intro z c hc
        cases hb : tb cs c
        · rfl
        · obtain ⟨q1, q2, q3⟩ := (s2 c).mp hb
          exact absurd (z c q1 q2) q3
    unfold f_Mo_mend_L43
    dsimp only
    simp only [shl_one NC (by omega), if_neg (nI_ge hi (show 2 ^ NC < 2 ^ 31 by omega)), jnE, ltE, nI1, bd_some g1, bd_some l1', bd_some s1, bd_some (bits_eq hi256)]
    have take : (w18 = -1 ∨ ∃ b, b < 2 ^ 31 ∧ w18 = nI b ∧ ct i < ct b) → ∃ x' : Int32 × Int32 × (Nat → Int32) × (Nat → Int32) × (Nat → Int32) × (Nat → Int32) × Int64 × Int32 × Int32 × Int32 × Int32, (x'.2.1 = nI (i + 1) ∧ mdB (sub G) (i + 1) x'.1) ∧ ∀ rec : (Int32 × Int32 × (Nat → Int32) × (Nat → Int32) × (Nat → Int32) × (Nat → Int32) × Int64 × Int32 × Int32 × Int32 × Int32) → Option (Int64 × Int32 × Int32 × (Nat → Int32) × (Nat → Int32) × (Nat → Int32) × (Nat → Int32) × Int64 × Int32 × Int32 × Int32 × Int32 × (Nat → Int32) × Int32), (if lg_cmp cs 0 = 0 then rec (nI i, nI (i + 1), b1, b2, b3, b4, gs, 0, -1, b5, nI hr) else rec (w18, nI (i + 1), b1, b2, b3, b4, gs, 0, -1, b5, nI hr)) = rec x' := by
      intro hx
      by_cases q : sub G i
      · exact ⟨_, ⟨rfl, mdB_yes (by omega) p q hx⟩, fun rec => if_pos (lg0.mpr (hz.mpr q))⟩
      · exact ⟨_, ⟨rfl, mdB_no p q⟩, fun rec => if_neg (fun z => q (hz.mp (lg0.mp z)))⟩
    by_cases hx : w18 = -1
    · simp only [if_pos hx]
      exact Or.inl (take (Or.inl hx))
    · simp only [if_neg hx]
      rcases p with ⟨hx', _⟩ | ⟨b, rfl, p1, p2, p3⟩
      · exact absurd hx' hx
      · simp only [bd_some (bits_eq (show b < 256 by omega))]
        by_cases g2 : ct b ≤ ct i
        · simp only [if_pos ((nI_cle (ct_le b) (ct_le i)).mpr g2)]
          exact Or.inl ⟨_, ⟨rfl, mdB_big (by omega) (show b < 2 ^ 31 by omega) (Or.inr ⟨b, rfl, p1, p2, p3⟩) g2⟩, fun rec => rfl⟩
        · simp only [if_neg (fun z => g2 ((nI_cle (ct_le b) (ct_le i)).mp z))]
          exact Or.inl (take (Or.inr ⟨b, by omega, rfl, by omega⟩))
  · rintro ⟨w18, w19, w20, w21, w22, w23, w24, w25, w26, w27, w28⟩ ⟨e, p⟩ rec
    dsimp only at e p
    subst e
    unfold f_Mo_mend_L43
    dsimp only
    rw [shl_one NC (by omega), if_pos (nI_le (Nat.le_refl _) (by omega))]
    rcases p with ⟨rfl, p⟩ | ⟨b, rfl, p1, p2, p3⟩
    · exact absurd (fun _ h => h) (p G G1)
    · rw [bd_some (fin b (by omega) p2 p3)]
      exact ⟨_, _, _, _, _, _, _, _, _, _, rfl, rfl, T⟩

/-! far, cost -/
theorem q_all {X : Nat → Nat → Prop} {all : Nat → Int32} {al : Int64} {n : Nat} (hn : n ≤ 36) (h : ∀ c, c < 36 → ∃ L, L ≤ 20 ∧ all c = nI L ∧ lvl X c L) (ha : ∀ c, c < 64 → (tb al c = true ↔ ∃ l, X l c)) : ∀ c, c < n → (all c ≤ 0 ↔ ¬ tb al c = true) := by
  intro c hc
  obtain ⟨L, h1, h2, h3⟩ := h c (by omega)
  rw [lev0 h2 h1 h3, ha c (by omega)]
theorem bits_n {x : Int64} {n : Nat} (hn : n ≤ 36) (h : ∀ c, tb x c = true → c < n) : cnt (tb x) 64 = cnt (tb x) n :=
  cnt_cut (by omega) fun c hc => by
    cases hb : tb x c
    · rfl
    · exact absurd (h c hb) (by omega)
theorem far_call {row : Nat → Int32} {v : Nat → Nat} {W : Int32} {ev fc lc : Int64} {MK LV : Int32} {gr ar : Nat → Int64} {ki ce se pa : Nat → Int32} (S : TwoL row v W ev fc lc MK LV gr ar ki ce se pa) {rf : Nat → Int32} {bad no full : Int32} (T : StR rf bad no full) (aN sl : Nat) (s1 s2 s3 s4 s5 : Int32) (s6 s7 : Int64) (may ways echo echoes : Nat → Int64) (kd mk ow ho bu : Int32) (comes direct all tried : Nat → Int32) (a b c : Int32) :
    ∃ r rf' bad' X Y, f_Ai_far aN W ev fc lc MK LV sl s1 s2 s3 s4 s5 s6 s7 rf gr ar ki ce se pa may ways echo echoes a b c = some (r, rf', X) ∧ f_Mo_far bad 0 0 0 0 kd mk ow ho bu row comes direct all tried a b c = some (r, bad', Y) ∧ StR rf' bad' no full := by
  obtain ⟨k1, rfl, k3, k4⟩ := TwoL_mk S
  have B := refuse_bad T (-2)
  unfold f_Ai_far f_Mo_far
  rcases sound_or S.1 k1 a b c with ⟨m, ld, hr, hm, hl, hl2, hhr, rfl, rfl, rfl, e1, e2⟩ | ⟨e1, e2⟩
  · obtain ⟨a1, a2, a3, a4, a5, a6, h1, h2, h3, h4, h5, h6, h7⟩ := makeSound_eq S hm hl hl2 hhr may ways echo echoes
    obtain ⟨b1, b2, b3, b4, b5, g1, g2, g3⟩ := lay_eq S.1 S.2.1 (gs0 v) (g := 0) (b := 0) (hr := hr) (m := m) (ld := ld) (bu := bu) (by decide) (by decide) hhr hm (Or.inl rfl) hl hl2 comes direct all tried
    rw [bd_some e1, bd_some e2, if_neg (show ¬ (1 : Int32) = 0 from by decide), if_neg (show ¬ (1 : Int32) = 0 from by decide), bd_some h1, bd_some (show f_Mo_lay 0 0 0 0 bu row comes direct all tried (nI m) (nI ld) (nI hr) = _ from g1)]
    dsimp only
    rw [bd_some (jl_count a6), bits_n k3 h7, bd_some (heardMany_eq S.1 k3 (q_all k3 g3 h5))]
    exact ⟨_, _, _, _, _, rfl, rfl, T⟩
  · rw [bd_some e1, bd_some e2, if_pos rfl, if_pos rfl, bd_some (refuse_is B.1), bd_some (isBad_eq bad)]
    exact ⟨_, _, _, _, _, rfl, rfl, B.2⟩
theorem cost_call {row : Nat → Int32} {v : Nat → Nat} {W : Int32} {ev fc lc : Int64} {MK LV : Int32} {gr ar : Nat → Int64} {ki ce se pa : Nat → Int32} (S : TwoL row v W ev fc lc MK LV gr ar ki ce se pa) {fe : Nat → Int32} (hfe : ∀ i, i < 6 → fe i = nI (v (110 + i))) {rf : Nat → Int32} {bad no full : Int32} (T : StR rf bad no full) (aN sl : Nat) (s1 s2 s3 s4 s5 : Int32) (s6 s7 : Int64) (may ways echo echoes : Nat → Int64) (kd mk ow ho bu : Int32) (comes direct all tried : Nat → Int32) (a b c : Int32) :
    ∃ r rf' bad' X Y, f_Ai_cost aN W ev fc lc MK LV sl s1 s2 s3 s4 s5 s6 s7 rf gr ar fe ki ce se pa may ways echo echoes a b c = some (r, rf', X) ∧ f_Mo_cost bad 0 0 0 0 kd mk ow ho bu row comes direct all tried a b c = some (r, bad', Y) ∧ StR rf' bad' no full := by
  obtain ⟨k1, rfl, k3, k4⟩ := TwoL_mk S
  have B := refuse_bad T (-2)
  unfold f_Ai_cost f_Mo_cost
  rcases sound_or S.1 k1 a b c with ⟨m, ld, hr, hm, hl, hl2, hhr, rfl, rfl, rfl, e1, e2⟩ | ⟨e1, e2⟩
  · obtain ⟨a1, a2, a3, a4, a5, a6, h1, h2, h3, h4, h5, h6, h7⟩ := makeSound_eq S hm hl hl2 hhr may ways echo echoes
    obtain ⟨b1, b2, b3, b4, g1, g2⟩ := layDirect_eq S.1 S.2.1 (gs0 v) (g := 0) (b := 0) (hr := hr) (m := m) (ld := ld) (fr := 0) (bu := bu) (by decide) (by decide) hhr hm (Or.inl rfl) hl hl2 comes direct all tried
    simp only [if_pos (show (0 : Int32) = 0 from rfl)] at g2
    have q : ∀ c, c < v 0 * v 1 → (b2 c ≤ 0 ↔ ¬ tb a5 c = true) := q_all k3 (fun c hc => by obtain ⟨L, p1, p2, _, p3⟩ := g2 c hc; exact ⟨L, p1, p2, p3⟩) h4
    have hsm := S.2.2.2.1.2.2.2.1 m hm
    rw [bd_some e1, bd_some e2, if_neg (show ¬ (1 : Int32) = 0 from by decide), if_neg (show ¬ (1 : Int32) = 0 from by decide), bd_some h1, bd_some (show f_Mo_layDirect 0 0 0 0 bu row comes direct all tried (nI m) (nI ld) (nI hr) = _ from g1)]
    dsimp only
    rw [bd_some (costSum_eq (st := a5) S.2.2.2.1.2.2.2.2.2.2.2 k3 hfe k1 hm hsm.1 hsm.2), bd_some (costOf_eq S.1 S.2.1 hm q), smn_swap (st := tb a5) (air := fun c => v (38 + c)) (fee := fun o => v (110 + o)) (fun c hc => (S.2.1.2.2.2.2.2.1 c hc).2.1)]
    exact ⟨_, _, _, _, _, rfl, rfl, T⟩
  · rw [bd_some e1, bd_some e2, if_pos rfl, if_pos rfl, bd_some (refuse_is B.1), bd_some (isBad_eq bad)]
    exact ⟨_, _, _, _, _, rfl, rfl, B.2⟩
/-! carried, trespass -/
theorem tb_one1 {c d : Nat} (hc : c < 36) : tb ((1 : Int64) <<< ((nI c).toInt64 &&& 63)) d = decide (d = c) := tb_one (by omega) d
theorem carriedSet_eq {row direct all : Nat → Int32} {v : Nat → Nat} (R : Rm row v) (hn : v 0 * v 1 ≤ 36) {p q : Nat → Prop} (hp : ∀ c, c < v 0 * v 1 → (direct c = 0 ↔ ¬ p c)) (hq : ∀ c, c < v 0 * v 1 → (all c ≤ 0 ↔ ¬ q c)) : ∃ x, f_Mo_carriedSet row direct all = some x ∧ ∀ c, tb x c = true ↔ c < v 0 * v 1 ∧ q c ∧ ¬ p c := by
  unfold f_Mo_carriedSet
  refine lp_or (fun i (y : Int64 × Int32) => y.2 = nI i ∧ ∀ c, tb y.1 c = true ↔ c < i ∧ q c ∧ ¬ p c) (fun r => ∃ x, r = some x ∧ ∀ c, tb x c = true ↔ c < v 0 * v 1 ∧ q c ∧ ¬ p c) (v 0 * v 1) (by omega) ?_ ?_ ⟨rfl, fun c => by rw [tb_0]; simp⟩
  · rintro i ⟨x, y⟩ hi ⟨e, h⟩
    dsimp only at e h
    subst e
    have st : ∀ c, c < i + 1 ↔ c < i ∨ c = i := fun c => by omega
    have e : ∀ rec, f_Mo_carriedSet_L4 row direct all rec (x, nI i) = (if all i ≤ 0 then rec (x ||| 0, nI (i + 1)) else if direct i = 0 then rec (x ||| ((1 : Int64) <<< ((nI i).toInt64 &&& 63)), nI (i + 1)) else rec (x ||| 0, nI (i + 1))) := by
      intro rec
      unfold f_Mo_carriedSet_L4
      dsimp only
      rw [bd_some (mCells_eq R), if_neg (nI_ge hi (by omega)), gd_nI (by omega) (by decide), nI_clamp (by omega)]
      simp only [jnE, ltE, gd_nI (show i < 36 by omega) (show 36 < 2 ^ 31 by decide), nI1]
    by_cases h1 : all i ≤ 0
    · refine Or.inl ⟨(x ||| 0, nI (i + 1)), ⟨rfl, fun c => ?_⟩, fun rec => by rw [e, if_pos h1]⟩
      dsimp only
      rw [tb_or, tb_0, Bool.or_false, h, st]
      constructor
      · rintro ⟨a, b⟩
        exact ⟨Or.inl a, b⟩
      · rintro ⟨a | rfl, b⟩
        · exact ⟨a, b⟩
        · exact absurd b.1 ((hq c hi).mp h1)
    · by_cases h2 : direct i = 0
      · refine Or.inl ⟨(_, nI (i + 1)), ⟨rfl, fun c => ?_⟩, fun rec => by rw [e, if_neg h1, if_pos h2]⟩
        dsimp only
        rw [tb_or, tb_one1 (by omega), Bool.or_eq_true, h, st, decide_eq_true_iff]
        constructor
        · rintro (⟨a, b⟩ | rfl)
          · exact ⟨Or.inl a, b⟩
          · exact ⟨Or.inr rfl, Classical.byContradiction fun z => h1 ((hq c hi).mpr z), (hp c hi).mp h2⟩
        · rintro ⟨a | rfl, b⟩
          · exact Or.inl ⟨a, b⟩
          · exact Or.inr rfl
      · refine Or.inl ⟨(x ||| 0, nI (i + 1)), ⟨rfl, fun c => ?_⟩, fun rec => by rw [e, if_neg h1, if_neg h2]⟩
        dsimp only
        rw [tb_or, tb_0, Bool.or_false, h, st]
        constructor
        · rintro ⟨a, b⟩
          exact ⟨Or.inl a, b⟩
        · rintro ⟨a | rfl, b⟩
          · exact ⟨a, b⟩
          · exact absurd ((hp c hi).mpr b.2) h2
  · rintro ⟨x, y⟩ ⟨e, h⟩ rec
    dsimp only at e h
    subst e
    unfold f_Mo_carriedSet_L4
    dsimp only
    rw [bd_some (mCells_eq R), if_pos (nI_le (Nat.le_refl _) (by omega))]
    exact ⟨x, rfl, h⟩
theorem lev00 {X : Nat → Nat → Prop} {c L : Nat} {a : Int32} (ha : a = nI L) (hL : L ≤ 20) (h : lvl X c L) : a = 0 ↔ ¬ ∃ l, X l c := by
  rw [← lvl_pos h, ha, show (0 : Int32) = nI 0 from rfl, nI_eq (by omega) (by omega)]
  omega
theorem isBadToo_eq (bad : Int32) : f_Mo_isBadToo bad = some (-10, bad + 1) := rfl
theorem carried_call {row : Nat → Int32} {v : Nat → Nat} {W : Int32} {ev fc lc : Int64} {MK LV : Int32} {gr ar : Nat → Int64} {ki ce se pa : Nat → Int32} (S : TwoL row v W ev fc lc MK LV gr ar ki ce se pa) {rf : Nat → Int32} {bad no full : Int32} (T : StR rf bad no full) (aN sl : Nat) (s1 s2 s3 s4 s5 : Int32) (s6 s7 : Int64) (may ways echo echoes : Nat → Int64) (kd mk ow ho bu : Int32) (comes direct all tried : Nat → Int32) (a b c d : Int32) :
    ∃ r rf' bad' X Y, f_Ai_carried aN W ev fc lc MK LV sl s1 s2 s3 s4 s5 s6 s7 rf gr ar ki ce se pa may ways echo echoes a b c d = some (r, rf', X) ∧ f_Mo_carried bad 0 0 0 0 kd mk ow ho bu row comes direct all tried a b c d = some (r, bad', Y) ∧ StR rf' bad' no full := by
  obtain ⟨k1, rfl, k3, k4⟩ := TwoL_mk S
  have B := refuse_bad T (-10)
  unfold f_Ai_carried f_Mo_carried
  rcases sound_or S.1 k1 a b c with ⟨m, ld, hr, hm, hl, hl2, hhr, rfl, rfl, rfl, e1, e2⟩ | ⟨e1, e2⟩
  · simp only [bd_some e1, bd_some e2, jnE, if_neg (show ¬ (1 : Int32) = 0 from by decide)]
    by_cases hd : -1 ≤ d
    · obtain ⟨a1, a2, a3, a4, a5, a6, h1, h2, h3, h4, h5, h6, h7⟩ := makeSound_eq S hm hl hl2 hhr may ways echo echoes
      obtain ⟨b1, b2, b3, b4, b5, g1, g2, g3⟩ := lay_eq S.1 S.2.1 (gs0 v) (g := 0) (b := 0) (hr := hr) (m := m) (ld := ld) (bu := bu) (by decide) (by decide) hhr hm (Or.inl rfl) hl hl2 comes direct all tried
      obtain ⟨x, x1, x2⟩ := carriedSet_eq (direct := b2) (all := b3) S.1 k3 (p := fun c => ∃ l, snd v hr 0 0 (kFree (v (123 + 4 * m))) m ld l c) (q := fun c => ∃ l, hrd v hr 0 0 m ld 0 l c) (fun c hc => by obtain ⟨L, p1, p2, p3⟩ := g2 c (by omega); exact lev00 p2 p1 p3) (fun c hc => by obtain ⟨L, p1, p2, p3⟩ := g3 c (by omega); exact lev0 p2 p1 p3)
      have ex : x = a6 &&& (a5 ^^^ (-1)) := by
        apply tb_ext
        intro c hc
        rw [Bool.eq_iff_iff, x2, tb_and, tb_not _ hc, Bool.and_eq_true, h5 c hc, Bool.not_eq_true', ← Bool.not_eq_true, h4 c hc]
        constructor
        · rintro ⟨_, p⟩; exact p
        · intro p; exact ⟨h7 c ((h5 c hc).mpr p.1), p⟩
      obtain ⟨r, r1, r2⟩ := pick_eq (x := x) (fun c _ hc => by have := ((x2 c).mp hc).1; omega) d
      rw [if_pos hd, if_pos hd, bd_some h1, bd_some (show f_Mo_lay 0 0 0 0 bu row comes direct all tried (nI m) (nI ld) (nI hr) = _ from g1)]
      dsimp only
      rw [bd_some x1, bd_some r2, ← ex, bd_some r1]
      exact ⟨_, _, _, _, _, rfl, rfl, T⟩
    · rw [if_neg hd, if_neg hd, bd_some B.1, bd_some (isBadToo_eq bad)]
      exact ⟨_, _, _, _, _, rfl, rfl, B.2⟩
  · simp only [bd_some e1, bd_some e2, jnE, if_pos (show (0 : Int32) = 0 from rfl), bd_some B.1, bd_some (isBadToo_eq bad)]
    exact ⟨_, _, _, _, _, rfl, rfl, B.2⟩

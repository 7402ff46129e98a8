/-! trespass -/
theorem setUp_eq {row d : Nat → Int32} {v : Nat → Nat} (R : Rm row v) (hn : v 0 * v 1 ≤ 36) {p : Nat → Prop} (hp : ∀ c, c < v 0 * v 1 → (d c ≤ 0 ↔ ¬ p c)) : ∃ x, (∀ J, lp (f_Mo_trespass_L44 row d J) FU (0, 0) = J x) ∧ ∀ c, tb x c = true ↔ c < v 0 * v 1 ∧ p c := by
  obtain ⟨⟨x, y⟩, ⟨e, h⟩, g⟩ := lp_fam (f := f_Mo_trespass_L44 row d) (fun i (y : Int64 × Int32) => y.2 = nI i ∧ ∀ c, tb y.1 c = true ↔ c < i ∧ p c) (v 0 * v 1) (by omega) (by
    rintro i ⟨x, y⟩ hi ⟨e, h⟩
    dsimp only at e h
    subst e
    have st : ∀ c, c < i + 1 ↔ c < i ∨ c = i := fun c => by omega
    have e : ∀ J rec, f_Mo_trespass_L44 row d J rec (x, nI i) = (if d i ≤ 0 then rec (x ||| 0, nI (i + 1)) else rec (x ||| ((1 : Int64) <<< ((nI i).toInt64 &&& 63)), nI (i + 1))) := by
      intro J rec
      unfold f_Mo_trespass_L44
      dsimp only
      rw [bd_some (mCells_eq R), if_neg (nI_ge hi (by omega)), gd_nI (by omega) (by decide), nI_clamp (by omega)]
      simp only [jnE, ltE, nI1]
    by_cases h1 : d i ≤ 0
    · refine ⟨(x ||| 0, nI (i + 1)), ⟨rfl, fun c => ?_⟩, fun J rec => by rw [e, if_pos h1]⟩
      dsimp only
      rw [tb_or, tb_0, Bool.or_false, h, st]
      constructor
      · rintro ⟨a, b⟩
        exact ⟨Or.inl a, b⟩
      · rintro ⟨a | rfl, b⟩
        · exact ⟨a, b⟩
        · exact absurd b ((hp c hi).mp h1)
    · refine ⟨(_, nI (i + 1)), ⟨rfl, fun c => ?_⟩, fun J rec => by rw [e, if_neg h1]⟩
      dsimp only
      rw [tb_or, tb_one1 (by omega), Bool.or_eq_true, h, st, decide_eq_true_iff]
      constructor
      · rintro (⟨a, b⟩ | rfl)
        · exact ⟨Or.inl a, b⟩
        · exact ⟨Or.inr rfl, Classical.byContradiction fun z => h1 ((hp c hi).mpr z)⟩
      · rintro ⟨a | rfl, b⟩
        · exact Or.inl ⟨a, b⟩
        · exact Or.inr rfl) (x0 := ((0 : Int64), (0 : Int32))) ⟨rfl, fun c => by rw [tb_0]; simp⟩
  dsimp only at e h
  subst e
  refine ⟨x, fun J => ?_, h⟩
  obtain ⟨rec, q⟩ := g J
  rw [q]
  unfold f_Mo_trespass_L44
  dsimp only
  rw [bd_some (mCells_eq R), if_pos (nI_le (Nat.le_refl _) (by omega))]
theorem setDown_eq {row d : Nat → Int32} {v : Nat → Nat} (R : Rm row v) (hn : v 0 * v 1 ≤ 36) {p : Nat → Prop} (hp : ∀ c, c < v 0 * v 1 → (d c ≤ 0 ↔ ¬ p c)) (x0 : Int64) : ∃ x, (∀ J, lp (f_Mo_trespass_L92 row d J) FU (x0, 0) = J x) ∧ ∀ c, c < 64 → (tb x c = true ↔ tb x0 c = true ∧ ¬ (c < v 0 * v 1 ∧ p c)) := by
  obtain ⟨⟨x, y⟩, ⟨e, h⟩, g⟩ := lp_fam (f := f_Mo_trespass_L92 row d) (fun i (y : Int64 × Int32) => y.2 = nI i ∧ ∀ c, c < 64 → (tb y.1 c = true ↔ tb x0 c = true ∧ ¬ (c < i ∧ p c))) (v 0 * v 1) (by omega) (by
    rintro i ⟨x, y⟩ hi ⟨e, h⟩
    dsimp only at e h
    subst e
    have e : ∀ J rec, f_Mo_trespass_L92 row d J rec (x, nI i) = (if d i ≤ 0 then rec (x &&& (-1), nI (i + 1)) else rec (x &&& (((1 : Int64) <<< ((nI i).toInt64 &&& 63)) ^^^ (-1)), nI (i + 1))) := by
      intro J rec
      unfold f_Mo_trespass_L92
      dsimp only
      rw [bd_some (mCells_eq R), if_neg (nI_ge hi (by omega)), gd_nI (by omega) (by decide), nI_clamp (by omega)]
      simp only [jnE, ltE, nI1]
    have m1 : ∀ c, c < 64 → tb (-1) c = true := by
      intro c hc
      have := tb_not 0 hc
      rw [tb_0] at this
      simpa using this
    by_cases h1 : d i ≤ 0
    · refine ⟨(x &&& (-1), nI (i + 1)), ⟨rfl, fun c hc => ?_⟩, fun J rec => by rw [e, if_pos h1]⟩
      dsimp only
      rw [tb_and, m1 c hc, Bool.and_true, h c hc]
      refine and_congr_right fun _ => not_congr ⟨fun z => ⟨by omega, z.2⟩, fun z => ⟨?_, z.2⟩⟩
      rcases Nat.lt_or_ge c i with a | a
      · exact a
      · have : c = i := by omega
        subst this
        exact absurd z.2 ((hp c hi).mp h1)
    · refine ⟨(_, nI (i + 1)), ⟨rfl, fun c hc => ?_⟩, fun J rec => by rw [e, if_neg h1]⟩
      dsimp only
      have hpi : p i := Classical.byContradiction fun z => h1 ((hp i hi).mpr z)
      rw [tb_and, tb_not _ hc, tb_one1 (by omega), Bool.and_eq_true, h c hc]
      by_cases hci : c = i
      · subst hci
        simp [hpi]
      · simp only [decide_eq_false hci, Bool.not_false, and_true]
        refine and_congr_right fun _ => not_congr ⟨fun z => ⟨by omega, z.2⟩, fun z => ⟨by omega, z.2⟩⟩) (x0 := (x0, (0 : Int32))) ⟨rfl, fun c _ => by simp⟩
  dsimp only at e h
  subst e
  refine ⟨x, fun J => ?_, h⟩
  obtain ⟨rec, q⟩ := g J
  rw [q]
  unfold f_Mo_trespass_L92
  dsimp only
  rw [bd_some (mCells_eq R), if_pos (nI_le (Nat.le_refl _) (by omega))]
set_option maxRecDepth 100000 in
theorem trespass_call {row : Nat → Int32} {v : Nat → Nat} {W : Int32} {ev fc lc : Int64} {MK LV : Int32} {gr ar : Nat → Int64} {ki ce se pa : Nat → Int32} (S : TwoL row v W ev fc lc MK LV gr ar ki ce se pa) {rf : Nat → Int32} {bad no full : Int32} (T : StR rf bad no full) (aN sl : Nat) (s1 s2 s3 s4 s5 : Int32) (s6 s7 : Int64) (may ways echo echoes : Nat → Int64) (kd mk ow ho bu : Int32) (comes direct all tried : Nat → Int32) (a b c d : Int32) :
    ∃ r rf' bad' X x1 x2 x3 x4 Y, f_Ai_trespass aN W ev fc lc MK LV sl s1 s2 s3 s4 s5 s6 s7 rf gr ar ki ce se pa may ways echo echoes a b c d = some (r, rf', X) ∧ f_Mo_trespass bad 0 0 0 0 kd mk ow ho bu row comes direct all tried a b c d = some (r, bad', x1, x2, x3, x4, 0, Y) ∧ StR rf' bad' no full := by
  obtain ⟨k1, rfl, k3, k4⟩ := TwoL_mk S
  have B := refuse_bad T (-10)
  unfold f_Ai_trespass f_Mo_trespass
  rcases sound_or S.1 k1 a b c with ⟨m, ld, hr, hm, hl, hl2, hhr, rfl, rfl, rfl, e1, e2⟩ | ⟨e1, e2⟩
  · simp only [bd_some e1, bd_some e2, jnE, if_neg (show ¬ (1 : Int32) = 0 from by decide)]
    by_cases hd : -1 ≤ d
    · obtain ⟨a1, a2, a3, a4, a5, a6, h1, h2, h3, h4, h5, h6, h7⟩ := makeSound_eq S hm hl hl2 hhr may ways echo echoes
      obtain ⟨y1, y2, y3, z1, z2, z3⟩ := goStraight_eq S.2.2 (b := 0) (g := 0) (fr := 20) hm hl hl2 hhr (by decide) (by decide) (by decide) (fun _ => rfl) a1 a2
      obtain ⟨b1, b2, b3, b4, g1, g2⟩ := layDirect_eq S.1 S.2.1 (gs0 v) (g := 0) (b := 0) (hr := hr) (m := m) (ld := ld) (fr := 1) (bu := bu) (by decide) (by decide) hhr hm (Or.inl rfl) hl hl2 comes direct all tried
      simp only [if_neg (show ¬ (1 : Int32) = 0 from by decide)] at g2
      obtain ⟨d1, d2, d3, d4, f1, f2⟩ := layDirect_eq S.1 S.2.1 (gs0 v) (g := 0) (b := 0) (hr := hr) (m := m) (ld := ld) (fr := 0) (bu := bu) (by decide) (by decide) hhr hm (Or.inl rfl) hl hl2 b1 b2 b3 b4
      simp only [if_pos (show (0 : Int32) = 0 from rfl)] at f2
      obtain ⟨x, x1, x2⟩ := setUp_eq (d := b2) S.1 k3 (p := fun c => ∃ l, snd v hr 0 0 20 m ld l c) (fun c hc => by obtain ⟨L, p1, p2, _, p3⟩ := g2 c (by omega); exact lev0 p2 p1 p3)
      obtain ⟨w, w1, w2⟩ := setDown_eq (d := d2) S.1 k3 (p := fun c => ∃ l, snd v hr 0 0 (kFree (v (123 + 4 * m))) m ld l c) (fun c hc => by obtain ⟨L, p1, p2, _, p3⟩ := f2 c (by omega); exact lev0 p2 p1 p3) x
      have ew : w = y3 &&& (a5 ^^^ (-1)) := by
        apply tb_ext
        intro c hc
        rw [Bool.eq_iff_iff, w2 c hc, x2, tb_and, tb_not _ hc, Bool.and_eq_true, z3 c hc, Bool.not_eq_true', ← Bool.not_eq_true, h4 c hc]
        constructor
        · rintro ⟨⟨p1, p2⟩, p3⟩
          exact ⟨p2, fun z => p3 ⟨p1, z⟩⟩
        · rintro ⟨⟨l, p1⟩, p2⟩
          exact ⟨⟨(snd_in hl (k4 m hm) l c p1).1, l, p1⟩, fun z => p2 z.2⟩
      obtain ⟨r, r1, r2⟩ := pick_eq (x := w) (fun c h64 hc => by have := ((x2 c).mp ((w2 c h64).mp hc).1).1; omega) d
      simp only [if_pos hd, bd_some h1]
      rw [show f_Mo_layDirect 0 0 0 1 bu row comes direct all tried (nI m) (nI ld) (nI hr) = _ from g1]
      have f3 : f_Mo_layDirect 0 0 0 0 bu row b1 b2 b3 b4 (nI m) (nI ld) (nI hr) = _ := f1
      simp only [bd_some rfl, x1, f3, w1, bd_some r2]
      have sf : f_Sd_straightIfFree W ev fc lc (nI (v 122)) LV (nI m) (nI ld) (nI hr) 0 0 gr ar ki ce se pa a1 a2 = some (y3, y1, y2, y3) := by
        unfold f_Sd_straightIfFree
        rw [show f_Sd_goStraight W ev fc lc (nI (v 122)) LV (nI m) (nI ld) (nI hr) 0 0 gr ar ki ce se pa a1 a2 20 = _ from z1]
        rfl
      simp only [bd_some sf, ← ew, bd_some r1]
      exact ⟨_, _, _, _, _, _, _, _, _, rfl, rfl, T⟩
    · rw [if_neg hd, if_neg hd, bd_some B.1, bd_some (isBadToo_eq bad)]
      exact ⟨_, _, _, _, _, _, _, _, _, rfl, rfl, B.2⟩
  · simp only [bd_some e1, bd_some e2, jnE, if_pos (show (0 : Int32) = 0 from rfl), bd_some B.1, bd_some (isBadToo_eq bad)]
    exact ⟨_, _, _, _, _, _, _, _, _, rfl, rfl, B.2⟩

/-! a sound made by both -/
theorem lev0 {X : Nat → Nat → Prop} {c L : Nat} {a : Int32} (ha : a = nI L) (hL : L ≤ 20) (h : lvl X c L) : a ≤ 0 ↔ ¬ ∃ l, X l c := by
  rw [← lvl_pos h, ha, show (0 : Int32) = nI 0 from rfl, nI_leI (by omega) (by omega)]
  omega
theorem hrd_in {v : Nat → Nat} {hr g b m ld : Nat} {gs : Int64} (hl : 1 ≤ ld) (hl2 : ld ≤ 20) (hc : v (124 + 4 * m) < v 0 * v 1) : ∀ l c, hrd v hr g b m ld gs l c → c < v 0 * v 1 ∧ 0 < l ∧ l ≤ 20 := by
  rintro l c (h | ⟨e, h1, h2, L, h3, h4, h5⟩)
  · have := snd_in hl hc l c h
    exact ⟨this.1, this.2.1, by omega⟩
  · have q := snd_in hl hc L e h4.1
    have := prc_in (k := L / 2) 20 (by rintro l c ⟨rfl, rfl⟩; exact ⟨h2.1, by omega, Nat.le_refl _⟩) l c h5
    exact ⟨this.1, this.2.1, by omega⟩
theorem hrd0 {v : Nat → Nat} {hr g b m ld : Nat} (l c : Nat) : hrd v hr g b m ld 0 l c ↔ snd v hr g b (kFree (v (123 + 4 * m))) m ld l c ∨ echs v hr g b (kFree (v (123 + 4 * m))) m ld (fun _ => True) l c := by
  unfold hrd echs
  refine or_congr Iff.rfl (exists_congr fun e => and_congr ?_ Iff.rfl)
  dsimp only
  rw [tb_0]
  simp
theorem gs0 (v : Nat → Nat) : gsOk v 0 := fun c _ h => by rw [tb_0] at h; exact absurd h (by decide)
/-- what both know of the land -/
def TwoL (row : Nat → Int32) (v : Nat → Nat) (W : Int32) (ev fc lc : Int64) (MK LV : Int32) (gr ar : Nat → Int64) (ki ce se pa : Nat → Int32) : Prop := Rm row v ∧ WFv v ∧ SW v W ev fc lc MK LV gr ar ki ce se pa
theorem TwoL_mk {row : Nat → Int32} {v : Nat → Nat} {W : Int32} {ev fc lc : Int64} {MK LV : Int32} {gr ar : Nat → Int64} {ki ce se pa : Nat → Int32} (S : TwoL row v W ev fc lc MK LV gr ar ki ce se pa) : v 122 ≤ 6 ∧ MK = nI (v 122) ∧ v 0 * v 1 ≤ 36 ∧ ∀ i, i < v 122 → v (124 + 4 * i) < v 0 * v 1 :=
  ⟨S.2.2.2.1.1, S.2.2.2.1.2.1, S.2.2.1.2.2.1, fun i hi => (S.2.2.2.2.2 i hi).2.2.2⟩
theorem make_b {row : Nat → Int32} {v : Nat → Nat} {W : Int32} {ev fc lc : Int64} {MK LV : Int32} {gr ar : Nat → Int64} {ki ce se pa : Nat → Int32} (S : TwoL row v W ev fc lc MK LV gr ar ki ce se pa) {m ld hr b g : Nat} (hm : m < v 122) (hl : 1 ≤ ld) (hl2 : ld ≤ 20) (hhr : hr < 24) (hb : b < 64) (hg : g < 256) (may ways echo echoes : Nat → Int64) :
    ∃ may' ways' echo' echoes' st al, f_Sd_make W ev fc lc MK LV gr ar ki ce se pa may ways echo echoes (nI m) (nI ld) (nI hr) (nI b) (nI g) = some (nI m, nI ld, nI hr, nI b, nI g, may', ways', echo', echoes', st, al)
      ∧ (∀ l c, XO ways' l c ↔ snd v hr g b (kFree (v (123 + 4 * m))) m ld l c) ∧ (∀ l c, (XO ways' l c ∨ XO echoes' l c) ↔ hrd v hr g b m ld 0 l c)
      ∧ (∀ c, c < 64 → (tb st c = true ↔ ∃ l, snd v hr g b (kFree (v (123 + 4 * m))) m ld l c)) ∧ (∀ c, c < 64 → (tb al c = true ↔ ∃ l, hrd v hr g b m ld 0 l c))
      ∧ (∀ c, tb st c = true → c < v 0 * v 1) ∧ ∀ c, tb al c = true → c < v 0 * v 1 := by
  obtain ⟨k1, k2, k3, k4⟩ := TwoL_mk S
  obtain ⟨a1, a2, a3, a4, a5, a6, h1, h2, h3, h4, h5⟩ := make_eq S.2.2 hm hl hl2 hhr hb hg may ways echo echoes
  refine ⟨a1, a2, a3, a4, a5, a6, h1, h2, fun l c => ?_, h4, fun c hc => ?_, fun c hc => ?_, fun c hc => ?_⟩
  · rw [hrd0, h2, h3]
  · rw [h5 c hc]
    simp only [hrd0]
    exact exists_or.symm
  · by_cases h64 : c < 64
    · obtain ⟨l, q⟩ := (h4 c h64).mp hc
      exact (snd_in hl (k4 m hm) l c q).1
    · rw [tb_big (by omega)] at hc
      exact absurd hc (by decide)
  · by_cases h64 : c < 64
    · have := (h5 c h64).mp hc
      rw [← exists_or] at this
      obtain ⟨l, q⟩ := this
      exact (hrd_in hl hl2 (k4 m hm) l c ((hrd0 l c).mpr q)).1
    · rw [tb_big (by omega)] at hc
      exact absurd hc (by decide)
theorem makeSound_eq {row : Nat → Int32} {v : Nat → Nat} {W : Int32} {ev fc lc : Int64} {MK LV : Int32} {gr ar : Nat → Int64} {ki ce se pa : Nat → Int32} (S : TwoL row v W ev fc lc MK LV gr ar ki ce se pa) {m ld hr : Nat} (hm : m < v 122) (hl : 1 ≤ ld) (hl2 : ld ≤ 20) (hhr : hr < 24) (may ways echo echoes : Nat → Int64) :
    ∃ may' ways' echo' echoes' st al, f_Ai_makeSound W ev fc lc MK LV gr ar ki ce se pa may ways echo echoes (nI m) (nI ld) (nI hr) = some (nI m, nI ld, nI hr, 0, 0, may', ways', echo', echoes', st, al)
      ∧ (∀ l c, XO ways' l c ↔ snd v hr 0 0 (kFree (v (123 + 4 * m))) m ld l c) ∧ (∀ l c, (XO ways' l c ∨ XO echoes' l c) ↔ hrd v hr 0 0 m ld 0 l c)
      ∧ (∀ c, c < 64 → (tb st c = true ↔ ∃ l, snd v hr 0 0 (kFree (v (123 + 4 * m))) m ld l c)) ∧ (∀ c, c < 64 → (tb al c = true ↔ ∃ l, hrd v hr 0 0 m ld 0 l c))
      ∧ (∀ c, tb st c = true → c < v 0 * v 1) ∧ ∀ c, tb al c = true → c < v 0 * v 1 := by
  obtain ⟨a1, a2, a3, a4, a5, a6, h1, h2⟩ := make_b S hm hl hl2 hhr (b := 0) (g := 0) (by decide) (by decide) may ways echo echoes
  refine ⟨a1, a2, a3, a4, a5, a6, ?_, h2⟩
  unfold f_Ai_makeSound
  rw [bd_some (show f_Sd_make W ev fc lc MK LV gr ar ki ce se pa may ways echo echoes (nI m) (nI ld) (nI hr) 0 0 = _ from h1)]
  rfl
theorem isBad_eq (bad : Int32) : f_Mo_isBad bad = some (-2, bad + 1) := rfl
/-- heard -/
theorem heard_call {row : Nat → Int32} {v : Nat → Nat} {W : Int32} {ev fc lc : Int64} {MK LV : Int32} {gr ar : Nat → Int64} {ki ce se pa : Nat → Int32} (S : TwoL row v W ev fc lc MK LV gr ar ki ce se pa) {rf : Nat → Int32} {bad no full : Int32} (T : StR rf bad no full) (aN sl : Nat) (s1 s2 s3 s4 s5 : Int32) (s6 s7 : Int64) (may ways echo echoes : Nat → Int64) (kd mk ow ho bu : Int32) (comes direct all tried : Nat → Int32) (a b c d : Int32) :
    ∃ r rf' bad' X Y, f_Ai_heard aN W (nI (v 1)) ev fc lc MK LV sl s1 s2 s3 s4 s5 s6 s7 rf gr ar ki ce se pa may ways echo echoes a b c d = some (r, rf', X) ∧ f_Mo_heard bad 0 0 0 0 kd mk ow ho bu row comes direct all tried a b c d = some (r, bad', Y) ∧ StR rf' bad' no full := by
  obtain ⟨k1, rfl, k3, k4⟩ := TwoL_mk S
  have hW : W = nI (v 0) := S.2.2.1.2.2.2.1
  have B := refuse_bad T (-2)
  unfold f_Ai_heard f_Mo_heard
  rcases sound_or S.1 k1 a b c with ⟨m, ld, hr, hm, hl, hl2, hhr, rfl, rfl, rfl, e1, e2⟩ | ⟨e1, e2⟩
  · simp only [bd_some e1, bd_some e2, jnE, if_neg (show ¬ (1 : Int32) = 0 from by decide)]
    rcases in_or d (n := v 0 * v 1) (by omega) with ⟨q, hq, rfl⟩ | ⟨q1, q2⟩
    · obtain ⟨a1, a2, a3, a4, a5, a6, h1, h2, h3, h4, h5, h6, h7⟩ := makeSound_eq S hm hl hl2 hhr may ways echo echoes
      obtain ⟨b1, b2, b3, b4, b5, g1, g2, g3⟩ := lay_eq S.1 S.2.1 (gs0 v) (g := 0) (b := 0) (hr := hr) (m := m) (ld := ld) (bu := bu) (by decide) (by decide) hhr hm (Or.inl rfl) hl hl2 comes direct all tried
      obtain ⟨L, L1, L2, L3⟩ := loudIn_eq a2 a4 (c := q) (by omega)
      obtain ⟨M, M1, M2, M3⟩ := g3 q (by omega)
      have : L = M := lvl_one ((lvl_iff h3 q L).mp L3) M3
      subst this
      rw [hW, bd_some (isCell_t (by omega) hq), bd_some (mCell_t S.1 (by omega) hq), if_neg (show ¬ (1 : Int32) = 0 from by decide), if_neg (show ¬ (1 : Int32) = 0 from by decide), ← hW, bd_some h1, bd_some (show f_Mo_lay 0 0 0 0 bu row comes direct all tried (nI m) (nI ld) (nI hr) = _ from g1)]
      dsimp only
      rw [bd_some L2, gd_nI (by omega) (by decide), nI_clamp (n := q) (by omega), M2]
      exact ⟨_, _, _, _, _, rfl, rfl, T⟩
    · rw [hW, bd_some (isCell_f q1), bd_some (mCell_f S.1 (by omega) q2), if_pos rfl, if_pos rfl, bd_some (refuse_is B.1), bd_some (isBad_eq bad)]
      exact ⟨_, _, _, _, _, rfl, rfl, B.2⟩
  · simp only [bd_some e1, bd_some e2, jnE, if_pos (show (0 : Int32) = 0 from rfl), bd_some (refuse_is B.1), bd_some (isBad_eq bad)]
    exact ⟨_, _, _, _, _, rfl, rfl, B.2⟩

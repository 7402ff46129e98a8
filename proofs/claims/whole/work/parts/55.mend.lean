/-! mend: which cliffs carry -/
def need (v : Nat → Nat) (hr m ld e : Nat) : Prop := giver v hr 0 0 (kFree (v (123 + 4 * m))) m ld e ∧ ∃ L, 2 ≤ L ∧ top (snd v hr 0 0 (kFree (v (123 + 4 * m))) m ld) e L ∧ ∃ l c, ech v hr 0 0 m e (L / 2) l c ∧ ¬ ∃ l, snd v hr 0 0 (kFree (v (123 + 4 * m))) m ld l c
theorem ech_in {v : Nat → Nat} {hr g b m e l0 : Nat} (h0 : 0 < l0) (he : e < v 0 * v 1) : ∀ l c, ech v hr g b m e l0 l c → c < v 0 * v 1 ∧ 0 < l ∧ l ≤ l0 :=
  prc_in 20 (by rintro l c ⟨rfl, rfl⟩; exact ⟨he, h0, Nat.le_refl _⟩)
theorem need_iff {v : Nat → Nat} {hr m ld : Nat} {gs : Int64} : (∀ c, c < v 0 * v 1 → (∃ l, hrd v hr 0 0 m ld gs l c) → ∃ l, snd v hr 0 0 (kFree (v (123 + 4 * m))) m ld l c) ↔ ∀ e, need v hr m ld e → tb gs e = true := by
  constructor
  · rintro h e ⟨g, L, h1, h2, l, c, h3, h4⟩
    refine Classical.byContradiction fun z => h4 (h c (ech_in (by omega) g.1 l c h3).1 ⟨l, Or.inr ⟨e, z, g, L, h1, h2, h3⟩⟩)
  · rintro h c _ ⟨l, q | ⟨e, e1, e2, L, e3, e4, e5⟩⟩
    · exact ⟨l, q⟩
    · refine Classical.byContradiction fun z => e1 (h e ⟨e2, L, e3, e4, l, c, e5, z⟩)
set_option maxRecDepth 100000 in
theorem carriers_eq {v : Nat → Nat} {W : Int32} {ev fc lc : Int64} {MK LV : Int32} {gr ar : Nat → Int64} {ki ce se pa : Nat → Int32} (S : SW v W ev fc lc MK LV gr ar ki ce se pa) (h6 : ∀ c, c < v 0 * v 1 → v (38 + c) < 6) {m ld hr : Nat} (hm : m < v 122) (hl : 1 ≤ ld) (hhr : hr < 24) {st : Int64} (hst : ∀ c, c < 64 → (tb st c = true ↔ ∃ l, snd v hr 0 0 (kFree (v (123 + 4 * m))) m ld l c)) {ways : Nat → Int64} (hw : ∀ l c, XO ways l c ↔ snd v hr 0 0 (kFree (v (123 + 4 * m))) m ld l c) (may echo echoes : Nat → Int64) :
    ∃ x may' echo' echoes', f_Sd_carriers W ev fc lc MK LV (nI m) (nI hr) 0 0 st gr ar ce se pa may ways echo echoes = some (x, may', echo', echoes') ∧ ∀ c, tb x c = true ↔ need v hr m ld c := by
  have hn : v 0 * v 1 ≤ 36 := S.1.2.2.1
  obtain ⟨cl, cl1, cl2⟩ := cliffs_eq S hm hl hst
  unfold f_Sd_carriers
  refine lp_or (fun i (y : Int64 × Int32 × (Nat → Int64) × (Nat → Int64) × (Nat → Int64)) => y.2.1 = nI i ∧ ∀ c, tb y.1 c = true ↔ c < i ∧ need v hr m ld c) (fun r => ∃ x may' echo' echoes', r = some (x, may', echo', echoes') ∧ ∀ c, tb x c = true ↔ need v hr m ld c) 36 (by decide) ?_ ?_ ⟨rfl, fun c => by rw [tb_0]; simp⟩
  · rintro i ⟨x1, x2, x3, x4, x5⟩ hi ⟨e, h⟩
    dsimp only at e h
    subst e
    have st1 : ∀ c, c < i + 1 ↔ c < i ∨ c = i := fun c => by omega
    have b8 : ∀ c, c < 64 → (tb (((1 : Int64) <<< ((nI i).toInt64 &&& 63)) &&& cl) c = true ↔ c = i ∧ giver v hr 0 0 (kFree (v (123 + 4 * m))) m ld i) := fun c hc => by
      rw [tb_and, tb_one1 hi, Bool.and_eq_true, decide_eq_true_iff, cl2 c hc]
      constructor
      · rintro ⟨rfl, q⟩
        exact ⟨rfl, q⟩
      · rintro ⟨rfl, q⟩
        exact ⟨rfl, q⟩
    generalize hx8 : ((1 : Int64) <<< ((nI i).toInt64 &&& 63)) &&& cl = x8 at b8
    have z8 : x8 = 0 ↔ ¬ giver v hr 0 0 (kFree (v (123 + 4 * m))) m ld i := by
      rw [tb_eq0]
      constructor
      · intro q z
        have := (b8 i (by omega)).mpr ⟨rfl, z⟩
        rw [q i (by omega)] at this
        cases this
      · intro q c hc
        cases hb : tb x8 c
        · rfl
        · exact absurd ((b8 c hc).mp hb).2 q
    have keep : ¬ need v hr m ld i → ∀ c, tb x1 c = true ↔ c < i + 1 ∧ need v hr m ld c := fun q c => by
      rw [h, st1]
      constructor
      · rintro ⟨a, b⟩
        exact ⟨Or.inl a, b⟩
      · rintro ⟨a | rfl, b⟩
        · exact ⟨a, b⟩
        · exact absurd b q
    unfold f_Sd_carriers_L4
    dsimp only
    simp only [if_neg (show ¬ (36 : Int32) ≤ nI i from nI_ge (b := 36) hi (by decide)), bd_some cl1, ltE, nI1, jnE, hx8, bd_some (fillJ_eq 21 (by decide) x5 0)]
    by_cases hg : giver v hr 0 0 (kFree (v (123 + 4 * m))) m ld i
    · have hin := hg.1
      obtain ⟨a1, a2, a3, g1, g2⟩ := giveBack_eq S (m := m) (hr := hr) (b := 0) (g := 0) (o := v (38 + i)) hm (h6 i hin) hhr (by decide) (by decide) x3 ways x4 (fun j => if j < 21 then 0 else x5 j) (of := x8) (fun c hc q => by rw [((b8 c hc).mp q).1]; exact hin)
      have g1' : f_Sd_giveBack W ev fc lc MK LV (nI m) (nI hr) 0 0 gr ar se pa x3 ways x4 (fun j => if j < 21 then 0 else x5 j) x8 (nI (v (38 + i))) = some (a1, a2, a3) := g1
      obtain ⟨u, u1, u2⟩ := union_eq a3
      have ro := rowOf_eq (by decide) S.2.1.2.2.2.2.2.2.2 hin hn (h6 i hin)
      have hX : XO ways = snd v hr 0 0 (kFree (v (123 + 4 * m))) m ld := by
        funext l c
        exact propext (hw l c)
      have hE : ∀ l c, XO a3 l c ↔ ∃ L, 2 ≤ L ∧ top (snd v hr 0 0 (kFree (v (123 + 4 * m))) m ld) i L ∧ ech v hr 0 0 m i (L / 2) l c := fun l c => by
        rw [g2, halfs_or (XO ways) _ (fun e q => by rw [((b8 e q.1).mp q.2).1]), hX]
        constructor
        · rintro (q | ⟨e, q1, q2⟩)
          · have q3 := q.2.2.2
            have q4 := q.2.1
            dsimp only at q3
            rw [if_pos q4, tb_0] at q3
            cases q3
          · rw [((b8 e q1.1).mp q1.2).1] at q2
            exact q2
        · intro q
          exact Or.inr ⟨i, ⟨by omega, (b8 i (by omega)).mpr ⟨rfl, hg⟩⟩, q⟩
      have hz : u &&& (st ^^^ (-1)) = 0 ↔ ¬ need v hr m ld i := by
        rw [tb_eq0]
        constructor
        · rintro q ⟨_, L, h1, h2, l, c, h3, h4⟩
          have c36 := (ech_in (show 0 < L / 2 by omega) hin l c h3).1
          have := q c (by omega)
          rw [tb_and, tb_not _ (by omega), (u2 c (by omega)).mpr ⟨l, (hE l c).mpr ⟨L, h1, h2, h3⟩⟩, Bool.true_and, Bool.not_eq_false', hst c (by omega)] at this
          exact h4 this
        · intro q c hc
          cases hb : tb (u &&& (st ^^^ (-1))) c
          · rfl
          · rw [tb_and, tb_not _ hc, Bool.and_eq_true, u2 c hc, Bool.not_eq_true', ← Bool.not_eq_true, hst c hc] at hb
            obtain ⟨⟨l, q1⟩, q2⟩ := hb
            obtain ⟨L, L1, L2, L3⟩ := (hE l c).mp q1
            exact absurd ⟨hg, L, L1, L2, l, c, L3, q2⟩ q
      simp only [if_neg (show ¬ lg_cmp x8 0 = 0 from fun z => (z8.mp (lg0.mp z)) hg), bd_some ro, bd_some g1', bd_some u1]
      by_cases hd : need v hr m ld i
      · refine Or.inl ⟨(x1 ||| x8, nI (i + 1), a1, a2, a3), ⟨rfl, fun c => ?_⟩, fun rec => by rw [if_neg (fun z => (hz.mp (lg0.mp z)) hd)]⟩
        dsimp only
        rw [tb_or, Bool.or_eq_true, h, st1]
        constructor
        · rintro (⟨a, b⟩ | q)
          · exact ⟨Or.inl a, b⟩
          · by_cases hc : c < 64
            · have := ((b8 c hc).mp q).1
              rw [this]
              exact ⟨Or.inr rfl, hd⟩
            · rw [tb_big (by omega)] at q
              cases q
        · rintro ⟨a | rfl, b⟩
          · exact Or.inl ⟨a, b⟩
          · exact Or.inr ((b8 c (by omega)).mpr ⟨rfl, hg⟩)
      · exact Or.inl ⟨(x1, nI (i + 1), a1, a2, a3), ⟨rfl, keep hd⟩, fun rec => by rw [if_pos (lg0.mpr (hz.mpr hd))]⟩
    · refine Or.inl ⟨(x1, nI (i + 1), x3, x4, x5), ⟨rfl, keep fun z => hg z.1⟩, fun rec => by rw [if_pos (lg0.mpr (z8.mpr hg))]⟩
  · rintro ⟨x1, x2, x3, x4, x5⟩ ⟨e, h⟩ rec
    dsimp only at e h
    subst e
    unfold f_Sd_carriers_L4
    dsimp only
    rw [if_pos (show (36 : Int32) ≤ nI 36 from by decide)]
    refine ⟨x1, _, _, _, rfl, fun c => (h c).trans ⟨fun z => z.2, fun z => ⟨?_, z⟩⟩⟩
    have := z.1.1
    omega
/-! the reference's list of cliffs -/
def isC (v : Nat → Nat) (c : Nat) : Bool := decide (v (2 + c) = 2)
theorem isC_iff {v : Nat → Nat} {c : Nat} : isC v c = true ↔ v (2 + c) = 2 := decide_eq_true_iff
theorem cnt_up {p : Nat → Bool} {a b : Nat} (h : a ≤ b) : cnt p a ≤ cnt p b := by
  obtain ⟨k, rfl⟩ : ∃ k, b = a + k := ⟨b - a, by omega⟩
  rw [cnt_add]
  exact Nat.le_add_right _ _
theorem cnt_inj {p : Nat → Bool} {a b : Nat} (ha : p a = true) (hb : p b = true) (h : cnt p a = cnt p b) : a = b := by
  rcases Nat.lt_trichotomy a b with q | q | q
  · have := cnt_up (p := p) (show a + 1 ≤ b from q)
    rw [cnt_s ha] at this
    omega
  · exact q
  · have := cnt_up (p := p) (show b + 1 ≤ a from q)
    rw [cnt_s hb] at this
    omega
theorem layCliffs_eq {row : Nat → Int32} {v : Nat → Nat} (R : Rm row v) (W : WFv v) (cl : Nat → Int32) : ∃ cl', f_Mo_layCliffs row cl = some (cl', nI (cnt (isC v) (v 0 * v 1))) ∧ ∀ k, k < cnt (isC v) (v 0 * v 1) → ∃ c, c < v 0 * v 1 ∧ isC v c = true ∧ cnt (isC v) c = k ∧ cl' k = nI c := by
  have hn := W.2.2.2.2.1
  unfold f_Mo_layCliffs
  refine lp_or (fun i (y : Int32 × (Nat → Int32) × Int32) => y.1 = nI i ∧ y.2.2 = nI (cnt (isC v) i) ∧ ∀ k, k < cnt (isC v) i → ∃ c, c < i ∧ isC v c = true ∧ cnt (isC v) c = k ∧ y.2.1 k = nI c) (fun r => ∃ cl' : Nat → Int32, r = some (cl', nI (cnt (isC v) (v 0 * v 1))) ∧ ∀ k, k < cnt (isC v) (v 0 * v 1) → ∃ c, c < v 0 * v 1 ∧ isC v c = true ∧ cnt (isC v) c = k ∧ cl' k = nI c) (v 0 * v 1) (by omega) ?_ ?_ ⟨rfl, rfl, fun k hk => by exact absurd hk (Nat.not_lt_zero _)⟩
  · rintro i ⟨x1, x2, x3⟩ hi ⟨e1, e2, h⟩
    dsimp only at e1 e2 h
    subst e1; subst e2
    have hc := cnt_le (isC v) i
    have g3 := (W.2.2.2.2.2.1 i hi).1
    have e : nI (v (2 + i)) = 2 ↔ isC v i = true := by
      rw [isC_iff]
      exact nI_eq (b := 2) (by omega) (by decide)
    unfold f_Mo_layCliffs_L7
    dsimp only
    simp only [bd_some (mCells_eq R), if_neg (nI_ge hi (show v 0 * v 1 < 2 ^ 31 by omega)), show (2 : Int32) + nI i = nI (2 + i) from nIa 2 i, gd_nI (show 2 + i < 1551 by omega) (show 1551 < 2 ^ 31 by decide), nI_clamp (show 2 + i < 2 ^ 31 by omega), R (2 + i) (by omega) (by omega), jnE, ltE, nI1, gd_nI (show cnt (isC v) i < 36 by omega) (show 36 < 2 ^ 31 by decide), nI_clamp (show cnt (isC v) i < 2 ^ 31 by omega)]
    by_cases q : isC v i = true
    · refine Or.inl ⟨(nI (i + 1), upd x2 (cnt (isC v) i) (nI i), nI (cnt (isC v) i + 1)), ⟨rfl, by rw [cnt_s q], fun k hk => ?_⟩, fun rec => by rw [if_pos (e.mpr q)]⟩
      rw [cnt_s q] at hk
      by_cases ek : k = cnt (isC v) i
      · subst ek
        exact ⟨i, by omega, q, rfl, upd_same⟩
      · obtain ⟨c, c1, c2, c3, c4⟩ := h k (by omega)
        exact ⟨c, by omega, c2, c3, by dsimp only; rw [upd_ne ek]; exact c4⟩
    · refine Or.inl ⟨(nI (i + 1), x2, nI (cnt (isC v) i)), ⟨rfl, by rw [cnt_z q], fun k hk => ?_⟩, fun rec => by rw [if_neg (fun z => q (e.mp z))]⟩
      rw [cnt_z q] at hk
      obtain ⟨c, c1, c2⟩ := h k hk
      exact ⟨c, by omega, c2⟩
  · rintro ⟨x1, x2, x3⟩ ⟨e1, e2, h⟩ rec
    dsimp only at e1 e2 h
    subst e1; subst e2
    unfold f_Mo_layCliffs_L7
    dsimp only
    rw [bd_some (mCells_eq R), if_pos (nI_le (Nat.le_refl _) (by omega))]
    exact ⟨x2, rfl, h⟩
theorem cliffSet_eq {v : Nat → Nat} {n N s : Nat} (hn : n ≤ 36) (hN : N ≤ 8) (hs : s < 256) {cl : Nat → Int32} (hc : ∀ k, k < N → ∃ c, c < n ∧ isC v c = true ∧ cnt (isC v) c = k ∧ cl k = nI c) (hNn : N = cnt (isC v) n) : ∃ x, f_Mo_cliffSet (nI N) cl (nI s) = some x ∧ ∀ c, tb x c = true ↔ c < n ∧ isC v c = true ∧ s.testBit (cnt (isC v) c) = true := by
  unfold f_Mo_cliffSet
  refine lp_or (fun i (y : Int64 × Int32) => y.2 = nI i ∧ ∀ c, tb y.1 c = true ↔ (c < n ∧ isC v c = true ∧ s.testBit (cnt (isC v) c) = true) ∧ cnt (isC v) c < i) (fun r => ∃ x, r = some x ∧ ∀ c, tb x c = true ↔ c < n ∧ isC v c = true ∧ s.testBit (cnt (isC v) c) = true) N (by omega) ?_ ?_ ⟨rfl, fun c => by rw [tb_0]; simp⟩
  · rintro i ⟨x1, x2⟩ hi ⟨e, h⟩
    dsimp only at e h
    subst e
    obtain ⟨d, d1, d2, d3, d4⟩ := hc i hi
    have hh : f_Mo_has (nI s).toInt64 (nI i) = some (if s.testBit i = true then 1 else 0) := by
      rw [nI_l (by omega), mhas_eq _ (by omega), lN_tb (by omega) (by omega)]
    unfold f_Mo_cliffSet_L5
    dsimp only
    simp only [if_neg (nI_ge hi (show N < 2 ^ 31 by omega)), bd_some hh, jnE, ltE, nI1, gd_nI (show i < 36 by omega) (show 36 < 2 ^ 31 by decide), nI_clamp (show i < 2 ^ 31 by omega), d4]
    by_cases q : s.testBit i = true
    · refine Or.inl ⟨(x1 ||| ((1 : Int64) <<< ((nI d).toInt64 &&& 63)), nI (i + 1)), ⟨rfl, fun c => ?_⟩, fun rec => by rw [if_pos q, if_neg (by decide)]⟩
      dsimp only
      rw [tb_or, tb_one1 (by omega), Bool.or_eq_true, h, decide_eq_true_iff]
      constructor
      · rintro (⟨a, b⟩ | rfl)
        · exact ⟨a, by omega⟩
        · exact ⟨⟨d1, d2, by rw [d3]; exact q⟩, by omega⟩
      · rintro ⟨⟨a1, a2, a3⟩, b⟩
        by_cases ek : cnt (isC v) c = i
        · exact Or.inr (cnt_inj a2 d2 (by omega))
        · exact Or.inl ⟨⟨a1, a2, a3⟩, by omega⟩
    · refine Or.inl ⟨(x1 ||| 0, nI (i + 1)), ⟨rfl, fun c => ?_⟩, fun rec => by rw [if_neg q, if_pos rfl]⟩
      dsimp only
      rw [tb_or, tb_0, Bool.or_false, h]
      constructor
      · rintro ⟨a, b⟩
        exact ⟨a, by omega⟩
      · rintro ⟨⟨a1, a2, a3⟩, b⟩
        refine ⟨⟨a1, a2, a3⟩, ?_⟩
        by_cases ek : cnt (isC v) c = i
        · rw [ek] at a3
          exact absurd a3 q
        · omega
  · rintro ⟨x1, x2⟩ ⟨e, h⟩ rec
    dsimp only at e h
    subst e
    unfold f_Mo_cliffSet_L5
    dsimp only
    rw [if_pos (nI_le (Nat.le_refl _) (by omega))]
    refine ⟨x1, rfl, fun c => (h c).trans ⟨fun z => z.1, fun z => ⟨z, ?_⟩⟩⟩
    have := cnt_up (p := isC v) (show c + 1 ≤ n from z.1)
    rw [cnt_s z.2.1] at this
    omega
/-- numbers of any bits -/
theorem bitsOf (P : Nat → Prop) : ∀ K, ∃ N, N < 2 ^ K ∧ ∀ k, N.testBit k = true ↔ k < K ∧ P k
  | 0 => ⟨0, by decide, fun k => ⟨fun z => (by rw [Nat.zero_testBit] at z; cases z), fun z => by omega⟩⟩
  | K + 1 => by
    obtain ⟨N, h1, h2⟩ := bitsOf P K
    have hp2 : (2 : Nat) ^ (K + 1) = 2 ^ K + 2 ^ K := by rw [Nat.pow_succ]; omega
    by_cases q : P K
    · have e : N + 2 ^ K = 2 ^ K ||| N := by
        have := Nat.two_pow_add_eq_or_of_lt h1 1
        rw [Nat.mul_one] at this
        rw [← this, Nat.add_comm]
      refine ⟨N + 2 ^ K, by omega, fun k => ?_⟩
      rw [e, Nat.testBit_or, Nat.testBit_two_pow, Bool.or_eq_true, decide_eq_true_iff, h2]
      constructor
      · rintro (rfl | ⟨a, b⟩)
        · exact ⟨by omega, q⟩
        · exact ⟨by omega, b⟩
      · rintro ⟨a, b⟩
        by_cases ej : K = k
        · exact Or.inl ej
        · exact Or.inr ⟨by omega, b⟩
    · refine ⟨N, by omega, fun k => ?_⟩
      rw [h2]
      constructor
      · rintro ⟨a, b⟩
        exact ⟨by omega, b⟩
      · rintro ⟨a, b⟩
        refine ⟨?_, b⟩
        by_cases ej : k = K
        · subst ej
          exact absurd b q
        · omega

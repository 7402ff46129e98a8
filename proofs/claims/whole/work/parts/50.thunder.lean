/-! thunder -/
def wlk (w n c0 : Nat) : Nat → Nat → Prop
  | 0, d => d = c0
  | k + 1, d => ∃ c, adj w n c d ∧ wlk w n c0 k c
theorem wlk_in {w n c0 : Nat} (h : c0 < n) : ∀ k d, wlk w n c0 k d → d < n
  | 0, _, e => by rw [show _ = c0 from e]; exact h
  | _ + 1, _, ⟨_, q, _⟩ => q.2.1
theorem wlk_s {w n c0 i d : Nat} : (∃ j, j ≤ i + 1 ∧ wlk w n c0 j d) ↔ (∃ j, j ≤ i ∧ wlk w n c0 j d) ∨ ∃ c, adj w n c d ∧ ∃ j, j ≤ i ∧ wlk w n c0 j c := by
  constructor
  · rintro ⟨j, h1, h2⟩
    by_cases q : j ≤ i
    · exact Or.inl ⟨j, q, h2⟩
    · have : j = i + 1 := by omega
      subst this
      obtain ⟨c, c1, c2⟩ := h2
      exact Or.inr ⟨c, c1, i, Nat.le_refl _, c2⟩
  · rintro (⟨j, h1, h2⟩ | ⟨c, c1, j, h1, h2⟩)
    · exact ⟨j, by omega, h2⟩
    · exact ⟨j + 1, by omega, c, c1, h2⟩
theorem prc_wlk {w n c0 ld : Nat} : ∀ (u : Nat), u ≤ ld → ∀ (X : Nat → Nat → Prop), (∀ l d, X l d ↔ u ≤ l ∧ 0 < l ∧ l ≤ ld ∧ wlk w n c0 (ld - l) d) → ∀ l d, prc w n (fun _ => 1) (fun _ _ => True) u X l d ↔ 0 < l ∧ l ≤ ld ∧ wlk w n c0 (ld - l) d
  | 0, _, X, h, l, d => by
    rw [show prc w n (fun _ => 1) (fun _ _ => True) 0 X l d = X l d from rfl, h]
    exact ⟨fun q => q.2, fun q => ⟨Nat.zero_le _, q⟩⟩
  | u + 1, hu, X, h, l, d => by
    refine prc_wlk u (by omega) _ (fun l d => ?_) l d
    constructor
    · rintro (q | ⟨q1, _, c, q2, q3, _, q4⟩)
      · have := (h l d).mp q
        exact ⟨by omega, this.2⟩
      · have q5 := (h (u + 1) c).mp q3
        have q6 : l + 1 = u + 1 := q4
        have e : ld - l = (ld - (u + 1)) + 1 := by omega
        refine ⟨by omega, q1, by omega, ?_⟩
        rw [e]
        exact ⟨c, q2, q5.2.2.2⟩
    · rintro ⟨q1, q2, q3, q4⟩
      by_cases q : u + 1 ≤ l
      · exact Or.inl ((h l d).mpr ⟨q, q2, q3, q4⟩)
      · have e : ld - l = (ld - (u + 1)) + 1 := by omega
        rw [e] at q4
        obtain ⟨c, c1, c2⟩ := q4
        exact Or.inr ⟨q2, trivial, c, c1, (h (u + 1) c).mpr ⟨Nat.le_refl _, by omega, hu, c2⟩, Nat.one_ne_zero, show l + 1 = u + 1 by omega⟩
theorem prc_ball {w n c0 ld : Nat} (h1 : 1 ≤ ld) (h20 : ld ≤ 20) (d : Nat) : (∃ l, prc w n (fun _ => 1) (fun _ _ => True) 20 (fun l c => l = ld ∧ c = c0) l d) ↔ ∃ j, j ≤ ld - 1 ∧ wlk w n c0 j d := by
  have hs : ∀ l d, prc w n (fun _ => 1) (fun _ _ => True) 20 (fun l c => l = ld ∧ c = c0) l d ↔ 0 < l ∧ l ≤ ld ∧ wlk w n c0 (ld - l) d := fun l d => by
    rw [prc_low (k := ld) (fun l c q => by omega) 20 h20 l d]
    refine prc_wlk ld (Nat.le_refl _) _ (fun l d => ?_) l d
    constructor
    · rintro ⟨rfl, rfl⟩
      refine ⟨Nat.le_refl _, h1, Nat.le_refl _, ?_⟩
      rw [Nat.sub_self]
      rfl
    · rintro ⟨q1, q2, q3, q4⟩
      have : l = ld := by omega
      subst this
      rw [Nat.sub_self] at q4
      exact ⟨rfl, q4⟩
  constructor
  · rintro ⟨l, q⟩
    obtain ⟨a, b, c⟩ := (hs l d).mp q
    exact ⟨ld - l, by omega, c⟩
  · rintro ⟨j, q1, q2⟩
    refine ⟨ld - j, (hs _ d).mpr ⟨by omega, by omega, ?_⟩⟩
    rw [show ld - (ld - j) = j by omega]
    exact q2
theorem lg_ge {x y : Int64} : 0 ≤ lg_cmp x y ↔ ¬ x < y := by
  rw [← lg_lt]
  exact Int32.not_lt.symm
theorem ball_eq {w n : Nat} {W : Int32} {ev fc lc : Int64} (G : Geo w n W ev fc lc) {c0 ld : Nat} (hc : c0 < n) (h1 : 1 ≤ ld) (h9 : ld ≤ 9) : ∃ r, (∀ J, lp (f_Ai_thunder_L110 W ev fc lc (lN ld) J) FU ((1 : Int64) <<< ((nI c0).toInt64 &&& 63), 1) = J r) ∧ ∀ d, d < 64 → (tb r d = true ↔ ∃ j, j ≤ ld - 1 ∧ wlk w n c0 j d) := by
  have hn := G.2.2.1
  obtain ⟨⟨r, y⟩, ⟨e, hb⟩, g⟩ := lp_fam (f := f_Ai_thunder_L110 W ev fc lc (lN ld)) (fun i (y : Int64 × Int32) => y.2 = nI (1 + i) ∧ ∀ d, d < 64 → (tb y.1 d = true ↔ ∃ j, j ≤ i ∧ wlk w n c0 j d)) (ld - 1) (by omega) (by
    rintro i ⟨x, y⟩ hi ⟨e, hb⟩
    dsimp only at e hb
    subst e
    obtain ⟨r, r1, r2⟩ := beside_eq G (x := x) (fun c h64 hx => by
      obtain ⟨j, _, q⟩ := (hb c h64).mp hx
      exact wlk_in hc j c q)
    refine ⟨(x ||| r, nI (1 + (i + 1))), ⟨rfl, fun d hd => ?_⟩, fun J rec => ?_⟩
    · dsimp only
      rw [tb_or, Bool.or_eq_true, hb d hd, r2 d hd, wlk_s]
      refine or_congr Iff.rfl (exists_congr fun c => and_congr_right fun q => ?_)
      exact hb c (by have := q.1; omega)
    · unfold f_Ai_thunder_L110
      dsimp only
      rw [if_neg (show ¬ 0 ≤ lg_cmp (nI (1 + i)).toInt64 (lN ld) from by
        rw [lg_ge, nI_l (by omega), lN_lt (by omega) (by omega)]
        omega), if_neg (show ¬ (9 : Int32) ≤ nI (1 + i) from nI_ge (b := 9) (by omega) (by decide)), bd_some r1, ltE, ltE, nI1]
      rfl) (x0 := ((1 : Int64) <<< ((nI c0).toInt64 &&& 63), (1 : Int32))) ⟨rfl, fun d hd => by
        dsimp only
        rw [tb_one (by omega), decide_eq_true_iff]
        constructor
        · rintro rfl
          exact ⟨0, Nat.le_refl _, rfl⟩
        · rintro ⟨j, j0, q⟩
          have : j = 0 := by omega
          subst this
          exact q⟩
  dsimp only at e hb
  subst e
  refine ⟨r, fun J => ?_, hb⟩
  obtain ⟨rec, q⟩ := g J
  rw [q]
  unfold f_Ai_thunder_L110
  dsimp only
  rw [if_pos (show 0 ≤ lg_cmp (nI (1 + (ld - 1))).toInt64 (lN ld) from by
    rw [lg_ge, nI_l (by omega), lN_lt (by omega) (by omega)]
    omega)]
theorem ms_thunder {row : Nat → Int32} {v : Nat → Nat} (R : Rm row v) (W : WFv v) (ow ho bu : Int32) : MS 0 0 0 0 5 (-1) ow ho bu row (v 0 * v 1) (fun _ => 1) (fun _ _ => True) := by
  obtain ⟨w1, w2, w3, w4, w5, w6, w7, w8, w9, w10⟩ := W
  refine ⟨fun c hc => ⟨show (1 : Nat) ≤ 2 by decide, ?_⟩, fun l c l1 l2 hc => ⟨1, ?_, by simp⟩⟩
  · rw [show (5 : Int32) = nI 5 from rfl, costFrom_eq R 0 (by omega) (by decide) (w6 c hc).1]
    have : ∀ b, kCost 5 b = 1 := by decide
    rw [this]
  · have e : row (38 + c) = nI (v (38 + c)) := R _ (by omega) (by omega)
    have a6 := (w6 c hc).2.1
    unfold f_Mo_mayCome
    rw [jnE, if_neg (by decide), show (38 : Int32) = nI 38 from rfl, nIa, gd_nI (by omega) (by decide), nI_clamp (by omega), e, ltE, jnE, jnE, if_pos rfl, if_pos rfl]
    dsimp only
    rw [show (0 : Int32).toInt64 = 0 from rfl, bd_some (mhas_eq 0 (show v (38 + c) < 64 by omega)), jnE, jnE, tb_0, if_neg (show ¬ false = true by decide), if_pos rfl]
    dsimp only
    rw [jnE, if_neg (by decide)]
theorem upSet_eq {row d : Nat → Int32} {v : Nat → Nat} (R : Rm row v) (hn : v 0 * v 1 ≤ 36) {p : Nat → Prop} (hp : ∀ c, c < v 0 * v 1 → (d c ≤ 0 ↔ ¬ p c)) (x0 : Int64) : ∃ x, (∀ J, lp (f_Mo_thunder_L99 row d J) FU (x0, 0) = J x) ∧ ∀ c, tb x c = true ↔ tb x0 c = true ∨ (c < v 0 * v 1 ∧ p c) := by
  obtain ⟨⟨x, y⟩, ⟨e, h⟩, g⟩ := lp_fam (f := f_Mo_thunder_L99 row d) (fun i (y : Int64 × Int32) => y.2 = nI i ∧ ∀ c, tb y.1 c = true ↔ tb x0 c = true ∨ (c < i ∧ p c)) (v 0 * v 1) (by omega) (by
    rintro i ⟨x, y⟩ hi ⟨e, h⟩
    dsimp only at e h
    subst e
    have st : ∀ c, c < i + 1 ↔ c < i ∨ c = i := fun c => by omega
    have e : ∀ J rec, f_Mo_thunder_L99 row d J rec (x, nI i) = (if d i ≤ 0 then rec (x ||| 0, nI (i + 1)) else rec (x ||| ((1 : Int64) <<< ((nI i).toInt64 &&& 63)), nI (i + 1))) := by
      intro J rec
      unfold f_Mo_thunder_L99
      dsimp only
      rw [bd_some (mCells_eq R), if_neg (nI_ge hi (by omega)), gd_nI (by omega) (by decide), nI_clamp (by omega)]
      simp only [jnE, ltE, nI1]
    by_cases h1 : d i ≤ 0
    · refine ⟨(x ||| 0, nI (i + 1)), ⟨rfl, fun c => ?_⟩, fun J rec => by rw [e, if_pos h1]⟩
      dsimp only
      rw [tb_or, tb_0, Bool.or_false, h, st]
      refine or_congr Iff.rfl ⟨fun ⟨a, b⟩ => ⟨Or.inl a, b⟩, ?_⟩
      rintro ⟨a | rfl, b⟩
      · exact ⟨a, b⟩
      · exact absurd b ((hp c hi).mp h1)
    · refine ⟨(_, nI (i + 1)), ⟨rfl, fun c => ?_⟩, fun J rec => by rw [e, if_neg h1]⟩
      dsimp only
      rw [tb_or, tb_one1 (by omega), Bool.or_eq_true, h, st, decide_eq_true_iff]
      constructor
      · rintro ((a | ⟨a, b⟩) | rfl)
        · exact Or.inl a
        · exact Or.inr ⟨Or.inl a, b⟩
        · exact Or.inr ⟨Or.inr rfl, Classical.byContradiction fun z => h1 ((hp c hi).mpr z)⟩
      · rintro (a | ⟨a | rfl, b⟩)
        · exact Or.inl (Or.inl a)
        · exact Or.inl (Or.inr ⟨a, b⟩)
        · exact Or.inr rfl) (x0 := (x0, (0 : Int32))) ⟨rfl, fun c => by simp⟩
  dsimp only at e h
  subst e
  refine ⟨x, fun J => ?_, h⟩
  obtain ⟨rec, q⟩ := g J
  rw [q]
  unfold f_Mo_thunder_L99
  dsimp only
  rw [bd_some (mCells_eq R), if_pos (nI_le (Nat.le_refl _) (by omega))]
def nxt (X : Nat) : Nat := (X * 1103515245 + 12345) % 2147483648
theorem nxt_lt (X : Nat) : nxt X < 2147483648 := Nat.mod_lt _ (by decide)
theorem nxt_eq {X : Nat} (h : X < 2147483648) : ((lN X * 1103515245) + 12345) - ((lN X * 1103515245) + 12345) / 2147483648 * 2147483648 = lN (nxt X) := by
  rw [show (1103515245 : Int64) = lN 1103515245 from rfl, show (12345 : Int64) = lN 12345 from rfl, show (2147483648 : Int64) = lN 2147483648 from rfl, lN_mul, lN_add, pk_lRem (by omega) (by decide) (by decide)]
  rfl
set_option maxRecDepth 100000 in
theorem thunder_call {row : Nat → Int32} {v : Nat → Nat} {W : Int32} {ev fc lc : Int64} {MK LV : Int32} {gr ar : Nat → Int64} {ki ce se pa : Nat → Int32} (S : TwoL row v W ev fc lc MK LV gr ar ki ce se pa) {rf : Nat → Int32} {bad no full : Int32} (T : StR rf bad no full) (kd mk ow ho bu : Int32) (comes tried : Nat → Int32) (a b : Int32) :
    ∃ r rf' bad' Y, f_Ai_thunder W (nI (v 1)) ev fc lc rf a b = some (r, rf') ∧ f_Mo_thunder bad 0 0 0 0 kd mk ow ho bu row comes tried a b = some (r, bad', Y) ∧ StR rf' bad' no full := by
  obtain ⟨k1, rfl, k3, k4⟩ := TwoL_mk S
  have hW : W = nI (v 0) := S.2.2.1.2.2.2.1
  have hwf := S.2.1
  have G := S.2.2.1
  have B := refuse_bad T (-2)
  have bad2 : ∃ r rf' bad' Y, (bd (f_Ai_refuse rf (-2)) fun ((x1, x2) : Int32 × (Nat → Int32)) => some (x1, x2)) = some (r, rf') ∧ (bd (f_Mo_isBad bad) fun ((x3, x4) : Int32 × Int32) => some (x3, x4, comes, tried, kd, mk)) = some (r, bad', Y) ∧ StR rf' bad' no full := by
    rw [bd_some (refuse_is B.1), bd_some (isBad_eq bad)]
    exact ⟨_, _, _, _, rfl, rfl, B.2⟩
  unfold f_Ai_thunder f_Mo_thunder
  rw [jnE]
  rcases in_or a (n := 1000000) (by decide) with ⟨s, hs, rfl⟩ | ⟨q1, q2⟩
  rotate_left
  · rw [bd_some (show f_Mo_in a.toInt64 0 999999 = some 0 from mIn_f (N := 999999) (by decide) q2), jnE, if_pos rfl]
    by_cases q : a < 0
    · rw [if_pos q]
      exact bad2
    · rw [if_neg q, if_pos (show (999999 : Int32) < a from by
        have := q1.resolve_left q
        rw [Int32.le_iff_toInt_le, show (nI 1000000).toInt = 1000000 from by decide] at this
        rw [Int32.lt_iff_toInt_lt, show (999999 : Int32).toInt = 999999 from by decide]
        omega)]
      exact bad2
  rw [bd_some (show f_Mo_in (nI s).toInt64 0 999999 = some 1 from mIn_t (N := 999999) (by omega) (by decide)), jnE, if_neg (show ¬ (1 : Int32) = 0 from by decide), if_neg (nI_pos (show s < 2 ^ 31 by omega)), if_neg (show ¬ (999999 : Int32) < nI s from (nI_nlt (show s ≤ 999999 by omega) (by decide) : ¬ nI 999999 < nI s))]
  rcases in_or b (n := 61) (by decide) with ⟨k, hk, rfl⟩ | ⟨q1, q2⟩
  rotate_left
  · rw [bd_some (show f_Mo_in b.toInt64 0 60 = some 0 from mIn_f (N := 60) (by decide) q2), if_pos rfl, show (60 : Int32) = nI 60 from rfl, le_f (by decide) q1]
    exact bad2
  rw [bd_some (show f_Mo_in (nI k).toInt64 0 60 = some 1 from mIn_t (N := 60) (by omega) (by decide)), if_neg (show ¬ (1 : Int32) = 0 from by decide), show (60 : Int32) = nI 60 from rfl, le_t (show k ≤ 60 by omega) (by decide), hW, pk_mul, ltE, ltE, ltE, jnE, jnE, nI_l (show s < 2 ^ 31 by omega), ← hW]
  have hn0 : 0 < v 0 * v 1 := Nat.mul_pos hwf.1 hwf.2.2.1
  refine lp_two (fun i (x : Int64 × Int64 × Int32) (y : Int64 × Int64 × Int32 × (Nat → Int32) × (Nat → Int32)) => x.1 = y.2.1 ∧ x.2.1 = y.1 ∧ x.2.2 = nI i ∧ y.2.2.1 = nI i ∧ (∃ X, X < 2147483648 ∧ y.1 = lN X) ∧ ∀ c, c < 64 → tb x.1 c = true → c < v 0 * v 1) (fun A C => ∃ r rf' bad' Y, A = some (r, rf') ∧ C = some (r, bad', Y) ∧ StR rf' bad' no full) k (by omega) ?_ ?_ ⟨rfl, rfl, rfl, rfl, ⟨s, by omega, rfl⟩, fun c _ h => by rw [tb_0] at h; exact absurd h (by decide)⟩
  · rintro i ⟨x1, x2, x3⟩ ⟨y1, y2, y3, y4, y5⟩ hi ⟨p1, p2, p3, p4, ⟨X, hX, p5⟩, p6⟩
    dsimp only at p1 p2 p3 p4 p5 p6
    subst p1; subst p2; subst p3; subst p4; subst p5
    have hx := nxt_lt X
    have hcl : nxt X / 65536 % (v 0 * v 1) < v 0 * v 1 := Nat.mod_lt _ hn0
    have h9 : nxt X / 4096 % 9 < 9 := Nat.mod_lt _ (by decide)
    have e1 : lN (nxt X) / 65536 - lN (nxt X) / 65536 / lN (v 0 * v 1) * lN (v 0 * v 1) = lN (nxt X / 65536 % (v 0 * v 1)) := by
      rw [show (65536 : Int64) = lN 65536 from rfl, pk_lDiv (by omega) (by decide) (by decide), pk_lRem (by omega) hn0 (by omega)]
    have e2 : lN (nxt X) / 4096 - lN (nxt X) / 4096 / 9 * 9 = lN (nxt X / 4096 % 9) := by
      rw [show (4096 : Int64) = lN 4096 from rfl, show (9 : Int64) = lN 9 from rfl, pk_lDiv (by omega) (by decide) (by decide), pk_lRem (by omega) (by decide) (by decide)]
    have hnz : nzL (lN (v 0 * v 1)) = true := decide_eq_true (fun z => by
      have := (lN_eq (a := v 0 * v 1) (b := 0) (by omega) (by omega)).mp z
      omega)
    obtain ⟨r, r1, r2⟩ := ball_eq G hcl (ld := nxt X / 4096 % 9 + 1) (by omega) (by omega)
    obtain ⟨cm, td, s1, s2⟩ := mspread_eq (ms_thunder S.1 hwf ow ho bu) hwf.1 hwf.2.1 k3 (S.1 0 (by decide) (by decide)) (S.1 1 (by decide) (by decide)) y4 y5 hcl (ld := nxt X / 4096 % 9 + 1) (by omega) (by omega)
    have hp : ∀ c, c < v 0 * v 1 → (td c ≤ 0 ↔ ¬ ∃ j, j ≤ nxt X / 4096 % 9 + 1 - 1 ∧ wlk (v 0) (v 0 * v 1) (nxt X / 65536 % (v 0 * v 1)) j c) := fun c hc => by
      obtain ⟨L, l1, l2, l3⟩ := s2 c (by omega)
      rw [lev0 l2 l1 l3, prc_ball (by omega) (by omega)]
    obtain ⟨z, z1, z2⟩ := upSet_eq S.1 k3 hp x1
    have ez : z = x1 ||| r := by
      apply tb_ext
      intro c hc
      rw [Bool.eq_iff_iff, z2 c, tb_or, Bool.or_eq_true, r2 c hc]
      refine or_congr Iff.rfl ⟨fun q => q.2, fun q => ⟨?_, q⟩⟩
      obtain ⟨j, _, q2⟩ := q
      exact wlk_in hcl j c q2
    subst ez
    refine Or.inl ⟨(x1 ||| r, lN (nxt X), nI (i + 1)), (lN (nxt X), x1 ||| r, nI (i + 1), cm, td), ⟨rfl, rfl, rfl, rfl, ⟨_, hx, rfl⟩, fun c h64 hc => ?_⟩, fun rec => ?_, fun rec => ?_⟩
    · dsimp only at hc
      rcases (z2 c).mp hc with q | q
      · exact p6 c h64 q
      · exact q.1
    · unfold f_Ai_thunder_L53
      dsimp only
      rw [if_neg (nI_ge hi (by omega)), if_neg (show ¬ nI (v 0 * v 1) ≤ 0 from nI_ge (a := 0) hn0 (by omega)), nxt_eq hX, ltE, nI_l (by omega), gd_t hnz, e1, e2, lN_i, ltE, lN_1, ltE, jnE, r1, ltE, ltE, nI1]
    · unfold f_Mo_thunder_L48
      dsimp only
      rw [if_neg (nI_ge hi (by omega)), nxt_eq hX, ltE, bd_some (mCells_eq S.1), nI_l (by omega), gd_t hnz, e1, e2, lN_i, lN_i, nI1, bd_some s1]
      dsimp only
      rw [jnE, z1, ltE, nI1]
  · rintro ⟨x1, x2, x3⟩ ⟨y1, y2, y3, y4, y5⟩ ⟨p1, p2, p3, p4, ⟨X, hX, p5⟩, p6⟩ rec rec'
    dsimp only at p1 p2 p3 p4 p5 p6
    subst p1; subst p2; subst p3; subst p4; subst p5
    obtain ⟨r, r1, r2⟩ := pick_eq (x := x1) (fun c h64 hc => by have := p6 c h64 hc; omega) (-1)
    unfold f_Ai_pick at r1
    rw [if_pos rfl] at r1
    unfold f_Ai_thunder_L53 f_Mo_thunder_L48
    dsimp only
    rw [if_pos (nI_le (Nat.le_refl _) (by omega)), if_pos (nI_le (Nat.le_refl _) (by omega)), bd_some r2]
    rw [bd_some (jl_count x1)] at r1 ⊢
    exact ⟨_, _, _, _, rfl, by rw [← Option.some.inj r1], T⟩

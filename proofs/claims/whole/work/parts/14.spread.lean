/-! the class' step, spread, union -/
theorem step_eq {w n : Nat} {W : Int32} {ev fc lc : Int64} (G : Geo w n W ev fc lc) (may P : Nat → Int64) {x : Int64} (hx : ∀ c, c < 64 → tb x c = true → c < n) {l k : Nat} (hl : 1 ≤ l) (hl2 : l ≤ 20) (hk : k < 10) :
    ∃ r, f_Sd_step W ev fc lc 21 may P x (nI l) (nI k) = some r ∧ ∀ j, j < 21 → ∀ c, c < 64 → (tb (r j) c = true ↔ tb (P j) c = true ∨ (0 < j ∧ k ≠ 0 ∧ j + k = l ∧ tb (may j) c = true ∧ ∃ e, adj w n e c ∧ tb x e = true)) := by
  simp only [f_Sd_step]
  rw [ltE]
  by_cases h0 : x = 0
  · refine ⟨P, by rw [if_pos (lg0.mpr h0)], fun j hj c hc => ⟨Or.inl, ?_⟩⟩
    rintro (q | ⟨_, _, _, _, e, _, q⟩)
    · exact q
    · rw [h0, tb_0] at q; cases q
  · rw [if_neg (fun q => h0 (lg0.mp q))]
    rcases Nat.eq_zero_or_pos k with hk0 | hk0
    · subst hk0
      refine ⟨P, by rw [if_pos (by decide)], fun j hj c hc => ⟨Or.inl, ?_⟩⟩
      rintro (q | ⟨_, q, _⟩)
      · exact q
      · exact absurd rfl q
    · rw [if_neg (nI_nle hk0 (by omega))]
      rcases Nat.lt_or_ge k l with hkl | hkl
      · rw [pk_sub (Nat.le_of_lt hkl), if_neg (nI_nle (by omega) (by omega)), show Int32.ofNat 21 = nI 21 from rfl, if_neg (nI_ge (by omega) (by omega)), show (21 : Int32) = nI 21 from rfl, if_neg (nI_ge (by omega) (by omega)), gd_nI (by omega) (by omega)]
        obtain ⟨bs, hb1, hb2⟩ := beside_eq G hx
        rw [bd_some hb1, gd_nI (by omega) (by omega), gd_nI (by omega) (by omega), nI_clamp (by omega), ltE]
        refine ⟨_, rfl, fun j hj c hc => ?_⟩
        by_cases e : j = l - k
        · subst e
          rw [vpu_same, tb_or, tb_and, Bool.or_eq_true, Bool.and_eq_true, hb2 c hc]
          constructor
          · rintro (q | ⟨q1, q2⟩)
            · exact Or.inl q
            · exact Or.inr ⟨by omega, by omega, by omega, q2, q1⟩
          · rintro (q | ⟨_, _, _, q2, q1⟩)
            · exact Or.inl q
            · exact Or.inr ⟨q1, q2⟩
        · rw [vpu_ne e]
          refine ⟨Or.inl, ?_⟩
          rintro (q | ⟨_, _, q, _⟩)
          · exact q
          · omega
      · have hle : nI l - nI k ≤ 0 := by
          rcases Nat.eq_or_lt_of_le hkl with q | q
          · subst q
            rw [pk_sub (Nat.le_refl _), Nat.sub_self]
            decide
          · exact Int32.le_of_lt (pk_sneg (by omega) q)
        rw [if_pos hle]
        refine ⟨P, rfl, fun j hj c hc => ⟨Or.inl, ?_⟩⟩
        rintro (q | ⟨q1, _, q, _⟩)
        · exact q
        · omega
/-- what rows of bits say -/
def XO (P : Nat → Int64) : Nat → Nat → Prop := fun l c => 0 < l ∧ l < 21 ∧ c < 64 ∧ tb (P l) c = true
theorem spread_eq {w n : Nat} {W : Int32} {ev fc lc : Int64} (G : Geo w n W ev fc lc) {gr : Nat → Int64} {g : Nat → Nat} (hg : RS 3 n gr g) (may P : Nat → Int64) (hP : ∀ l c, XO P l c → c < n) {k1 k2 : Nat} (h1 : k1 < 10) (h2 : k2 < 10) :
    ∃ r, f_Sd_spread W ev fc lc 21 gr may P (nI k1) (nI k2) = some r ∧ ∀ l c, XO r l c ↔ prc w n (fun c => if g c = 1 then k2 else k1) (fun l c => tb (may l) c = true) 20 (XO P) l c := by
  have hn : n ≤ 36 := G.2.2.1
  simp only [f_Sd_spread]
  rw [ltE, ltE, show (1 : Int32).toNatClampNeg = 1 from by decide, show Int32.ofNat 21 - 1 = nI 20 from by decide]
  obtain ⟨⟨a, y⟩, rec, ⟨e, hin, hy⟩, hrun⟩ := lp_inv (f := f_Sd_spread_L17 W ev fc lc 21 may (nI k1) (nI k2) (gr 1))
    (fun i (y : Int32 × (Nat → Int64)) => y.1 = nI (20 - i) ∧ (∀ l c, XO y.2 l c → c < n) ∧ ∀ l c, prc w n (fun c => if g c = 1 then k2 else k1) (fun l c => tb (may l) c = true) (20 - i) (XO y.2) l c ↔ prc w n (fun c => if g c = 1 then k2 else k1) (fun l c => tb (may l) c = true) 20 (XO P) l c) 20 (by decide) (by
      rintro i ⟨a, y⟩ hi ⟨e, hin, hy⟩
      simp only at e hin hy
      subst e
      obtain ⟨u, hu⟩ : ∃ u, 20 - i = u + 1 := ⟨19 - i, by omega⟩
      have hu2 : 20 - (i + 1) = u := by omega
      rw [hu] at hy
      rw [hu, hu2]
      have hinu : ∀ c, c < 64 → tb (y (u + 1)) c = true → c < n := fun c hc h => hin (u + 1) c ⟨by omega, by omega, hc, h⟩
      by_cases hz : y (u + 1) = 0
      · refine ⟨(nI u, y), ⟨rfl, hin, fun l c => ?_⟩, fun rec => ?_⟩
        · rw [← hy l c]
          refine prc_congr u (fun l d => ⟨Or.inl, ?_⟩) l c
          rintro (q | ⟨_, _, c, _, q, _⟩)
          · exact q
          · have := q.2.2.2
            rw [hz, tb_0] at this
            cases this
        · simp only [f_Sd_spread_L17]
          rw [if_neg (nI_nle (by omega) (by omega)), gd_nI (by omega) (by omega), jnE, nI_clamp (by omega), if_pos (lg0.mpr hz)]
          dsimp only
          rw [ltE, pk_m1]
      · obtain ⟨r1, hr1, hr1b⟩ := step_eq G may y (x := y (u + 1) &&& (gr 1 ^^^ (-1))) (fun c hc h => hinu c hc (by rw [tb_and, Bool.and_eq_true] at h; exact h.1)) (l := u + 1) (k := k1) (by omega) (by omega) h1
        have hsame : ∀ c, c < 64 → (tb (r1 (u + 1)) c = true ↔ tb (y (u + 1)) c = true) := fun c hc => by
          rw [hr1b (u + 1) (by omega) c hc]
          exact ⟨fun q => q.resolve_right (fun q => by omega), Or.inl⟩
        obtain ⟨r2, hr2, hr2b⟩ := step_eq G may r1 (x := r1 (u + 1) &&& gr 1) (fun c hc h => hinu c hc ((hsame c hc).mp (by rw [tb_and, Bool.and_eq_true] at h; exact h.1))) (l := u + 1) (k := k2) (by omega) (by omega) h2
        have hst : ∀ l c, XO r2 l c ↔ stp w n (fun c => if g c = 1 then k2 else k1) (fun l c => tb (may l) c = true) (u + 1) (XO y) l c := by
          intro l c
          constructor
          · rintro ⟨q1, q2, q3, q4⟩
            rw [hr2b l q2 c q3, hr1b l q2 c q3] at q4
            rcases q4 with (q4 | ⟨z1, z2, z3, z4, e, z5, z6⟩) | ⟨z1, z2, z3, z4, e, z5, z6⟩
            · exact Or.inl ⟨q1, q2, q3, q4⟩
            · have he : e < 64 := by have := z5.1; omega
              rw [tb_and, Bool.and_eq_true, tb_not _ he] at z6
              have hne : ¬ g e = 1 := by
                intro q
                have := (hg.at (k := 1) (by decide) he).mpr ⟨z5.1, q⟩
                rw [this] at z6
                cases z6.2
              exact Or.inr ⟨z1, z4, e, z5, ⟨by omega, by omega, he, z6.1⟩, by simp only [if_neg hne]; exact z2, by simp only [if_neg hne]; exact z3⟩
            · have he : e < 64 := by have := z5.1; omega
              rw [tb_and, Bool.and_eq_true, hsame e he, hg.at (by decide) he] at z6
              exact Or.inr ⟨z1, z4, e, z5, ⟨by omega, by omega, he, z6.1⟩, by simp only [if_pos z6.2.2]; exact z2, by simp only [if_pos z6.2.2]; exact z3⟩
          · rintro (q | ⟨z1, z4, e, z5, z6, z2, z3⟩)
            · obtain ⟨q1, q2, q3, q4⟩ := q
              exact ⟨q1, q2, q3, by rw [hr2b l q2 c q3, hr1b l q2 c q3]; exact Or.inl (Or.inl q4)⟩
            · have hc : c < 64 := by have := z5.2.1; omega
              have he : e < 64 := z6.2.2.1
              have hl21 : l < 21 := by omega
              refine ⟨z1, hl21, hc, ?_⟩
              rw [hr2b l hl21 c hc, hr1b l hl21 c hc]
              by_cases hge : g e = 1
              · simp only [if_pos hge] at z2 z3
                refine Or.inr ⟨z1, z2, z3, z4, e, z5, ?_⟩
                rw [tb_and, Bool.and_eq_true, hsame e he, hg.at (by decide) he]
                exact ⟨z6.2.2.2, z5.1, hge⟩
              · simp only [if_neg hge] at z2 z3
                refine Or.inl (Or.inr ⟨z1, z2, z3, z4, e, z5, ?_⟩)
                rw [tb_and, Bool.and_eq_true, tb_not _ he]
                refine ⟨z6.2.2.2, ?_⟩
                have : ¬ tb (gr 1) e = true := fun q => hge ((hg.at (by decide) he).mp q).2
                simpa using this
        refine ⟨(nI u, r2), ⟨rfl, fun l c h => ?_, fun l c => ?_⟩, fun rec => ?_⟩
        · rcases (hst l c).mp h with q | ⟨_, _, e, q, _⟩
          · exact hin l c q
          · exact q.2.1
        · rw [← hy l c]
          exact prc_congr u hst l c
        · simp only [f_Sd_spread_L17]
          rw [if_neg (nI_nle (by omega) (by omega)), gd_nI (by omega) (by omega), jnE, nI_clamp (by omega), if_neg (fun q => hz (lg0.mp q)), gd_nI (by omega) (by omega), bd_some hr1, gd_nI (by omega) (by omega), bd_some hr2]
          dsimp only
          rw [ltE, pk_m1])
    (x0 := (nI 20, P)) ⟨rfl, hP, fun l c => Iff.rfl⟩
  simp only at e hin hy
  subst e
  refine ⟨y, ?_, hy⟩
  rw [hrun]
  simp only [f_Sd_spread_L17]
  rw [if_pos (by decide)]
theorem union_eq (P : Nat → Int64) : ∃ r, f_Sd_union 21 P = some r ∧ ∀ c, c < 64 → (tb r c = true ↔ ∃ l, XO P l c) := by
  obtain ⟨⟨y, a⟩, rec, ⟨e, hy⟩, hrun⟩ := lp_inv (f := f_Sd_union_L4 21 P) (fun i (y : Int64 × Int32) => y.2 = nI (i + 1) ∧ ∀ c, c < 64 → (tb y.1 c = true ↔ ∃ l, l < i + 1 ∧ XO P l c)) 20 (by decide) (by
      rintro i ⟨y, a⟩ hi ⟨e, hy⟩
      simp only at e hy
      subst e
      refine ⟨(y ||| P (i + 1), nI (i + 2)), ⟨rfl, fun c hc => ?_⟩, fun rec => ?_⟩
      · rw [tb_or, Bool.or_eq_true, hy c hc]
        constructor
        · rintro (⟨l, q1, q2⟩ | q)
          · exact ⟨l, by omega, q2⟩
          · exact ⟨i + 1, by omega, by omega, by omega, hc, q⟩
        · rintro ⟨l, q1, q2⟩
          by_cases e : l = i + 1
          · subst e
            exact Or.inr q2.2.2.2
          · exact Or.inl ⟨l, by omega, q2⟩
      · simp only [f_Sd_union_L4]
        rw [show Int32.ofNat 21 = nI 21 from rfl, if_neg (nI_ge (by omega) (by omega)), gd_nI (by omega) (by omega), nI_clamp (by omega), ltE, ltE, nI_1])
    (x0 := (0, 1)) ⟨rfl, fun c hc => by
      rw [tb_0]
      refine ⟨fun q => (by cases q), ?_⟩
      rintro ⟨l, q1, q2⟩
      have := q2.1
      omega⟩
  simp only at e hy
  subst e
  refine ⟨y, ?_, fun c hc => ?_⟩
  · unfold f_Sd_union
    rw [hrun]
    simp only [f_Sd_union_L4]
    rw [if_pos (by decide)]
  · rw [hy c hc]
    constructor
    · rintro ⟨l, _, q⟩; exact ⟨l, q⟩
    · rintro ⟨l, q⟩; exact ⟨l, by have := q.2.1; omega, q⟩

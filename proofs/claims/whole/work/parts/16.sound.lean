/-! the class' sound, whole: what is heard straight, what by echoes -/
/-- a cliff that gives back: heard there, not the maker's own cell -/
def giver (v : Nat → Nat) (hr g b fr m ld e : Nat) : Prop := e < v 0 * v 1 ∧ v (2 + e) = 2 ∧ e ≠ v (124 + 4 * m) ∧ ∃ l, snd v hr g b fr m ld l e
/-- what is heard by echoes of cliffs of a set, level by level -/
def echs (v : Nat → Nat) (hr g b fr m ld : Nat) (of : Nat → Prop) : Nat → Nat → Prop := fun l c => ∃ e, of e ∧ giver v hr g b fr m ld e ∧ ∃ L, 2 ≤ L ∧ top (snd v hr g b fr m ld) e L ∧ ech v hr g b m e (L / 2) l c
theorem snd_in {v : Nat → Nat} {hr g b fr m ld : Nat} (hl : 1 ≤ ld) (hc : v (124 + 4 * m) < v 0 * v 1) : ∀ l c, snd v hr g b fr m ld l c → c < v 0 * v 1 ∧ 0 < l ∧ l ≤ ld :=
  prc_in 20 (by rintro l c ⟨rfl, rfl⟩; exact ⟨hc, by omega, by omega⟩)
theorem top_iff {X Y : Nat → Nat → Prop} (h : ∀ l c, X l c ↔ Y l c) (c L : Nat) : top X c L ↔ top Y c L :=
  ⟨fun q => ⟨(h _ _).mp q.1, fun l hl => q.2 l ((h _ _).mpr hl)⟩, fun q => ⟨(h _ _).mpr q.1, fun l hl => q.2 l ((h _ _).mp hl)⟩⟩
/-- the echoes of one owner's cliffs, one over the other -/
theorem halfs_or {v : Nat → Nat} {hr g b m o : Nat} (X : Nat → Nat → Prop) (of : Nat → Prop) (hof : ∀ e, of e → v (38 + e) = o) (l c : Nat) :
    prc (v 0) (v 0 * v 1) (cst v 0) (mayE v hr g b m o) 20 (halfs X of) l c ↔ ∃ e, of e ∧ ∃ L, 2 ≤ L ∧ top X e L ∧ ech v hr g b m e (L / 2) l c := by
  have h1 : ∀ l c, halfs X of l c ↔ ∃ q : Nat × Nat, (fun l c => (of q.1 ∧ 2 ≤ q.2 ∧ top X q.1 q.2) ∧ l = q.2 / 2 ∧ c = q.1) l c := by
    intro l c
    constructor
    · rintro ⟨a, L, b1, b2, b3⟩
      exact ⟨(c, L), ⟨a, b1, b2⟩, b3, rfl⟩
    · rintro ⟨⟨e, L⟩, ⟨a, b1, b2⟩, b3, b4⟩
      simp only at a b1 b2 b3 b4
      subst b4
      exact ⟨a, L, b1, b2, b3⟩
  refine (prc_congr 20 h1 l c).trans ((prc_or 20 (fun (q : Nat × Nat) l c => (of q.1 ∧ 2 ≤ q.2 ∧ top X q.1 q.2) ∧ l = q.2 / 2 ∧ c = q.1) l c).trans ?_)
  have hemp : ∀ u l c, ¬ prc (v 0) (v 0 * v 1) (cst v 0) (mayE v hr g b m o) u (fun _ _ => False) l c := by
    intro u
    induction u with
    | zero => exact fun _ _ h => h
    | succ u ih =>
      intro l c h
      refine ih l c (prc_mono (fun _ _ h => h) u ?_ l c h)
      rintro l c (q | ⟨_, _, _, _, q, _⟩)
      · exact q
      · exact q
  constructor
  · rintro ⟨⟨e, L⟩, h⟩
    by_cases q : of e ∧ 2 ≤ L ∧ top X e L
    · refine ⟨e, q.1, L, q.2.1, q.2.2, ?_⟩
      unfold ech
      rw [hof e q.1]
      exact prc_mono (fun _ _ h => h) 20 (fun l c z => z.2) l c h
    · exact absurd (prc_mono (fun _ _ h => h) 20 (fun l c z => q z.1) l c h) (hemp 20 l c)
  · rintro ⟨e, a, L, b1, b2, h⟩
    refine ⟨(e, L), ?_⟩
    unfold ech at h
    rw [hof e a] at h
    exact prc_mono (fun _ _ h => h) 20 (fun l c z => ⟨⟨a, b1, b2⟩, z⟩) l c h
/-- what the class' cliffs are, once a sound is made -/
theorem cliffs_eq {v : Nat → Nat} {W : Int32} {ev fc lc : Int64} {MK LV : Int32} {gr ar : Nat → Int64} {ki ce se pa : Nat → Int32} (S : SW v W ev fc lc MK LV gr ar ki ce se pa) {m ld hr b g fr : Nat} (hm : m < v 122) (hl : 1 ≤ ld) {st : Int64} (hst : ∀ c, c < 64 → (tb st c = true ↔ ∃ l, snd v hr g b fr m ld l c)) :
    ∃ r, f_Sd_cliffs MK (nI m) st gr ce = some r ∧ ∀ c, c < 64 → (tb r c = true ↔ giver v hr g b fr m ld c) := by
  obtain ⟨hG, ⟨hmk, rfl, rfl, -⟩, hgr, hki⟩ := S
  obtain ⟨k1, k2, k3, k4⟩ := hki m hm
  have hn : v 0 * v 1 ≤ 36 := hG.2.2.1
  simp only [f_Sd_cliffs]
  rw [bd_some (place_eq ce hm hmk k3)]
  refine ⟨_, rfl, fun c hc => ?_⟩
  rw [show (2 : Int32).toNatClampNeg = 2 from by decide, tb_and, tb_and, tb_not _ hc, tb_one (by omega), Bool.and_eq_true, Bool.and_eq_true, hst c hc, hgr.at (by decide) hc]
  unfold giver
  constructor
  · rintro ⟨⟨z1, z2⟩, z3⟩
    refine ⟨z2.1, z2.2, ?_, z1⟩
    intro e
    rw [e] at z3
    simp at z3
  · rintro ⟨z1, z2, z3, z4⟩
    refine ⟨⟨z4, z1, z2⟩, ?_⟩
    simp [z3]
theorem make_eq {v : Nat → Nat} {W : Int32} {ev fc lc : Int64} {MK LV : Int32} {gr ar : Nat → Int64} {ki ce se pa : Nat → Int32} (S : SW v W ev fc lc MK LV gr ar ki ce se pa) {m ld hr b g : Nat} (hm : m < v 122) (hl : 1 ≤ ld) (hl2 : ld ≤ 20) (hhr : hr < 24) (hb : b < 64) (hg : g < 256) (may ways echo echoes : Nat → Int64) :
    ∃ may' ways' echo' echoes' st al, f_Sd_make W ev fc lc MK LV gr ar ki ce se pa may ways echo echoes (nI m) (nI ld) (nI hr) (nI b) (nI g) = some (nI m, nI ld, nI hr, nI b, nI g, may', ways', echo', echoes', st, al)
      ∧ (∀ l c, XO ways' l c ↔ snd v hr g b (kFree (v (123 + 4 * m))) m ld l c) ∧ (∀ l c, XO echoes' l c ↔ echs v hr g b (kFree (v (123 + 4 * m))) m ld (fun _ => True) l c)
      ∧ (∀ c, c < 64 → (tb st c = true ↔ ∃ l, snd v hr g b (kFree (v (123 + 4 * m))) m ld l c)) ∧ (∀ c, c < 64 → (tb al c = true ↔ (∃ l, snd v hr g b (kFree (v (123 + 4 * m))) m ld l c) ∨ ∃ l, echs v hr g b (kFree (v (123 + 4 * m))) m ld (fun _ => True) l c)) := by
  have hS0 := S
  obtain ⟨hG, hS, hgr, hki⟩ := S
  have hS' := hS
  obtain ⟨hmk, rfl, rfl, hse, hpa, hwf, hair, hRS⟩ := hS
  obtain ⟨k1, k2, k3, k4⟩ := hki m hm
  have hn : v 0 * v 1 ≤ 36 := hG.2.2.1
  simp only [f_Sd_make]
  rw [bd_some (kind_eq ki hm hmk), k1, bd_some (freeUpTo_eq k2)]
  have hfr : kFree (v (123 + 4 * m)) ≤ 20 := by
    unfold kFree
    by_cases q : v (123 + 4 * m) = 4
    · simp [q]
    · by_cases q2 : v (123 + 4 * m) = 5 <;> simp [q2]
      simp [q]
  have hfr0 : v (123 + 4 * m) = 5 → kFree (v (123 + 4 * m)) = 20 := fun q => by rw [q]; rfl
  generalize kFree (v (123 + 4 * m)) = fr at hfr hfr0 ⊢
  obtain ⟨may1, ways1, st, hgs, hw, hst⟩ := goStraight_eq hS0 (m := m) (ld := ld) (hr := hr) (b := b) (g := g) (fr := fr) hm hl hl2 hhr hb hg hfr hfr0 may ways
  rw [bd_some hgs]
  dsimp only
  rw [bd_some (fillJ_eq 21 (by decide) echoes 0), jnE]
  obtain ⟨of, hof, hofb⟩ := cliffs_eq hS0 (m := m) (ld := ld) (hr := hr) (b := b) (g := g) (fr := fr) hm hl hst
  have hwt : ∀ c L, top (XO ways1) c L ↔ top (snd v hr g b fr m ld) c L := fun c L => top_iff hw c L
  obtain ⟨⟨a, y1, y2, y3⟩, rec, ⟨e, hy⟩, hrun⟩ := lp_inv (f := f_Sd_make_L55 W ev fc lc (nI (v 122)) (nI (v 147)) gr ar ce se pa (nI m) (nI hr) (nI b) (nI g) ways1 st (fun (x : (Nat → Int64) × (Nat → Int64) × (Nat → Int64)) => match x with | (x11, x12, x13) => bd (f_Sd_union 21 x13) fun x14 => lt (st ||| x14) fun x16 => some (nI m, nI ld, nI hr, nI b, nI g, x11, ways1, x12, x13, st, x16)))
    (fun i (y : Int32 × (Nat → Int64) × (Nat → Int64) × (Nat → Int64)) => y.1 = nI i ∧ ∀ l c, XO y.2.2.2 l c ↔ echs v hr g b fr m ld (fun e => v (38 + e) < i) l c) 6 (by decide) (by
      rintro i ⟨a, y1, y2, y3⟩ hi ⟨e, hy⟩
      simp only at e hy
      subst e
      obtain ⟨may', echo', echoes', hgb, hgb2⟩ := giveBack_eq hS0 (m := m) (hr := hr) (b := b) (g := g) (o := i) hm hi hhr hb hg y1 ways1 y2 y3 (of := of &&& ar i) (fun c hc h => by
        rw [tb_and, Bool.and_eq_true, hofb c hc] at h
        exact h.1.1)
      refine ⟨(nI (i + 1), may', echo', echoes'), ⟨rfl, fun l c => ?_⟩, fun rec => ?_⟩
      · dsimp only
        rw [hgb2 l c, hy l c, halfs_or (o := i) (XO ways1) _ (fun e h => by
          have h2 := h.2
          rw [tb_and, Bool.and_eq_true, hRS.at hi h.1] at h2
          exact h2.2.2) l c]
        unfold echs
        constructor
        · rintro (⟨e, z1, z2⟩ | ⟨e, ⟨z1, z2⟩, L, z3, z4, z5⟩)
          · exact ⟨e, by omega, z2⟩
          · rw [tb_and, Bool.and_eq_true, hofb e z1, hRS.at hi z1] at z2
            exact ⟨e, by have := z2.2.2; omega, z2.1, L, z3, (hwt e L).mp z4, z5⟩
        · rintro ⟨e, z1, z2, L, z3, z4, z5⟩
          by_cases q : v (38 + e) = i
          · have he : e < 64 := by have := z2.1; omega
            refine Or.inr ⟨e, ⟨he, ?_⟩, L, z3, (hwt e L).mpr z4, z5⟩
            rw [tb_and, Bool.and_eq_true, hofb e he, hRS.at hi he]
            exact ⟨z2, z2.1, q⟩
          · exact Or.inl ⟨e, by omega, z2, L, z3, z4, z5⟩
      · simp only [f_Sd_make_L55]
        rw [show (6 : Int32) = nI 6 from rfl, if_neg (nI_ge hi (by decide)), bd_some hof, bd_some (airOf_eq ar hi), bd_some hgb]
        dsimp only
        rw [ltE, nI_add'])
    (x0 := (0, may1, echo, fun j => if j < 21 then 0 else echoes j)) ⟨rfl, fun l c => by
      dsimp only
      constructor
      · rintro ⟨q1, q2, q3, q4⟩
        simp only [if_pos q2] at q4
        rw [tb_0] at q4
        cases q4
      · rintro ⟨e, z1, _⟩
        omega⟩
  simp only at e hy
  subst e
  obtain ⟨un, hu1, hu2⟩ := union_eq y3
  have hy6 : ∀ l c, XO y3 l c ↔ echs v hr g b fr m ld (fun _ => True) l c := by
    intro l c
    rw [hy l c]
    constructor
    · rintro ⟨e, _, z⟩; exact ⟨e, trivial, z⟩
    · rintro ⟨e, _, z⟩; exact ⟨e, (hair e).resolve_right (by have := z.1.1; omega), z⟩
  refine ⟨y1, ways1, y2, y3, st, st ||| un, ?_, hw, hy6, hst, fun c hc => ?_⟩
  · rw [hrun]
    simp only [f_Sd_make_L55]
    rw [if_pos (by decide), bd_some hu1, ltE]
  · rw [tb_or, Bool.or_eq_true, hst c hc, hu2 c hc]
    exact or_congr Iff.rfl ⟨fun ⟨l, q⟩ => ⟨l, (hy6 l c).mp q⟩, fun ⟨l, q⟩ => ⟨l, (hy6 l c).mpr q⟩⟩

/-! what the reference lays -/
theorem lvl_or {X Y : Nat → Nat → Prop} {c A B : Nat} (hA : lvl X c A) (hB : lvl Y c B) : lvl (fun l c => X l c ∨ Y l c) c (if A ≥ B then A else B) := by
  rcases hA with ⟨a, b⟩ | ⟨a, b⟩ <;> rcases hB with ⟨a', b'⟩ | ⟨a', b'⟩
  · subst a; subst a'
    exact Or.inl ⟨rfl, fun l q => q.elim (b l) (b' l)⟩
  · subst a
    rw [if_neg (by omega)]
    exact Or.inr ⟨a', Or.inr b'.1, fun l q => q.elim (fun q => absurd q (b l)) (b'.2 l)⟩
  · subst a'
    rw [if_pos (by omega)]
    exact Or.inr ⟨a, Or.inl b.1, fun l q => q.elim (b.2 l) (fun q => absurd q (b' l))⟩
  · by_cases q : A ≥ B
    · rw [if_pos q]
      exact Or.inr ⟨a, Or.inl b.1, fun l z => z.elim (b.2 l) (fun z => by have := b'.2 l z; omega)⟩
    · rw [if_neg q]
      exact Or.inr ⟨a', Or.inr b'.1, fun l z => z.elim (fun z => by have := b.2 l z; omega) (b'.2 l)⟩
theorem row_mk {row : Nat → Int32} {v : Nat → Nat} (R : Rm row v) {m t : Nat} (hm : m < 6) (ht : t < 4) : row (123 + 4 * m + t) = nI (v (123 + 4 * m + t)) := R _ (by omega) (by omega)
theorem layDirect_eq {row : Nat → Int32} {v : Nat → Nat} (R : Rm row v) (W : WFv v) {gs : Int64} (hgs : gsOk v gs) {g b hr m ld : Nat} {fr bu : Int32} (hg : g < 256) (hb : b < 64) (hhr : hr < 24) (hm : m < v 122) (hbu : b = 0 ∨ bu = nI m) (hl : 1 ≤ ld) (hl2 : ld ≤ 20) (comes direct all tried : Nat → Int32) :
    ∃ comes' direct' all' tried', f_Mo_layDirect (nI b) (nI g) gs fr bu row comes direct all tried (nI m) (nI ld) (nI hr) = some (comes', direct', all', tried', nI (v (123 + 4 * m)), nI m, nI (v (125 + 4 * m)), nI hr) ∧ ∀ c, c < 36 → ∃ L, L ≤ 20 ∧ direct' c = nI L ∧ all' c = nI L ∧ lvl (snd v hr g b (if fr = 0 then kFree (v (123 + 4 * m)) else 20) m ld) c L := by
  have W0 := W
  obtain ⟨w1, w2, w3, w4, w5, w6, w7, w8, w9, w10⟩ := W
  have hk := w9 m hm
  have r0 := row_mk R (m := m) (t := 0) (by omega) (by decide)
  have r1 := row_mk R (m := m) (t := 1) (by omega) (by decide)
  have r2 := row_mk R (m := m) (t := 2) (by omega) (by decide)
  rw [Nat.add_zero] at r0
  have h0 : row 0 = nI (v 0) := R 0 (by decide) (by decide)
  have h1 : row 1 = nI (v 1) := R 1 (by decide) (by decide)
  obtain ⟨comes', tried', hs1, hs2⟩ := mspread_eq (ms_direct R W0 hgs (g := g) (b := b) (hr := hr) (m := m) (fr := fr) (bu := bu) hg hb hhr hm hbu) w1 w2 w5 h0 h1 comes tried (cell := v (124 + 4 * m)) (ld := ld) hk.2.1 hl hl2
  simp only [f_Mo_layDirect]
  rw [show (123 : Int32) + (4 : Int32) * nI m = nI (123 + 4 * m) from by rw [show (123 : Int32) = nI 123 from rfl, show (4 : Int32) = nI 4 from rfl, pk_mul, nI_add], gd_nI (by omega) (by decide), nI_clamp (by omega), r0, ltE, show (2 : Int32) = nI 2 from rfl, show (1 : Int32) = nI 1 from rfl, nI_add, nI_add, gd_nI (by omega) (by decide), nI_clamp (by omega), r2, ltE, gd_nI (by omega) (by decide), nI_clamp (by omega), r1, show 123 + 4 * m + 2 = 125 + 4 * m by omega, show 123 + 4 * m + 1 = 124 + 4 * m by omega, bd_some hs1]
  dsimp only
  obtain ⟨⟨a, y1, y2⟩, rec, ⟨e, hy⟩, hrun⟩ := lp_inv (f := f_Mo_layDirect_L63 (nI m) (nI hr) (nI (v (123 + 4 * m))) (nI (v (125 + 4 * m))) comes' tried') (fun i (y : Int32 × (Nat → Int32) × (Nat → Int32)) => y.1 = nI i ∧ ∀ c, c < i → y.2.1 c = tried' c ∧ y.2.2 c = tried' c) 36 (by decide) (by
    rintro i ⟨a, y1, y2⟩ hi ⟨e, hy⟩
    simp only at e hy
    subst e
    refine ⟨(nI (i + 1), upd y1 i (tried' i), upd y2 i (tried' i)), ⟨rfl, fun c hc => ?_⟩, fun rec => ?_⟩
    · dsimp only
      by_cases q : c = i
      · subst q; rw [upd_same, upd_same]; exact ⟨rfl, rfl⟩
      · rw [upd_ne q, upd_ne q]; exact hy c (by omega)
    · simp only [f_Mo_layDirect_L63]
      rw [show (36 : Int32) = nI 36 from rfl, if_neg (nI_ge hi (by omega)), gd_nI hi (by omega), gd_nI hi (by omega), nI_clamp (by omega), ltE, gd_nI hi (by omega), gd_nI hi (by omega), ltE, ltE, nI_add']) (x0 := (0, direct, all)) ⟨rfl, fun c hc => by omega⟩
  simp only at e hy
  subst e
  refine ⟨comes', y1, y2, tried', ?_, fun c hc => ?_⟩
  · rw [hrun]
    simp only [f_Mo_layDirect_L63]
    rw [if_pos (by decide)]
  · obtain ⟨L, q1, q2, q3⟩ := hs2 c hc
    exact ⟨L, q1, by rw [(hy c hc).1, q2], by rw [(hy c hc).2, q2], q3⟩
/-- all that is heard: straight, and by echoes of cliffs that stand -/
def hrd (v : Nat → Nat) (hr g b m ld : Nat) (gs : Int64) : Nat → Nat → Prop := fun l c => snd v hr g b (kFree (v (123 + 4 * m))) m ld l c ∨ echs v hr g b (kFree (v (123 + 4 * m))) m ld (fun e => ¬ tb gs e = true) l c
theorem lay_eq {row : Nat → Int32} {v : Nat → Nat} (R : Rm row v) (W : WFv v) {gs : Int64} (hgs : gsOk v gs) {g b hr m ld : Nat} {bu : Int32} (hg : g < 256) (hb : b < 64) (hhr : hr < 24) (hm : m < v 122) (hbu : b = 0 ∨ bu = nI m) (hl : 1 ≤ ld) (hl2 : ld ≤ 20) (comes direct all tried : Nat → Int32) :
    ∃ comes' direct' all' tried' ow', f_Mo_lay (nI b) (nI g) gs 0 bu row comes direct all tried (nI m) (nI ld) (nI hr) = some (comes', direct', all', tried', 0, -1, ow', nI hr) ∧ (∀ c, c < 36 → ∃ L, L ≤ 20 ∧ direct' c = nI L ∧ lvl (snd v hr g b (kFree (v (123 + 4 * m))) m ld) c L) ∧ ∀ c, c < 36 → ∃ L, L ≤ 20 ∧ all' c = nI L ∧ lvl (hrd v hr g b m ld gs) c L := by
  have W0 := W
  obtain ⟨w1, w2, w3, w4, w5, w6, w7, w8, w9, w10⟩ := W
  have hk := w9 m hm
  have r1 := row_mk R (m := m) (t := 1) (by omega) (by decide)
  have h0 : row 0 = nI (v 0) := R 0 (by decide) (by decide)
  have h1 : row 1 = nI (v 1) := R 1 (by decide) (by decide)
  have hcells : f_Mo_cells row = some (nI (v 0 * v 1)) := by
    unfold f_Mo_cells
    rw [show (0 : Int32).toNatClampNeg = 0 from by decide, show (1 : Int32).toNatClampNeg = 1 from by decide, h0, h1, pk_mul]
  have hcm : v (123 + 4 * m + 1) = v (124 + 4 * m) := by rw [show 123 + 4 * m + 1 = 124 + 4 * m by omega]
  have hk2 := hk.2.1
  have hne : ∀ i, i < 36 → i ≠ v (124 + 4 * m) → ¬ nI i = nI (v (123 + 4 * m + 1)) := fun i hi q z => q (by rw [hcm] at z; exact (nI_eq (by omega) (by omega)).mp z)
  obtain ⟨comes1, direct1, all1, tried1, hd1, hd2⟩ := layDirect_eq R W0 hgs (g := g) (b := b) (hr := hr) (m := m) (ld := ld) (fr := 0) (bu := bu) hg hb hhr hm hbu hl hl2 comes direct all tried
  rw [if_pos rfl] at hd2
  simp only [f_Mo_lay]
  rw [bd_some hd1]
  dsimp only
  generalize hfr : kFree (v (123 + 4 * m)) = fr at hd2 ⊢
  obtain ⟨⟨a, y1, y2, y3, y4⟩, rec, ⟨e, hy⟩, hrun⟩ := lp_inv (f := f_Mo_lay_L20 (nI b) (nI g) gs 0 bu row (nI m) direct1 (nI hr)) (fun i (y : Int32 × (Nat → Int32) × (Nat → Int32) × (Nat → Int32) × Int32) => y.1 = nI i ∧ ∀ c, c < 36 → ∃ L, L ≤ 20 ∧ y.2.2.1 c = nI L ∧ lvl (fun l c => snd v hr g b fr m ld l c ∨ echs v hr g b fr m ld (fun e => ¬ tb gs e = true ∧ e < i) l c) c L) (v 0 * v 1) (by omega) (by
    rintro i ⟨a, y1, y2, y3, y4⟩ hi ⟨e, hy⟩
    simp only at e hy
    subst e
    have hi36 : i < 36 := by omega
    obtain ⟨L, hL, hdL, -, hlv⟩ := hd2 i hi36
    by_cases hgive : grd v gs i = 2 ∧ i ≠ v (124 + 4 * m) ∧ 1 < L
    · obtain ⟨g1, g2, g3⟩ := hgive
      have hno : ¬ tb gs i = true ∧ v (2 + i) = 2 := by
        unfold grd at g1
        by_cases q : tb gs i = true
        · rw [if_pos q] at g1; omega
        · rw [if_neg q] at g1; exact ⟨q, g1⟩
      have htop : top (snd v hr g b fr m ld) i L := by
        rcases hlv with ⟨z, _⟩ | ⟨_, z⟩
        · omega
        · exact z
      have hai := (w6 i hi).2.1
      obtain ⟨comes', tried', hs1, hs2⟩ := mspread_eq (ms_echo R W0 hgs (g := g) (b := b) (hr := hr) (m := m) (o := v (38 + i)) (bu := bu) hg hb hhr hm hai hbu) w1 w2 w5 h0 h1 y1 y3 (cell := i) (ld := L / 2) hi (by omega) (by omega)
      -- the loudest of both
      obtain ⟨⟨a2, z⟩, ⟨e2, hz⟩, hrun2⟩ := lp_fam (f := fun (J : ((Nat → Int32) × (Nat → Int32) × (Nat → Int32) × Int32) → Option ((Nat → Int32) × (Nat → Int32) × (Nat → Int32) × (Nat → Int32) × Int32 × Int32 × Int32 × Int32)) => f_Mo_lay_L112 J (nI (v (38 + i))) comes' tried') (fun k (z : Int32 × (Nat → Int32)) => z.1 = nI k ∧ (∀ c, c < k → ∀ A B, A ≤ 20 → B ≤ 20 → y2 c = nI A → tried' c = nI B → z.2 c = nI (if A ≥ B then A else B)) ∧ ∀ c, k ≤ c → z.2 c = y2 c) 36 (by decide) (by
        rintro k ⟨a, z⟩ hk36 ⟨e, hz1, hz2⟩
        simp only at e hz1 hz2
        subst e
        obtain ⟨A, hA, hA1, _⟩ := hy k hk36
        obtain ⟨B, hB, hB1, _⟩ := hs2 k hk36
        refine ⟨(nI (k + 1), upd z k (nI (if A ≥ B then A else B))), ⟨rfl, fun c hc A' B' qa qb qa1 qb1 => ?_, fun c hc => ?_⟩, fun J rec => ?_⟩
        · dsimp only
          by_cases q : c = k
          · subst q
            rw [upd_same]
            have e1 : A' = A := (nI_eq (by omega) (by omega)).mp (qa1.symm.trans hA1)
            have e2 : B' = B := (nI_eq (by omega) (by omega)).mp (qb1.symm.trans hB1)
            rw [e1, e2]
          · rw [upd_ne q]
            exact hz1 c (by omega) A' B' qa qb qa1 qb1
        · dsimp only
          rw [upd_ne (by omega)]
          exact hz2 c (by omega)
        · simp only [f_Mo_lay_L112]
          rw [show (36 : Int32) = nI 36 from rfl, if_neg (nI_ge hk36 (by omega)), gd_nI hk36 (by omega), gd_nI hk36 (by omega), nI_clamp (by omega), jnE, hz2 k (Nat.le_refl _), hA1, hB1]
          by_cases q : A ≥ B
          · rw [if_pos (nI_le q (by omega)), gd_nI hk36 (by omega), if_pos q]
            dsimp only
            rw [gd_nI hk36 (by omega), ltE, ltE, nI_add']
          · rw [if_neg (nI_ge (by omega) (by omega)), gd_nI hk36 (by omega), if_neg q]
            dsimp only
            rw [gd_nI hk36 (by omega), ltE, ltE, nI_add']) (x0 := (0, y2)) ⟨rfl, fun c hc => by omega, fun c hc => rfl⟩
      simp only at e2 hz
      subst e2
      refine ⟨(nI (i + 1), comes', z, tried', nI (v (38 + i))), ⟨rfl, fun c hc => ?_⟩, fun rec => ?_⟩
      · dsimp only
        obtain ⟨A, hA, hA1, hA2⟩ := hy c hc
        obtain ⟨B, hB, hB1, hB2⟩ := hs2 c hc
        refine ⟨if A ≥ B then A else B, by split <;> omega, hz.1 c hc A B hA hB hA1 hB1, ?_⟩
        refine (lvl_iff (fun l c => ?_) c _).mp (lvl_or hA2 hB2)
        constructor
        · rintro ((q | ⟨e, q1, q2⟩) | q)
          · exact Or.inl q
          · exact Or.inr ⟨e, ⟨q1.1, by omega⟩, q2⟩
          · exact Or.inr ⟨i, ⟨hno.1, by omega⟩, ⟨hi, hno.2, g2, L, htop.1⟩, L, by omega, htop, q⟩
        · rintro (q | ⟨e, q1, q2, L', q3, q4, q5⟩)
          · exact Or.inl (Or.inl q)
          · by_cases q : e = i
            · subst q
              have : L' = L := by
                have h1 := q4.2 L htop.1
                have h2 := htop.2 L' q4.1
                omega
              subst this
              exact Or.inr q5
            · exact Or.inl (Or.inr ⟨e, ⟨q1.1, by omega⟩, q2, L', q3, q4, q5⟩)
      · simp only [f_Mo_lay_L20]
        rw [bd_some hcells, if_neg (nI_ge hi (by omega)), bd_some (groundOf_eq R gs hi36), g1, jnE, jnE, show (123 : Int32) + (4 : Int32) * nI m = nI (123 + 4 * m) from by rw [show (123 : Int32) = nI 123 from rfl, show (4 : Int32) = nI 4 from rfl, pk_mul, nI_add], if_pos (show nI 2 = (2 : Int32) from rfl), nI_add', gd_nI (by omega) (by decide), nI_clamp (n := 123 + 4 * m + 1) (by omega), r1, if_neg (hne i hi36 g2), gd_nI hi36 (by omega), nI_clamp (n := i) (by omega), hdL, show (1 : Int32) = nI 1 from rfl, if_neg (nI_ge g3 (by omega))]
        dsimp only
        rw [jnE, if_neg (by decide), show (38 : Int32) + nI i = nI (38 + i) from by rw [show (38 : Int32) = nI 38 from rfl, nI_add], gd_nI (by omega) (by decide), nI_clamp (n := 38 + i) (by omega), R (38 + i) (by omega) (by omega), ltE, gd_nI hi36 (by omega), show nI L / 2 = nI (L / 2) from pk_div (by omega) (by decide) (by decide), show -(nI 1) = (-1 : Int32) from rfl, bd_some hs1]
        dsimp only
        obtain ⟨rec2, h2⟩ := hrun2 (fun (x : (Nat → Int32) × (Nat → Int32) × (Nat → Int32) × Int32) => match x with | (x20, x21, x22, x23) => lt (nI i + nI 1) fun x24 => rec (x24, x20, x21, x22, x23))
        rw [h2]
        simp only [f_Mo_lay_L112]
        rw [if_pos (by decide), ltE, nI_add]
    · refine ⟨(nI (i + 1), y1, y2, y3, y4), ⟨rfl, fun c hc => ?_⟩, fun rec => ?_⟩
      · dsimp only
        obtain ⟨A, hA, hA1, hA2⟩ := hy c hc
        refine ⟨A, hA, hA1, (lvl_iff (fun l c => ?_) c A).mp hA2⟩
        refine or_congr Iff.rfl ?_
        constructor
        · rintro ⟨e, q1, q2⟩
          exact ⟨e, ⟨q1.1, by omega⟩, q2⟩
        · rintro ⟨e, q1, q2, L', q3, q4, q5⟩
          by_cases q : e = i
          · subst q
            exfalso
            apply hgive
            have hL' : L = L' := by
              rcases hlv with ⟨_, z⟩ | ⟨_, z⟩
              · exact absurd q4.1 (z _)
              · have h1 := q4.2 L z.1
                have h2 := z.2 L' q4.1
                omega
            refine ⟨?_, q2.2.2.1, by omega⟩
            unfold grd
            rw [if_neg q1.1]
            exact q2.2.1
          · exact ⟨e, ⟨q1.1, by omega⟩, q2, L', q3, q4, q5⟩
      · simp only [f_Mo_lay_L20]
        rw [bd_some hcells, if_neg (nI_ge hi (by omega)), bd_some (groundOf_eq R gs hi36), jnE, jnE, show (123 : Int32) + (4 : Int32) * nI m = nI (123 + 4 * m) from by rw [show (123 : Int32) = nI 123 from rfl, show (4 : Int32) = nI 4 from rfl, pk_mul, nI_add], nI_add', gd_nI (by omega) (by decide), nI_clamp (n := 123 + 4 * m + 1) (by omega), r1, gd_nI hi36 (by omega), nI_clamp (n := i) (by omega), hdL, show (1 : Int32) = nI 1 from rfl]
        have hnoth : ∀ (z : Int32), z = 0 → (jn (fun (x : (Nat → Int32) × (Nat → Int32) × (Nat → Int32) × Int32) => match x with | (x20, x21, x22, x23) => lt (nI i + nI 1) fun x24 => rec (x24, x20, x21, x22, x23)) fun J166 => if z = 0 then J166 (y1, y2, y3, y4) else J166 (y1, y2, y3, y4)) = rec (nI (i + 1), y1, y2, y3, y4) := by
          intro z hz
          rw [jnE, if_pos hz]
          dsimp only
          rw [ltE, nI_add]
        have hg2 : grd v gs i < 3 := by
          unfold grd
          by_cases q : tb gs i = true
          · rw [if_pos q]; decide
          · rw [if_neg q]; exact (w6 i hi).1
        by_cases c1 : grd v gs i = 2
        · rw [c1, if_pos (show nI 2 = (2 : Int32) from rfl)]
          by_cases c2 : i = v (124 + 4 * m)
          · rw [if_pos (by rw [hcm, ← c2])]
            dsimp only
            rw [jnE, if_pos rfl]
            dsimp only
            rw [ltE, nI_add]
          · have c3 : ¬ 1 < L := fun q => hgive ⟨c1, c2, q⟩
            rw [if_neg (hne i hi36 c2), if_pos (nI_le (by omega) (by omega))]
            dsimp only
            rw [jnE, if_pos rfl]
            dsimp only
            rw [ltE, nI_add]
        · rw [if_neg (show ¬ nI (grd v gs i) = (2 : Int32) from fun z => c1 ((nI_eq (b := 2) (by omega) (by omega)).mp z))]
          dsimp only
          rw [jnE, if_pos rfl]
          dsimp only
          rw [ltE, nI_add]) (x0 := (0, comes1, all1, tried1, nI (v (125 + 4 * m)))) ⟨rfl, fun c hc => by
      dsimp only
      obtain ⟨L, q1, q2, q3, q4⟩ := hd2 c hc
      refine ⟨L, q1, q3, (lvl_iff (fun l c => ?_) c L).mp q4⟩
      constructor
      · exact Or.inl
      · rintro (q | ⟨e, q, _⟩)
        · exact q
        · omega⟩
  simp only at e hy
  subst e
  refine ⟨y1, direct1, y2, y3, y4, ?_, fun c hc => ?_, fun c hc => ?_⟩
  · rw [hrun]
    simp only [f_Mo_lay_L20]
    rw [bd_some hcells, if_pos (nI_le (Nat.le_refl _) (by omega))]
  · obtain ⟨L, q1, q2, q3, q4⟩ := hd2 c hc
    exact ⟨L, q1, q2, q4⟩
  · obtain ⟨L, q1, q2, q3⟩ := hy c hc
    refine ⟨L, q1, q2, (lvl_iff (fun l c => ?_) c L).mp q3⟩
    unfold hrd
    rw [hfr]
    refine or_congr Iff.rfl ?_
    constructor
    · rintro ⟨e, z1, z2⟩; exact ⟨e, z1.1, z2⟩
    · rintro ⟨e, z1, z2⟩; exact ⟨e, ⟨z1, z2.1.1⟩, z2⟩

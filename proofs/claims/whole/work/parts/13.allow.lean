/-! where there is leave -/
/-- the leaves as they are told -/
def WFL (v : Nat → Nat) : Prop := v 147 ≤ 8 ∧ ∀ j, j < v 147 → v (148 + 5 * j) < v 122 ∧ v (149 + 5 * j) < 6 ∧ v (150 + 5 * j) ≤ v (151 + 5 * j) ∧ v (151 + 5 * j) < 24 ∧ 1 ≤ v (152 + 5 * j) ∧ v (152 + 5 * j) ≤ 20
/-- a leave of those who serve, in that hour, for so loud l, in the air of a -/
def LPv (v : Nat → Nat) (hr g : Nat) (sv : Nat → Prop) (l a : Nat) : Prop := ∃ j, j < v 147 ∧ sv j ∧ g.testBit j = false ∧ v (150 + 5 * j) ≤ hr ∧ hr ≤ v (151 + 5 * j) ∧ v (149 + 5 * j) = a ∧ l ≤ v (152 + 5 * j)
/-- what the class' sound sees of the valley -/
def SV (v : Nat → Nat) (MK LV : Int32) (ar : Nat → Int64) (se pa : Nat → Int32) : Prop := v 122 ≤ 6 ∧ MK = nI (v 122) ∧ LV = nI (v 147) ∧ (∀ i, i < v 122 → se i = nI (v (125 + 4 * i)) ∧ v (125 + 4 * i) < 6) ∧ (∀ j, j < 5 * v 147 → pa j = nI (v (148 + j))) ∧ WFL v ∧ (∀ c, v (38 + c) < 6 ∨ v 0 * v 1 ≤ c) ∧ RS 6 (v 0 * v 1) ar (fun c => v (38 + c))
theorem RS.at {K n : Nat} {rows : Nat → Int64} {g : Nat → Nat} (h : RS K n rows g) {k c : Nat} (hk : k < K) (hc : c < 64) : tb (rows k) c = true ↔ c < n ∧ g c = k := by rw [h k hk c hc]; simp
theorem vpu_same {f : Nat → Int64} {k : Nat} {x : Int64} : vp_updL f k x k = x := by simp [vp_updL]
theorem vpu_ne {f : Nat → Int64} {k j : Nat} {x : Int64} (h : j ≠ k) : vp_updL f k x j = f j := by simp [vp_updL, h]
set_option maxRecDepth 100000 in
theorem allow_eq {v : Nat → Nat} {MK LV : Int32} {ar : Nat → Int64} {se pa : Nat → Int32} (S : SV v MK LV ar se pa) {m o hr b g : Nat} (hm : m < v 122) (ho : o < 6) (hhr : hr < 24) (hb : b < 64) (hg : g < 256) (may : Nat → Int64) {p2 : Int32} {sv : Nat → Prop}
    (hsv : ∀ j, j < v 147 → ((p2 = -1 ∧ (sv j ↔ v (125 + 4 * v (148 + 5 * j)) = o)) ∨ (∃ q, q < 6 ∧ p2 = nI q ∧ (sv j ↔ v (148 + 5 * j) = q)))) :
    ∃ r, f_Sd_allow MK LV (nI m) (nI hr) (nI b) (nI g) ar se pa may (nI o) p2 = some r ∧ ∀ l, 1 ≤ l → l ≤ 20 → ∀ c, c < 64 → (tb (r l) c = true ↔ c < v 0 * v 1 ∧ (v (38 + c) = o ∨ (b.testBit (v (38 + c)) = true ∧ o = v (125 + 4 * m)) ∨ LPv v hr g sv l (v (38 + c)))) := by
  obtain ⟨hmk, rfl, rfl, hse, hpa, hwf, hair, hRS⟩ := S
  have ok : ∀ c, c < v 0 * v 1 → v (38 + c) < 6 := fun c hc => (hair c).resolve_right (by omega)
  simp only [f_Sd_allow, jn, lt]
  rw [bd_some (fillJ_eq 21 (by decide) may 0), bd_some (airOf_eq ar ho), show (20 : Int32).toNatClampNeg = 20 from by decide]
  -- the bought
  obtain ⟨⟨a1, y1⟩, rec1, ⟨e1, h20, hlo⟩, hrun1⟩ := lp_inv (f := f_Sd_allow_L25 (nI (v 122)) (nI m) (nI b) ar se (nI o) (fun x6 => lp (f_Sd_allow_L84 (nI (v 122)) (nI (v 147)) (nI hr) (nI g) ar se pa (nI o) p2 (fun x7 => lp f_Sd_allow_L247 FU (19, x7))) FU (0, x6)))
    (fun i (y : Int32 × (Nat → Int64)) => y.1 = nI i ∧ (∀ c, c < 64 → (tb (y.2 20) c = true ↔ c < v 0 * v 1 ∧ (v (38 + c) = o ∨ (v (38 + c) < i ∧ b.testBit (v (38 + c)) = true ∧ o = v (125 + 4 * m))))) ∧ ∀ l, l < 20 → y.2 l = 0) 6 (by decide) (by
      rintro i ⟨a, y⟩ hi ⟨e1, h20, hlo⟩
      simp only at e1 h20 hlo
      subst e1
      by_cases hbit : b.testBit i = true ∧ o = v (125 + 4 * m)
      · refine ⟨(nI (i + 1), vp_updL y 20 (y 20 ||| ar i)), ⟨rfl, fun c hc => ?_, fun l hl => ?_⟩, fun rec => ?_⟩
        · show tb (vp_updL y 20 (y 20 ||| ar i) 20) c = true ↔ _
          rw [vpu_same, tb_or, Bool.or_eq_true, h20 c hc, hRS.at hi hc]
          constructor
          · rintro (⟨z1, z2 | ⟨z2, z3⟩⟩ | ⟨z1, z2⟩)
            · exact ⟨z1, Or.inl z2⟩
            · exact ⟨z1, Or.inr ⟨by omega, z3⟩⟩
            · exact ⟨z1, Or.inr ⟨by omega, by rw [z2]; exact hbit.1, hbit.2⟩⟩
          · rintro ⟨z1, z2 | ⟨z2, z3⟩⟩
            · exact Or.inl ⟨z1, Or.inl z2⟩
            · by_cases e : v (38 + c) = i
              · exact Or.inr ⟨z1, e⟩
              · exact Or.inl ⟨z1, Or.inr ⟨by omega, z3⟩⟩
        · show vp_updL y 20 (y 20 ||| ar i) l = 0
          rw [vpu_ne (by omega), hlo l hl]
        · simp only [f_Sd_allow_L25, jn, lt]
          rw [show (6 : Int32) = nI 6 from rfl, if_neg (nI_ge hi (by omega)), if_neg (by rw [bit_eq (by omega) (by omega)]; simp [hbit.1]), bd_some (selfOf_eq se hm hmk), (hse m hm).1, ← hbit.2, if_pos rfl, gd_nI hi (by decide), nI_clamp (by omega), nI_1]
          rfl
      · refine ⟨(nI (i + 1), y), ⟨rfl, fun c hc => ?_, hlo⟩, fun rec => ?_⟩
        · rw [h20 c hc]
          constructor
          · rintro ⟨z1, z2 | ⟨z2, z3⟩⟩
            · exact ⟨z1, Or.inl z2⟩
            · exact ⟨z1, Or.inr ⟨by omega, z3⟩⟩
          · rintro ⟨z1, z2 | ⟨z2, z3, z4⟩⟩
            · exact ⟨z1, Or.inl z2⟩
            · refine ⟨z1, Or.inr ⟨?_, z3, z4⟩⟩
              by_cases e : v (38 + c) = i
              · exact absurd ⟨by rw [← e]; exact z3, z4⟩ hbit
              · omega
        · simp only [f_Sd_allow_L25, jn, lt]
          rw [show (6 : Int32) = nI 6 from rfl, if_neg (nI_ge hi (by omega))]
          by_cases h1 : b.testBit i = true
          · have h2 : ¬ o = v (125 + 4 * m) := fun e => hbit ⟨h1, e⟩
            rw [if_neg (by rw [bit_eq (by omega) (by omega)]; simp [h1]), bd_some (selfOf_eq se hm hmk), (hse m hm).1, if_neg (fun e => h2 ((nI_eq (by omega) (by have := (hse m hm).2; omega)).mp e)), nI_1]
          · rw [if_pos (by rw [bit_eq (by omega) (by omega)]; simpa using h1), nI_1])
    (x0 := (0, vp_updL (fun j => if j < 21 then 0 else may j) 20 (ar o))) (by
      refine ⟨rfl, fun c hc => ?_, fun l hl => ?_⟩
      · dsimp only
        rw [vpu_same, hRS.at ho hc]
        simp
      · dsimp only
        rw [vpu_ne (by omega)]
        simp [show l < 21 by omega])
  simp only at e1 h20 hlo
  subst e1
  rw [hrun1]
  simp only [f_Sd_allow_L25]
  rw [show (6 : Int32) = nI 6 from rfl, if_pos (nI_le (Nat.le_refl 6) (by decide))]
  -- the leaves
  obtain ⟨⟨a2, y2⟩, rec2, ⟨e2, hl2⟩, hrun2⟩ := lp_inv (f := f_Sd_allow_L84 (nI (v 122)) (nI (v 147)) (nI hr) (nI g) ar se pa (nI o) p2 (fun x7 => lp f_Sd_allow_L247 FU (19, x7)))
    (fun i (y : Int32 × (Nat → Int64)) => y.1 = nI i ∧ ∀ l, 1 ≤ l → l ≤ 20 → ∀ c, c < 64 → (tb (y.2 l) c = true ↔ tb (y1 l) c = true ∨ (c < v 0 * v 1 ∧ ∃ j, j < i ∧ sv j ∧ g.testBit j = false ∧ v (150 + 5 * j) ≤ hr ∧ hr ≤ v (151 + 5 * j) ∧ v (149 + 5 * j) = v (38 + c) ∧ l = v (152 + 5 * j)))) (v 147) (by have := hwf.1; omega) (by
      rintro i ⟨a, y⟩ hi ⟨e1, hy⟩
      simp only at e1 hy
      subst e1
      have h8 := hwf.1
      obtain ⟨w1, w2, w3, w4, w5, w6⟩ := hwf.2 i hi
      have p0 : pa (5 * i + 0) = nI (v (148 + 5 * i)) := hpa _ (by omega)
      have p1 : pa (5 * i + 1) = nI (v (149 + 5 * i)) := by rw [hpa _ (by omega)]; congr 2; omega
      have p2' : pa (5 * i + 2) = nI (v (150 + 5 * i)) := by rw [hpa _ (by omega)]; congr 2; omega
      have p3 : pa (5 * i + 3) = nI (v (151 + 5 * i)) := by rw [hpa _ (by omega)]; congr 2; omega
      have p4 : pa (5 * i + 4) = nI (v (152 + 5 * i)) := by rw [hpa _ (by omega)]; congr 2; omega
      -- what the leave's test comes to
      have hserve : ∃ z : Int32, (z = 1 ∨ z = 0) ∧ (z = 1 ↔ sv i) ∧ ∀ (K : Int32 → Option (Nat → Int64)), jn K (fun J => if p2 = (-1) then bd (f_Ld_selfOf (nI (v 122)) se (nI (v (148 + 5 * i)))) (fun x29 => if x29 = nI o then J 1 else J 0) else if nI (v (148 + 5 * i)) = p2 then J 1 else J 0) = K z := by
        rcases hsv i hi with ⟨hp, hs⟩ | ⟨q, hq, hp, hs⟩
        · by_cases e : v (125 + 4 * v (148 + 5 * i)) = o
          · refine ⟨1, Or.inl rfl, by simp [hs, e], fun K => ?_⟩
            rw [jnE, if_pos hp, bd_some (selfOf_eq se w1 hmk), (hse _ w1).1, e, if_pos rfl]
          · refine ⟨0, Or.inr rfl, by simp [hs, e], fun K => ?_⟩
            rw [jnE, if_pos hp, bd_some (selfOf_eq se w1 hmk), (hse _ w1).1, if_neg (fun z => e ((nI_eq (by have := (hse _ w1).2; omega) (by omega)).mp z))]
        · have hne : ¬ p2 = -1 := by
            rw [hp]
            intro z
            have := nI_pos (n := q) (by omega)
            rw [z] at this
            exact this (by decide)
          by_cases e : v (148 + 5 * i) = q
          · refine ⟨1, Or.inl rfl, by simp [hs, e], fun K => ?_⟩
            rw [jnE, if_neg hne, hp, e, if_pos rfl]
          · refine ⟨0, Or.inr rfl, by simp [hs, e], fun K => ?_⟩
            rw [jnE, if_neg hne, hp, if_neg (fun z => e ((nI_eq (by omega) (by omega)).mp z))]
      have hhold : ∃ z : Int32, (z = 1 ∨ z = 0) ∧ (z = 1 ↔ (g.testBit i = false ∧ v (150 + 5 * i) ≤ hr ∧ hr ≤ v (151 + 5 * i))) ∧ ∀ (K : Int32 → Option (Nat → Int64)), jn K (fun J187 => jn (fun (_ : Unit) => J187 0) fun J186 => if ((nI g >>> (nI i &&& 31)) &&& 1) = 0 then bd (f_Ld_isIn pa (nI i) (nI hr)) (fun x27 => if x27 = 0 then J186 () else J187 1) else J186 ()) = K z := by
        by_cases hb1 : g.testBit i = false
        · have hi2 := isIn_eq pa (j := i) (hr := hr) (by omega) p2' p3 (by omega) (by omega) (by omega)
          by_cases e : v (150 + 5 * i) ≤ hr ∧ hr ≤ v (151 + 5 * i)
          · refine ⟨1, Or.inl rfl, by simp [hb1, e], fun K => ?_⟩
            rw [jnE, jnE, if_pos ((bit_eq (by omega) (by omega)).mpr hb1), bd_some hi2, if_pos e, if_neg (by decide)]
          · refine ⟨0, Or.inr rfl, ⟨fun q => absurd q (by decide), fun q => absurd ⟨q.2.1, q.2.2⟩ e⟩, fun K => ?_⟩
            rw [jnE, jnE, if_pos ((bit_eq (by omega) (by omega)).mpr hb1), bd_some hi2, if_neg e, if_pos rfl]
        · refine ⟨0, Or.inr rfl, ⟨fun q => absurd q (by decide), fun q => absurd q.1 hb1⟩, fun K => ?_⟩
          rw [jnE, jnE, if_neg (fun z => hb1 ((bit_eq (by omega) (by omega)).mp z))]
      obtain ⟨z1, hz1, hs1, hr1⟩ := hserve
      obtain ⟨z2, hz2, hs2, hr2⟩ := hhold
      by_cases hgo : sv i ∧ g.testBit i = false ∧ v (150 + 5 * i) ≤ hr ∧ hr ≤ v (151 + 5 * i)
      · refine ⟨(nI (i + 1), vp_updL y (v (152 + 5 * i)) (y (v (152 + 5 * i)) ||| ar (v (149 + 5 * i)))), ⟨rfl, fun l l1 l2 c hc => ?_⟩, fun rec => ?_⟩
        · show tb (vp_updL y _ _ l) c = true ↔ _
          by_cases el : l = v (152 + 5 * i)
          · subst el
            rw [vpu_same, tb_or, Bool.or_eq_true, hy _ l1 l2 c hc, hRS.at w2 hc]
            constructor
            · rintro ((q | ⟨q1, j, q2, q3⟩) | ⟨q1, q2⟩)
              · exact Or.inl q
              · exact Or.inr ⟨q1, j, by omega, q3⟩
              · exact Or.inr ⟨q1, i, by omega, hgo.1, hgo.2.1, hgo.2.2.1, hgo.2.2.2, q2.symm, rfl⟩
            · rintro (q | ⟨q1, j, q2, q3⟩)
              · exact Or.inl (Or.inl q)
              · by_cases e : j = i
                · subst e
                  exact Or.inr ⟨q1, q3.2.2.2.2.1.symm⟩
                · exact Or.inl (Or.inr ⟨q1, j, by omega, q3⟩)
          · rw [vpu_ne el, hy _ l1 l2 c hc]
            constructor
            · rintro (q | ⟨q1, j, q2, q3⟩)
              · exact Or.inl q
              · exact Or.inr ⟨q1, j, by omega, q3⟩
            · rintro (q | ⟨q1, j, q2, q3⟩)
              · exact Or.inl q
              · by_cases e : j = i
                · subst e
                  exact absurd q3.2.2.2.2.2 el
                · exact Or.inr ⟨q1, j, by omega, q3⟩
        · simp only [f_Sd_allow_L84]
          rw [if_neg (nI_ge hi (by omega)), show (0 : Int32) = nI 0 from rfl, bd_some (part_eq pa (by omega)), p0, show (4 : Int32) = nI 4 from rfl, bd_some (part_eq pa (by omega)), p4]
          rw [show nI 0 = (0 : Int32) from rfl, hr1, hr2, hs1.mpr hgo.1, hs2.mpr hgo.2]
          rw [show (20 : Int32) = nI 20 from rfl, show (1 : Int32) = nI 1 from rfl]
          rw [jnE, if_neg (by decide), if_neg (by decide), if_neg (nI_nlt (by omega) (by omega)), if_neg (nI_nlt (by omega) (by omega)), gd_nI (by omega) (by omega), bd_some (part_eq pa (by omega)), p1, bd_some (airOf_eq ar w2), gd_nI (by omega) (by omega), nI_clamp (by omega), nI_add]
          rfl
      · refine ⟨(nI (i + 1), y), ⟨rfl, fun l l1 l2 c hc => ?_⟩, fun rec => ?_⟩
        · rw [hy _ l1 l2 c hc]
          constructor
          · rintro (q | ⟨q1, j, q2, q3⟩)
            · exact Or.inl q
            · exact Or.inr ⟨q1, j, by omega, q3⟩
          · rintro (q | ⟨q1, j, q2, q3⟩)
            · exact Or.inl q
            · by_cases e : j = i
              · subst e
                exact absurd ⟨q3.1, q3.2.1, q3.2.2.1, q3.2.2.2.1⟩ hgo
              · exact Or.inr ⟨q1, j, by omega, q3⟩
        · simp only [f_Sd_allow_L84]
          rw [if_neg (nI_ge hi (by omega)), show (0 : Int32) = nI 0 from rfl, bd_some (part_eq pa (by omega)), p0, show (4 : Int32) = nI 4 from rfl, bd_some (part_eq pa (by omega)), p4]
          rw [show nI 0 = (0 : Int32) from rfl, hr1, hr2]
          rw [jnE]
          have hno : z1 = 0 ∨ z2 = 0 := by
            rcases hz1 with h | h
            · rcases hz2 with h' | h'
              · exact absurd ⟨hs1.mp h, hs2.mp h'⟩ hgo
              · exact Or.inr h'
            · exact Or.inl h
          rcases hno with h | h
          · rw [if_pos h]
            show rec (nI i + 1, y) = _
            rw [nI_1]
          · rw [if_pos h]
            have : (if z1 = 0 then lt (nI i + 1) fun x21 => rec (x21, y) else lt (nI i + 1) fun x21 => rec (x21, y)) = rec (nI (i + 1), y) := by
              rw [ite_self]
              show rec (nI i + 1, y) = _
              rw [nI_1]
            exact this) (x0 := (0, y1)) (by
      refine ⟨rfl, fun l l1 l2 c hc => ?_⟩
      simp)
  simp only at e2 hl2
  subst e2
  rw [hrun2]
  simp only [f_Sd_allow_L84]
  rw [if_pos (nI_le (Nat.le_refl _) (by have := hwf.1; omega))]
  -- from the loudest down
  obtain ⟨⟨a3, y3⟩, rec3, ⟨e3, hl3⟩, hrun3⟩ := lp_inv (f := f_Sd_allow_L247)
    (fun i (y : Int32 × (Nat → Int64)) => y.1 = nI (19 - i) ∧ ∀ l, 1 ≤ l → l ≤ 20 → ∀ c, c < 64 → (tb (y.2 l) c = true ↔ (l ≤ 19 - i ∧ tb (y2 l) c = true) ∨ (19 - i < l ∧ ∃ u, l ≤ u ∧ u ≤ 20 ∧ tb (y2 u) c = true))) 19 (by decide) (by
      rintro i ⟨a, y⟩ hi ⟨e1, hy⟩
      simp only at e1 hy
      subst e1
      have hk : 19 - i = (19 - (i + 1)) + 1 := by omega
      refine ⟨(nI (19 - (i + 1)), vp_updL y (19 - i) (y (19 - i) ||| y (19 - i + 1))), ⟨rfl, fun l l1 l2 c hc => ?_⟩, fun rec => ?_⟩
      · show tb (vp_updL y _ _ l) c = true ↔ _
        by_cases el : l = 19 - i
        · subst el
          rw [vpu_same, tb_or, Bool.or_eq_true, hy _ l1 l2 c hc, hy (19 - i + 1) (by omega) (by omega) c hc]
          constructor
          · rintro ((⟨q1, q2⟩ | ⟨q1, q2⟩) | (⟨q1, q2⟩ | ⟨q1, u, q2, q3, q4⟩))
            · exact Or.inr ⟨by omega, 19 - i, by omega, by omega, q2⟩
            · omega
            · omega
            · exact Or.inr ⟨by omega, u, by omega, q3, q4⟩
          · rintro (⟨q1, q2⟩ | ⟨q1, u, q2, q3, q4⟩)
            · omega
            · by_cases e : u = 19 - i
              · subst e
                exact Or.inl (Or.inl ⟨by omega, q4⟩)
              · exact Or.inr (Or.inr ⟨by omega, u, by omega, q3, q4⟩)
        · rw [vpu_ne el, hy _ l1 l2 c hc]
          constructor
          · rintro (⟨q1, q2⟩ | ⟨q1, q2⟩)
            · exact Or.inl ⟨by omega, q2⟩
            · exact Or.inr ⟨by omega, q2⟩
          · rintro (⟨q1, q2⟩ | ⟨q1, q2⟩)
            · exact Or.inl ⟨by omega, q2⟩
            · exact Or.inr ⟨by omega, q2⟩
      · simp only [f_Sd_allow_L247]
        rw [if_neg (by rw [hk]; exact nI_nle (by omega) (by omega)), gd_nI (by omega) (by omega), nI_1, gd_nI (by omega) (by omega), gd_nI (by omega) (by omega), nI_clamp (by omega), nI_clamp (by omega)]
        rw [ltE, ltE, hk, pk_m1]) (x0 := (19, y2)) (by
      refine ⟨rfl, fun l l1 l2 c hc => ?_⟩
      constructor
      · intro q
        by_cases e : l ≤ 19
        · exact Or.inl ⟨by omega, q⟩
        · exact Or.inr ⟨by omega, l, Nat.le_refl _, l2, q⟩
      · rintro (⟨_, q⟩ | ⟨q1, u, q2, q3, q4⟩)
        · exact q
        · have : u = l := by omega
          rw [← this]; exact q4)
  simp only at e3 hl3
  subst e3
  refine ⟨y3, ?_, fun l l1 l2 c hc => ?_⟩
  · show lp f_Sd_allow_L247 FU (19, y2) = _
    rw [hrun3]
    simp only [f_Sd_allow_L247]
    rw [if_pos (by decide)]
  · rw [hl3 l l1 l2 c hc]
    constructor
    · rintro (⟨q, _⟩ | ⟨_, u, q1, q2, q3⟩)
      · omega
      · rw [hl2 u (by omega) q2 c hc] at q3
        rcases q3 with q3 | ⟨q3, j, r1, r2, r3, r4, r5, r6, r7⟩
        · by_cases e : u = 20
          · subst e
            rw [h20 c hc] at q3
            rcases q3 with ⟨z1, z2 | ⟨z2, z3⟩⟩
            · exact ⟨z1, Or.inl z2⟩
            · exact ⟨z1, Or.inr (Or.inl z3)⟩
          · rw [hlo u (by omega), tb_0] at q3
            cases q3
        · exact ⟨q3, Or.inr (Or.inr ⟨j, r1, r2, r3, r4, r5, r6, by omega⟩)⟩
    · rintro ⟨z1, z2⟩
      refine Or.inr ⟨by omega, ?_⟩
      rcases z2 with z2 | z2 | ⟨j, r1, r2, r3, r4, r5, r6, r7⟩
      · exact ⟨20, l2, Nat.le_refl _, (hl2 20 (by omega) (by omega) c hc).mpr (Or.inl ((h20 c hc).mpr ⟨z1, Or.inl z2⟩))⟩
      · exact ⟨20, l2, Nat.le_refl _, (hl2 20 (by omega) (by omega) c hc).mpr (Or.inl ((h20 c hc).mpr ⟨z1, Or.inr ⟨ok c z1, z2⟩⟩))⟩
      · obtain ⟨w1, w2, w3, w4, w5, w6⟩ := hwf.2 j r1
        exact ⟨v (152 + 5 * j), r7, w6, (hl2 _ (by omega) w6 c hc).mpr (Or.inr ⟨z1, j, r1, r2, r3, r4, r5, r6, rfl⟩)⟩

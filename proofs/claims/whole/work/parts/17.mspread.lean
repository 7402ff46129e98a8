/-! the reference's sounds -/
/-- the reference's row says the valley, the lets apart -/
def Rm (row : Nat → Int32) (v : Nat → Nat) : Prop := ∀ i, i < 517 → ¬ (116 ≤ i ∧ i < 122) → row i = nI (v i)
theorem lN_tb {n k : Nat} (hn : n < 2 ^ 31) (hk : k < 64) : tb (lN n) k = n.testBit k := by
  show (BitVec.ofNat 64 n).getLsbD k = _
  rw [BitVec.getLsbD_ofNat]
  simp [hk]
theorem mhas_eq (x : Int64) {k : Nat} (hk : k < 64) : f_Mo_has x (nI k) = some (if tb x k = true then 1 else 0) := by
  unfold f_Mo_has
  have e : ∀ k, k < 64 → (((nI k).toInt64 &&& 63).toBitVec.smod 64).toNat = k := by decide +kernel
  have o : ∀ j, tb 1 j = decide (j = 0) := by
    intro j
    simp only [tb]
    have : ((1 : Int64)).toBitVec = 1#64 := by decide
    rw [this]
    simp [BitVec.getLsbD_one]
  have s0 : tb (x >>> ((nI k).toInt64 &&& 63)) 0 = tb x k := by
    simp only [tb, Int64.toBitVec_shiftRight, e k hk, BitVec.sshiftRight_eq', BitVec.getLsbD_sshiftRight]
    simp [hk]
  have key : ((x >>> ((nI k).toInt64 &&& 63)) &&& 1 = 1) ↔ tb x k = true := by
    constructor
    · intro h
      have h2 : tb ((x >>> ((nI k).toInt64 &&& 63)) &&& 1) 0 = tb 1 0 := by rw [h]
      rw [tb_and, o, s0] at h2
      simpa using h2
    · intro h
      apply tb_ext
      intro c hc
      rw [tb_and, o]
      by_cases h0 : c = 0
      · subst h0; rw [s0, h]; rfl
      · simp [h0]
  by_cases h : tb x k = true
  · rw [if_pos h, if_pos (lg_eq.mpr (key.mpr h))]
  · rw [if_neg h, if_neg (fun q => h (key.mp (lg_eq.mp q)))]
theorem min_eq (a b c : Int64) : f_Mo_in a b c = some (if b ≤ a ∧ a ≤ c then 1 else 0) := by
  unfold f_Mo_in
  by_cases h1 : a < b
  · rw [if_pos (lg_lt.mpr h1), if_neg (fun q => absurd h1 (Int64.not_lt.mpr q.1))]
  · rw [if_neg (fun q => h1 (lg_lt.mp q))]
    by_cases h2 : c < a
    · rw [if_pos (lg_gt.mpr h2), if_neg (fun q => absurd h2 (Int64.not_lt.mpr q.2))]
    · rw [if_neg (fun q => h2 (lg_gt.mp q)), if_pos ⟨Int64.not_lt.mp h1, Int64.not_lt.mp h2⟩]
theorem min_nat {a b c : Nat} (ha : a < 2 ^ 31) (hb : b < 2 ^ 31) (hc : c < 2 ^ 31) : f_Mo_in (nI a).toInt64 (nI b).toInt64 (nI c).toInt64 = some (if b ≤ a ∧ a ≤ c then 1 else 0) := by
  rw [nI_l ha, nI_l hb, nI_l hc, min_eq]
  by_cases h : b ≤ a ∧ a ≤ c
  · rw [if_pos h, if_pos ⟨(lN_le hb ha).mpr h.1, (lN_le ha hc).mpr h.2⟩]
  · rw [if_neg h, if_neg (fun q => h ⟨(lN_le hb ha).mp q.1, (lN_le ha hc).mp q.2⟩)]
/-- a ground with some cliffs made grass -/
def grd (v : Nat → Nat) (gs : Int64) (c : Nat) : Nat := if tb gs c = true then 0 else v (2 + c)
theorem groundOf_eq {row : Nat → Int32} {v : Nat → Nat} (R : Rm row v) (gs : Int64) {c : Nat} (hc : c < 36) : f_Mo_groundOf gs row (nI c) = some (nI (grd v gs c)) := by
  unfold f_Mo_groundOf grd
  rw [bd_some (mhas_eq gs (by omega))]
  by_cases h : tb gs c = true
  · rw [if_pos h, if_pos h, if_neg (by decide)]; rfl
  · rw [if_neg h, if_neg h, if_pos rfl, show (2 : Int32) = nI 2 from rfl, nI_add, gd_nI (by omega) (by decide), nI_clamp (by omega), R (2 + c) (by omega) (by omega)]
theorem costFrom_eq {row : Nat → Int32} {v : Nat → Nat} (R : Rm row v) (gs : Int64) {c kd : Nat} (hc : c < 36) (hk : kd < 6) (hg : v (2 + c) < 3) : f_Mo_costFrom gs row (nI kd) (nI c) = some (if kCost kd (decide (grd v gs c = 1)) = 0 then -1 else nI (kCost kd (decide (grd v gs c = 1)))) := by
  unfold f_Mo_costFrom
  rw [bd_some (groundOf_eq R gs hc), jnE]
  have hg2 : grd v gs c < 3 := by
    unfold grd
    by_cases h : tb gs c = true <;> simp [h, hg]
  have hh : kd = 0 ∨ kd = 1 ∨ kd = 2 ∨ kd = 3 ∨ kd = 4 ∨ kd = 5 := by omega
  have h3 : grd v gs c = 0 ∨ grd v gs c = 1 ∨ grd v gs c = 2 := by omega
  rcases h3 with h3 | h3 | h3 <;> rw [h3] <;> rcases hh with rfl | rfl | rfl | rfl | rfl | rfl <;> rfl
/-- what the reference's cells heard are -/
def XM (comes : Nat → Int32) : Nat → Nat → Prop := fun l c => c < 36 ∧ 0 < l ∧ l < 21 ∧ ¬ comes (21 * c + l) = 0
theorem upd_same {f : Nat → Int32} {k : Nat} {x : Int32} : upd f k x k = x := by simp [upd]
theorem upd_ne {f : Nat → Int32} {k j : Nat} {x : Int32} (h : j ≠ k) : upd f k x j = f j := by simp [upd, h]
/-- the numbers of a sound at hand, and what they come to -/
def MS (bo go : Int32) (gs : Int64) (fr kd mk ow ho bu : Int32) (row : Nat → Int32) (n : Nat) (cost : Nat → Nat) (may : Nat → Nat → Prop) : Prop :=
  (∀ c, c < n → cost c ≤ 2 ∧ f_Mo_costFrom gs row kd (nI c) = some (if cost c = 0 then -1 else nI (cost c))) ∧ ∀ l c, 1 ≤ l → l ≤ 20 → c < n → ∃ z : Int32, f_Mo_mayCome bo go gs fr kd mk ow ho bu row (nI c) (nI l) = some z ∧ (z = 0 ↔ ¬ may l c)
theorem come_eq {bo go : Int32} {gs : Int64} {fr kd mk ow ho bu : Int32} {row : Nat → Int32} {n : Nat} {cost : Nat → Nat} {may : Nat → Nat → Prop} (S : MS bo go gs fr kd mk ow ho bu row n cost may) (hn : n ≤ 36) (comes : Nat → Int32) {d u k : Nat} (hd : d < n) (hu : u ≤ 20) (hk0 : 0 < k) (hk : k ≤ 2) :
    ∃ r, f_Mo_come bo go gs fr kd mk ow ho bu row comes (nI d) (nI u - nI k) = some r ∧ ∀ l c, XM r l c ↔ XM comes l c ∨ (c = d ∧ l + k = u ∧ 0 < l ∧ may l d) := by
  unfold f_Mo_come
  rcases Nat.lt_or_ge k u with q | q
  · obtain ⟨l, hl⟩ : ∃ l, u = l + k := ⟨u - k, by omega⟩
    have hl0 : 0 < l := by omega
    rw [pk_sub (Nat.le_of_lt q), show u - k = l by omega, if_neg (nI_nle hl0 (by omega)), show (21 : Int32) = nI 21 from rfl, pk_mul, nI_add, gd_nI (by omega) (by decide), nI_clamp (by omega)]
    by_cases hz : comes (21 * d + l) = 0
    · rw [if_pos hz]
      obtain ⟨z, hz1, hz2⟩ := S.2 l d hl0 (by omega) hd
      rw [bd_some hz1]
      by_cases hm : z = 0
      · rw [if_pos hm]
        refine ⟨comes, rfl, fun l' c => ⟨Or.inl, ?_⟩⟩
        rintro (q | ⟨rfl, q2, q3, q4⟩)
        · exact q
        · have : l' = l := by omega
          subst this
          exact absurd q4 (hz2.mp hm)
      · rw [if_neg hm, gd_nI (by omega) (by decide), ltE]
        refine ⟨_, rfl, fun l' c => ?_⟩
        have hmay : may l d := Classical.byContradiction fun q => hm (hz2.mpr q)
        unfold XM
        by_cases e : c = d ∧ l' = l
        · obtain ⟨rfl, rfl⟩ := e
          rw [upd_same]
          exact ⟨fun _ => Or.inr ⟨rfl, by omega, hl0, hmay⟩, fun _ => ⟨by omega, hl0, by omega, by decide⟩⟩
        · by_cases e2 : c < 36 ∧ 0 < l' ∧ l' < 21
          · rw [upd_ne (by omega)]
            constructor
            · exact Or.inl
            · rintro (q | ⟨q1, q2, _⟩)
              · exact q
              · exact absurd ⟨q1, by omega⟩ e
          · constructor
            · rintro ⟨a, b, c', _⟩
              exact absurd ⟨a, b, c'⟩ e2
            · rintro (⟨a, b, c', _⟩ | ⟨q1, q2, _⟩)
              · exact absurd ⟨a, b, c'⟩ e2
              · exact absurd ⟨q1, by omega⟩ e
    · rw [if_neg hz]
      refine ⟨comes, rfl, fun l' c => ⟨Or.inl, ?_⟩⟩
      rintro (q | ⟨rfl, q2, q3, q4⟩)
      · exact q
      · have : l' = l := by omega
        subst this
        exact ⟨by omega, q3, by omega, hz⟩
  · have hle : nI u - nI k ≤ 0 := by
      rcases Nat.eq_or_lt_of_le q with q | q
      · subst q
        rw [pk_sub (Nat.le_refl _), Nat.sub_self]
        decide
      · exact Int32.le_of_lt (pk_sneg (by omega) q)
    rw [if_pos hle]
    refine ⟨comes, rfl, fun l' c => ⟨Or.inl, ?_⟩⟩
    rintro (q | ⟨rfl, q2, q3, q4⟩)
    · exact q
    · omega
theorem row_next {w h e : Nat} (he : e < w * h) (hw : e % w + 1 < w) : e + 1 < w * h ∧ (e + 1) % w ≠ 0 := by
  have h1 := Nat.div_add_mod e w
  have h2 : e / w < h := by
    rw [Nat.div_lt_iff_lt_mul (by omega), Nat.mul_comm]
    exact he
  have h3 : w * (e / w + 1) ≤ w * h := Nat.mul_le_mul_left w h2
  rw [Nat.mul_add, Nat.mul_one] at h3
  refine ⟨by omega, ?_⟩
  rw [Nat.add_mod, Nat.mod_eq_of_lt (show 1 < w by omega), Nat.mod_eq_of_lt hw]
  omega
theorem row_end {w e : Nat} (hw0 : 1 ≤ w) (hw : ¬ e % w + 1 < w) : (e + 1) % w = 0 := by
  have h1 : e % w < w := Nat.mod_lt _ hw0
  have h2 : e % w = w - 1 := by omega
  rw [Nat.add_mod, h2]
  rcases Nat.lt_or_ge 1 w with q | q
  · rw [Nat.mod_eq_of_lt q, show w - 1 + 1 = w by omega, Nat.mod_self]
  · have : w = 1 := by omega
    subst this
    rfl
/-- one cell gives to those beside it -/
theorem cell_eq {bo go : Int32} {gs : Int64} {fr kd mk ow ho bu : Int32} {row : Nat → Int32} {w h : Nat} {cost : Nat → Nat} {may : Nat → Nat → Prop} (S : MS bo go gs fr kd mk ow ho bu row (w * h) cost may) (hw : 1 ≤ w) (hw6 : w ≤ 6) (hn : w * h ≤ 36) (hr0 : row 0 = nI w) (hr1 : row 1 = nI h) (comes : Nat → Int32) {e u : Nat} (he : e < w * h) (hu : 1 ≤ u) (hu2 : u ≤ 20) :
    ∃ r, (∀ J189 rec, f_Mo_spread_L52 bo go gs fr kd mk ow ho bu row (nI w) (nI u) J189 rec (nI e, comes) = rec (nI (e + 1), r)) ∧ ∀ l d, XM r l d ↔ XM comes l d ∨ (0 < l ∧ may l d ∧ adj w (w * h) e d ∧ XM comes u e ∧ cost e ≠ 0 ∧ l + cost e = u) := by
  have hcells : f_Mo_cells row = some (nI (w * h)) := by
    unfold f_Mo_cells
    rw [show (0 : Int32).toNatClampNeg = 0 from by decide, show (1 : Int32).toNatClampNeg = 1 from by decide, hr0, hr1, pk_mul]
  obtain ⟨hc2, hcost⟩ := S.1 e he
  have hme := Nat.mod_le e w
  have hmw : e % w < w := Nat.mod_lt _ hw
  have hstart : ∀ J189 rec, f_Mo_spread_L52 bo go gs fr kd mk ow ho bu row (nI w) (nI u) J189 rec (nI e, comes) = _ := fun J189 rec => by
    simp only [f_Mo_spread_L52]
    rw [bd_some hcells, if_neg (nI_ge he (by omega)), bd_some hcost, show (21 : Int32) = nI 21 from rfl, pk_mul, nI_add, gd_nI (by omega) (by decide), nI_clamp (by omega), jnE]
  by_cases hX : comes (21 * e + u) = 0
  · refine ⟨comes, fun J189 rec => ?_, fun l d => ⟨Or.inl, ?_⟩⟩
    · rw [hstart J189 rec, if_pos hX]
      dsimp only
      rw [ltE, nI_add']
    · rintro (q | ⟨_, _, _, q, _⟩)
      · exact q
      · exact absurd hX q.2.2.2
  · have hXM : XM comes u e := ⟨by omega, by omega, by omega, hX⟩
    rcases Nat.eq_zero_or_pos (cost e) with hk | hk
    · refine ⟨comes, fun J189 rec => ?_, fun l d => ⟨Or.inl, ?_⟩⟩
      · rw [hstart J189 rec, if_neg hX, if_pos hk, if_pos rfl]
        dsimp only
        rw [ltE, nI_add']
      · rintro (q | ⟨_, _, _, _, q, _⟩)
        · exact q
        · exact absurd hk q
    · have hk0 : ¬ cost e = 0 := by omega
      have hne1 : ¬ nI (cost e) = -1 := by
        intro z
        have := nI_pos (n := cost e) (by omega)
        rw [z] at this
        exact this (by decide)
      -- the four sides
      have side : ∀ (C : Prop) [Decidable C] (d0 : Nat) (Y : Nat → Int32), (C → d0 < w * h) → ∃ r, (∀ J : (Nat → Int32) → Option ((Nat → Int32) × (Nat → Int32)), (if C then bd (f_Mo_come bo go gs fr kd mk ow ho bu row Y (nI d0) (nI u - nI (cost e))) (fun x => J x) else J Y) = J r) ∧ ∀ l d, XM r l d ↔ XM Y l d ∨ (C ∧ d = d0 ∧ l + cost e = u ∧ 0 < l ∧ may l d0) := by
        intro C _ d0 Y hC
        by_cases c : C
        · obtain ⟨r, h1, h2⟩ := come_eq S hn Y (d := d0) (u := u) (k := cost e) (hC c) hu2 hk hc2
          refine ⟨r, fun J => ?_, fun l d => ?_⟩
          · rw [if_pos c, bd_some h1]
          · rw [h2 l d]
            simp [c]
        · refine ⟨Y, fun J => by rw [if_neg c], fun l d => ?_⟩
          simp [c]
      obtain ⟨r1, s1, t1⟩ := side (0 < e % w) (e - 1) comes (fun _ => by omega)
      obtain ⟨r2, s2, t2⟩ := side (e % w + 1 < w) (e + 1) r1 (fun q => (row_next he q).1)
      obtain ⟨r3, s3, t3⟩ := side (w ≤ e) (e - w) r2 (fun _ => by omega)
      obtain ⟨r4, s4, t4⟩ := side (e + w < w * h) (e + w) r3 (fun q => q)
      refine ⟨r4, fun J189 rec => ?_, fun l d => ?_⟩
      · rw [hstart J189 rec, if_neg hX, if_neg hk0, if_neg hne1, gd_t (by simp only [nz]; exact decide_eq_true (nI_ne0 (by omega) (by omega))), ltE, pk_rem (by omega) (by omega) (by omega)]
        have L1 : ∀ K : (Nat → Int32) → Option ((Nat → Int32) × (Nat → Int32)), (jn K fun J119 => if nI (e % w) ≤ 0 then J119 comes else bd (f_Mo_come bo go gs fr kd mk ow ho bu row comes (nI e - 1) (nI u - nI (cost e))) fun x39 => J119 x39) = K r1 := by
          intro K
          rw [← s1 K, jnE]
          by_cases c : 0 < e % w
          · rw [if_pos c, if_neg (nI_nle c (by omega)), show nI e - 1 = nI (e - 1) from by rw [show (1 : Int32) = nI 1 from rfl, pk_sub (by omega)]]
          · rw [if_neg c, if_pos (by rw [show e % w = 0 by omega]; decide)]
        have L2 : ∀ K : (Nat → Int32) → Option ((Nat → Int32) × (Nat → Int32)), (jn K fun J140 => if (nI w - 1) ≤ nI (e % w) then J140 r1 else bd (f_Mo_come bo go gs fr kd mk ow ho bu row r1 (nI e + 1) (nI u - nI (cost e))) fun x37 => J140 x37) = K r2 := by
          intro K
          rw [← s2 K, jnE, show nI w - 1 = nI (w - 1) from by rw [show (1 : Int32) = nI 1 from rfl, pk_sub (by omega)], nI_add']
          by_cases c : e % w + 1 < w
          · rw [if_pos c, if_neg (nI_ge (by omega) (by omega))]
          · rw [if_neg c, if_pos (nI_le (by omega) (by omega))]
        have L3 : ∀ K : (Nat → Int32) → Option ((Nat → Int32) × (Nat → Int32)), (jn K fun J159 => if nI e < nI w then J159 r2 else bd (f_Mo_come bo go gs fr kd mk ow ho bu row r2 (nI e - nI w) (nI u - nI (cost e))) fun x35 => J159 x35) = K r3 := by
          intro K
          rw [← s3 K, jnE]
          by_cases c : w ≤ e
          · rw [if_pos c, if_neg (nI_nlt c (by omega)), pk_sub c]
          · rw [if_neg c, if_pos (nI_lt (by omega) (by omega))]
        have L4 : (if nI (w * h) ≤ nI e + nI w then rec (nI (e + 1), r3) else bd (f_Mo_come bo go gs fr kd mk ow ho bu row r3 (nI e + nI w) (nI u - nI (cost e))) fun x33 => rec (nI (e + 1), x33)) = rec (nI (e + 1), r4) := by
          rw [← s4 (fun x => rec (nI (e + 1), x)), nI_add]
          by_cases c : e + w < w * h
          · rw [if_pos c, if_neg (nI_ge c (by omega))]
          · rw [if_neg c, if_pos (nI_le (by omega) (by omega))]
        rw [L1, L2, L3, bd_some hcells]
        simp only [lt, nI_add']
        exact L4
      · rw [t4 l d, t3 l d, t2 l d, t1 l d]
        unfold adj
        constructor
        · rintro ((((q | ⟨c1, rfl, q2, q3, q4⟩) | ⟨c1, rfl, q2, q3, q4⟩) | ⟨c1, rfl, q2, q3, q4⟩) | ⟨c1, rfl, q2, q3, q4⟩)
          · exact Or.inl q
          · exact Or.inr ⟨q3, q4, ⟨he, by omega, Or.inr (Or.inl ⟨by omega, by omega⟩)⟩, hXM, hk0, q2⟩
          · exact Or.inr ⟨q3, q4, ⟨he, (row_next he c1).1, Or.inl ⟨rfl, (row_next he c1).2⟩⟩, hXM, hk0, q2⟩
          · exact Or.inr ⟨q3, q4, ⟨he, by omega, Or.inr (Or.inr (Or.inr (by omega)))⟩, hXM, hk0, q2⟩
          · exact Or.inr ⟨q3, q4, ⟨he, c1, Or.inr (Or.inr (Or.inl rfl))⟩, hXM, hk0, q2⟩
        · rintro (q | ⟨q3, q4, ⟨_, hd, a⟩, _, _, q2⟩)
          · exact Or.inl (Or.inl (Or.inl (Or.inl q)))
          · rcases a with ⟨rfl, a2⟩ | ⟨a1, a2⟩ | rfl | a
            · refine Or.inl (Or.inl (Or.inr ⟨?_, rfl, q2, q3, q4⟩))
              exact Classical.byContradiction fun z => a2 (row_end hw z)
            · have : d = e - 1 := by omega
              subst this
              exact Or.inl (Or.inl (Or.inl (Or.inr ⟨by omega, rfl, q2, q3, q4⟩)))
            · exact Or.inr ⟨hd, rfl, q2, q3, q4⟩
            · have : d = e - w := by omega
              subst this
              exact Or.inl (Or.inr ⟨by omega, rfl, q2, q3, q4⟩)

/-! all still: what leaves taken back do to sounds -/
def inQ (v : Nat → Nat) (hr j : Nat) : Prop := j < v 147 ∧ v (150 + 5 * j) ≤ hr ∧ hr ≤ v (151 + 5 * j)
theorem LPv_cg {v : Nat → Nat} {hr g g' : Nat} (h : ∀ j, inQ v hr j → g.testBit j = g'.testBit j) : LPv v hr g = LPv v hr g' := by
  funext sv l a
  apply propext
  unfold LPv
  constructor
  · rintro ⟨j, h1, h2, h3, h4, h5, h6⟩
    exact ⟨j, h1, h2, by rw [← h j ⟨h1, h4, h5⟩]; exact h3, h4, h5, h6⟩
  · rintro ⟨j, h1, h2, h3, h4, h5, h6⟩
    exact ⟨j, h1, h2, by rw [h j ⟨h1, h4, h5⟩]; exact h3, h4, h5, h6⟩
theorem mayD_cg {v : Nat → Nat} {hr g g' : Nat} (h : LPv v hr g = LPv v hr g') (b fr m : Nat) : mayD v hr g b fr m = mayD v hr g' b fr m := by
  funext l c
  unfold mayD
  rw [h]
theorem mayE_cg {v : Nat → Nat} {hr g g' : Nat} (h : LPv v hr g = LPv v hr g') (b m o : Nat) : mayE v hr g b m o = mayE v hr g' b m o := by
  funext l c
  unfold mayE
  rw [h]
theorem snd_cg {v : Nat → Nat} {hr g g' : Nat} (h : LPv v hr g = LPv v hr g') (b fr m ld : Nat) : snd v hr g b fr m ld = snd v hr g' b fr m ld := by
  unfold snd
  rw [mayD_cg h]
theorem ech_cg {v : Nat → Nat} {hr g g' : Nat} (h : LPv v hr g = LPv v hr g') (b m c0 l0 : Nat) : ech v hr g b m c0 l0 = ech v hr g' b m c0 l0 := by
  unfold ech
  rw [mayE_cg h]
theorem hrd_cg {v : Nat → Nat} {hr g g' : Nat} (h : LPv v hr g = LPv v hr g') (b m ld : Nat) (gs : Int64) : hrd v hr g b m ld gs = hrd v hr g' b m ld gs := by
  funext l c
  unfold hrd echs giver
  rw [snd_cg h]
  simp only [ech_cg h]
theorem prc_shift {w n : Nat} {cost : Nat → Nat} {ok : Nat → Prop} {k : Nat} : ∀ (u : Nat) {X Y : Nat → Nat → Prop}, (∀ l d, X l d → Y (l + k) d) → ∀ l d, prc w n cost (fun _ c => ok c) u X l d → prc w n cost (fun _ c => ok c) (u + k) Y (l + k) d
  | 0, _, _, h, l, d, q => prc_sub _ (h l d q)
  | u + 1, X, Y, h, l, d, q => by
    rw [show u + 1 + k = (u + k) + 1 from by omega]
    refine prc_shift (k := k) u (X := stp w n cost (fun _ c => ok c) (u + 1) X) (Y := stp w n cost (fun _ c => ok c) (u + k + 1) Y) ?_ l d q
    rintro l d (z | ⟨a, b, c, d1, d2, d3, d4⟩)
    · exact Or.inl (h l d z)
    · refine Or.inr ⟨by omega, b, c, d1, ?_, d3, by omega⟩
      have := h (u + 1) c d2
      rw [show u + 1 + k = u + k + 1 from by omega] at this
      exact this
theorem max_of {p : Nat → Prop} : ∀ (K : Nat), (∀ l, p l → l ≤ K) → (∃ l, p l) → ∃ l, p l ∧ ∀ k, p k → k ≤ l
  | 0, h, ⟨l, q⟩ => ⟨l, q, fun k hk => by have := h k hk; omega⟩
  | K + 1, h, ⟨l, q⟩ => by
    by_cases z : p (K + 1)
    · exact ⟨K + 1, z, h⟩
    · refine max_of K (fun l hl => ?_) ⟨l, q⟩
      have := h l hl
      by_cases e : l = K + 1
      · subst e
        exact absurd hl z
      · omega
/-- with no leave left in the hour nothing is heard but what is heard with some -/
theorem hrd_all {v : Nat → Nat} {hr g gA m ld q : Nat} (hl : 1 ≤ ld) (hl2 : ld ≤ 20) (hc : v (124 + 4 * m) < v 0 * v 1) (hA : ∀ sv l a, ¬ LPv v hr gA sv l a) (h : ∃ l, hrd v hr gA 0 m ld 0 l q) : ∃ l, hrd v hr g 0 m ld 0 l q := by
  have hD : ∀ l c, mayD v hr gA 0 (kFree (v (123 + 4 * m))) m l c → mayD v hr g 0 (kFree (v (123 + 4 * m))) m l c := by
    rintro l c ⟨a, b, d⟩
    refine ⟨a, b, ?_⟩
    rcases d with d | d | d | d
    · exact Or.inl d
    · exact Or.inr (Or.inl d)
    · exact Or.inr (Or.inr (Or.inl d))
    · exact absurd d (hA _ _ _)
  have hS : ∀ l c, snd v hr gA 0 (kFree (v (123 + 4 * m))) m ld l c → snd v hr g 0 (kFree (v (123 + 4 * m))) m ld l c := prc_mono hD 20 (fun _ _ z => z)
  obtain ⟨l, h | ⟨e, e1, ⟨e2, e3, e4, l4, e5⟩, L, L2, L3, L4⟩⟩ := h
  · exact ⟨l, Or.inl (hS l q h)⟩
  · obtain ⟨M, M1, M2⟩ := max_of (p := fun l => snd v hr g 0 (kFree (v (123 + 4 * m))) m ld l e) ld (fun l z => (snd_in hl hc l e z).2.2) ⟨L, hS L e L3.1⟩
    have hLM : L ≤ M := M2 L (hS L e L3.1)
    have hM20 : M ≤ ld := (snd_in hl hc M e M1).2.2
    have hdiv : L / 2 ≤ M / 2 := Nat.div_le_div_right hLM
    have hE : ∀ l c, mayE v hr gA 0 m (v (38 + e)) l c → (c < v 0 * v 1 ∧ v (38 + c) = v (38 + e)) := by
      rintro l c ⟨a, b | ⟨b, _⟩ | b⟩
      · exact ⟨a, b⟩
      · rw [Nat.zero_testBit] at b
        cases b
      · exact absurd b (hA _ _ _)
    have p1 : prc (v 0) (v 0 * v 1) (cst v 0) (fun _ c => c < v 0 * v 1 ∧ v (38 + c) = v (38 + e)) 20 (fun l c => l = L / 2 ∧ c = e) l q := prc_mono hE 20 (fun _ _ z => z) l q L4
    have p2 := (prc_low (k := L / 2) (fun l c (z : l = L / 2 ∧ c = e) => Nat.le_of_eq z.1) 20 (by omega) l q).mp p1
    have p3 := prc_shift (k := M / 2 - L / 2) (L / 2) (Y := fun l c => l = M / 2 ∧ c = e) (fun l d z => ⟨by omega, z.2⟩) l q p2
    rw [show L / 2 + (M / 2 - L / 2) = M / 2 from by omega] at p3
    have p4 := (prc_low (k := M / 2) (fun l c (z : l = M / 2 ∧ c = e) => Nat.le_of_eq z.1) 20 (by omega) _ q).mpr p3
    refine ⟨l + (M / 2 - L / 2), Or.inr ⟨e, e1, ⟨e2, e3, e4, M, M1⟩, M, by omega, ⟨M1, M2⟩, ?_⟩⟩
    exact prc_mono (fun l c z => ⟨z.1, Or.inl z.2⟩) 20 (fun _ _ z => z) _ _ p4
/-- no maker, all so loud, is heard there without these leaves -/
def Stl (v : Nat → Nat) (hr ld q g : Nat) : Prop := ∀ m, m < v 122 → ¬ ∃ l, hrd v hr g 0 m ld 0 l q
theorem Stl_cg {v : Nat → Nat} {hr ld q g g' : Nat} (h : ∀ j, inQ v hr j → g.testBit j = g'.testBit j) : Stl v hr ld q g ↔ Stl v hr ld q g' := by
  unfold Stl
  simp only [hrd_cg (LPv_cg h)]
theorem Stl_all {v : Nat → Nat} {hr ld q g gA : Nat} (hl : 1 ≤ ld) (hl2 : ld ≤ 20) (hc : ∀ i, i < v 122 → v (124 + 4 * i) < v 0 * v 1) (hA : ∀ j, inQ v hr j → gA.testBit j = true) (h : Stl v hr ld q g) : Stl v hr ld q gA := by
  intro m hm z
  refine h m hm (hrd_all hl hl2 (hc m hm) ?_ z)
  rintro sv l a ⟨j, h1, h2, h3, h4, h5, h6⟩
  rw [hA j ⟨h1, h4, h5⟩] at h3
  cases h3
/-! numbers of bits -/
def ct (x : Nat) : Nat := cnt x.testBit 8
theorem cnt_mono {p q : Nat → Bool} : ∀ {n : Nat}, (∀ c, c < n → p c = true → q c = true) → cnt p n ≤ cnt q n
  | 0, _ => Nat.le_refl _
  | n + 1, h => by
    have ih := cnt_mono (p := p) (q := q) (n := n) fun c hc => h c (by omega)
    by_cases hp : p n = true
    · rw [cnt_s hp, cnt_s (h n (by omega) hp)]
      omega
    · rw [cnt_z hp]
      by_cases hq : q n = true
      · rw [cnt_s hq]
        omega
      · rw [cnt_z hq]
        exact ih
theorem cnt_same {p q : Nat → Bool} : ∀ {n : Nat}, (∀ c, c < n → p c = true → q c = true) → cnt q n ≤ cnt p n → ∀ c, c < n → p c = q c
  | 0, _, _, c, hc => by omega
  | n + 1, h, h2, c, hc => by
    have hm := cnt_mono (p := p) (q := q) (n := n) fun c hc => h c (by omega)
    have key : cnt q n ≤ cnt p n ∧ p n = q n := by
      by_cases hp : p n = true
      · have hq := h n (by omega) hp
        rw [cnt_s hp, cnt_s hq] at h2
        exact ⟨by omega, by rw [hp, hq]⟩
      · rw [cnt_z hp] at h2
        by_cases hq : q n = true
        · rw [cnt_s hq] at h2
          omega
        · rw [cnt_z hq] at h2
          refine ⟨h2, ?_⟩
          rw [Bool.not_eq_true] at hp hq
          rw [hp, hq]
    by_cases e : c = n
    · rw [e]
      exact key.2
    · exact cnt_same (fun c hc => h c (by omega)) key.1 c (by omega)
theorem tb8 {x c : Nat} (h : x < 256) (hc : 8 ≤ c) : x.testBit c = false := Nat.testBit_lt_two_pow (Nat.lt_of_lt_of_le h (show 2 ^ 8 ≤ 2 ^ c from Nat.pow_le_pow_right (by decide) hc))
def sub (a b : Nat) : Prop := ∀ j, a.testBit j = true → b.testBit j = true
theorem sub_and {a b : Nat} (h : sub a b) : a &&& b = a := by
  apply Nat.eq_of_testBit_eq
  intro i
  rw [Nat.testBit_and]
  cases ha : a.testBit i
  · rfl
  · rw [h i ha]
    rfl
theorem sub_le {a b : Nat} (h : sub a b) : a ≤ b := by
  rw [← sub_and h]
  exact Nat.and_le_right
theorem sub_ct {a b : Nat} (h : sub a b) : ct a ≤ ct b := cnt_mono fun c _ => h c
theorem sub_eq {a b : Nat} (ha : a < 256) (hb : b < 256) (h : sub a b) (h2 : ct b ≤ ct a) : a = b := by
  apply Nat.eq_of_testBit_eq
  intro i
  by_cases hi : i < 8
  · exact cnt_same (fun c _ => h c) h2 i hi
  · rw [tb8 ha (by omega), tb8 hb (by omega)]
theorem and_sub (a b : Nat) : sub (a &&& b) a ∧ sub (a &&& b) b := by
  constructor <;> intro j h <;> rw [Nat.testBit_and, Bool.and_eq_true] at h
  · exact h.1
  · exact h.2
/-- fewer, of as many the less -/
def lex (a b : Nat) : Prop := ct a < ct b ∨ (ct a = ct b ∧ a ≤ b)
theorem lex_sub {a b : Nat} (h : sub a b) : lex a b := by
  have := sub_ct h
  have := sub_le h
  unfold lex
  omega
theorem ji_count : ∀ x, x < 256 → f_JI_bitCount (nI x) = some (nI (ct x)) := by decide +kernel
theorem bits_eq {x : Nat} (hx : x < 256) : f_Mo_bits (nI x) = some (nI (ct x)) := by
  unfold f_Mo_bits ct
  obtain ⟨y, rec, rfl, h⟩ := lp_inv (f := f_Mo_bits_L4 (nI x)) (fun i (y : Int32 × Int32) => y = (nI (cnt x.testBit i), nI i)) 8 (by decide) (by
    rintro i _ hi rfl
    refine ⟨_, rfl, fun rec => ?_⟩
    unfold f_Mo_bits_L4
    dsimp only
    have e : ∀ q, q < 31 → (nI q &&& 31) = nI q ∧ ((nI q).toBitVec.smod 32).toNat = q := by decide +kernel
    have hm : x / 2 ^ i % 2 = if x.testBit i = true then 1 else 0 := by
      rw [Nat.testBit_eq_decide_div_mod_eq]
      have := Nat.mod_lt (x / 2 ^ i) (show 0 < 2 by decide)
      by_cases q : x / 2 ^ i % 2 = 1
      · simp [q]
      · simp [q]
        omega
    rw [if_neg (show ¬ (8 : Int32) ≤ nI i from nI_ge (b := 8) hi (by decide)), (e i (by omega)).1, pk_shrN (show x < 2 ^ 31 by omega) _ i (e i (by omega)).2, pk_andN (Nat.lt_of_le_of_lt (Nat.div_le_self _ _) (by omega)) 1 (by decide), hm, nIa, ltE, ltE, nI1]
    rfl) (x0 := ((0 : Int32), (0 : Int32))) rfl
  rw [h]
  unfold f_Mo_bits_L4
  dsimp only
  rw [if_pos (show (8 : Int32) ≤ nI 8 from by decide)]
/-! bits of an int -/
def ti (x : Int32) (c : Nat) : Bool := x.toBitVec.getLsbD c
theorem ti_ext {x y : Int32} (h : ∀ c, c < 32 → ti x c = ti y c) : x = y := by
  apply Int32.toBitVec_inj.mp
  exact BitVec.eq_of_getLsbD_eq fun i hi => h i hi
theorem ti_and (x y : Int32) (c : Nat) : ti (x &&& y) c = (ti x c && ti y c) := by simp [ti]
theorem ti_or (x y : Int32) (c : Nat) : ti (x ||| y) c = (ti x c || ti y c) := by simp [ti]
theorem ti_0 (c : Nat) : ti 0 c = false := by simp [ti]
theorem ti_not (x : Int32) {c : Nat} (h : c < 32) : ti (x ^^^ (-1)) c = !ti x c := by
  have : ((-1 : Int32)).toBitVec = BitVec.allOnes 32 := by decide
  simp [ti, this, h]
theorem ti_nI {n c : Nat} (hc : c < 32) : ti (nI n) c = n.testBit c := by
  show (BitVec.ofNat 32 n).getLsbD c = _
  rw [BitVec.getLsbD_ofNat]
  simp [hc]
theorem sub_int {g h : Nat} (hg : g < 2 ^ 31) : nI g &&& (nI h ^^^ (-1)) = 0 ↔ sub g h := by
  constructor
  · intro e j hj
    have j32 : j < 31 := by
      refine Nat.lt_of_not_le fun z => ?_
      rw [Nat.testBit_lt_two_pow (Nat.lt_of_lt_of_le hg (Nat.pow_le_pow_right (by decide) z))] at hj
      cases hj
    have : ti (nI g &&& (nI h ^^^ (-1))) j = ti 0 j := by rw [e]
    rw [ti_and, ti_not _ (by omega), ti_0, ti_nI (by omega), ti_nI (by omega), hj] at this
    simpa using this
  · intro e
    apply ti_ext
    intro c hc
    rw [ti_and, ti_not _ hc, ti_0, ti_nI hc, ti_nI hc]
    cases hj : g.testBit c
    · rfl
    · rw [e c hj]
      rfl

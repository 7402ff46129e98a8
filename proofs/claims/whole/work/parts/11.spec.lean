/-! the valley as numbers: v 0 = w, v 1 = h, 2.. grounds, 38.. airs, 74.. told, 110.. fees, 122 makers, 123.. them, 147 leaves, 148.. them, 188 pasts, 189.. them -/
def adj (w n c d : Nat) : Prop := c < n ∧ d < n ∧ ((c + 1 = d ∧ d % w ≠ 0) ∨ (d + 1 = c ∧ c % w ≠ 0) ∨ c + w = d ∨ d + w = c)
def RS (K n : Nat) (rows : Nat → Int64) (g : Nat → Nat) : Prop := ∀ k, k < K → ∀ c, c < 64 → tb (rows k) c = decide (c < n ∧ g c = k)
/-- the valley's shape: masks of all cells, of the first and the last column -/
def Geo (w n : Nat) (W : Int32) (ev fc lc : Int64) : Prop := 1 ≤ w ∧ w ≤ 6 ∧ n ≤ 36 ∧ W = nI w ∧ (∀ c, c < 64 → tb ev c = decide (c < n)) ∧ (∀ c, c < 64 → tb fc c = decide (c < n ∧ c % w = 0)) ∧ (∀ c, c < 64 → tb lc c = decide (c < n ∧ c % w = w - 1))
theorem beside_eq {w n : Nat} {W : Int32} {ev fc lc : Int64} (G : Geo w n W ev fc lc) {x : Int64} (hx : ∀ c, c < 64 → tb x c = true → c < n) : ∃ r, f_Ld_beside W ev fc lc x = some r ∧ ∀ d, d < 64 → (tb r d = true ↔ ∃ c, adj w n c d ∧ tb x c = true) := by
  obtain ⟨h1, h2, h3, rfl, hev, hfc, hlc⟩ := G
  refine ⟨_, rfl, fun d hd => ?_⟩
  rw [show (1 : Int32) = nI 1 from rfl, tb_and, tb_or, tb_or, tb_or, tb_ushr _ (by decide), tb_shl _ (by decide), tb_ushr _ (by omega), tb_shl _ (by omega), hev d hd, tb_and, tb_and]
  have hb : ∀ c, 64 ≤ c → tb x c = false := fun c hc => tb_big hc
  constructor
  · intro h
    simp only [Bool.and_eq_true, Bool.or_eq_true, decide_eq_true_eq] at h
    obtain ⟨h, hdn⟩ := h
    rcases h with ((⟨ha, hb'⟩ | ⟨⟨ha, -⟩, hb', hc'⟩) | ha) | ⟨⟨ha, -⟩, hb'⟩
    · have hlt : 1 + d < 64 := by
        rcases Nat.lt_or_ge (1 + d) 64 with q | q
        · exact q
        · rw [hb _ q] at ha; cases ha
      have hn := hx _ hlt ha
      rw [tb_not _ hlt, hfc _ hlt] at hb'
      have : ¬ ((1 + d) % w = 0) := by
        intro e
        simp [hn, e] at hb'
      exact ⟨1 + d, ⟨hn, hdn, Or.inr (Or.inl ⟨by omega, this⟩)⟩, ha⟩
    · have hlt : d - 1 < 64 := by omega
      have hn := hx _ hlt hb'
      rw [tb_not _ hlt, hlc _ hlt] at hc'
      have hm : ¬ ((d - 1) % w = w - 1) := by
        intro e
        simp [hn, e] at hc'
      refine ⟨d - 1, ⟨hn, hdn, Or.inl ⟨by omega, ?_⟩⟩, hb'⟩
      intro e
      apply hm
      have h4 : d = (d - 1) + 1 := by omega
      rw [h4] at e
      have h5 : (d - 1) % w < w := Nat.mod_lt _ (by omega)
      rw [Nat.add_mod] at e
      rcases Nat.lt_or_ge ((d - 1) % w + 1) w with q | q
      · rw [Nat.mod_eq_of_lt (show 1 < w by omega), Nat.mod_eq_of_lt q] at e
        omega
      · omega
    · have hlt : w + d < 64 := by
        rcases Nat.lt_or_ge (w + d) 64 with q | q
        · exact q
        · rw [hb _ q] at ha; cases ha
      exact ⟨w + d, ⟨hx _ hlt ha, hdn, Or.inr (Or.inr (Or.inr (by omega)))⟩, ha⟩
    · have hlt : d - w < 64 := by omega
      exact ⟨d - w, ⟨hx _ hlt hb', hdn, Or.inr (Or.inr (Or.inl (by omega)))⟩, hb'⟩
  · rintro ⟨c, ⟨hc, hdn, hk⟩, hxc⟩
    simp only [Bool.and_eq_true, Bool.or_eq_true, decide_eq_true_eq]
    refine ⟨?_, hdn⟩
    rcases hk with ⟨e, hm⟩ | ⟨e, hm⟩ | e | e
    · left; left; right
      have e2 : d - 1 = c := by omega
      refine ⟨⟨by omega, hd⟩, by rw [e2]; exact hxc, ?_⟩
      rw [e2, tb_not _ (by omega), hlc _ (by omega)]
      have : ¬ (c % w = w - 1) := by
        intro q
        apply hm
        rw [← e, Nat.add_mod, q]
        rcases Nat.lt_or_ge 1 w with z | z
        · rw [Nat.mod_eq_of_lt z, show w - 1 + 1 = w by omega, Nat.mod_self]
        · have : w = 1 := by omega
          subst this
          rfl
      simp [this]
    · left; left; left
      have e2 : 1 + d = c := by omega
      refine ⟨by rw [e2]; exact hxc, ?_⟩
      rw [e2, tb_not _ (by omega), hfc _ (by omega)]
      simp [hm]
    · right
      have e2 : d - w = c := by omega
      exact ⟨⟨by omega, hd⟩, by rw [e2]; exact hxc⟩
    · left; right
      have e2 : w + d = c := by omega
      rw [e2]; exact hxc
/-! the spreading of a sound, level by level: X l c says that it comes to c just so loud as l -/
def stp (w n : Nat) (cost : Nat → Nat) (may : Nat → Nat → Prop) (u : Nat) (X : Nat → Nat → Prop) : Nat → Nat → Prop :=
  fun l d => X l d ∨ (0 < l ∧ may l d ∧ ∃ c, adj w n c d ∧ X u c ∧ cost c ≠ 0 ∧ l + cost c = u)
def prc (w n : Nat) (cost : Nat → Nat) (may : Nat → Nat → Prop) : Nat → (Nat → Nat → Prop) → (Nat → Nat → Prop)
  | 0, X => X
  | u + 1, X => prc w n cost may u (stp w n cost may (u + 1) X)
theorem stp_mono {w n : Nat} {cost : Nat → Nat} {may may' : Nat → Nat → Prop} {u : Nat} {X Y : Nat → Nat → Prop} (hm : ∀ l c, may l c → may' l c) (h : ∀ l c, X l c → Y l c) : ∀ l c, stp w n cost may u X l c → stp w n cost may' u Y l c := by
  rintro l d (q | ⟨a, b, c, d1, d2, d3⟩)
  · exact Or.inl (h _ _ q)
  · exact Or.inr ⟨a, hm _ _ b, c, d1, h _ _ d2, d3⟩
theorem prc_mono {w n : Nat} {cost : Nat → Nat} {may may' : Nat → Nat → Prop} (hm : ∀ l c, may l c → may' l c) : ∀ (u : Nat) {X Y : Nat → Nat → Prop}, (∀ l c, X l c → Y l c) → ∀ l c, prc w n cost may u X l c → prc w n cost may' u Y l c
  | 0, _, _, h => h
  | u + 1, _, _, h => prc_mono hm u (stp_mono hm h)
theorem prc_congr {w n : Nat} {cost : Nat → Nat} {may : Nat → Nat → Prop} (u : Nat) {X Y : Nat → Nat → Prop} (h : ∀ l c, X l c ↔ Y l c) (l c : Nat) : prc w n cost may u X l c ↔ prc w n cost may u Y l c :=
  ⟨prc_mono (fun _ _ h => h) u (fun l c => (h l c).mp) l c, prc_mono (fun _ _ h => h) u (fun l c => (h l c).mpr) l c⟩
theorem stp_or {w n : Nat} {cost : Nat → Nat} {may : Nat → Nat → Prop} {u : Nat} {ι : Type} {X : ι → Nat → Nat → Prop} (l d : Nat) : stp w n cost may u (fun l c => ∃ i, X i l c) l d ↔ ∃ i, stp w n cost may u (X i) l d := by
  constructor
  · rintro (⟨i, q⟩ | ⟨a, b, c, d1, ⟨i, d2⟩, d3⟩)
    · exact ⟨i, Or.inl q⟩
    · exact ⟨i, Or.inr ⟨a, b, c, d1, d2, d3⟩⟩
  · rintro ⟨i, q | ⟨a, b, c, d1, d2, d3⟩⟩
    · exact Or.inl ⟨i, q⟩
    · exact Or.inr ⟨a, b, c, d1, ⟨i, d2⟩, d3⟩
/-- sounds over one another: the union of what each does -/
theorem prc_or {w n : Nat} {cost : Nat → Nat} {may : Nat → Nat → Prop} {ι : Type} : ∀ (u : Nat) (X : ι → Nat → Nat → Prop) (l d : Nat), prc w n cost may u (fun l c => ∃ i, X i l c) l d ↔ ∃ i, prc w n cost may u (X i) l d
  | 0, _, _, _ => Iff.rfl
  | u + 1, X, l, d => (prc_congr u (fun l c => stp_or l c) l d).trans (prc_or u (fun i => stp w n cost may (u + 1) (X i)) l d)
/-- levels above all of X do nothing -/
theorem prc_low {w n : Nat} {cost : Nat → Nat} {may : Nat → Nat → Prop} {k : Nat} {X : Nat → Nat → Prop} (h : ∀ l c, X l c → l ≤ k) : ∀ (u : Nat), k ≤ u → ∀ l d, prc w n cost may u X l d ↔ prc w n cost may k X l d := by
  intro u hu
  induction u with
  | zero =>
    have : k = 0 := by omega
    subst this
    exact fun _ _ => Iff.rfl
  | succ u ih =>
    rcases Nat.lt_or_ge u k with q | q
    · have : k = u + 1 := by omega
      subst this
      exact fun _ _ => Iff.rfl
    · intro l d
      refine (prc_congr u (fun l d => ?_) l d).trans (ih q l d)
      constructor
      · rintro (z | ⟨a, b, c, d1, d2, d3⟩)
        · exact z
        · exact absurd (h _ _ d2) (by omega)
      · exact Or.inl
theorem prc_sub {w n : Nat} {cost : Nat → Nat} {may : Nat → Nat → Prop} : ∀ (u : Nat) {X : Nat → Nat → Prop} {l c : Nat}, X l c → prc w n cost may u X l c
  | 0, _, _, _, h => h
  | u + 1, _, _, _, h => prc_sub u (Or.inl h)
/-- what comes to be is in the valley, and no louder than its start -/
theorem prc_in {w n : Nat} {cost : Nat → Nat} {may : Nat → Nat → Prop} {k : Nat} : ∀ (u : Nat) {X : Nat → Nat → Prop}, (∀ l c, X l c → c < n ∧ 0 < l ∧ l ≤ k) → ∀ l c, prc w n cost may u X l c → c < n ∧ 0 < l ∧ l ≤ k
  | 0, _, h => h
  | u + 1, X, h => prc_in u (by
      rintro l d (z | ⟨a, b, c, d1, d2, d3⟩)
      · exact h _ _ z
      · have := h _ _ d2
        exact ⟨d1.2.1, a, by omega⟩)

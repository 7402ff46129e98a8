/-! who -/
theorem lp_fam_or {ι σ α : Type} {f : ι → (σ → Option α) → σ → Option α} (P : Nat → σ → Prop) (Z : Option α → Prop) (e : Nat) (he : e < 4096) (hs : ∀ i x, i < e → P i x → (∃ x', P (i + 1) x' ∧ ∀ J rec, f J rec x = rec x') ∨ ∀ J rec, Z (f J rec x)) {x0 : σ} (h0 : P 0 x0) : (∃ x, P e x ∧ ∀ J, ∃ rec, lp (f J) FU x0 = f J rec x) ∨ ∀ J, Z (lp (f J) FU x0) := by
  have key : ∀ k i x, k = e - i → i ≤ e → P i x → (∃ x', P e x' ∧ ∀ J n, e < n + i → ∃ rec, lp (f J) n x = f J rec x') ∨ ∀ J n, e < n + i → Z (lp (f J) n x) := by
    intro k
    induction k with
    | zero =>
      intro i x hk hi hP
      have : i = e := by omega
      subst this
      refine Or.inl ⟨x, hP, fun J n hn => ?_⟩
      cases n with
      | zero => omega
      | succ n => exact ⟨lp (f J) n, rfl⟩
    | succ k ih =>
      intro i x hk hi hP
      rcases hs i x (by omega) hP with ⟨x', hP', hf⟩ | hz
      · rcases ih (i + 1) x' (by omega) (by omega) hP' with ⟨x2, h2, h3⟩ | h3
        · refine Or.inl ⟨x2, h2, fun J n hn => ?_⟩
          cases n with
          | zero => omega
          | succ n =>
            obtain ⟨rec, h4⟩ := h3 J n (by omega)
            exact ⟨rec, by rw [← h4]; exact hf _ _⟩
        · refine Or.inr fun J n hn => ?_
          cases n with
          | zero => omega
          | succ n =>
            show Z (f J (lp (f J) n) x)
            rw [hf]
            exact h3 J n (by omega)
      · refine Or.inr fun J n hn => ?_
        cases n with
        | zero => omega
        | succ n => exact hz _ _
  rcases key (e - 0) 0 x0 rfl (Nat.zero_le _) h0 with ⟨x, h1, h2⟩ | h
  · exact Or.inl ⟨x, h1, fun J => h2 J FU (by show e < 4096 + 0; omega)⟩
  · exact Or.inr fun J => h J FU (by show e < 4096 + 0; omega)
theorem asTold_congr {v : Nat → Nat} {q q' : Nat → Bool} (h : ∀ c, c < v 0 * v 1 → (q c = true ↔ q' c = true)) : asTold v q ↔ asTold v q' :=
  forall_congr' fun c => forall_congr' fun hc => by rw [h c hc]
/-- the k-th sound of an hour, and whether it's as told -/
noncomputable def whoQ (v : Nat → Nat) (hr k : Nat) : Nat → Bool := fun c => @decide (∃ l, hrd v hr 0 0 (k / 20) (k % 20 + 1) 0 l c) (Classical.propDecidable _)
noncomputable def whoB (v : Nat → Nat) (hr k : Nat) : Bool := @decide (asTold v (whoQ v hr k)) (Classical.propDecidable _)
theorem whoQ_iff {v : Nat → Nat} {hr k c : Nat} : whoQ v hr k c = true ↔ ∃ l, hrd v hr 0 0 (k / 20) (k % 20 + 1) 0 l c := @decide_eq_true_iff _ (Classical.propDecidable _)
theorem whoB_iff {v : Nat → Nat} {hr k : Nat} : whoB v hr k = true ↔ asTold v (whoQ v hr k) := @decide_eq_true_iff _ (Classical.propDecidable _)
/-- the answer, from the k-th sound on -/
def whoA (B : Nat → Bool) (p : Int32) : Nat → Nat → Int32
  | 0, k => if p = -1 then nI (cnt B k) else -5
  | n + 1, k => if B k = true ∧ nI (cnt B k) = p then nI (100 * (k / 20) + (k % 20 + 1)) else whoA B p n (k + 1)
theorem whoA_s {B : Nat → Bool} {p : Int32} {N k : Nat} (h : k < N) : whoA B p (N - k) k = if B k = true ∧ nI (cnt B k) = p then nI (100 * (k / 20) + (k % 20 + 1)) else whoA B p (N - (k + 1)) (k + 1) := by
  obtain ⟨n, hn⟩ : ∃ n, N - k = n + 1 := ⟨N - k - 1, by omega⟩
  rw [hn, show N - (k + 1) = n from by omega]
  rfl
theorem whoA_e {B : Nat → Bool} {p : Int32} {N : Nat} : whoA B p (N - N) N = if p = -1 then nI (cnt B N) else -5 := by
  rw [Nat.sub_self]
  rfl
set_option maxRecDepth 100000 in
theorem who_ref {row : Nat → Int32} {v : Nat → Nat} (R : Rm row v) (W : WFv v) (bad : Int32) (kd mk ow ho bu : Int32) (comes direct all tried : Nat → Int32) {hr : Nat} (hhr : hr < 24) {p : Int32} (hp : -1 ≤ p) : ∃ Y, f_Mo_who bad 0 0 0 0 kd mk ow ho bu row comes direct all tried (nI hr) p = some (whoA (whoB v hr) p (20 * v 122) 0, bad, Y) := by
  have hmk := W.2.2.2.2.2.2.2.1
  have hn := W.2.2.2.2.1
  have e122 : row 122 = nI (v 122) := R 122 (by decide) (by decide)
  unfold f_Mo_who
  simp only [bd_some (mHour_t hhr), jnE, if_neg (show ¬ (1 : Int32) = 0 from by decide), if_pos hp]
  refine lp_or (fun i (x : Int32 × Int32 × (Nat → Int32) × (Nat → Int32) × (Nat → Int32) × (Nat → Int32) × Int32 × Int32 × Int32 × Int32) => x.1 = nI (cnt (whoB v hr) i) ∧ x.2.1 = nI i ∧ whoA (whoB v hr) p (20 * v 122) 0 = whoA (whoB v hr) p (20 * v 122 - i) i) (fun r => ∃ Y, r = some (whoA (whoB v hr) p (20 * v 122) 0, bad, Y)) (20 * v 122) (by omega) ?_ ?_ ⟨rfl, rfl, rfl⟩
  · rintro i ⟨x24, x25, x26, x27, x28, x29, x30, x31, x32, x33⟩ hi ⟨q1, q2, q3⟩
    dsimp only at q1 q2
    subst q1 q2
    have ed : nI i / 20 = nI (i / 20) := by
      have : ∀ i, i < 120 → nI i / 20 = nI (i / 20) := by decide +kernel
      exact this i (by omega)
    have em : nI i - nI (i / 20) * 20 = nI (i % 20) := by
      have : ∀ i, i < 120 → nI i - nI (i / 20) * 20 = nI (i % 20) := by decide +kernel
      exact this i (by omega)
    obtain ⟨b1, b2, b3, b4, b5, g1, g2, g3⟩ := lay_eq R W (gs0 v) (g := 0) (b := 0) (hr := hr) (m := i / 20) (ld := i % 20 + 1) (bu := bu) (by decide) (by decide) hhr (by omega) (Or.inl rfl) (by omega) (by omega) x26 x27 x28 x29
    have g1' : f_Mo_lay 0 0 0 0 bu row x26 x27 x28 x29 (nI (i / 20)) (nI (i % 20 + 1)) (nI hr) = _ := g1
    obtain ⟨y, y1, y2⟩ := isHeardSo_eq (all := b3) R W (q := whoQ v hr i) (fun c hc => by obtain ⟨L, p1, p2, p3⟩ := g3 c (by omega); rw [lev0 p2 p1 p3, whoQ_iff])
    rw [whoA_s hi] at q3
    unfold f_Mo_who_L22
    dsimp only
    simp only [show (122 : Int32).toNatClampNeg = 122 from by decide, e122, show (20 : Int32) = nI 20 from rfl, pk_mul, if_neg (nI_ge hi (show 20 * v 122 < 2 ^ 31 by omega))]
    simp only [show nI 20 = (20 : Int32) from rfl, ed, show nI (i / 20 * 20) = nI (i / 20) * 20 from (pk_mul _ _).symm, em, nI1, bd_some g1', bd_some y1, jnE, ltE]
    rcases y2 with ⟨rfl, ya⟩ | ⟨rfl, ya⟩
    · have hB : whoB v hr i = true := whoB_iff.mpr ya
      by_cases hq : nI (cnt (whoB v hr) i) = p
      · refine Or.inr fun rec => ?_
        rw [if_neg (by decide), if_pos hq]
        rw [if_pos ⟨hB, hq⟩] at q3
        rw [q3, show (100 : Int32) = nI 100 from rfl, pk_mul, nIa, nI1]
        exact ⟨_, rfl⟩
      · rw [if_neg (fun z => hq z.2)] at q3
        refine Or.inl ⟨(nI (cnt (whoB v hr) (i + 1)), nI (i + 1), b1, b2, b3, b4, 0, -1, b5, nI hr), ⟨rfl, rfl, q3⟩, fun rec => ?_⟩
        rw [if_neg (by decide), if_neg hq, cnt_s hB]
    · have hB : ¬ whoB v hr i = true := fun z => ya (whoB_iff.mp z)
      rw [if_neg (fun z => hB z.1)] at q3
      refine Or.inl ⟨(nI (cnt (whoB v hr) (i + 1)), nI (i + 1), b1, b2, b3, b4, 0, -1, b5, nI hr), ⟨rfl, rfl, q3⟩, fun rec => ?_⟩
      rw [if_pos rfl, cnt_z hB]
  · rintro ⟨x24, x25, x26, x27, x28, x29, x30, x31, x32, x33⟩ ⟨q1, q2, q3⟩ rec
    dsimp only at q1 q2
    subst q1 q2
    rw [whoA_e] at q3
    unfold f_Mo_who_L22
    dsimp only
    rw [show (122 : Int32).toNatClampNeg = 122 from by decide, e122, show (20 : Int32) = nI 20 from rfl, pk_mul, if_pos (nI_le (Nat.le_refl _) (show 20 * v 122 < 2 ^ 31 by omega)), q3]
    by_cases h1 : p = -1
    · rw [if_pos h1, if_pos h1]
      exact ⟨_, rfl⟩
    · rw [if_neg h1, if_neg h1]
      exact ⟨_, rfl⟩

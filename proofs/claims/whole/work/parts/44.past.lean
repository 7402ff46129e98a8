/-! leaves as they were: what may be undone -/
def sh (v : Nat → Nat) (p : Nat) : Nat → Nat := fun i => if 147 ≤ i ∧ i < 188 then v (i + 42 + 41 * p) else v i
def PsR (v : Nat → Nat) (ps : Nat → Int32) : Prop := v 188 ≤ 8 ∧ ∀ p, p < v 188 → WFL (sh v p) ∧ ps (41 * p) = nI (v (189 + 41 * p)) ∧ ∀ j, j < 5 * v (189 + 41 * p) → ps (41 * p + 1 + j) = nI (v (190 + 41 * p + j))
theorem sh_at {v : Nat → Nat} {p i : Nat} (h : 147 ≤ i) (h2 : i < 188) : sh v p i = v (i + 42 + 41 * p) := if_pos ⟨h, h2⟩
theorem sh_ne {v : Nat → Nat} {p i : Nat} (h : ¬ (147 ≤ i ∧ i < 188)) : sh v p i = v i := if_neg h
theorem WFL_up {v v' : Nat → Nat} (h : WFL v) (e122 : v 122 ≤ v' 122) (e : ∀ i, 147 ≤ i → i < 188 → v' i = v i) : WFL v' := by
  obtain ⟨h1, h2⟩ := h
  have e147 : v' 147 = v 147 := e 147 (by decide) (by decide)
  refine ⟨by rw [e147]; exact h1, fun j hj => ?_⟩
  rw [e147] at hj
  have := h2 j hj
  rw [e (148 + 5 * j) (by omega) (by omega), e (149 + 5 * j) (by omega) (by omega), e (150 + 5 * j) (by omega) (by omega), e (151 + 5 * j) (by omega) (by omega), e (152 + 5 * j) (by omega) (by omega)]
  exact ⟨by omega, this.2⟩
theorem PsR_n {v : Nat → Nat} {ps : Nat → Int32} (h : PsR v ps) {p : Nat} (hp : p < v 188) : v (189 + 41 * p) ≤ 8 := by
  have := (h.2 p hp).1.1
  rw [sh_at (by decide) (by decide)] at this
  rw [show 189 + 41 * p = 147 + 42 + 41 * p from by omega]
  exact this
theorem PsR_ag {v v' : Nat → Nat} {ps : Nat → Int32} (h : PsR v ps) (e122 : v 122 ≤ v' 122) (e188 : v' 188 ≤ v 188) (e : ∀ i, 188 < i → i < 517 → v' i = v i) : PsR v' ps := by
  refine ⟨Nat.le_trans e188 h.1, fun p hp => ?_⟩
  have hp' : p < v 188 := by omega
  have h8 := h.1
  have hn := PsR_n h hp'
  obtain ⟨a, b, c⟩ := h.2 p hp'
  refine ⟨WFL_up a ?_ fun i h1 h2 => ?_, ?_, fun j hj => ?_⟩
  · rw [sh_ne (by omega), sh_ne (by omega)]
    exact e122
  · rw [sh_at h1 h2, sh_at h1 h2]
    exact e _ (by omega) (by omega)
  · rw [e _ (by omega) (by omega)]
    exact b
  · rw [e _ (by omega) (by omega)] at hj
    rw [e _ (by omega) (by omega)]
    exact c j hj
/-- one more is kept; of nine the first falls away -/
def kp (v : Nat → Nat) : Nat → Nat := fun j => if j = 188 then (if v 188 = 8 then 8 else v 188 + 1) else if v 188 = 8 then (if 189 ≤ j ∧ j < 476 then v (j + 41) else if 476 ≤ j ∧ j < 517 then v (147 + (j - 476)) else v j) else (if 189 + 41 * v 188 ≤ j ∧ j < 230 + 41 * v 188 then v (147 + (j - (189 + 41 * v 188))) else v j)
theorem kp_lo {v : Nat → Nat} {j : Nat} (h : j < 188) : kp v j = v j := by
  unfold kp
  rw [if_neg (by omega)]
  by_cases h8 : v 188 = 8
  · rw [if_pos h8, if_neg (by omega), if_neg (by omega)]
  · rw [if_neg h8, if_neg (by omega)]
theorem kp188 {v : Nat → Nat} : kp v 188 = if v 188 = 8 then 8 else v 188 + 1 := if_pos rfl
theorem kp_a {v : Nat → Nat} (h8 : v 188 = 8) {j : Nat} (h1 : 189 ≤ j) (h2 : j < 476) : kp v j = v (j + 41) := by
  unfold kp
  rw [if_neg (by omega), if_pos h8, if_pos ⟨h1, h2⟩]
theorem kp_b {v : Nat → Nat} (h8 : v 188 = 8) {j : Nat} (h1 : 476 ≤ j) (h2 : j < 517) : kp v j = v (147 + (j - 476)) := by
  unfold kp
  rw [if_neg (by omega), if_pos h8, if_neg (by omega), if_pos ⟨h1, h2⟩]
theorem kp_c {v : Nat → Nat} (h8 : ¬ v 188 = 8) {j : Nat} (h1 : 189 + 41 * v 188 ≤ j) (h2 : j < 230 + 41 * v 188) : kp v j = v (147 + (j - (189 + 41 * v 188))) := by
  unfold kp
  rw [if_neg (by omega), if_neg h8, if_pos ⟨h1, h2⟩]
theorem kp_d {v : Nat → Nat} (h8 : ¬ v 188 = 8) {j : Nat} (h : j ≠ 188) (h1 : ¬ (189 + 41 * v 188 ≤ j ∧ j < 230 + 41 * v 188)) : kp v j = v j := by
  unfold kp
  rw [if_neg h, if_neg h8, if_neg h1]
theorem m188 : (188 : Int32).toNatClampNeg = 188 := by decide
theorem m147 : (147 : Int32).toNatClampNeg = 147 := by decide
/-- a stretch of one row laid over another -/
def seg {α : Type} (a n : Nat) (f g : Nat → α) : Nat → α := fun j => if a ≤ j ∧ j < a + n then f j else g j
theorem seg_in {α : Type} {a n j : Nat} {f g : Nat → α} (h1 : a ≤ j) (h2 : j < a + n) : seg a n f g j = f j := if_pos ⟨h1, h2⟩
theorem seg_out {α : Type} {a n j : Nat} {f g : Nat → α} (h : ¬ (a ≤ j ∧ j < a + n)) : seg a n f g j = g j := if_neg h
theorem seg_0 {α : Type} {a : Nat} {f g : Nat → α} : seg a 0 f g = g := funext fun _ => if_neg (by omega)
theorem seg_s {a n : Nat} {f g : Nat → Int32} {x : Int32} {k : Nat} (hk : k = a + n) (h : x = f (a + n)) : upd (seg a n f g) k x = seg a (n + 1) f g := by
  subst hk; subst h
  funext j
  by_cases q : j = a + n
  · rw [q, upd_same, seg_in (by omega) (by omega)]
  · rw [upd_ne q]
    by_cases q2 : a ≤ j ∧ j < a + n
    · rw [seg_in q2.1 q2.2, seg_in q2.1 (by omega)]
    · rw [seg_out q2, seg_out (by omega)]
theorem kp_shift {row : Nat → Int32} (h8 : row 188 = 8) (J : (Nat → Int32) → Option (Nat → Int32)) : lp (f_Mo_keepPast_L2 J) FU (0, row) = J (seg 189 287 (fun j => row (j + 41)) row) := by
  obtain ⟨y, rfl, h⟩ := lp_fam (f := f_Mo_keepPast_L2) (fun i (y : Int32 × (Nat → Int32)) => y = (nI i, seg 189 i (fun j => row (j + 41)) row)) 287 (by decide) (by
    rintro i _ hi rfl
    refine ⟨_, rfl, fun J rec => ?_⟩
    unfold f_Mo_keepPast_L2
    dsimp only
    rw [if_neg (show ¬ (287 : Int32) ≤ nI i from nI_ge (b := 287) hi (by decide)), m188, seg_out (show ¬ (189 ≤ 188 ∧ 188 < 189 + i) by omega), if_pos h8, show (189 : Int32) = nI 189 from rfl, show (41 : Int32) = nI 41 from rfl, nIa, nIa, gd_nI (show 189 + i + 41 < 1551 by omega) (by decide), gd_nI (show 189 + i < 1551 by omega) (by decide), ltE, ltE, nI_clamp (show 189 + i < 2 ^ 31 by omega), nI_clamp (show 189 + i + 41 < 2 ^ 31 by omega), nI1, seg_out (show ¬ (189 ≤ 189 + i + 41 ∧ 189 + i + 41 < 189 + i) by omega), seg_s rfl rfl]) (x0 := ((0 : Int32), row)) (by rw [seg_0]; rfl)
  obtain ⟨rec, q⟩ := h J
  rw [q]
  unfold f_Mo_keepPast_L2
  dsimp only
  rw [if_pos (show (287 : Int32) ≤ nI 287 from by decide)]
theorem kp_none {row : Nat → Int32} (h8 : ¬ row 188 = 8) (J : (Nat → Int32) → Option (Nat → Int32)) : lp (f_Mo_keepPast_L2 J) FU (0, row) = J row := by
  obtain ⟨y, rfl, h⟩ := lp_fam (f := f_Mo_keepPast_L2) (fun _ (y : Int32 × (Nat → Int32)) => y = (0, row)) 0 (by decide) (fun i y hi => by omega) (x0 := ((0 : Int32), row)) rfl
  obtain ⟨rec, q⟩ := h J
  rw [q]
  unfold f_Mo_keepPast_L2
  dsimp only
  rw [if_neg (by decide), m188, if_neg h8]
theorem kp_write {row : Nat → Int32} {p : Nat} (hp : p < 8) (h8 : row 188 = nI p) (J : (Nat → Int32) → Option (Nat → Int32)) : lp (f_Mo_keepPast_L82 J) FU (0, row) = J (seg (189 + 41 * p) 41 (fun j => row (147 + (j - (189 + 41 * p)))) row) := by
  obtain ⟨y, rfl, h⟩ := lp_fam (f := f_Mo_keepPast_L82) (fun i (y : Int32 × (Nat → Int32)) => y = (nI i, seg (189 + 41 * p) i (fun j => row (147 + (j - (189 + 41 * p)))) row)) 41 (by decide) (by
    rintro i _ hi rfl
    refine ⟨_, rfl, fun J rec => ?_⟩
    unfold f_Mo_keepPast_L82
    dsimp only
    rw [if_neg (show ¬ (41 : Int32) ≤ nI i from nI_ge (b := 41) hi (by decide)), m188, seg_out (show ¬ (189 + 41 * p ≤ 188 ∧ 188 < 189 + 41 * p + i) by omega), h8, show (189 : Int32) = nI 189 from rfl, show (41 : Int32) = nI 41 from rfl, show (147 : Int32) = nI 147 from rfl, pk_mul, nIa, nIa, nIa, gd_nI (show 147 + i < 1551 by omega) (by decide), gd_nI (show 189 + 41 * p + i < 1551 by omega) (by decide), ltE, ltE, nI_clamp (show 189 + 41 * p + i < 2 ^ 31 by omega), nI_clamp (show 147 + i < 2 ^ 31 by omega), nI1, seg_out (show ¬ (189 + 41 * p ≤ 147 + i ∧ 147 + i < 189 + 41 * p + i) by omega), seg_s rfl (by rw [Nat.add_sub_cancel_left])]) (x0 := ((0 : Int32), row)) (by rw [seg_0]; rfl)
  obtain ⟨rec, q⟩ := h J
  rw [q]
  unfold f_Mo_keepPast_L82
  dsimp only
  rw [if_pos (show (41 : Int32) ≤ nI 41 from by decide)]
theorem kp_ref {row : Nat → Int32} {v : Nat → Nat} (R : Rm row v) (h8 : v 188 ≤ 8) : ∃ row', f_Mo_keepPast row = some row' ∧ Rm row' (kp v) ∧ ∀ j, ¬ (188 ≤ j ∧ j < 517) → row' j = row j := by
  have r188 : row 188 = nI (v 188) := R 188 (by decide) (by decide)
  unfold f_Mo_keepPast
  by_cases q : v 188 = 8
  · have r8 : row 188 = 8 := by rw [r188, q]; rfl
    have r8' : seg 189 287 (fun j => row (j + 41)) row 188 = 8 := by rw [seg_out (by omega), r8]
    rw [jnE, kp_shift r8, jnE, m188, if_pos r8']
    dsimp only
    rw [r8', ltE, jnE, show (8 : Int32) - 1 = nI 7 from rfl, kp_write (p := 7) (by decide) upd_same, ltE]
    refine ⟨_, rfl, fun i h1 h2 => ?_, fun j hj => ?_⟩
    · by_cases a : i = 188
      · rw [a, upd_same, kp188, if_pos q, seg_out (by omega), upd_same]
        rfl
      · rw [upd_ne a]
        by_cases b : 476 ≤ i
        · rw [seg_in (by omega) (by omega), upd_ne (by omega), seg_out (by omega), R _ (by omega) (by omega), kp_b q b h1]
        · rw [seg_out (by omega), upd_ne a]
          by_cases c : 189 ≤ i
          · rw [seg_in c (by omega), R _ (by omega) (by omega), kp_a q c (by omega)]
          · rw [seg_out (by omega), R _ h1 h2, kp_lo (by omega)]
    · rw [upd_ne (by omega), seg_out (by omega), upd_ne (by omega), seg_out (by omega)]
  · have r8 : ¬ row 188 = 8 := by
      rw [r188]
      exact fun z => q ((nI_eq (b := 8) (by omega) (by decide)).mp z)
    have e0 : row 188 - 0 = nI (v 188) := by rw [r188]; exact Int32.sub_zero _
    rw [jnE, kp_none r8, jnE, m188, if_neg r8]
    dsimp only
    rw [e0, ltE, jnE, kp_write (p := v 188) (by omega) upd_same, ltE]
    refine ⟨_, rfl, fun i h1 h2 => ?_, fun j hj => ?_⟩
    · by_cases a : i = 188
      · rw [a, upd_same, kp188, if_neg q, seg_out (by omega), upd_same, nI1]
      · rw [upd_ne a]
        by_cases b : 189 + 41 * v 188 ≤ i ∧ i < 230 + 41 * v 188
        · rw [seg_in b.1 (by omega), upd_ne (by omega), R _ (by omega) (by omega), kp_c q b.1 b.2]
        · rw [seg_out (by omega), upd_ne a, R _ h1 h2, kp_d q a b]
    · rw [upd_ne (by omega), seg_out (by omega), upd_ne (by omega)]
theorem kp_cls {v : Nat → Nat} {pa ps : Nat → Int32} (P : PsR v ps) (hw : WFL v) (hp : ∀ j, j < 5 * v 147 → pa j = nI (v (148 + j))) : ∃ ps', f_Ld_keepPast (nI (v 147)) (nI (v 188)) pa ps = some (nI (kp v 188), ps') ∧ PsR (kp v) ps' := by
  have h8 := P.1
  have hn8 := hw.1
  unfold f_Ld_keepPast
  simp only [jnE]
  by_cases q : v 188 = 8
  · rw [q, if_neg (show ¬ nI 8 < (8 : Int32) from by decide), ltE]
    refine ⟨_, by rw [kp188, if_pos q]; rfl, by rw [kp188, if_pos q]; decide, fun p hp' => ?_⟩
    rw [kp188, if_pos q] at hp'
    rw [show ((41 : Int32).toNatClampNeg) = 41 from by decide, show ((0 : Int32).toNatClampNeg) = 0 from by decide, show ((287 : Int32).toNatClampNeg) = 287 from by decide, show ((7 : Int32) * 41).toNatClampNeg = 287 from by decide, show ((7 : Int32) * 41 + 1).toNatClampNeg = 288 from by decide, show ((40 : Int32).toNatClampNeg) = 40 from by decide]
    by_cases p7 : p = 7
    · subst p7
      refine ⟨WFL_ag hw ?_ fun i h1 h2 => ?_, ?_, fun j hj => ?_⟩
      · rw [sh_ne (by omega), kp_lo (by omega)]
      · rw [sh_at h1 h2, kp_b q (by omega) (by omega)]
        exact congrArg v (by omega)
      · unfold va_cpy
        rw [if_neg (by omega), upd_same, kp_b q (by omega) (by omega)]
      · rw [kp_b q (by omega) (by omega), show 147 + (189 + 41 * 7 - 476) = 147 from rfl] at hj
        rw [kp_b q (by omega) (by omega)]
        unfold va_cpy
        rw [if_pos (by omega), hp _ (by omega)]
        exact congrArg nI (congrArg v (by omega))
    · have p7' : p < 7 := by omega
      obtain ⟨a, b, c⟩ := P.2 (p + 1) (by omega)
      have hn := PsR_n P (show p + 1 < v 188 by omega)
      refine ⟨WFL_ag a ?_ fun i h1 h2 => ?_, ?_, fun j hj => ?_⟩
      · rw [sh_ne (by omega), sh_ne (by omega), kp_lo (by omega)]
      · rw [sh_at h1 h2, sh_at h1 h2, kp_a q (by omega) (by omega)]
        exact congrArg v (by omega)
      · unfold va_cpy
        rw [if_neg (by omega), upd_ne (by omega), if_pos (by omega), kp_a q (by omega) (by omega), show 41 + (41 * p - 0) = 41 * (p + 1) from by omega, b]
        exact congrArg nI (congrArg v (by omega))
      · rw [kp_a q (by omega) (by omega), show 189 + 41 * p + 41 = 189 + 41 * (p + 1) from by omega] at hj
        rw [kp_a q (by omega) (by omega)]
        unfold va_cpy
        rw [if_neg (by omega), upd_ne (by omega), if_pos (by omega), show 41 + (41 * p + 1 + j - 0) = 41 * (p + 1) + 1 + j from by omega, c j hj]
        exact congrArg nI (congrArg v (by omega))
  · have hlt : v 188 < 8 := by omega
    rw [if_pos (show nI (v 188) < (8 : Int32) from nI_lt (b := 8) hlt (by decide))]
    simp only [show (41 : Int32) = nI 41 from rfl, show (1 : Int32) = nI 1 from rfl, pk_mul, nIa, ltE]
    rw [gd_nI (show v 188 * 41 < 328 by omega) (by decide), gd_t (by
      unfold cpOk
      refine decide_eq_true ⟨by decide, nI_pos (by omega), by decide, by decide, ?_⟩
      rw [nI_clamp (by omega), show ((40 : Int32).toNatClampNeg) = 40 from by decide]
      omega)]
    rw [show ((0 : Int32).toNatClampNeg) = 0 from by decide, show ((40 : Int32).toNatClampNeg) = 40 from by decide, nI_clamp (by omega), nI_clamp (by omega)]
    refine ⟨_, by rw [kp188, if_neg q], by rw [kp188, if_neg q]; omega, fun p hp' => ?_⟩
    rw [kp188, if_neg q] at hp'
    by_cases pn : p = v 188
    · refine ⟨WFL_ag hw ?_ fun i h1 h2 => ?_, ?_, fun j hj => ?_⟩
      · rw [sh_ne (by omega), kp_lo (by omega)]
      · rw [sh_at h1 h2, kp_c q (by omega) (by omega)]
        exact congrArg v (by omega)
      · unfold va_cpy
        rw [if_neg (by omega), kp_c q (by omega) (by omega), show 41 * p = v 188 * 41 from by omega, upd_same]
        exact congrArg nI (congrArg v (by omega))
      · rw [kp_c q (by omega) (by omega), show 147 + (189 + 41 * p - (189 + 41 * v 188)) = 147 from by omega] at hj
        rw [kp_c q (by omega) (by omega)]
        unfold va_cpy
        rw [if_pos (by omega), hp _ (by omega)]
        exact congrArg nI (congrArg v (by omega))
    · have pn' : p < v 188 := by omega
      obtain ⟨a, b, c⟩ := P.2 p pn'
      have hn := PsR_n P pn'
      refine ⟨WFL_ag a ?_ fun i h1 h2 => ?_, ?_, fun j hj => ?_⟩
      · rw [sh_ne (by omega), sh_ne (by omega), kp_lo (by omega)]
      · rw [sh_at h1 h2, sh_at h1 h2, kp_d q (by omega) (by omega)]
      · unfold va_cpy
        rw [if_neg (by omega), upd_ne (by omega), kp_d q (by omega) (by omega), b]
      · rw [kp_d q (by omega) (by omega)] at hj
        rw [kp_d q (by omega) (by omega)]
        unfold va_cpy
        rw [if_neg (by omega), upd_ne (by omega), c j hj]

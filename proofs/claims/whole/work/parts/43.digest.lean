/-! digest -/
theorem fd_lp0 {F : ((Int64 × Int32) → Option Int64) → (Int64 × Int32) → Option Int64} (st : Nat → Int64 → Int64) (N : Nat) (hN : N < 4096) (step : ∀ i a, i < N → ∀ rec, F rec (a, nI i) = rec (st i a, nI (i + 1))) (stop : ∀ a rec, F rec (a, nI N) = some a) (a : Int64) : lp F FU (a, 0) = some (fd st N a) := by
  obtain ⟨x, rec, rfl, q⟩ := lp_inv (f := F) (fun i (y : Int64 × Int32) => y = (fd st i a, nI i)) N hN (by
    rintro i _ hi rfl
    exact ⟨_, rfl, fun rec => step i _ hi rec⟩) (x0 := (a, (0 : Int32))) rfl
  rw [q, stop]
def dp (x : Int32) (a : Int64) : Int64 := (31 : Int64) * a + x.toInt64
theorem dpE (x : Int32) (a : Int64) : (31 : Int64) * a + x.toInt64 = dp x a := rfl
def dgC (v : Nat → Nat) : Nat → Int64 → Int64 := fun i a => dp (nI (v (74 + i))) (dp (nI (v (38 + i))) (dp (nI (v (2 + i))) a))
def dgM (v : Nat → Nat) : Nat → Int64 → Int64 := fun i a => dp (nI (v (126 + 4 * i))) (dp (nI (v (125 + 4 * i))) (dp (nI (v (124 + 4 * i))) (dp (nI (v (123 + 4 * i))) a)))
def dgL (v : Nat → Nat) : Nat → Int64 → Int64 := fun i => fd (fun j => dp (nI (v (148 + (5 * i + j))))) 5
def dgA (v L : Nat → Nat) (cv : Nat → Int32) : Int64 := fd (dgL v) (v 147) (fd (dgM v) (v 122) (fd (fun i => dp (enc (L i))) 6 (fd (fun i => dp (nI (v (110 + i)))) 6 (fd (dgC v) (v 0 * v 1) (fd (fun i => dp (cv i)) 6 829)))))
theorem n6ge {i : Nat} (hi : i < 6) : ¬ (6 : Int32) ≤ nI i := nI_ge (b := 6) hi (by decide)
theorem n66 : (6 : Int32) ≤ nI 6 := by decide
theorem dg1 {a1 a2 a3 a4 a5 len : Int32} {cv : Nat → Int32} (h : ∀ k, k < 6 → f_Ai_countOf a1 a2 a3 a4 a5 len (nI k) = some (cv k)) (J : Int64 → Option Int64) (a : Int64) : lp (f_Ai_digest_L6 a1 a2 a3 a4 a5 len J) FU (a, 0) = J (fd (fun i => dp (cv i)) 6 a) :=
  fd_lp (F := f_Ai_digest_L6 a1 a2 a3 a4 a5 len) (fun i => dp (cv i)) 6 (by decide) (fun i a hi J rec => by
    unfold f_Ai_digest_L6
    dsimp only
    rw [if_neg (n6ge hi), bd_some (h i hi), ltE, ltE, nI1, dpE]) (fun a J rec => by
    unfold f_Ai_digest_L6
    dsimp only
    rw [if_pos n66]) a J
theorem dg2 {w h : Nat} {gr ar to : Nat → Int64} {v : Nat → Nat} (hn : w * h ≤ 36) (r1 : RS 3 (w * h) gr (fun c => v (2 + c))) (r2 : RS 6 (w * h) ar (fun c => v (38 + c))) (r3 : RS 3 (w * h) to (fun c => v (74 + c))) (b : ∀ c, c < w * h → v (2 + c) < 3 ∧ v (38 + c) < 6 ∧ v (74 + c) < 3) (J : Int64 → Option Int64) (a : Int64) : lp (f_Ai_digest_L33 (nI w) (nI h) gr ar to J) FU (a, 0) = J (fd (dgC v) (w * h) a) :=
  fd_lp (F := f_Ai_digest_L33 (nI w) (nI h) gr ar to) (dgC v) (w * h) (by omega) (fun i a hi J rec => by
    unfold f_Ai_digest_L33
    dsimp only
    have h3 := b i hi
    rw [pk_mul, if_neg (nI_ge hi (by omega)), bd_some (rowOf_eq (by decide) r1 hi hn h3.1), ltE, bd_some (rowOf_eq (by decide) r2 hi hn h3.2.1), ltE, bd_some (rowOf_eq (by decide) r3 hi hn h3.2.2), ltE, ltE, nI1, dpE, dpE, dpE]
    rfl) (fun a J rec => by
    unfold f_Ai_digest_L33
    dsimp only
    rw [pk_mul, if_pos (nI_le (Nat.le_refl _) (by omega))]) a J
theorem dg3 {fe : Nat → Int32} {v : Nat → Nat} (hfe : ∀ i, i < 6 → fe i = nI (v (110 + i))) (J : Int64 → Option Int64) (a : Int64) : lp (f_Ai_digest_L117 fe J) FU (a, 0) = J (fd (fun i => dp (nI (v (110 + i)))) 6 a) :=
  fd_lp (F := f_Ai_digest_L117 fe) (fun i => dp (nI (v (110 + i)))) 6 (by decide) (fun i a hi J rec => by
    unfold f_Ai_digest_L117
    dsimp only
    rw [if_neg (n6ge hi), gd_nI hi (by decide), nI_clamp (by omega), hfe i hi, ltE, ltE, nI1, dpE]) (fun a J rec => by
    unfold f_Ai_digest_L117
    dsimp only
    rw [if_pos n66]) a J
theorem dg4 {row lts : Nat → Int32} {L : Nat → Nat} (hl : LtR row lts L) (J : Int64 → Option Int64) (a : Int64) : lp (f_Ai_digest_L148 lts J) FU (a, 0) = J (fd (fun i => dp (enc (L i))) 6 a) :=
  fd_lp (F := f_Ai_digest_L148 lts) (fun i => dp (enc (L i))) 6 (by decide) (fun i a hi J rec => by
    unfold f_Ai_digest_L148
    dsimp only
    rw [if_neg (n6ge hi), gd_nI hi (by decide), nI_clamp (by omega), (hl i hi).2.1, ltE, ltE, nI1, dpE]) (fun a J rec => by
    unfold f_Ai_digest_L148
    dsimp only
    rw [if_pos n66]) a J
theorem dg5 {mk : Nat} {ki ce se cr : Nat → Int32} {v : Nat → Nat} (hk : mk ≤ 6) (m : ∀ i, i < mk → ki i = nI (v (123 + 4 * i)) ∧ ce i = nI (v (124 + 4 * i)) ∧ se i = nI (v (125 + 4 * i)) ∧ cr i = nI (v (126 + 4 * i))) (J : Int64 → Option Int64) (a : Int64) : lp (f_Ai_digest_L179 (nI mk) ki ce se cr J) FU (a, 0) = J (fd (dgM v) mk a) :=
  fd_lp (F := f_Ai_digest_L179 (nI mk) ki ce se cr) (dgM v) mk (by omega) (fun i a hi J rec => by
    unfold f_Ai_digest_L179
    dsimp only
    obtain ⟨m1, m2, m3, m4⟩ := m i hi
    simp only [if_neg (nI_ge hi (show mk < 2 ^ 31 by omega)), gd_nI (show i < 6 by omega) (show 6 < 2 ^ 31 by decide), nI_clamp (show i < 2 ^ 31 by omega), ltE, m1, m2, m3, m4, nI1, dpE]
    rfl) (fun a J rec => by
    unfold f_Ai_digest_L179
    dsimp only
    rw [if_pos (nI_le (Nat.le_refl _) (by omega))]) a J
theorem dg6 {lv : Nat} {pa : Nat → Int32} {v : Nat → Nat} (hk : lv ≤ 8) (hp : ∀ j, j < 5 * lv → pa j = nI (v (148 + j))) (a : Int64) : lp (f_Ai_digest_L266 (nI lv) pa) FU (a, 0) = some (fd (dgL v) lv a) :=
  fd_lp0 (F := f_Ai_digest_L266 (nI lv) pa) (dgL v) lv (by omega) (fun i a hi rec => by
    unfold f_Ai_digest_L266
    dsimp only
    rw [if_neg (nI_ge hi (by omega)), jnE, fd_lp (F := f_Ai_digest_L280 pa (nI i)) (fun j => dp (nI (v (148 + (5 * i + j))))) 5 (by decide) (fun j a hj J rec => by
      unfold f_Ai_digest_L280
      dsimp only
      rw [if_neg (show ¬ (5 : Int32) ≤ nI j from nI_ge (b := 5) hj (by decide)), bd_some (part_eq pa (show 5 * i + j < 40 by omega)), hp _ (by omega), ltE, ltE, nI1, dpE]) (fun a J rec => by
      unfold f_Ai_digest_L280
      dsimp only
      rw [if_pos (show (5 : Int32) ≤ nI 5 from by decide)]) a, ltE, nI1]
    rfl) (fun a rec => by
    unfold f_Ai_digest_L266
    dsimp only
    rw [if_pos (nI_le (Nat.le_refl _) (by omega))]) a
theorem dm1 {row : Nat → Int32} {len : Int32} {cv : Nat → Int32} (h : ∀ k, k < 6 → f_Mo_countOf len row (nI k) = some (cv k)) (J : Int64 → Option Int64) (a : Int64) : lp (f_Mo_digest_L6 len row J) FU (a, 0) = J (fd (fun i => dp (cv i)) 6 a) :=
  fd_lp (F := f_Mo_digest_L6 len row) (fun i => dp (cv i)) 6 (by decide) (fun i a hi J rec => by
    unfold f_Mo_digest_L6
    dsimp only
    rw [if_neg (n6ge hi), bd_some (h i hi), ltE, ltE, nI1, dpE]) (fun a J rec => by
    unfold f_Mo_digest_L6
    dsimp only
    rw [if_pos n66]) a J
theorem dm2 {row : Nat → Int32} {v : Nat → Nat} (R : Rm row v) (hn : v 0 * v 1 ≤ 36) (J : Int64 → Option Int64) (a : Int64) : lp (f_Mo_digest_L33 row J) FU (a, 0) = J (fd (dgC v) (v 0 * v 1) a) :=
  fd_lp (F := f_Mo_digest_L33 row) (dgC v) (v 0 * v 1) (by omega) (fun i a hi J rec => by
    unfold f_Mo_digest_L33
    dsimp only
    simp only [bd_some (mCells_eq R), if_neg (nI_ge hi (show v 0 * v 1 < 2 ^ 31 by omega)), show (2 : Int32) = nI 2 from rfl, show (38 : Int32) = nI 38 from rfl, show (74 : Int32) = nI 74 from rfl, nIa, gd_nI (show 2 + i < 1551 by omega) (show 1551 < 2 ^ 31 by decide), gd_nI (show 38 + i < 1551 by omega) (show 1551 < 2 ^ 31 by decide), gd_nI (show 74 + i < 1551 by omega) (show 1551 < 2 ^ 31 by decide), nI_clamp (show 2 + i < 2 ^ 31 by omega), nI_clamp (show 38 + i < 2 ^ 31 by omega), nI_clamp (show 74 + i < 2 ^ 31 by omega), R (2 + i) (by omega) (by omega), R (38 + i) (by omega) (by omega), R (74 + i) (by omega) (by omega), ltE, nI1, dpE]
    rfl) (fun a J rec => by
    unfold f_Mo_digest_L33
    dsimp only
    rw [bd_some (mCells_eq R), if_pos (nI_le (Nat.le_refl _) (by omega))]) a J
theorem dm3 {row lts : Nat → Int32} {v L : Nat → Nat} (R : Rm row v) (hl : LtR row lts L) (J : Int64 → Option Int64) (a : Int64) : lp (f_Mo_digest_L95 row J) FU (a, 0) = J (fd (fun i => dp (enc (L i))) 6 (fd (fun i => dp (nI (v (110 + i)))) 6 a)) := by
  rw [fd_lp (F := f_Mo_digest_L95 row) (fun i => dp (row (110 + i))) 12 (by decide) (fun i a hi J rec => by
    unfold f_Mo_digest_L95
    dsimp only
    rw [if_neg (show ¬ (12 : Int32) ≤ nI i from nI_ge (b := 12) hi (by decide)), show (110 : Int32) = nI 110 from rfl, nIa, gd_nI (by omega) (by decide), nI_clamp (by omega), ltE, ltE, nI1, dpE]) (fun a J rec => by
    unfold f_Mo_digest_L95
    dsimp only
    rw [if_pos (show (12 : Int32) ≤ nI 12 from by decide)]) a J]
  refine congrArg J ?_
  rw [show (12 : Nat) = 6 + 6 from rfl, fd_add]
  have a1 : fd (fun i => dp (row (110 + i))) 6 a = fd (fun i => dp (nI (v (110 + i)))) 6 a := fd_congr (fun i hi a => by rw [R (110 + i) (by omega) (by omega)]) a
  rw [a1]
  exact fd_congr (fun i hi a => by
    rw [show 110 + (6 + i) = 116 + i from by omega, (hl i hi).2.2]) _
theorem dm4 {row : Nat → Int32} {v : Nat → Nat} (R : Rm row v) (hk : v 122 ≤ 6) (J : Int64 → Option Int64) (a : Int64) : lp (f_Mo_digest_L126 row J) FU (a, 0) = J (fd (dgM v) (v 122) a) := by
  have e122 : row (122 : Int32).toNatClampNeg = nI (v 122) := R 122 (by decide) (by decide)
  rw [fd_lp (F := f_Mo_digest_L126 row) (fun i => dp (nI (v (123 + i)))) (4 * v 122) (by omega) (fun i a hi J rec => by
    unfold f_Mo_digest_L126
    dsimp only
    rw [e122, show (4 : Int32) = nI 4 from rfl, pk_mul, if_neg (nI_ge hi (by omega)), show (123 : Int32) = nI 123 from rfl, nIa, gd_nI (by omega) (by decide), nI_clamp (by omega), R (123 + i) (by omega) (by omega), ltE, ltE, nI1, dpE]) (fun a J rec => by
    unfold f_Mo_digest_L126
    dsimp only
    rw [e122, show (4 : Int32) = nI 4 from rfl, pk_mul, if_pos (nI_le (Nat.le_refl _) (by omega))]) a J, fd_mul]
  refine congrArg J ?_
  refine fd_congr (fun i hi a => ?_) a
  show dp (nI (v (123 + (4 * i + 3)))) (dp (nI (v (123 + (4 * i + 2)))) (dp (nI (v (123 + (4 * i + 1)))) (dp (nI (v (123 + (4 * i + 0)))) a))) = _
  rw [show 123 + (4 * i + 3) = 126 + 4 * i from by omega, show 123 + (4 * i + 2) = 125 + 4 * i from by omega, show 123 + (4 * i + 1) = 124 + 4 * i from by omega, show 123 + (4 * i + 0) = 123 + 4 * i from by omega]
  rfl
theorem dm5 {row : Nat → Int32} {v : Nat → Nat} (R : Rm row v) (hk : v 147 ≤ 8) (a : Int64) : lp (f_Mo_digest_L164 row) FU (a, 0) = some (fd (dgL v) (v 147) a) := by
  have e147 : row (147 : Int32).toNatClampNeg = nI (v 147) := R 147 (by decide) (by decide)
  rw [fd_lp0 (F := f_Mo_digest_L164 row) (fun i => dp (nI (v (148 + i)))) (5 * v 147) (by omega) (fun i a hi rec => by
    unfold f_Mo_digest_L164
    dsimp only
    rw [e147, show (5 : Int32) = nI 5 from rfl, pk_mul, if_neg (nI_ge hi (by omega)), show (148 : Int32) = nI 148 from rfl, nIa, gd_nI (by omega) (by decide), nI_clamp (by omega), R (148 + i) (by omega) (by omega), ltE, ltE, nI1, dpE]) (fun a rec => by
    unfold f_Mo_digest_L164
    dsimp only
    rw [e147, show (5 : Int32) = nI 5 from rfl, pk_mul, if_pos (nI_le (Nat.le_refl _) (by omega))]) a, fd_mul]
  rfl
set_option maxRecDepth 100000 in
theorem digest_call {row : Nat → Int32} {v : Nat → Nat} {W : Int32} {ev fc lc : Int64} {MK LV : Int32} {gr ar : Nat → Int64} {ki ce se pa : Nat → Int32} (S : TwoL row v W ev fc lc MK LV gr ar ki ce se pa) {to : Nat → Int64} (hT : RS 3 (v 0 * v 1) to (fun c => v (74 + c))) {fe lts cr : Nat → Int32} {L : Nat → Nat} (hfe : ∀ i, i < 6 → fe i = nI (v (110 + i))) (hl : LtR row lts L) (hcr : ∀ i, i < v 122 → cr i = nI (v (126 + 4 * i))) (len : Int32) :
    ∃ r, f_Ai_digest W (nI (v 1)) MK LV (nI (v 188)) len gr ar to fe lts ki ce se cr pa = some r ∧ f_Mo_digest len row = some r := by
  obtain ⟨k1, rfl, k3, k4⟩ := TwoL_mk S
  obtain ⟨R, hw, G, ⟨s1, s2, rfl, s4, s5, s6, s7, s8⟩, r, m⟩ := S
  have hW : W = nI (v 0) := G.2.2.2.1
  subst hW
  have hcv : ∃ cv : Nat → Int32, ∀ k, k < 6 → f_Ai_countOf (nI (v 0)) (nI (v 1)) (nI (v 122)) (nI (v 147)) (nI (v 188)) len (nI k) = some (cv k) ∧ f_Mo_countOf len row (nI k) = some (cv k) := ⟨fun k => (f_Mo_countOf len row (nI k)).getD 0, fun k hk => by
    obtain ⟨r, r1, r2⟩ := countOf_eq R len hk
    dsimp only
    rw [r2]
    exact ⟨r1, rfl⟩⟩
  obtain ⟨cv, hcv⟩ := hcv
  refine ⟨dgA v L cv, ?_, ?_⟩ <;> unfold dgA
  · unfold f_Ai_digest
    rw [jnE, dg1 (fun k hk => (hcv k hk).1), jnE, dg2 k3 r s8 hT hw.2.2.2.2.2.1, jnE, dg3 hfe, jnE, dg4 hl, jnE, dg5 k1 (fun i hi => ⟨(m i hi).1, (m i hi).2.2.1, (s4 i hi).1, hcr i hi⟩), dg6 s6.1 s5]
  · unfold f_Mo_digest
    rw [jnE, dm1 (fun k hk => (hcv k hk).2), jnE, dm2 R k3, jnE, dm3 R hl, jnE, dm4 R k1, dm5 R s6.1]

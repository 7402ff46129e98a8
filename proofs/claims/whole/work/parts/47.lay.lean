/-! a valley as at first -/
theorem startRows_eq (ev : Int64) {n : Nat} (hn : n < 4096) (P : Nat → Int64) : f_Ld_startRows ev n P = some (seg 0 n (fun j => if j = 0 then ev else 0) P) := by
  unfold f_Ld_startRows
  obtain ⟨y, rec, rfl, h⟩ := lp_inv (f := f_Ld_startRows_L2 ev n) (fun i (y : Int32 × (Nat → Int64)) => y = (nI i, seg 0 i (fun j => if j = 0 then ev else 0) P)) n hn (by
    rintro i _ hi rfl
    refine ⟨_, rfl, fun rec => ?_⟩
    unfold f_Ld_startRows_L2
    dsimp only
    have e : vp_updL (seg 0 i (fun j => if j = 0 then ev else 0) P) i (if i = 0 then ev else 0) = seg 0 (i + 1) (fun j => if j = 0 then ev else 0) P := by
      funext j
      by_cases q : j = i
      · rw [q, vpu_same, seg_in (Nat.zero_le _) (by omega)]
      · rw [vpu_ne q]
        by_cases q2 : j < i
        · rw [seg_in (Nat.zero_le _) (by omega), seg_in (Nat.zero_le _) (by omega)]
        · rw [seg_out (by omega), seg_out (by omega)]
    rw [show Int32.ofNat n = nI n from rfl, if_neg (nI_ge hi (by omega)), jnE]
    by_cases q : i = 0
    · rw [if_pos q] at e
      rw [if_pos (show nI i = 0 from by rw [q]; rfl)]
      dsimp only
      rw [gd_nI hi (by omega), nI_clamp (by omega), ltE, ltE, nI1, e]
    · rw [if_neg q] at e
      rw [if_neg (show ¬ nI i = 0 from fun z => q ((nI_eq (b := 0) (by omega) (by decide)).mp z))]
      dsimp only
      rw [gd_nI hi (by omega), nI_clamp (by omega), ltE, ltE, nI1, e]) (x0 := ((0 : Int32), P)) (by rw [seg_0]; rfl)
  rw [h]
  unfold f_Ld_startRows_L2
  dsimp only
  rw [show Int32.ofNat n = nI n from rfl, if_pos (nI_le (Nat.le_refl _) (by omega))]
theorem start_RS {K n : Nat} (hK : K < 4096) {ev : Int64} (he : ∀ c, c < 64 → tb ev c = decide (c < n)) (P : Nat → Int64) : RS K n (seg 0 K (fun j => if j = 0 then ev else 0) P) (fun _ => 0) := by
  intro k hk c hc
  rw [seg_in (Nat.zero_le _) (by omega)]
  by_cases q : k = 0
  · rw [if_pos q, he c hc, q]
    simp
  · rw [if_neg q, tb_0]
    have : ¬ (0 = k) := fun z => q z.symm
    simp [this]
theorem ev_bits : ∀ n, n < 37 → ∀ c, c < 64 → tb (((1 : Int64) <<< ((nI n).toInt64 &&& 63)) - 1) c = decide (c < n) := by
  decide +kernel
/-- the first column, row by row -/
theorem col_eq {w h : Nat} (hw : w ≤ 6) (hh : h ≤ 6) : ∃ fc : Int64, (∀ J, lp (f_Ld_lay_L28 (nI w) (nI h) J) FU (0, 0) = J fc) ∧ ∀ c, c < 64 → (tb fc c = true ↔ ∃ y, y < h ∧ c = w * y) := by
  obtain ⟨⟨a, fc⟩, ⟨e, hb⟩, g⟩ := lp_fam (f := f_Ld_lay_L28 (nI w) (nI h)) (fun i (y : Int32 × Int64) => y.1 = nI i ∧ ∀ c, c < 64 → (tb y.2 c = true ↔ ∃ z, z < i ∧ c = w * z)) h (by omega) (by
    rintro i ⟨a, x⟩ hi ⟨e, hb⟩
    dsimp only at e hb
    subst e
    have b36 : w * i ≤ 36 := Nat.mul_le_mul hw (show i ≤ 6 by omega)
    refine ⟨(nI (i + 1), x ||| ((1 : Int64) <<< ((nI (w * i)).toInt64 &&& 63))), ⟨rfl, fun c hc => ?_⟩, fun J rec => ?_⟩
    · dsimp only
      rw [tb_or, tb_one (by omega), Bool.or_eq_true, hb c hc, decide_eq_true_iff]
      constructor
      · rintro (⟨z, z1, z2⟩ | rfl)
        · exact ⟨z, by omega, z2⟩
        · exact ⟨i, by omega, rfl⟩
      · rintro ⟨z, z1, z2⟩
        by_cases q : z = i
        · exact Or.inr (by rw [z2, q])
        · exact Or.inl ⟨z, by omega, z2⟩
    · unfold f_Ld_lay_L28
      dsimp only
      rw [if_neg (nI_ge hi (by omega)), ltE, ltE, pk_mul, nI1]) (x0 := ((0 : Int32), (0 : Int64))) ⟨rfl, fun c hc => by
        rw [tb_0]
        constructor
        · intro z; exact absurd z (by decide)
        · rintro ⟨z, z1, _⟩; omega⟩
  dsimp only at e hb
  subst e
  refine ⟨fc, fun J => ?_, hb⟩
  obtain ⟨rec, q⟩ := g J
  rw [q]
  unfold f_Ld_lay_L28
  dsimp only
  rw [if_pos (nI_le (Nat.le_refl _) (by omega))]
theorem col_iff {w h c : Nat} (hw : 1 ≤ w) : (∃ y, y < h ∧ c = w * y) ↔ c < w * h ∧ c % w = 0 := by
  constructor
  · rintro ⟨y, h1, rfl⟩
    exact ⟨Nat.mul_lt_mul_of_pos_left h1 hw, Nat.mul_mod_right _ _⟩
  · rintro ⟨h1, h2⟩
    have := Nat.div_add_mod c w
    rw [h2, Nat.add_zero] at this
    refine ⟨c / w, ?_, this.symm⟩
    rw [← this] at h1
    exact Nat.lt_of_mul_lt_mul_left h1
theorem lcol_iff {w h c : Nat} (hw : 1 ≤ w) : (w - 1 ≤ c ∧ c - (w - 1) < w * h ∧ (c - (w - 1)) % w = 0) ↔ c < w * h ∧ c % w = w - 1 := by
  constructor
  · rintro ⟨h1, h2, h3⟩
    obtain ⟨y, y1, y2⟩ := (col_iff hw).mpr ⟨h2, h3⟩
    have e : c = w * y + (w - 1) := by omega
    have m : w * (y + 1) ≤ w * h := Nat.mul_le_mul_left _ y1
    rw [Nat.mul_succ] at m
    refine ⟨by omega, ?_⟩
    rw [e, Nat.mul_add_mod, Nat.mod_eq_of_lt (by omega)]
  · rintro ⟨h1, h2⟩
    have := Nat.div_add_mod c w
    rw [h2] at this
    have e : c - (w - 1) = w * (c / w) := by omega
    refine ⟨by omega, by omega, ?_⟩
    rw [e]
    exact Nat.mul_mod_right _ _
def v0 (w h : Nat) : Nat → Nat := fun i => if i = 0 then w else if i = 1 then h else if 110 ≤ i ∧ i < 116 then 1 else 0
theorem v0_z {w h i : Nat} (h2 : 2 ≤ i) (h3 : ¬ (110 ≤ i ∧ i < 116)) : v0 w h i = 0 := by
  unfold v0
  rw [if_neg (by omega), if_neg (by omega), if_neg h3]
def bgn : Nat → Int32 := fun j => if 110 ≤ j ∧ j < 116 then 1 else if 116 ≤ j ∧ j < 122 then -1 else 0
theorem begin_eq (row : Nat → Int32) (w hh : Nat) : f_Mo_begin row (nI w) (nI hh) = some (upd (upd (seg 0 517 bgn row) 0 (nI w)) 1 (nI hh)) := by
  unfold f_Mo_begin
  obtain ⟨y, rfl, h⟩ := lp_fam (f := f_Mo_begin_L2) (fun i (y : Int32 × (Nat → Int32)) => y = (nI i, seg 0 i bgn row)) 517 (by decide) (by
    rintro i _ hi rfl
    refine ⟨_, rfl, fun J rec => ?_⟩
    unfold f_Mo_begin_L2
    dsimp only
    rw [if_neg (show ¬ (517 : Int32) ≤ nI i from nI_ge (b := 517) hi (by decide))]
    by_cases q : 110 ≤ i ∧ i < 116
    · rw [bd_some (show f_Mo_in (nI i).toInt64 110 115 = some 1 from min_t (a := 110) (b := 115) (by decide) (by decide) ⟨i, q.1, by omega, rfl⟩), jnE, if_neg (by decide)]
      dsimp only
      rw [gd_nI (by omega) (by decide), nI_clamp (by omega), ltE, ltE, nI1, seg_s (by omega) (by unfold bgn; rw [if_pos (by omega)])]
    · rw [bd_some (show f_Mo_in (nI i).toInt64 110 115 = some 0 from min_f (a := 110) (b := 115) (by decide) (by decide) (fun k k1 k2 z => by
        have := (nI_eq (a := i) (b := k) (by omega) (by omega)).mp z
        omega)), jnE, if_pos rfl]
      by_cases q2 : 116 ≤ i ∧ i < 122
      · rw [bd_some (show f_Mo_in (nI i).toInt64 116 121 = some 1 from min_t (a := 116) (b := 121) (by decide) (by decide) ⟨i, q2.1, by omega, rfl⟩), if_neg (by decide)]
        dsimp only
        rw [gd_nI (by omega) (by decide), nI_clamp (by omega), ltE, ltE, nI1, seg_s (by omega) (by unfold bgn; rw [if_neg (by omega), if_pos (by omega)])]
      · rw [bd_some (show f_Mo_in (nI i).toInt64 116 121 = some 0 from min_f (a := 116) (b := 121) (by decide) (by decide) (fun k k1 k2 z => by
          have := (nI_eq (a := i) (b := k) (by omega) (by omega)).mp z
          omega)), if_pos rfl]
        dsimp only
        rw [gd_nI (by omega) (by decide), nI_clamp (by omega), ltE, ltE, nI1, seg_s (by omega) (by unfold bgn; rw [if_neg (by omega), if_neg (by omega)])]) (x0 := ((0 : Int32), row)) (by rw [seg_0]; rfl)
  rw [jnE]
  obtain ⟨rec, q⟩ := h (fun x1 => lt (upd x1 (0 : Int32).toNatClampNeg (nI w)) fun x2 => lt (upd x2 (1 : Int32).toNatClampNeg (nI hh)) fun x3 => some x3)
  rw [q]
  unfold f_Mo_begin_L2
  dsimp only
  rw [if_pos (show (517 : Int32) ≤ nI 517 from by decide)]
  rfl
/-- a land, as both have it -/
def LnR (row : Nat → Int32) (v L : Nat → Nat) (W H : Int32) (ev fc lc : Int64) (MK LV PS : Int32) (gr ar to : Nat → Int64) (fe lts ki ce se cr pa ps : Nat → Int32) : Prop :=
  TwoL row v W ev fc lc MK LV gr ar ki ce se pa ∧ H = nI (v 1) ∧ PS = nI (v 188) ∧ RS 3 (v 0 * v 1) to (fun c => v (74 + c)) ∧ (∀ i, i < 6 → fe i = nI (v (110 + i))) ∧ LtR row lts L ∧ (∀ i, i < v 122 → cr i = nI (v (126 + 4 * i))) ∧ PsR v ps
theorem lay_two (row : Nat → Int32) (gr ar to : Nat → Int64) (fe lts : Nat → Int32) {w h : Nat} (hw : 1 ≤ w) (hw6 : w ≤ 6) (hh : 1 ≤ h) (hh6 : h ≤ 6) :
    ∃ ev fc lc gr' ar' to' fe' lts' row', f_Ld_lay gr ar to fe lts (nI w) (nI h) = some (nI w, nI h, ev, fc, lc, gr', ar', to', fe', lts', 0, 0, 0) ∧ f_Mo_begin row (nI w) (nI h) = some row' ∧ (∀ ki ce se cr pa ps, LnR row' (v0 w h) (fun _ => 6) (nI w) (nI h) ev fc lc 0 0 0 gr' ar' to' fe' lts' ki ce se cr pa ps) ∧ ∀ i, ¬ i < 517 → row' i = row i := by
  have hn : w * h ≤ 36 := Nat.mul_le_mul hw6 hh6
  have he := ev_bits (w * h) (by omega)
  obtain ⟨fc, c1, c2⟩ := col_eq hw6 hh6
  have hfc : ∀ c, c < 64 → tb fc c = decide (c < w * h ∧ c % w = 0) := fun c hc => by
    rw [Bool.eq_iff_iff, c2 c hc, col_iff hw, decide_eq_true_iff]
  have e0 : v0 w h 0 = w := rfl
  have e1 : v0 w h 1 = h := rfl
  have ws : nI w - 1 = nI (w - 1) := by rw [show (1 : Int32) = nI 1 from rfl, pk_sub hw]
  have hlc : ∀ c, c < 64 → tb (fc <<< ((nI (w - 1)).toInt64 &&& 63)) c = decide (c < w * h ∧ c % w = w - 1) := fun c hc => by
    rw [tb_shl _ (by omega), Bool.eq_iff_iff, decide_eq_true_iff, Bool.and_eq_true, Bool.and_eq_true, decide_eq_true_iff, decide_eq_true_iff, hfc _ (by omega), decide_eq_true_iff, ← lcol_iff hw]
    constructor
    · rintro ⟨⟨a, _⟩, b⟩
      exact ⟨a, b⟩
    · rintro ⟨a, b⟩
      exact ⟨⟨a, hc⟩, b⟩
  generalize hev : ((1 : Int64) <<< ((nI (w * h)).toInt64 &&& 63)) - 1 = ev at he
  generalize hlv : fc <<< ((nI (w - 1)).toInt64 &&& 63) = lc at hlc
  have lay : f_Ld_lay gr ar to fe lts (nI w) (nI h) = some (nI w, nI h, ev, fc, lc, seg 0 3 (fun j => if j = 0 then ev else 0) gr, seg 0 6 (fun j => if j = 0 then ev else 0) ar, seg 0 3 (fun j => if j = 0 then ev else 0) to, (fun j => if j < 6 then 1 else fe j), (fun j => if j < 6 then -1 else lts j), 0, 0, 0) := by
    unfold f_Ld_lay
    rw [pk_mul, ltE, hev, jnE, c1, ltE, ws, hlv, bd_some (startRows_eq _ (by decide) gr), bd_some (startRows_eq _ (by decide) ar), bd_some (startRows_eq _ (by decide) to), bd_some (fillI_eq 6 (by decide) fe 1), bd_some (fillI_eq 6 (by decide) lts (-1))]
  refine ⟨_, _, _, _, _, _, _, _, _, lay, begin_eq row w h, ?_, fun i hi => ?_⟩
  · intro ki ce se cr pa ps
    have z122 : v0 w h 122 = 0 := v0_z (by omega) (by omega)
    have z147 : v0 w h 147 = 0 := v0_z (by omega) (by omega)
    have z188 : v0 w h 188 = 0 := v0_z (by omega) (by omega)
    have hL : WFL (v0 w h) := ⟨by rw [z147]; decide, fun j hj => by rw [z147] at hj; omega⟩
    have hR : ∀ i, i < 517 → upd (upd (seg 0 517 bgn row) 0 (nI w)) 1 (nI h) i = if i = 0 then nI w else if i = 1 then nI h else bgn i := fun i hi => by
      by_cases q : i = 1
      · rw [q, upd_same, if_neg (by decide), if_pos rfl]
      · rw [upd_ne q]
        by_cases q2 : i = 0
        · rw [q2, upd_same, if_pos rfl]
        · rw [upd_ne q2, seg_in (Nat.zero_le _) (by omega), if_neg q2, if_neg q]
    refine ⟨⟨fun i h1 h2 => ?_, ⟨by rw [e0]; exact hw, by rw [e0]; exact hw6, by rw [e1]; exact hh, by rw [e1]; exact hh6, by rw [e0, e1]; exact hn, fun c hc => ?_, fun i hi => ?_, by rw [z122]; decide, fun i hi => by rw [z122] at hi; omega, hL⟩, ⟨by rw [e0]; exact hw, by rw [e0]; exact hw6, by rw [e0, e1]; exact hn, by rw [e0], by rw [e0, e1]; exact he, by rw [e0, e1]; exact hfc, by rw [e0, e1]; exact hlc⟩, ⟨by rw [z122]; decide, by rw [z122]; rfl, by rw [z147]; rfl, fun i hi => by rw [z122] at hi; omega, fun j hj => by rw [z147] at hj; omega, hL, fun c => ?_, ?_⟩, ?_, fun i hi => by rw [z122] at hi; omega⟩, by rw [e1], by rw [z188]; rfl, ?_, fun i hi => ?_, fun k hk => ⟨Nat.le_refl _, ?_, ?_⟩, fun i hi => by rw [z122] at hi; omega, by rw [z188]; decide, fun p hp => by rw [z188] at hp; omega⟩
    · rw [hR i h1]
      unfold v0 bgn
      by_cases q : i = 0
      · rw [if_pos q, if_pos q]
      · rw [if_neg q, if_neg q]
        by_cases q2 : i = 1
        · rw [if_pos q2, if_pos q2]
        · rw [if_neg q2, if_neg q2]
          by_cases q3 : 110 ≤ i ∧ i < 116
          · rw [if_pos q3, if_pos q3]
            rfl
          · rw [if_neg q3, if_neg q3, if_neg h2]
            rfl
    · rw [e0, e1] at hc
      rw [v0_z (by omega) (by omega), v0_z (by omega) (by omega), v0_z (by omega) (by omega)]
      exact ⟨by decide, by decide, by decide⟩
    · unfold v0
      rw [if_neg (by omega), if_neg (by omega), if_pos (by omega)]
      decide
    · by_cases hc : c < 36
      · exact Or.inl (by rw [v0_z (by omega) (by omega)]; decide)
      · exact Or.inr (by rw [e0, e1]; omega)
    · rw [e0, e1]
      exact RS_ag (start_RS (by decide) he ar) fun c hc => v0_z (by omega) (by omega)
    · rw [e0, e1]
      exact RS_ag (start_RS (by decide) he gr) fun c hc => v0_z (by omega) (by omega)
    · rw [e0, e1]
      exact RS_ag (start_RS (by decide) he to) fun c hc => v0_z (by omega) (by omega)
    · dsimp only
      rw [if_pos hi]
      unfold v0
      rw [if_neg (by omega), if_neg (by omega), if_pos (by omega)]
      rfl
    · dsimp only
      rw [if_pos hk]
      rfl
    · rw [hR _ (by omega), if_neg (by omega), if_neg (by omega)]
      unfold bgn
      rw [if_neg (by omega), if_pos (by omega)]
      rfl
  · rw [upd_ne (by omega), upd_ne (by omega), seg_out (by omega)]

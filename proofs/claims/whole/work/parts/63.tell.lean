/-! what an item tells -/
theorem LnR_re {row row' : Nat → Int32} {v v' L : Nat → Nat} {W : Int32} {H : Int32} {ev : Int64} {fc : Int64} {lc : Int64} {MK : Int32} {LV : Int32} {PS : Int32} {gr : Nat → Int64} {ar : Nat → Int64} {to : Nat → Int64} {fe : Nat → Int32} {lts : Nat → Int32} {ki : Nat → Int32} {ce : Nat → Int32} {se : Nat → Int32} {cr : Nat → Int32} {pa : Nat → Int32} {ps : Nat → Int32} {MK' LV' : Int32} {gr' ar' : Nat → Int64} {ki' ce' se' cr' pa' ps' : Nat → Int32} (S : LnR row v L W H ev fc lc MK LV PS gr ar to fe lts ki ce se cr pa ps) (S2 : TwoL row' v' W ev fc lc MK' LV' gr' ar' ki' ce' se' pa') (e0 : v' 0 = v 0) (e1 : v' 1 = v 1) (e188 : v' 188 = v 188) (e74 : ∀ c, c < 36 → v' (74 + c) = v (74 + c)) (e110 : ∀ i, i < 6 → v' (110 + i) = v (110 + i)) (e116 : ∀ k, k < 6 → row' (116 + k) = row (116 + k)) (ec : ∀ i, i < v' 122 → cr' i = nI (v' (126 + 4 * i))) (P : PsR v' ps') : LnR row' v' L W H ev fc lc MK' LV' PS gr' ar' to fe lts ki' ce' se' cr' pa' ps' := by
  obtain ⟨S1, hH, hPS, hT, hf, hl, hc, hp⟩ := S
  have hn := S1.2.1.2.2.2.2.1
  refine ⟨S2, by rw [e1]; exact hH, by rw [e188]; exact hPS, ?_, fun i hi => by rw [e110 i hi]; exact hf i hi, fun k hk => ?_, ec, P⟩
  · rw [e0, e1]
    exact RS_ag hT fun c hc => e74 c (by omega)
  · rw [e116 k hk]
    exact hl k hk
theorem addMaker_two {row : Nat → Int32} {v : Nat → Nat} {W : Int32} {ev fc lc : Int64} {MK LV : Int32} {gr ar : Nat → Int64} {ki ce se pa : Nat → Int32} (S : TwoL row v W ev fc lc MK LV gr ar ki ce se pa) (cr : Nat → Int32) {k d o : Nat} (hn : v 122 < 6) (hk : k < 6) (hd : d < v 0 * v 1) (ho : o < 6) :
    ∃ row', f_Ld_addMaker MK ki ce se cr (nI k) (nI d) (nI o) = some (nI (v 122 + 1), upd ki (v 122) (nI k), upd ce (v 122) (nI d), upd se (v 122) (nI o), upd cr (v 122) (nI 5)) ∧ f_Mo_addMaker row (nI k) (nI d) (nI o) = some (nI (v 122), row') ∧ TwoL row' (vmk v (v 122) k d o) W ev fc lc (nI (v 122 + 1)) LV gr ar (upd ki (v 122) (nI k)) (upd ce (v 122) (nI d)) (upd se (v 122) (nI o)) pa ∧ ∀ i, ¬ (122 ≤ i ∧ i < 147) → row' i = row i := by
  obtain ⟨k1, rfl, k3, k4⟩ := TwoL_mk S
  have r122 : row (122 : Int32).toNatClampNeg = nI (v 122) := S.1 122 (by decide) (by decide)
  have ad : f_Ld_addMaker (nI (v 122)) ki ce se cr (nI k) (nI d) (nI o) = some (nI (v 122 + 1), upd ki (v 122) (nI k), upd ce (v 122) (nI d), upd se (v 122) (nI o), upd cr (v 122) (nI 5)) := by
    unfold f_Ld_addMaker
    simp only [if_neg (show ¬ (6 : Int32) ≤ nI (v 122) from nI_ge (b := 6) hn (by decide)), gd_nI hn (show 6 < 2 ^ 31 by decide), nI_clamp (show v 122 < 2 ^ 31 by omega), ltE, nI1]
    rfl
  have am : f_Mo_addMaker row (nI k) (nI d) (nI o) = some (nI (v 122), upd (upd (upd (upd (upd row (123 + 4 * v 122) (nI k)) (124 + 4 * v 122) (nI d)) (125 + 4 * v 122) (nI o)) (126 + 4 * v 122) (nI 5)) 122 (nI (v 122 + 1))) := by
    unfold f_Mo_addMaker
    simp only [ltE, r122, show (123 : Int32) = nI 123 from rfl, show (4 : Int32) = nI 4 from rfl, pk_mul, nIa, nI1]
    simp only [show (1 : Int32) = nI 1 from rfl, show (2 : Int32) = nI 2 from rfl, show (3 : Int32) = nI 3 from rfl, nIa]
    simp only [gd_nI (show 123 + 4 * v 122 < 1551 by omega) (show 1551 < 2 ^ 31 by decide), gd_nI (show 124 + 4 * v 122 < 1551 by omega) (show 1551 < 2 ^ 31 by decide), gd_nI (show 125 + 4 * v 122 < 1551 by omega) (show 1551 < 2 ^ 31 by decide), gd_nI (show 126 + 4 * v 122 < 1551 by omega) (show 1551 < 2 ^ 31 by decide), nI_clamp (show 123 + 4 * v 122 < 2 ^ 31 by omega), nI_clamp (show 124 + 4 * v 122 < 2 ^ 31 by omega), nI_clamp (show 125 + 4 * v 122 < 2 ^ 31 by omega), nI_clamp (show 126 + 4 * v 122 < 2 ^ 31 by omega), show 123 + 4 * v 122 + 1 = 124 + 4 * v 122 from by omega, show 123 + 4 * v 122 + 2 = 125 + 4 * v 122 from by omega, show 123 + 4 * v 122 + 3 = 126 + 4 * v 122 from by omega]
    have e : ∀ z, upd (upd (upd (upd row (123 + 4 * v 122) (nI k)) (124 + 4 * v 122) (nI d)) (125 + 4 * v 122) (nI o)) (126 + 4 * v 122) z (122 : Int32).toNatClampNeg = nI (v 122) := fun z => by
      rw [show (122 : Int32).toNatClampNeg = 122 from by decide, upd_ne (by omega), upd_ne (by omega), upd_ne (by omega), upd_ne (by omega)]
      exact r122
    rw [e, show (122 : Int32).toNatClampNeg = 122 from by decide, upd_same, nIa, pk_sub (by omega), Nat.add_sub_cancel]
    rfl
  refine ⟨_, ad, am, maker_set S hn hk hd ho (Rm_set (Rm_set (Rm_set (Rm_set (Rm_set S.1 _ _) _ _) _ _) _ _) _ _), fun i hi => ?_⟩
  rw [upd_ne (by omega), upd_ne (by omega), upd_ne (by omega), upd_ne (by omega), upd_ne (by omega)]
theorem le_nat {a b : Nat} {x : Int32} (ha : a < 2 ^ 31) (hb : b < 2 ^ 31) (h : nI a ≤ x) (e : x = nI b) : a ≤ b := by
  rw [e] at h
  exact (nI_leI ha hb).mp h
/-- what was kept of the items, told one by one -/
def tls (rd : Nat → Int32) (row : Nat → Int32) : Nat → Option (Nat → Int32)
  | 0 => some row
  | k + 1 => bd (tls rd row k) fun r => f_Mo_tell r rd ((6 : Int32) * nI k)
theorem six_n (k : Nat) : (6 : Int32) * nI k = nI (6 * k) := pk_mul 6 k
theorem tell_ag {rd rd' r : Nat → Int32} {M : Nat} (hM : 6 * M + 5 < 450) (h : ∀ j, j < 6 * M + 6 → rd' j = rd j) : f_Mo_tell r rd' ((6 : Int32) * nI M) = f_Mo_tell r rd ((6 : Int32) * nI M) := by
  have e : ∀ t, t < 6 → (nI (6 * M) + nI t).toNatClampNeg = 6 * M + t := fun t ht => by rw [nIa, nI_clamp (by omega)]
  have e0 : (nI (6 * M)).toNatClampNeg = 6 * M := nI_clamp (by omega)
  unfold f_Mo_tell
  rw [six_n, show (1 : Int32) = nI 1 from rfl, show (2 : Int32) = nI 2 from rfl, show (3 : Int32) = nI 3 from rfl, show (4 : Int32) = nI 4 from rfl, show (5 : Int32) = nI 5 from rfl, e 1 (by decide), e 2 (by decide), e 3 (by decide), e 4 (by decide), e 5 (by decide), e0, h _ (by omega), h _ (by omega), h _ (by omega), h _ (by omega), h _ (by omega), h _ (by omega)]
theorem tls_ag {rd rd' row : Nat → Int32} : ∀ {k : Nat}, 6 * k ≤ 450 → (∀ j, j < 6 * k → rd' j = rd j) → tls rd' row k = tls rd row k
  | 0, _, _ => rfl
  | k + 1, h1, h2 => by
    show bd (tls rd' row k) (fun r => f_Mo_tell r rd' ((6 : Int32) * nI k)) = bd (tls rd row k) fun r => f_Mo_tell r rd ((6 : Int32) * nI k)
    rw [tls_ag (by omega) fun j hj => h2 j (by omega)]
    congr 1
    funext r
    exact tell_ag (by omega) fun j hj => h2 j (by omega)
theorem tell_two {row : Nat → Int32} {v L : Nat → Nat} {W : Int32} {H : Int32} {ev : Int64} {fc : Int64} {lc : Int64} {MK : Int32} {LV : Int32} {PS : Int32} {gr : Nat → Int64} {ar : Nat → Int64} {to : Nat → Int64} {fe : Nat → Int32} {lts : Nat → Int32} {ki : Nat → Int32} {ce : Nat → Int32} {se : Nat → Int32} {cr : Nat → Int32} {pa : Nat → Int32} {w : Nat} (hw : w < 6) (S : w ≠ 0 → ∀ ps, LnR row v L W H ev fc lc MK LV PS gr ar to fe lts ki ce se cr pa ps) (h4 : w = 4 → v 122 < 6) (h5 : w = 5 → v 147 < 8) {nb rd : Nat → Int32} {M : Nat} (hM : 6 * M + 5 < 450) (r0 : rd (6 * M) = nI w) (hr : ∀ j, j < nmI w → rd (6 * M + 1 + j) = nb j ∧ ∃ v, v < 100 ∧ nb j = nI v) (hb : ∀ j, j < nmI w → lsI w j (nb 2) ≤ nb j ∧ nb j ≤ msI w j (W * H) MK) :
    ∃ W' H' ev' fc' lc' MK' LV' PS' gr' ar' to' fe' lts' ki' ce' se' cr' pa' row' v' L', f_Rd_tell W H ev fc lc MK LV PS gr ar to fe lts ki ce se cr pa nb (nI w) = some (W', H', ev', fc', lc', gr', ar', to', fe', lts', MK', ki', ce', se', cr', LV', pa', PS') ∧ f_Mo_tell row rd ((6 : Int32) * nI M) = some row' ∧ (∀ ps, LnR row' v' L' W' H' ev' fc' lc' MK' LV' PS' gr' ar' to' fe' lts' ki' ce' se' cr' pa' ps) ∧ (∀ i, ¬ i < 517 → row' i = row i) ∧ (w ≠ 0 → v' 0 = v 0 ∧ v' 1 = v 1 ∧ v' 122 = (if w = 4 then v 122 + 1 else v 122) ∧ v' 147 = (if w = 5 then v 147 + 1 else v 147)) ∧ (w = 0 → nb 0 = nI (v' 0) ∧ nb 1 = nI (v' 1) ∧ v' 122 = 0 ∧ v' 147 = 0) := by
  have e : ∀ t, t < 6 → (nI (6 * M) + nI t).toNatClampNeg = 6 * M + t := fun t ht => by rw [nIa, nI_clamp (by omega)]
  have i6 : ∀ t, t < 6 → inB (nI (6 * M) + nI t) 450 = true := fun t ht => by rw [nIa, inB_nI (by omega)]; exact decide_eq_true (by omega)
  have e0 : (nI (6 * M)).toNatClampNeg = 6 * M := nI_clamp (by omega)
  have hm2 : 2 ≤ nmI w := six (P := fun w => 2 ≤ nmI w) ⟨by decide, by decide, by decide, by decide, by decide, by decide⟩ hw
  obtain ⟨q1, x, hx, hx2⟩ := hr 0 (by omega)
  obtain ⟨q2, y, hy, hy2⟩ := hr 1 (by omega)
  rw [Nat.add_zero, hx2] at q1
  rw [show 6 * M + 1 + 1 = 6 * M + 2 from rfl, hy2] at q2
  have c0 : (0 : Int32).toNatClampNeg = 0 := by decide
  have c1 : (1 : Int32).toNatClampNeg = 1 := by decide
  have c2 : (2 : Int32).toNatClampNeg = 2 := by decide
  have c3 : (3 : Int32).toNatClampNeg = 3 := by decide
  have c4 : (4 : Int32).toNatClampNeg = 4 := by decide
  have ref : ∀ r, f_Mo_tell r rd ((6 : Int32) * nI M) = (if nI w = 0 then f_Mo_begin r (nI x) (nI y) else if nI w = 1 then gd (inB ((2 : Int32) + nI x) 1551) (some (upd r ((2 : Int32) + nI x).toNatClampNeg (nI y))) else if nI w = 2 then gd (inB ((38 : Int32) + nI x) 1551) (some (upd r ((38 : Int32) + nI x).toNatClampNeg (nI y))) else if nI w = 3 then gd (inB ((110 : Int32) + nI x) 1551) (some (upd r ((110 : Int32) + nI x).toNatClampNeg (nI y))) else if nI w = 4 then bd (f_Mo_addMaker r (nI x) (nI y) (rd (6 * M + 3))) (fun ((x8, x9) : Int32 × (Nat → Int32)) => some x9) else bd (f_Mo_addLeave r (nI x) (nI y) (rd (6 * M + 3)) (rd (6 * M + 4)) (rd (6 * M + 5))) fun ((x8, x9) : Int32 × (Nat → Int32)) => some x9) := by
    intro r
    unfold f_Mo_tell
    rw [six_n, show nI (6 * M) + 1 = nI (6 * M) + nI 1 from rfl, show nI (6 * M) + 2 = nI (6 * M) + nI 2 from rfl, show nI (6 * M) + 3 = nI (6 * M) + nI 3 from rfl, show nI (6 * M) + 4 = nI (6 * M) + nI 4 from rfl, show nI (6 * M) + 5 = nI (6 * M) + nI 5 from rfl, e 1 (by decide), e 2 (by decide), e 3 (by decide), e 4 (by decide), e 5 (by decide), e0, gd_t (i6 1 (by decide)), ltE, gd_t (i6 2 (by decide)), ltE, gd_nI (show 6 * M < 450 by omega) (by decide), gd_t (i6 3 (by decide)), gd_t (i6 3 (by decide)), gd_t (i6 4 (by decide)), gd_t (i6 5 (by decide)), r0, q1, q2]
    simp only [ltE]
    by_cases h : nI w = 0
    · rw [if_pos h, if_pos h]
      cases f_Mo_begin r (nI x) (nI y) <;> rfl
    · rw [if_neg h, if_neg h]
  have hw6 : w = 0 ∨ w = 1 ∨ w = 2 ∨ w = 3 ∨ w = 4 ∨ w = 5 := by omega
  rcases hw6 with rfl | rfl | rfl | rfl | rfl | rfl
  · -- valley
    have b1 : nI 1 ≤ nb 0 := (hb 0 (by decide)).1
    have b2 : nb 0 ≤ nI 6 := (hb 0 (by decide)).2
    have b3 : nI 1 ≤ nb 1 := (hb 1 (by decide)).1
    have b4 : nb 1 ≤ nI 6 := (hb 1 (by decide)).2
    rw [hx2] at b2
    rw [hy2] at b4
    have g2 := le_nat (a := x) (b := 6) (by omega) (by decide) b2 rfl
    have g4 := le_nat (a := y) (b := 6) (by omega) (by decide) b4 rfl
    have g1 := le_nat (a := 1) (b := x) (by decide) (by omega) b1 hx2
    have g3 := le_nat (a := 1) (b := y) (by decide) (by omega) b3 hy2
    obtain ⟨ev', fc', lc', gr', ar', to', fe', lts', row', l1, l2, l3, l4⟩ := lay_two row gr ar to fe lts g1 g2 g3 g4
    have cl : f_Rd_tell W H ev fc lc MK LV PS gr ar to fe lts ki ce se cr pa nb (nI 0) = some (nI x, nI y, ev', fc', lc', gr', ar', to', fe', lts', 0, ki, ce, se, cr, 0, pa, 0) := by
      unfold f_Rd_tell
      rw [if_pos (show nI 0 = (0 : Int32) from rfl), c0, c1, hx2, hy2, bd_some l1]
    exact ⟨_, _, _, _, _, _, _, _, _, _, _, _, _, _, _, _, _, _, row', v0 x y, _, cl, by rw [ref, if_pos (show nI 0 = (0 : Int32) from rfl)]; exact l2, fun ps => l3 ki ce se cr pa ps, l4, fun h => absurd rfl h, fun _ => ⟨hx2, hy2, rfl, rfl⟩⟩
  · -- ground
    have S0 := S (by decide)
    have S1 := (S0 (fun _ => 0)).1
    obtain ⟨k1, k2, k3, k4⟩ := TwoL_mk S1
    have hW : W = nI (v 0) := S1.2.2.1.2.2.2.1
    have hH : H = nI (v 1) := (S0 (fun _ => 0)).2.1
    have hWH : W * H = nI (v 0 * v 1) := by rw [hW, hH, pk_mul]
    have hn1 : 1 ≤ v 0 * v 1 := Nat.mul_pos S1.2.1.1 S1.2.1.2.2.1
    have hWH1 : W * H - 1 = nI (v 0 * v 1 - 1) := by rw [hWH, show (1 : Int32) = nI 1 from rfl, pk_sub hn1]
    have b2 : nb 0 ≤ W * H - 1 := (hb 0 (by decide)).2
    have b4 : nb 1 ≤ nI 2 := (hb 1 (by decide)).2
    rw [hx2, hWH1] at b2
    rw [hy2] at b4
    have g2 := le_nat (a := x) (b := v 0 * v 1 - 1) (by omega) (by omega) b2 rfl
    have g4 := le_nat (a := y) (b := 2) (by omega) (by decide) b4 rfl
    obtain ⟨rows', t1, t2⟩ := sortInto_eq (K := 3) (by decide) S1.2.2.2.2.1 (show x < v 0 * v 1 by omega) k3 (S1.2.1.2.2.2.2.2.1 x (by omega)).1 (show y < 3 by omega)
    have cl : f_Rd_tell W H ev fc lc MK LV PS gr ar to fe lts ki ce se cr pa nb (nI 1) = some (W, H, ev, fc, lc, rows', ar, to, fe, lts, MK, ki, ce, se, cr, LV, pa, PS) := by
      unfold f_Rd_tell
      rw [if_neg (show ¬ nI 1 = (0 : Int32) from by decide), if_pos (show nI 1 = (1 : Int32) from rfl), c0, c1, hx2, hy2, bd_some t1]
    have S2 := put_ground S1 (show x < v 0 * v 1 by omega) (show y < 3 by omega) t2
    refine ⟨_, _, _, _, _, _, _, _, _, _, _, _, _, _, _, _, _, _, upd row (2 + x) (nI y), vs v (2 + x) y, L, cl, ?_, fun ps => LnR_re (S0 ps) S2 (vs_ne (by omega)) (vs_ne (by omega)) (vs_ne (by omega)) (fun c hc => vs_ne (by omega)) (fun i hi => vs_ne (by omega)) (fun k hk => upd_ne (by omega)) (fun i hi => ?_) (PsR_ag (S0 ps).2.2.2.2.2.2.2 (by rw [vs_ne (by omega)]; exact Nat.le_refl _) (by rw [vs_ne (by omega)]; exact Nat.le_refl _) fun i h1 h2 => vs_ne (by omega)), fun i hi => upd_ne (by omega), fun _ => ⟨vs_ne (by omega), vs_ne (by omega), vs_ne (by omega), vs_ne (by omega)⟩, fun h => absurd h (by decide)⟩
    · rw [ref, if_neg (show ¬ nI 1 = (0 : Int32) from by decide), if_pos (show nI 1 = (1 : Int32) from rfl), show (2 : Int32) = nI 2 from rfl, nIa, gd_nI (by omega) (by decide), nI_clamp (by omega)]
    · rw [vs_ne (show 122 ≠ 2 + x by omega)] at hi
      rw [vs_ne (by omega)]
      exact (S0 ps).2.2.2.2.2.2.1 i hi
  · -- air
    have S0 := S (by decide)
    have S1 := (S0 (fun _ => 0)).1
    obtain ⟨k1, k2, k3, k4⟩ := TwoL_mk S1
    have hW : W = nI (v 0) := S1.2.2.1.2.2.2.1
    have hH : H = nI (v 1) := (S0 (fun _ => 0)).2.1
    have hWH : W * H = nI (v 0 * v 1) := by rw [hW, hH, pk_mul]
    have hn1 : 1 ≤ v 0 * v 1 := Nat.mul_pos S1.2.1.1 S1.2.1.2.2.1
    have hWH1 : W * H - 1 = nI (v 0 * v 1 - 1) := by rw [hWH, show (1 : Int32) = nI 1 from rfl, pk_sub hn1]
    have b2 : nb 0 ≤ W * H - 1 := (hb 0 (by decide)).2
    have b4 : nb 1 ≤ nI 5 := (hb 1 (by decide)).2
    rw [hx2, hWH1] at b2
    rw [hy2] at b4
    have g2 := le_nat (a := x) (b := v 0 * v 1 - 1) (by omega) (by omega) b2 rfl
    have g4 := le_nat (a := y) (b := 5) (by omega) (by decide) b4 rfl
    obtain ⟨rows', t1, t2⟩ := sortInto_eq (K := 6) (by decide) S1.2.2.2.1.2.2.2.2.2.2.2 (show x < v 0 * v 1 by omega) k3 (S1.2.1.2.2.2.2.2.1 x (by omega)).2.1 (show y < 6 by omega)
    have cl : f_Rd_tell W H ev fc lc MK LV PS gr ar to fe lts ki ce se cr pa nb (nI 2) = some (W, H, ev, fc, lc, gr, rows', to, fe, lts, MK, ki, ce, se, cr, LV, pa, PS) := by
      unfold f_Rd_tell
      rw [if_neg (show ¬ nI 2 = (0 : Int32) from by decide), if_neg (show ¬ nI 2 = (1 : Int32) from by decide), if_pos (show nI 2 = (2 : Int32) from rfl), c0, c1, hx2, hy2, bd_some t1]
    have S2 := put_air S1 (show x < v 0 * v 1 by omega) (show y < 6 by omega) t2
    refine ⟨_, _, _, _, _, _, _, _, _, _, _, _, _, _, _, _, _, _, upd row (38 + x) (nI y), vs v (38 + x) y, L, cl, ?_, fun ps => LnR_re (S0 ps) S2 (vs_ne (by omega)) (vs_ne (by omega)) (vs_ne (by omega)) (fun c hc => vs_ne (by omega)) (fun i hi => vs_ne (by omega)) (fun k hk => upd_ne (by omega)) (fun i hi => ?_) (PsR_ag (S0 ps).2.2.2.2.2.2.2 (by rw [vs_ne (by omega)]; exact Nat.le_refl _) (by rw [vs_ne (by omega)]; exact Nat.le_refl _) fun i h1 h2 => vs_ne (by omega)), fun i hi => upd_ne (by omega), fun _ => ⟨vs_ne (by omega), vs_ne (by omega), vs_ne (by omega), vs_ne (by omega)⟩, fun h => absurd h (by decide)⟩
    · rw [ref, if_neg (show ¬ nI 2 = (0 : Int32) from by decide), if_neg (show ¬ nI 2 = (1 : Int32) from by decide), if_pos (show nI 2 = (2 : Int32) from rfl), show (38 : Int32) = nI 38 from rfl, nIa, gd_nI (by omega) (by decide), nI_clamp (by omega)]
    · rw [vs_ne (show 122 ≠ 38 + x by omega)] at hi
      rw [vs_ne (by omega)]
      exact (S0 ps).2.2.2.2.2.2.1 i hi
  · -- fee
    have S0 := S (by decide)
    have S1 := (S0 (fun _ => 0)).1
    obtain ⟨k1, k2, k3, k4⟩ := TwoL_mk S1
    have hW : W = nI (v 0) := S1.2.2.1.2.2.2.1
    have hH : H = nI (v 1) := (S0 (fun _ => 0)).2.1
    have hWH : W * H = nI (v 0 * v 1) := by rw [hW, hH, pk_mul]
    have hn1 : 1 ≤ v 0 * v 1 := Nat.mul_pos S1.2.1.1 S1.2.1.2.2.1
    have hWH1 : W * H - 1 = nI (v 0 * v 1 - 1) := by rw [hWH, show (1 : Int32) = nI 1 from rfl, pk_sub hn1]
    have b2 : nb 0 ≤ nI 5 := (hb 0 (by decide)).2
    have b4 : nb 1 ≤ nI 99 := (hb 1 (by decide)).2
    rw [hx2] at b2
    rw [hy2] at b4
    have g2 := le_nat (a := x) (b := 5) (by omega) (by decide) b2 rfl
    have g4 := le_nat (a := y) (b := 99) (by omega) (by decide) b4 rfl
    have hfe := (S0 (fun _ => 0)).2.2.2.2.1
    have ch : f_Ld_changeFee fe (nI x) (nI y) = some (nI (v (110 + x)), upd fe x (nI y)) := by
      unfold f_Ld_changeFee
      rw [if_neg (nI_pos (by omega)), if_pos (show nI x < (6 : Int32) from nI_lt (b := 6) (by omega) (by decide)), gd_nI (show x < 6 by omega) (by decide), nI_clamp (by omega), ltE, gd_nI (show x < 6 by omega) (by decide), ltE, hfe x (by omega)]
    have cl : f_Rd_tell W H ev fc lc MK LV PS gr ar to fe lts ki ce se cr pa nb (nI 3) = some (W, H, ev, fc, lc, gr, ar, to, upd fe x (nI y), lts, MK, ki, ce, se, cr, LV, pa, PS) := by
      unfold f_Rd_tell
      rw [if_neg (show ¬ nI 3 = (0 : Int32) from by decide), if_neg (show ¬ nI 3 = (1 : Int32) from by decide), if_neg (show ¬ nI 3 = (2 : Int32) from by decide), if_pos (show nI 3 = (3 : Int32) from rfl), c0, c1, hx2, hy2, bd_some ch]
    have ne : ∀ i, i ≠ 110 + x → vs v (110 + x) y i = v i := fun i hi => vs_ne hi
    have hwf := S1.2.1
    have S2 : TwoL (upd row (110 + x) (nI y)) (vs v (110 + x) y) W ev fc lc MK LV gr ar ki ce se pa := ⟨Rm_set S1.1 _ _, WFv_ag hwf (fun i h1 h2 h3 => ne i (by omega)) (fun c hc => by
      rw [ne _ (by omega)]
      exact (hwf.2.2.2.2.2.1 c hc).2.2) (fun i hi => by
      by_cases hio : i = x
      · rw [hio, vs_same]
        exact g4
      · rw [ne _ (by omega)]
        exact hwf.2.2.2.2.2.2.1 i hi) (fun i hi => by
      rw [ne _ (by omega)]
      exact (hwf.2.2.2.2.2.2.2.2.1 i hi).2.2.2), SW_ag S1.2.2 fun i h1 h2 h3 => ne i (by omega)⟩
    refine ⟨_, _, _, _, _, _, _, _, _, _, _, _, _, _, _, _, _, _, upd row (110 + x) (nI y), vs v (110 + x) y, L, cl, ?_, fun ps => ?_, fun i hi => upd_ne (by omega), fun _ => ⟨vs_ne (by omega), vs_ne (by omega), vs_ne (by omega), vs_ne (by omega)⟩, fun h => absurd h (by decide)⟩
    · rw [ref, if_neg (show ¬ nI 3 = (0 : Int32) from by decide), if_neg (show ¬ nI 3 = (1 : Int32) from by decide), if_neg (show ¬ nI 3 = (2 : Int32) from by decide), if_pos (show nI 3 = (3 : Int32) from rfl), show (110 : Int32) = nI 110 from rfl, nIa, gd_nI (by omega) (by decide), nI_clamp (by omega)]
    · obtain ⟨z1, z2, z3, z4, z5, z6, z7, z8⟩ := S0 ps
      refine ⟨S2, by rw [ne _ (by omega)]; exact z2, by rw [ne _ (by omega)]; exact z3, ?_, fun i hi => ?_, fun k hk => ?_, fun i hi => ?_, PsR_ag z8 (by rw [ne _ (by omega)]; exact Nat.le_refl _) (by rw [ne _ (by omega)]; exact Nat.le_refl _) fun i h1 h2 => ne i (by omega)⟩
      · rw [ne 0 (by omega), ne 1 (by omega)]
        exact RS_ag z4 fun c hc => ne _ (by omega)
      · by_cases hio : i = x
        · rw [hio, vs_same, upd_same]
        · rw [ne _ (by omega), upd_ne hio]
          exact z5 i hi
      · rw [upd_ne (by omega)]
        exact z6 k hk
      · rw [ne 122 (by omega)] at hi
        rw [ne _ (by omega)]
        exact z7 i hi
  · -- maker
    have S0 := S (by decide)
    have S1 := (S0 (fun _ => 0)).1
    obtain ⟨k1, k2, k3, k4⟩ := TwoL_mk S1
    have hW : W = nI (v 0) := S1.2.2.1.2.2.2.1
    have hH : H = nI (v 1) := (S0 (fun _ => 0)).2.1
    have hWH : W * H = nI (v 0 * v 1) := by rw [hW, hH, pk_mul]
    have hn1 : 1 ≤ v 0 * v 1 := Nat.mul_pos S1.2.1.1 S1.2.1.2.2.1
    have hWH1 : W * H - 1 = nI (v 0 * v 1 - 1) := by rw [hWH, show (1 : Int32) = nI 1 from rfl, pk_sub hn1]
    obtain ⟨q3, z, hz, hz2⟩ := hr 2 (by decide)
    rw [show 6 * M + 1 + 2 = 6 * M + 3 from rfl, hz2] at q3
    have b2 : nb 0 ≤ nI 5 := (hb 0 (by decide)).2
    have b4 : nb 1 ≤ W * H - 1 := (hb 1 (by decide)).2
    have b6 : nb 2 ≤ nI 5 := (hb 2 (by decide)).2
    rw [hx2] at b2
    rw [hy2, hWH1] at b4
    rw [hz2] at b6
    have g2 := le_nat (a := x) (b := 5) (by omega) (by decide) b2 rfl
    have g4 := le_nat (a := y) (b := v 0 * v 1 - 1) (by omega) (by omega) b4 rfl
    have g6 := le_nat (a := z) (b := 5) (by omega) (by decide) b6 rfl
    obtain ⟨row', a1, a2, a3, a4⟩ := addMaker_two S1 cr (k := x) (d := y) (o := z) (h4 rfl) (by omega) (by omega) (by omega)
    have h122 := h4 rfl
    have cl : f_Rd_tell W H ev fc lc MK LV PS gr ar to fe lts ki ce se cr pa nb (nI 4) = some (W, H, ev, fc, lc, gr, ar, to, fe, lts, nI (v 122 + 1), upd ki (v 122) (nI x), upd ce (v 122) (nI y), upd se (v 122) (nI z), upd cr (v 122) (nI 5), LV, pa, PS) := by
      unfold f_Rd_tell
      rw [if_neg (show ¬ nI 4 = (0 : Int32) from by decide), if_neg (show ¬ nI 4 = (1 : Int32) from by decide), if_neg (show ¬ nI 4 = (2 : Int32) from by decide), if_neg (show ¬ nI 4 = (3 : Int32) from by decide), if_pos (show nI 4 = (4 : Int32) from rfl), c0, c1, c2, hx2, hy2, hz2, bd_some a1]
    obtain ⟨e122, ek, ec, eo, ey⟩ := vmk_at (v := v) (n := v 122) (k := x) (c := y) (o := z)
    refine ⟨_, _, _, _, _, _, _, _, _, _, _, _, _, _, _, _, _, _, row', vmk v (v 122) x y z, L, cl, ?_, fun ps => LnR_re (S0 ps) a3 (vmk_ne (by omega) (by omega)) (vmk_ne (by omega) (by omega)) (vmk_ne (by omega) (by omega)) (fun c hc => vmk_ne (by omega) (by omega)) (fun i hi => vmk_ne (by omega) (by omega)) (fun k hk => a4 _ (by omega)) (fun i hi => ?_) (PsR_ag (S0 ps).2.2.2.2.2.2.2 (by rw [e122]; omega) (by rw [vmk_ne (by omega) (by omega)]; exact Nat.le_refl _) fun i h1 h2 => vmk_ne (by omega) (by omega)), fun i hi => a4 i (by omega), fun _ => ⟨vmk_ne (by omega) (by omega), vmk_ne (by omega) (by omega), e122, vmk_ne (by omega) (by omega)⟩, fun h => absurd h (by decide)⟩
    · rw [ref, if_neg (show ¬ nI 4 = (0 : Int32) from by decide), if_neg (show ¬ nI 4 = (1 : Int32) from by decide), if_neg (show ¬ nI 4 = (2 : Int32) from by decide), if_neg (show ¬ nI 4 = (3 : Int32) from by decide), if_pos (show nI 4 = (4 : Int32) from rfl), q3, bd_some a2]
    · rw [e122] at hi
      by_cases hin : i = v 122
      · rw [hin, upd_same, ey]
      · rw [upd_ne hin, vmk_ne (by omega) (by omega)]
        exact (S0 ps).2.2.2.2.2.2.1 i (by omega)
  · -- leave
    have S0 := S (by decide)
    have S1 := (S0 (fun _ => 0)).1
    obtain ⟨k1, k2, k3, k4⟩ := TwoL_mk S1
    have hW : W = nI (v 0) := S1.2.2.1.2.2.2.1
    have hH : H = nI (v 1) := (S0 (fun _ => 0)).2.1
    have hWH : W * H = nI (v 0 * v 1) := by rw [hW, hH, pk_mul]
    have hn1 : 1 ≤ v 0 * v 1 := Nat.mul_pos S1.2.1.1 S1.2.1.2.2.1
    have hWH1 : W * H - 1 = nI (v 0 * v 1 - 1) := by rw [hWH, show (1 : Int32) = nI 1 from rfl, pk_sub hn1]
    obtain ⟨q3, z, hz, hz2⟩ := hr 2 (by decide)
    obtain ⟨q4, s, hs, hs2⟩ := hr 3 (by decide)
    obtain ⟨q5, t, ht, ht2⟩ := hr 4 (by decide)
    rw [show 6 * M + 1 + 2 = 6 * M + 3 from rfl, hz2] at q3
    rw [show 6 * M + 1 + 3 = 6 * M + 4 from rfl, hs2] at q4
    rw [show 6 * M + 1 + 4 = 6 * M + 5 from rfl, ht2] at q5
    have b2 : nb 0 ≤ MK - 1 := (hb 0 (by decide)).2
    have b4 : nb 1 ≤ nI 5 := (hb 1 (by decide)).2
    have b6 : nb 2 ≤ nI 23 := (hb 2 (by decide)).2
    have b7 : nb 2 ≤ nb 3 := (hb 3 (by decide)).1
    have b8 : nb 3 ≤ nI 23 := (hb 3 (by decide)).2
    have b9 : nI 1 ≤ nb 4 := (hb 4 (by decide)).1
    have b10 : nb 4 ≤ nI 20 := (hb 4 (by decide)).2
    have hmk : 0 < v 122 := by
      refine Nat.pos_of_ne_zero fun h0 => ?_
      rw [hx2, k2, h0, show nI 0 - 1 = -1 from by decide, Int32.le_iff_toInt_le, nI_toInt (by omega), show (-1 : Int32).toInt = -1 from by decide] at b2
      omega
    rw [hx2, k2, show (1 : Int32) = nI 1 from rfl, pk_sub hmk] at b2
    rw [hy2] at b4
    rw [hz2] at b6 b7
    rw [hs2] at b7 b8
    rw [ht2] at b9 b10
    have g2 := le_nat (a := x) (b := v 122 - 1) (by omega) (by omega) b2 rfl
    have g4 := le_nat (a := y) (b := 5) (by omega) (by decide) b4 rfl
    have g7 := le_nat (a := z) (b := s) (by omega) (by omega) b7 rfl
    have g8 := le_nat (a := s) (b := 23) (by omega) (by decide) b8 rfl
    have g9 := le_nat (a := 1) (b := t) (by decide) (by omega) b9 rfl
    have g10 := le_nat (a := t) (b := 20) (by omega) (by decide) b10 rfl
    have h147 := h5 rfl
    obtain ⟨pa', row', a1, a2, a3, a4⟩ := addLeave_two S1 (m := x) (o := y) (f := z) (t := s) (l := t) h147 (by omega) (by omega) g7 (by omega) g9 g10
    have cl : f_Rd_tell W H ev fc lc MK LV PS gr ar to fe lts ki ce se cr pa nb (nI 5) = some (W, H, ev, fc, lc, gr, ar, to, fe, lts, MK, ki, ce, se, cr, nI (v 147 + 1), pa', PS) := by
      unfold f_Rd_tell
      rw [if_neg (show ¬ nI 5 = (0 : Int32) from by decide), if_neg (show ¬ nI 5 = (1 : Int32) from by decide), if_neg (show ¬ nI 5 = (2 : Int32) from by decide), if_neg (show ¬ nI 5 = (3 : Int32) from by decide), if_neg (show ¬ nI 5 = (4 : Int32) from by decide), c0, c1, c2, c3, c4, hx2, hy2, hz2, hs2, ht2, bd_some a1]
    obtain ⟨e147, em, eo, ef, et, el⟩ := vlv_at (v := v) (n := v 147) (m := x) (o := y) (f := z) (t := s) (l := t)
    refine ⟨_, _, _, _, _, _, _, _, _, _, _, _, _, _, _, _, _, _, row', vlv v (v 147) x y z s t, L, cl, ?_, fun ps => LnR_re (S0 ps) a3 (vlv_ne (by omega) (by omega)) (vlv_ne (by omega) (by omega)) (vlv_ne (by omega) (by omega)) (fun c hc => vlv_ne (by omega) (by omega)) (fun i hi => vlv_ne (by omega) (by omega)) (fun k hk => a4 _ (by omega)) (fun i hi => ?_) (PsR_ag (S0 ps).2.2.2.2.2.2.2 (by rw [vlv_ne (by omega) (by omega)]; exact Nat.le_refl _) (by rw [vlv_ne (by omega) (by omega)]; exact Nat.le_refl _) fun i h1 h2 => vlv_ne (by omega) (by omega)), fun i hi => a4 i (by omega), fun _ => ⟨vlv_ne (by omega) (by omega), vlv_ne (by omega) (by omega), vlv_ne (by omega) (by omega), e147⟩, fun h => absurd h (by decide)⟩
    · rw [ref, if_neg (show ¬ nI 5 = (0 : Int32) from by decide), if_neg (show ¬ nI 5 = (1 : Int32) from by decide), if_neg (show ¬ nI 5 = (2 : Int32) from by decide), if_neg (show ¬ nI 5 = (3 : Int32) from by decide), if_neg (show ¬ nI 5 = (4 : Int32) from by decide), q3, q4, q5, bd_some a2]
    · rw [vlv_ne (i := 122) (by omega) (by omega)] at hi
      rw [vlv_ne (by omega) (by omega)]
      exact (S0 ps).2.2.2.2.2.2.1 i hi


/-! images -/
theorem mcopy_eq (row : Nat → Int32) {a b : Nat} (h : a + 517 ≤ b ∨ b + 517 ≤ a) (ha : a ≤ 1034) (hb : b ≤ 1034) : f_Mo_copy row (nI a) (nI b) = some (seg b 517 (fun j => row (a + (j - b))) row) := by
  unfold f_Mo_copy
  obtain ⟨y, rec, rfl, h⟩ := lp_inv (f := f_Mo_copy_L2 (nI a) (nI b)) (fun i (y : Int32 × (Nat → Int32)) => y = (nI i, seg b i (fun j => row (a + (j - b))) row)) 517 (by decide) (by
    rintro i _ hi rfl
    refine ⟨_, rfl, fun rec => ?_⟩
    unfold f_Mo_copy_L2
    dsimp only
    rw [if_neg (show ¬ (517 : Int32) ≤ nI i from nI_ge (b := 517) hi (by decide)), nIa, nIa, gd_nI (show a + i < 1551 by omega) (by decide), gd_nI (show b + i < 1551 by omega) (by decide), ltE, ltE, nI_clamp (show a + i < 2 ^ 31 by omega), nI_clamp (show b + i < 2 ^ 31 by omega), nI1, seg_out (show ¬ (b ≤ a + i ∧ a + i < b + i) by omega), seg_s rfl (by rw [Nat.add_sub_cancel_left])]) (x0 := ((0 : Int32), row)) (by rw [seg_0]; rfl)
  rw [h]
  unfold f_Mo_copy_L2
  dsimp only
  rw [if_pos (show (517 : Int32) ≤ nI 517 from by decide)]
theorem lt2_t {k : Nat} (h : k < 2) {β : Type} {A B : Option β} : (if nI k < 0 then A else if nI k < 2 then B else A) = B := lt_t (N := 2) h (by decide)
theorem lt2_f {p : Int32} (h : p < 0 ∨ nI 2 ≤ p) {β : Type} {A B : Option β} : (if p < 0 then A else if p < 2 then B else A) = A := lt_f (N := 2) h
theorem LnR_row {row row' : Nat → Int32} {v L : Nat → Nat} {W : Int32} {H : Int32} {ev : Int64} {fc : Int64} {lc : Int64} {MK : Int32} {LV : Int32} {PS : Int32} {gr : Nat → Int64} {ar : Nat → Int64} {to : Nat → Int64} {fe : Nat → Int32} {lts : Nat → Int32} {ki : Nat → Int32} {ce : Nat → Int32} {se : Nat → Int32} {cr : Nat → Int32} {pa : Nat → Int32} {ps : Nat → Int32} (S : LnR row v L W H ev fc lc MK LV PS gr ar to fe lts ki ce se cr pa ps) (h : ∀ i, i < 517 → row' i = row i) : LnR row' v L W H ev fc lc MK LV PS gr ar to fe lts ki ce se cr pa ps :=
  LnR_cg S h (fun _ _ => rfl) (fun _ _ => rfl) (fun _ _ => rfl) (fun _ _ => rfl) (fun _ _ => rfl) (fun _ _ => rfl) (fun _ _ => rfl) (fun _ _ => rfl) (fun _ _ => rfl) (fun _ _ => rfl) (fun _ _ => rfl)
def ImR (row kept ik : Nat → Int32) (i : Nat) (W : Int32) (H : Int32) (ev : Int64) (fc : Int64) (lc : Int64) (MK : Int32) (LV : Int32) (PS : Int32) (gr : Nat → Int64) (ar : Nat → Int64) (to : Nat → Int64) (fe : Nat → Int32) (lts : Nat → Int32) (ki : Nat → Int32) (ce : Nat → Int32) (se : Nat → Int32) (cr : Nat → Int32) (pa : Nat → Int32) (ps : Nat → Int32) : Prop := kept i = ik i ∧ (¬ ik i = 0 → ∃ v L, LnR (fun j => row (517 * (1 + i) + j)) v L W H ev fc lc MK LV PS gr ar to fe lts ki ce se cr pa ps)
theorem ImR_row {row row' kept ik : Nat → Int32} {i : Nat} {W : Int32} {H : Int32} {ev : Int64} {fc : Int64} {lc : Int64} {MK : Int32} {LV : Int32} {PS : Int32} {gr : Nat → Int64} {ar : Nat → Int64} {to : Nat → Int64} {fe : Nat → Int32} {lts : Nat → Int32} {ki : Nat → Int32} {ce : Nat → Int32} {se : Nat → Int32} {cr : Nat → Int32} {pa : Nat → Int32} {ps : Nat → Int32} (h : ImR row kept ik i W H ev fc lc MK LV PS gr ar to fe lts ki ce se cr pa ps) (e : ∀ j, 517 * (1 + i) ≤ j → j < 517 * (2 + i) → row' j = row j) : ImR row' kept ik i W H ev fc lc MK LV PS gr ar to fe lts ki ce se cr pa ps := by
  refine ⟨h.1, fun hz => ?_⟩
  obtain ⟨v, L, q⟩ := h.2 hz
  exact ⟨v, L, LnR_row q fun j hj => e _ (by omega) (by omega)⟩
theorem ImR_ne {row row' kept kept' ik ik' : Nat → Int32} {i : Nat} {W : Int32} {H : Int32} {ev : Int64} {fc : Int64} {lc : Int64} {MK : Int32} {LV : Int32} {PS : Int32} {gr : Nat → Int64} {ar : Nat → Int64} {to : Nat → Int64} {fe : Nat → Int32} {lts : Nat → Int32} {ki : Nat → Int32} {ce : Nat → Int32} {se : Nat → Int32} {cr : Nat → Int32} {pa : Nat → Int32} {ps : Nat → Int32} (h : ImR row kept ik i W H ev fc lc MK LV PS gr ar to fe lts ki ce se cr pa ps) (e : ∀ j, 517 * (1 + i) ≤ j → j < 517 * (2 + i) → row' j = row j) (e1 : kept' i = kept i) (e2 : ik' i = ik i) : ImR row' kept' ik' i W H ev fc lc MK LV PS gr ar to fe lts ki ce se cr pa ps := by
  have h' := ImR_row h e
  refine ⟨by rw [e1, e2]; exact h.1, fun hz => ?_⟩
  rw [e2] at hz
  exact h'.2 hz
theorem image_call {row : Nat → Int32} {v L : Nat → Nat} {W : Int32} {H : Int32} {ev : Int64} {fc : Int64} {lc : Int64} {MK : Int32} {LV : Int32} {PS : Int32} {gr : Nat → Int64} {ar : Nat → Int64} {to : Nat → Int64} {fe : Nat → Int32} {lts : Nat → Int32} {ki : Nat → Int32} {ce : Nat → Int32} {se : Nat → Int32} {cr : Nat → Int32} {pa : Nat → Int32} {ps : Nat → Int32} {pW : Int32} {pH : Int32} {pev : Int64} {pfc : Int64} {plc : Int64} {pMK : Int32} {pLV : Int32} {pPS : Int32} {pgr : Nat → Int64} {par : Nat → Int64} {pto : Nat → Int64} {pfe : Nat → Int32} {plts : Nat → Int32} {pki : Nat → Int32} {pce : Nat → Int32} {pse : Nat → Int32} {pcr : Nat → Int32} {ppa : Nat → Int32} {pps : Nat → Int32} {qW : Int32} {qH : Int32} {qev : Int64} {qfc : Int64} {qlc : Int64} {qMK : Int32} {qLV : Int32} {qPS : Int32} {qgr : Nat → Int64} {qar : Nat → Int64} {qto : Nat → Int64} {qfe : Nat → Int32} {qlts : Nat → Int32} {qki : Nat → Int32} {qce : Nat → Int32} {qse : Nat → Int32} {qcr : Nat → Int32} {qpa : Nat → Int32} {qps : Nat → Int32} (S : LnR row v L W H ev fc lc MK LV PS gr ar to fe lts ki ce se cr pa ps) {kept ik : Nat → Int32} (I0 : ImR row kept ik 0 pW pH pev pfc plc pMK pLV pPS pgr par pto pfe plts pki pce pse pcr ppa pps) (I1 : ImR row kept ik 1 qW qH qev qfc qlc qMK qLV qPS qgr qar qto qfe qlts qki qce qse qcr qpa qps) {rf : Nat → Int32} {bad no full : Int32} (T : StR rf bad no full) (a : Int32) :
    ∃ r kept' rf' pW' pH' pev' pfc' plc' pMK' pLV' pPS' pgr' par' pto' pfe' plts' pki' pce' pse' pcr' ppa' pps' qW' qH' qev' qfc' qlc' qMK' qLV' qPS' qgr' qar' qto' qfe' qlts' qki' qce' qse' qcr' qpa' qps' row' ik' bad', f_Ai_image W H ev fc lc MK LV PS pW pH pev pfc plc pMK pLV pPS qW qH qev qfc qlc qMK qLV qPS kept rf gr ar to fe lts ki ce se cr pa ps pgr par pto pfe plts pki pce pse pcr ppa pps qgr qar qto qfe qlts qki qce qse qcr qpa qps a = some (r, kept', rf', pW', pH', pev', pfc', plc', pgr', par', pto', pfe', plts', pMK', pki', pce', pse', pcr', pLV', ppa', pPS', pps', qW', qH', qev', qfc', qlc', qgr', qar', qto', qfe', qlts', qMK', qki', qce', qse', qcr', qLV', qpa', qPS', qps') ∧ f_Mo_image bad row ik a = some (r, row', ik', bad') ∧ StR rf' bad' no full ∧ LnR row' v L W H ev fc lc MK LV PS gr ar to fe lts ki ce se cr pa ps ∧ ImR row' kept' ik' 0 pW' pH' pev' pfc' plc' pMK' pLV' pPS' pgr' par' pto' pfe' plts' pki' pce' pse' pcr' ppa' pps' ∧ ImR row' kept' ik' 1 qW' qH' qev' qfc' qlc' qMK' qLV' qPS' qgr' qar' qto' qfe' qlts' qki' qce' qse' qcr' qpa' qps' ∧ ∀ i, i < 517 → row' i = row i := by
  have B := refuse_bad T (-2)
  unfold f_Ai_image f_Mo_image
  rw [jnE]
  rcases in_or a (n := 2) (by decide) with ⟨k, hk, rfl⟩ | ⟨q1, q2⟩
  rotate_left
  · rw [bd_some (show f_Mo_in a.toInt64 0 1 = some 0 from mIn_f (N := 1) (by decide) q2), if_pos rfl, bd_some (isBad_eq bad)]
    rw [lt2_f q1]
    dsimp only
    rw [bd_some (refuse_is B.1)]
    exact ⟨_, _, _, _, _, _, _, _, _, _, _, _, _, _, _, _, _, _, _, _, _, _, _, _, _, _, _, _, _, _, _, _, _, _, _, _, _, _, _, _, _, _, _, _, rfl, rfl, B.2, S, I0, I1, fun _ _ => rfl⟩
  rw [bd_some (show f_Mo_in (nI k).toInt64 0 1 = some 1 from mIn_t (N := 1) (by omega) (by decide)), if_neg (show ¬ (1 : Int32) = 0 from by decide), lt2_t hk]
  have hk2 : k = 0 ∨ k = 1 := by omega
  rcases hk2 with rfl | rfl
  · have c1 : f_Mo_copy row 0 ((517 : Int32) * ((1 : Int32) + nI 0)) = some (seg 517 517 (fun j => row (0 + (j - 517))) row) := mcopy_eq row (a := 0) (b := 517) (Or.inl (by decide)) (by decide) (by decide)
    obtain ⟨gr1, ar1, to1, fe1, lts1, ki1, ce1, se1, cr1, pa1, ps1, d1, d2⟩ := copy_two (row' := fun j => seg 517 517 (fun j => row (0 + (j - 517))) row (517 * (1 + 0) + j)) (gr := pgr) (ar := par) (to := pto) (fe := pfe) (lts := plts) (ki := pki) (ce := pce) (se := pse) (cr := pcr) (pa := ppa) (ps := pps) S (fun i hi => by
      rw [seg_in (by omega) (by omega)]
      exact congrArg row (by omega))
    rw [bd_some c1, if_pos (show nI 0 = (0 : Int32) from rfl), bd_some d1]
    dsimp only
    rw [gd_nI (show 0 < 2 by decide) (by decide), gd_nI (show 0 < 2 by decide) (by decide)]
    refine ⟨_, _, _, _, _, _, _, _, _, _, _, _, _, _, _, _, _, _, _, _, _, _, _, _, _, _, _, _, _, _, _, _, _, _, _, _, _, _, _, _, _, _, _, _, rfl, rfl, T, LnR_row S fun i hi => seg_out (by omega), ?_, ?_, fun i hi => seg_out (by omega)⟩
    · exact ⟨by rw [nI_clamp (by decide), upd_same, upd_same], fun _ => ⟨v, L, d2⟩⟩
    · refine ImR_ne I1 (fun j h1 h2 => seg_out (by omega)) ?_ ?_
      · rw [nI_clamp (by decide), upd_ne (by decide)]
      · rw [nI_clamp (by decide), upd_ne (by decide)]
  · have c1 : f_Mo_copy row 0 ((517 : Int32) * ((1 : Int32) + nI 1)) = some (seg 1034 517 (fun j => row (0 + (j - 1034))) row) := mcopy_eq row (a := 0) (b := 1034) (Or.inl (by decide)) (by decide) (by decide)
    obtain ⟨gr1, ar1, to1, fe1, lts1, ki1, ce1, se1, cr1, pa1, ps1, d1, d2⟩ := copy_two (row' := fun j => seg 1034 517 (fun j => row (0 + (j - 1034))) row (517 * (1 + 1) + j)) (gr := qgr) (ar := qar) (to := qto) (fe := qfe) (lts := qlts) (ki := qki) (ce := qce) (se := qse) (cr := qcr) (pa := qpa) (ps := qps) S (fun i hi => by
      rw [seg_in (by omega) (by omega)]
      exact congrArg row (by omega))
    rw [bd_some c1, if_neg (show ¬ nI 1 = (0 : Int32) from by decide), if_pos (show nI 1 = (1 : Int32) from rfl), bd_some d1]
    dsimp only
    rw [gd_nI (show 1 < 2 by decide) (by decide), gd_nI (show 1 < 2 by decide) (by decide)]
    refine ⟨_, _, _, _, _, _, _, _, _, _, _, _, _, _, _, _, _, _, _, _, _, _, _, _, _, _, _, _, _, _, _, _, _, _, _, _, _, _, _, _, _, _, _, _, rfl, rfl, T, LnR_row S fun i hi => seg_out (by omega), ?_, ?_, fun i hi => seg_out (by omega)⟩
    · refine ImR_ne I0 (fun j h1 h2 => seg_out (by omega)) ?_ ?_
      · rw [nI_clamp (by decide), upd_ne (by decide)]
      · rw [nI_clamp (by decide), upd_ne (by decide)]
    · exact ⟨by rw [nI_clamp (by decide), upd_same, upd_same], fun _ => ⟨v, L, d2⟩⟩

theorem from_call {row : Nat → Int32} {v L : Nat → Nat} {W : Int32} {H : Int32} {ev : Int64} {fc : Int64} {lc : Int64} {MK : Int32} {LV : Int32} {PS : Int32} {gr : Nat → Int64} {ar : Nat → Int64} {to : Nat → Int64} {fe : Nat → Int32} {lts : Nat → Int32} {ki : Nat → Int32} {ce : Nat → Int32} {se : Nat → Int32} {cr : Nat → Int32} {pa : Nat → Int32} {ps : Nat → Int32} {pW : Int32} {pH : Int32} {pev : Int64} {pfc : Int64} {plc : Int64} {pMK : Int32} {pLV : Int32} {pPS : Int32} {pgr : Nat → Int64} {par : Nat → Int64} {pto : Nat → Int64} {pfe : Nat → Int32} {plts : Nat → Int32} {pki : Nat → Int32} {pce : Nat → Int32} {pse : Nat → Int32} {pcr : Nat → Int32} {ppa : Nat → Int32} {pps : Nat → Int32} {qW : Int32} {qH : Int32} {qev : Int64} {qfc : Int64} {qlc : Int64} {qMK : Int32} {qLV : Int32} {qPS : Int32} {qgr : Nat → Int64} {qar : Nat → Int64} {qto : Nat → Int64} {qfe : Nat → Int32} {qlts : Nat → Int32} {qki : Nat → Int32} {qce : Nat → Int32} {qse : Nat → Int32} {qcr : Nat → Int32} {qpa : Nat → Int32} {qps : Nat → Int32} (S : LnR row v L W H ev fc lc MK LV PS gr ar to fe lts ki ce se cr pa ps) {kept ik : Nat → Int32} (I0 : ImR row kept ik 0 pW pH pev pfc plc pMK pLV pPS pgr par pto pfe plts pki pce pse pcr ppa pps) (I1 : ImR row kept ik 1 qW qH qev qfc qlc qMK qLV qPS qgr qar qto qfe qlts qki qce qse qcr qpa qps) {rf : Nat → Int32} {bad no full : Int32} (T : StR rf bad no full) (a : Int32) :
    ∃ r rf' W' H' ev' fc' lc' MK' LV' PS' gr' ar' to' fe' lts' ki' ce' se' cr' pa' ps' row' v' L' bad' no', f_Ai_from W H ev fc lc MK LV PS pW pH pev pfc plc pMK pLV pPS qW qH qev qfc qlc qMK qLV qPS kept rf gr ar to fe lts ki ce se cr pa ps pgr par pto pfe plts pki pce pse pcr ppa pps qgr qar qto qfe qlts qki qce qse qcr qpa qps a = some (r, rf', W', H', ev', fc', lc', gr', ar', to', fe', lts', MK', ki', ce', se', cr', LV', pa', PS', ps') ∧ f_Mo_from bad no row ik a = some (r, row', bad', no') ∧ StR rf' bad' no' full ∧ LnR row' v' L' W' H' ev' fc' lc' MK' LV' PS' gr' ar' to' fe' lts' ki' ce' se' cr' pa' ps' ∧ ∀ i, ¬ i < 517 → row' i = row i := by
  have B := refuse_bad T (-2)
  have N := refuse_no T (-3)
  unfold f_Ai_from f_Mo_from
  rw [jnE]
  rcases in_or a (n := 2) (by decide) with ⟨k, hk, rfl⟩ | ⟨q1, q2⟩
  rotate_left
  · rw [bd_some (show f_Mo_in a.toInt64 0 1 = some 0 from mIn_f (N := 1) (by decide) q2), if_pos rfl, bd_some (isBad_eq bad)]
    rw [lt2_f q1]
    dsimp only
    rw [bd_some (refuse_is B.1)]
    exact ⟨_, _, _, _, _, _, _, _, _, _, _, _, _, _, _, _, _, _, _, _, _, _, v, L, _, _, rfl, rfl, B.2, S, fun _ _ => rfl⟩
  rw [bd_some (show f_Mo_in (nI k).toInt64 0 1 = some 1 from mIn_t (N := 1) (by omega) (by decide)), if_neg (show ¬ (1 : Int32) = 0 from by decide), lt2_t hk, gd_nI hk (by decide), gd_nI hk (by decide), nI_clamp (by omega)]
  by_cases hz : ik k = 0
  · have hz2 : kept k = 0 := by
      have hk2 : k = 0 ∨ k = 1 := by omega
      rcases hk2 with rfl | rfl
      · rw [I0.1, hz]
      · rw [I1.1, hz]
    rw [if_pos hz, if_pos hz2, bd_some (refuse_is N.1), bd_some (isNo_eq no (-3))]
    exact ⟨_, _, _, _, _, _, _, _, _, _, _, _, _, _, _, _, _, _, _, _, _, _, v, L, _, _, rfl, rfl, N.2, S, fun _ _ => rfl⟩
  have hk2 : k = 0 ∨ k = 1 := by omega
  rcases hk2 with rfl | rfl
  · have c1 : f_Mo_copy row ((517 : Int32) * ((1 : Int32) + nI 0)) 0 = some (seg 0 517 (fun j => row (517 + (j - 0))) row) := mcopy_eq row (a := 517) (b := 0) (Or.inr (by decide)) (by decide) (by decide)
    obtain ⟨v', L', S'⟩ := I0.2 hz
    obtain ⟨gr1, ar1, to1, fe1, lts1, ki1, ce1, se1, cr1, pa1, ps1, d1, d2⟩ := copy_two (row' := seg 0 517 (fun j => row (517 + (j - 0))) row) (gr := gr) (ar := ar) (to := to) (fe := fe) (lts := lts) (ki := ki) (ce := ce) (se := se) (cr := cr) (pa := pa) (ps := ps) S' (fun i hi => by
      rw [seg_in (by omega) (by omega)]
      exact congrArg row (by omega))
    rw [if_neg (show ¬ kept 0 = 0 from by rw [I0.1]; exact hz), if_neg hz, bd_some c1, if_pos (show nI 0 = (0 : Int32) from rfl), bd_some d1]
    exact ⟨_, _, _, _, _, _, _, _, _, _, _, _, _, _, _, _, _, _, _, _, _, _, v', L', _, _, rfl, rfl, T, d2, fun i hi => seg_out (by omega)⟩
  · have c1 : f_Mo_copy row ((517 : Int32) * ((1 : Int32) + nI 1)) 0 = some (seg 0 517 (fun j => row (1034 + (j - 0))) row) := mcopy_eq row (a := 1034) (b := 0) (Or.inr (by decide)) (by decide) (by decide)
    obtain ⟨v', L', S'⟩ := I1.2 hz
    obtain ⟨gr1, ar1, to1, fe1, lts1, ki1, ce1, se1, cr1, pa1, ps1, d1, d2⟩ := copy_two (row' := seg 0 517 (fun j => row (1034 + (j - 0))) row) (gr := gr) (ar := ar) (to := to) (fe := fe) (lts := lts) (ki := ki) (ce := ce) (se := se) (cr := cr) (pa := pa) (ps := ps) S' (fun i hi => by
      rw [seg_in (by omega) (by omega)]
      exact congrArg row (by omega))
    rw [if_neg (show ¬ kept 1 = 0 from by rw [I1.1]; exact hz), if_neg hz, bd_some c1, if_neg (show ¬ nI 1 = (0 : Int32) from by decide), if_pos (show nI 1 = (1 : Int32) from rfl), bd_some d1]
    exact ⟨_, _, _, _, _, _, _, _, _, _, _, _, _, _, _, _, _, _, _, _, _, _, v', L', _, _, rfl, rfl, T, d2, fun i hi => seg_out (by omega)⟩


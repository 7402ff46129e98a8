/-! valley; images -/
theorem side_or (p : Int32) : (∃ k, 1 ≤ k ∧ k ≤ 6 ∧ p = nI k) ∨ ((p < 1 ∨ 6 < p) ∧ ∀ k, 1 ≤ k → k ≤ 6 → p ≠ nI k) := by
  by_cases h : 1 ≤ p.toInt ∧ p.toInt ≤ 6
  · refine Or.inl ⟨p.toInt.toNat, by omega, by omega, ?_⟩
    apply Int32.toInt_inj.mp
    rw [nI_toInt (by omega)]
    omega
  · refine Or.inr ⟨?_, fun k h1 h2 e => ?_⟩
    · rw [Int32.lt_iff_toInt_lt, Int32.lt_iff_toInt_lt]
      have e1 : (1 : Int32).toInt = 1 := by decide
      have e2 : (6 : Int32).toInt = 6 := by decide
      omega
    · rw [e, nI_toInt (by omega)] at h
      omega
theorem valley_call {row : Nat → Int32} {v L : Nat → Nat} {W : Int32} {H : Int32} {ev : Int64} {fc : Int64} {lc : Int64} {MK : Int32} {LV : Int32} {PS : Int32} {gr : Nat → Int64} {ar : Nat → Int64} {to : Nat → Int64} {fe : Nat → Int32} {lts : Nat → Int32} {ki : Nat → Int32} {ce : Nat → Int32} {se : Nat → Int32} {cr : Nat → Int32} {pa : Nat → Int32} {ps : Nat → Int32} (S : LnR row v L W H ev fc lc MK LV PS gr ar to fe lts ki ce se cr pa ps) {rf : Nat → Int32} {bad no full : Int32} (T : StR rf bad no full) (a b : Int32) :
    ∃ r rf' bad' W' H' ev' fc' lc' gr' ar' to' fe' lts' MK' LV' PS' row' v' L', f_Ai_valley W H ev fc lc MK LV PS rf gr ar to fe lts a b = some (r, rf', W', H', ev', fc', lc', gr', ar', to', fe', lts', MK', LV', PS') ∧ f_Mo_valley bad row a b = some (r, row', bad') ∧ StR rf' bad' no full ∧ LnR row' v' L' W' H' ev' fc' lc' MK' LV' PS' gr' ar' to' fe' lts' ki ce se cr pa ps ∧ ∀ i, ¬ i < 517 → row' i = row i := by
  have B := refuse_bad T (-2)
  have bad2 : ∃ r rf' bad' W' H' ev' fc' lc' gr' ar' to' fe' lts' MK' LV' PS' row' v' L', (bd (f_Ai_refuse rf (-2)) fun ((x1, x2) : Int32 × (Nat → Int32)) => some (x1, x2, W, H, ev, fc, lc, gr, ar, to, fe, lts, MK, LV, PS)) = some (r, rf', W', H', ev', fc', lc', gr', ar', to', fe', lts', MK', LV', PS') ∧ (bd (f_Mo_isBad bad) fun ((x3, x4) : Int32 × Int32) => some (x3, row, x4)) = some (r, row', bad') ∧ StR rf' bad' no full ∧ LnR row' v' L' W' H' ev' fc' lc' MK' LV' PS' gr' ar' to' fe' lts' ki ce se cr pa ps ∧ ∀ i, ¬ i < 517 → row' i = row i := by
    rw [bd_some (refuse_is B.1), bd_some (isBad_eq bad)]
    exact ⟨_, _, _, _, _, _, _, _, _, _, _, _, _, _, _, _, _, v, L, rfl, rfl, B.2, S, fun _ _ => rfl⟩
  unfold f_Ai_valley f_Mo_valley
  rcases side_or a with ⟨w, w1, w2, rfl⟩ | ⟨q1, q2⟩
  rotate_left
  · rw [bd_some (show f_Mo_in a.toInt64 1 6 = some 0 from min_f (a := 1) (b := 6) (by decide) (by decide) q2), jnE, jnE, if_pos rfl]
    by_cases q : a < 1
    · rw [if_pos q]
      exact bad2
    · rw [if_neg q, if_pos (q1.resolve_left q)]
      exact bad2
  rw [bd_some (show f_Mo_in (nI w).toInt64 1 6 = some 1 from min_t (a := 1) (b := 6) (by decide) (by decide) ⟨w, w1, w2, rfl⟩), jnE, jnE, if_neg (show ¬ (1 : Int32) = 0 from by decide), if_neg (show ¬ nI w < 1 from (nI_nlt w1 (by omega) : ¬ nI w < nI 1)), if_neg (show ¬ (6 : Int32) < nI w from (nI_nlt w2 (by decide) : ¬ nI 6 < nI w))]
  rcases side_or b with ⟨h, h1, h2, rfl⟩ | ⟨q1, q2⟩
  rotate_left
  · rw [bd_some (show f_Mo_in b.toInt64 1 6 = some 0 from min_f (a := 1) (b := 6) (by decide) (by decide) q2), if_pos rfl]
    by_cases q : b < 1
    · rw [if_pos q]
      exact bad2
    · rw [if_neg q, if_neg (Int32.not_le.mpr (q1.resolve_left q))]
      exact bad2
  obtain ⟨ev', fc', lc', gr', ar', to', fe', lts', row', c1, c2, c3, c4⟩ := lay_two row gr ar to fe lts w1 w2 h1 h2
  rw [bd_some (show f_Mo_in (nI h).toInt64 1 6 = some 1 from min_t (a := 1) (b := 6) (by decide) (by decide) ⟨h, h1, h2, rfl⟩), if_neg (show ¬ (1 : Int32) = 0 from by decide), if_neg (show ¬ nI h < 1 from (nI_nlt h1 (by omega) : ¬ nI h < nI 1)), if_pos (show nI h ≤ (6 : Int32) from nI_le (b := 6) h2 (by decide)), bd_some c1, bd_some c2]
  exact ⟨_, _, _, _, _, _, _, _, _, _, _, _, _, _, _, _, row', _, _, rfl, rfl, T, c3 _ _ _ _ _ _, c4⟩
theorem RS_rows {K n : Nat} {rows rows' : Nat → Int64} {g : Nat → Nat} (h : RS K n rows g) (e : ∀ k, k < K → rows' k = rows k) : RS K n rows' g := by
  intro k hk c hc
  rw [e k hk]
  exact h k hk c hc
theorem LnR_cg {row row' : Nat → Int32} {v L : Nat → Nat} {W : Int32} {H : Int32} {ev : Int64} {fc : Int64} {lc : Int64} {MK : Int32} {LV : Int32} {PS : Int32} {gr : Nat → Int64} {ar : Nat → Int64} {to : Nat → Int64} {fe : Nat → Int32} {lts : Nat → Int32} {ki : Nat → Int32} {ce : Nat → Int32} {se : Nat → Int32} {cr : Nat → Int32} {pa : Nat → Int32} {ps : Nat → Int32} {gr' : Nat → Int64} {ar' : Nat → Int64} {to' : Nat → Int64} {fe' : Nat → Int32} {lts' : Nat → Int32} {ki' : Nat → Int32} {ce' : Nat → Int32} {se' : Nat → Int32} {cr' : Nat → Int32} {pa' : Nat → Int32} {ps' : Nat → Int32} (S : LnR row v L W H ev fc lc MK LV PS gr ar to fe lts ki ce se cr pa ps) (hrow : ∀ i, i < 517 → row' i = row i) (hgr : ∀ k, k < 3 → gr' k = gr k) (har : ∀ k, k < 6 → ar' k = ar k) (hto : ∀ k, k < 3 → to' k = to k) (hfe : ∀ k, k < 6 → fe' k = fe k) (hlts : ∀ k, k < 6 → lts' k = lts k) (hki : ∀ k, k < 6 → ki' k = ki k) (hce : ∀ k, k < 6 → ce' k = ce k) (hse : ∀ k, k < 6 → se' k = se k) (hcr : ∀ k, k < 6 → cr' k = cr k) (hpa : ∀ k, k < 40 → pa' k = pa k) (hps : ∀ k, k < 328 → ps' k = ps k) : LnR row' v L W H ev fc lc MK LV PS gr' ar' to' fe' lts' ki' ce' se' cr' pa' ps' := by
  obtain ⟨⟨R, hw, G, ⟨s1, s2, s3, s4, s5, s6, s7, s8⟩, r, m⟩, hH, hPS, hT, hf, hl, hc, h8, hp⟩ := S
  refine ⟨⟨fun i h1 h2 => by rw [hrow i h1]; exact R i h1 h2, hw, G, ⟨s1, s2, s3, fun i hi => ?_, fun j hj => ?_, s6, s7, RS_rows s8 har⟩, RS_rows r hgr, fun i hi => ?_⟩, hH, hPS, RS_rows hT hto, fun i hi => by rw [hfe i hi]; exact hf i hi, fun k hk => ?_, fun i hi => by rw [hcr i (by omega)]; exact hc i hi, h8, fun p hp' => ?_⟩
  · rw [hse i (by omega)]
    exact s4 i hi
  · have := s6.1
    rw [hpa j (by omega)]
    exact s5 j hj
  · rw [hki i (by omega), hce i (by omega)]
    exact m i hi
  · rw [hlts k hk, hrow _ (by omega)]
    exact hl k hk
  · obtain ⟨a, b, c⟩ := hp p hp'
    have hn := PsR_n ⟨h8, hp⟩ hp'
    refine ⟨a, by rw [hps _ (by omega)]; exact b, fun j hj => ?_⟩
    rw [hps _ (by omega)]
    exact c j hj
theorem cpy0 {α : Type} {f g : Nat → α} {n k : Nat} (h : k < n) : va_cpy f g 0 0 n k = f k := by
  unfold va_cpy
  rw [if_pos (by omega), Nat.zero_add, Nat.sub_zero]
theorem copy_two {row row' : Nat → Int32} {v L : Nat → Nat} {oW : Int32} {oH : Int32} {oev : Int64} {ofc : Int64} {olc : Int64} {oMK : Int32} {oLV : Int32} {oPS : Int32} {ogr : Nat → Int64} {oar : Nat → Int64} {oto : Nat → Int64} {ofe : Nat → Int32} {olts : Nat → Int32} {oki : Nat → Int32} {oce : Nat → Int32} {ose : Nat → Int32} {ocr : Nat → Int32} {opa : Nat → Int32} {ops : Nat → Int32} {gr : Nat → Int64} {ar : Nat → Int64} {to : Nat → Int64} {fe : Nat → Int32} {lts : Nat → Int32} {ki : Nat → Int32} {ce : Nat → Int32} {se : Nat → Int32} {cr : Nat → Int32} {pa : Nat → Int32} {ps : Nat → Int32} (S : LnR row v L oW oH oev ofc olc oMK oLV oPS ogr oar oto ofe olts oki oce ose ocr opa ops) (hrow : ∀ i, i < 517 → row' i = row i) :
    ∃ gr' ar' to' fe' lts' ki' ce' se' cr' pa' ps', f_Ld_copyFrom oW oH oev ofc olc oMK oLV oPS gr ar to fe lts ki ce se cr pa ps ogr oar oto ofe olts oki oce ose ocr opa ops = some (oW, oH, oev, ofc, olc, gr', ar', to', fe', lts', oMK, ki', ce', se', cr', oLV, pa', oPS, ps') ∧ LnR row' v L oW oH oev ofc olc oMK oLV oPS gr' ar' to' fe' lts' ki' ce' se' cr' pa' ps' :=
  ⟨_, _, _, _, _, _, _, _, _, _, _, rfl, LnR_cg S hrow (fun _ h => cpy0 h) (fun _ h => cpy0 h) (fun _ h => cpy0 h) (fun _ h => cpy0 h) (fun _ h => cpy0 h) (fun _ h => cpy0 h) (fun _ h => cpy0 h) (fun _ h => cpy0 h) (fun _ h => cpy0 h) (fun _ h => cpy0 h) (fun _ h => cpy0 h)⟩

/-! criers: the call -/
theorem bfs_eq {mk : Nat} (hk : mk ≤ 6) {hs : Nat → Int32} {h : Nat → Nat} (hh : ∀ m, m < mk → hs m = nI (h m) ∧ h m < 64 ∧ ∀ o, (h m).testBit o = true → o < mk) {p q : Nat} (hp : p < mk) (hq : q < mk) (hpq : p ≠ q) (rf : Nat → Int32) (x13 : Nat) (x14 x15 x16 x17 x18 : Int32) (x19 x20 x21 x22 : Nat → Int64) (x23 x24 : Int64) (J : (Int32 × Int32) → Option (Int32 × (Nat → Int32) × (Nat → Int32) × Nat × Int32 × Int32 × Int32 × Int32 × Int32 × (Nat → Int64) × (Nat → Int64) × (Nat → Int64) × (Nat → Int64) × Int64 × Int64)) :
    (lp (f_Ai_criers_L67 (nI mk) rf (nI p) hs x13 x14 x15 x16 x17 x18 x19 x20 x21 x22 x23 x24 J) FU (nI (2 ^ q), 2) = some (-1, rf, hs, x13, x14, x15, x16, x17, x18, x19, x20, x21, x22, x23, x24) ∧ ¬ rch (Ed mk h) q mk p) ∨ ∃ j nr, 2 ≤ j ∧ j ≤ mk ∧ nr < 64 ∧ lp (f_Ai_criers_L67 (nI mk) rf (nI p) hs x13 x14 x15 x16 x17 x18 x19 x20 x21 x22 x23 x24 J) FU (nI (2 ^ q), 2) = J (nI nr, nI j) ∧ (∀ o, nr.testBit o = true ↔ rch (Ed mk h) q (j - 1) o) ∧ ¬ rch (Ed mk h) q (j - 1) p ∧ rch (Ed mk h) q j p := by
  obtain ⟨hp1, hp2, hp3⟩ := hh p hp
  refine lp_or (fun i (z : Int32 × Int32) => z.2 = nI (2 + i) ∧ ∃ nr, nr < 64 ∧ z.1 = nI nr ∧ (∀ o, nr.testBit o = true ↔ rch (Ed mk h) q (1 + i) o) ∧ ¬ rch (Ed mk h) q (1 + i) p) (fun r => (r = some (-1, rf, hs, x13, x14, x15, x16, x17, x18, x19, x20, x21, x22, x23, x24) ∧ ¬ rch (Ed mk h) q mk p) ∨ ∃ j nr, 2 ≤ j ∧ j ≤ mk ∧ nr < 64 ∧ r = J (nI nr, nI j) ∧ (∀ o, nr.testBit o = true ↔ rch (Ed mk h) q (j - 1) o) ∧ ¬ rch (Ed mk h) q (j - 1) p ∧ rch (Ed mk h) q j p) (mk - 1) (by omega) ?_ ?_ ⟨rfl, 2 ^ q, Nat.pow_lt_pow_right (n := 6) (by decide) (by omega), rfl, fun o => ?_, ?_⟩
  · rintro i ⟨a, z⟩ hi ⟨e, nr, n1, n2, n3, n4⟩
    dsimp only at e n2
    subst e; subst n2
    obtain ⟨nr', b1, b2, b3⟩ := behind_eq hk (hs := hs) (h := h) (fun m hm => ⟨(hh m hm).1, (hh m hm).2.1⟩) n1
    unfold f_Ai_criers_L67
    dsimp only
    simp only [if_neg (show ¬ nI mk < nI (2 + i) from nI_nlt (by omega) (by omega)), gd_nI (show p < 6 by omega) (show 6 < 2 ^ 31 by decide), nI_clamp (show p < 2 ^ 31 by omega), hp1, bd_some b2, ltE, nI1]
    by_cases w : ∀ o, ¬ ((h p).testBit o = true ∧ nr.testBit o = true)
    · have step : ∀ m, rch (Ed mk h) q (2 + i) m ↔ rch (Ed mk h) q (1 + i) m ∨ (m < mk ∧ ∃ o, (h m).testBit o = true ∧ nr.testBit o = true) := fun m => by
        rw [show 2 + i = (1 + i) + 1 from by omega]
        constructor
        · rintro (rfl | ⟨o, o1, o2⟩)
          · exact Or.inl (by rw [Nat.add_comm]; exact Or.inl rfl)
          · exact Or.inr ⟨o1.1, o, o1.2.2, (n3 o).mpr o2⟩
        · rintro (z | ⟨z1, o, z2, z3⟩)
          · exact rch_up _ _ z
          · exact Or.inr ⟨o, ⟨z1, (hh m z1).2.2 o z2, z2⟩, (n3 o).mp z3⟩
      refine Or.inl ⟨(nI nr', nI (2 + i + 1)), ⟨rfl, nr', b1, rfl, fun o => ?_, ?_⟩, fun rec => by rw [if_pos ((and0 hp2).mpr w)]⟩
      · rw [show 1 + (i + 1) = 2 + i from by omega, step, b3, n3]
      · rw [show 1 + (i + 1) = 2 + i from by omega, step]
        rintro (z | ⟨_, o, z⟩)
        · exact n4 z
        · exact w o z
    · refine Or.inr fun rec => Or.inr ⟨2 + i, nr, by omega, by omega, n1, by rw [if_neg (fun z => w ((and0 hp2).mp z))], fun o => ?_, ?_, ?_⟩
      · rw [show 2 + i - 1 = 1 + i from by omega]
        exact n3 o
      · rw [show 2 + i - 1 = 1 + i from by omega]
        exact n4
      · rw [show 2 + i = (1 + i) + 1 from by omega]
        refine Or.inr (Classical.byContradiction fun z => w fun o ho => z ⟨o, ⟨hp, hp3 o ho.1, ho.1⟩, (n3 o).mp ho.2⟩)
  · rintro ⟨a, z⟩ ⟨e, nr, n1, n2, n3, n4⟩ rec
    dsimp only at e n2
    subst e; subst n2
    unfold f_Ai_criers_L67
    dsimp only
    rw [if_pos (show nI mk < nI (2 + (mk - 1)) from nI_lt (by omega) (by omega))]
    refine Or.inl ⟨rfl, ?_⟩
    rw [show 1 + (mk - 1) = mk from by omega] at n4
    exact n4
  · rw [Nat.testBit_two_pow, decide_eq_true_iff]
    constructor
    · intro e
      exact Or.inl e.symm
    · rintro (e | ⟨_, _, z⟩)
      · exact e.symm
      · exact z.elim
  · rintro (e | ⟨_, _, z⟩)
    · exact hpq e
    · exact z.elim
theorem next_eq {mk : Nat} (hk : mk ≤ 6) {hs fa : Nat → Int32} {h f : Nat → Nat} {p : Nat} (hp : p < mk) (hh : hs p = nI (h p) ∧ h p < 64) (hf : ∀ m, m < 6 → fa m = nI (f m) ∧ 1 ≤ f m ∧ f m ≤ 99) (bad : Int32) (x12 x13 x14 x15 : Nat → Int32) (x16 x17 x18 x19 : Int32) :
    ∃ r, lp (f_Mo_criers_L237 bad (nI p) x12 x13 x14 x15 x16 x17 x18 x19 hs fa) FU (-1, nI mk - 1) = some (r, bad, x12, x13, x14, x15, x16, x17, x18, x19, hs, fa) ∧ ((r = -1 ∧ ∀ o, o < mk → ¬ ((h p).testBit o = true ∧ f o = f p - 1)) ∨ ∃ o, o < mk ∧ r = nI o ∧ ((h p).testBit o = true ∧ f o = f p - 1) ∧ ∀ u, u < o → ¬ ((h p).testBit u = true ∧ f u = f p - 1)) := by
  obtain ⟨fp1, fp2, fp3⟩ := hf p (by omega)
  refine lp_or (fun i (z : Int32 × Int32) => ∃ w, w + i = mk ∧ z.2 = nI w - 1 ∧ ((z.1 = -1 ∧ ∀ o, w ≤ o → o < mk → ¬ ((h p).testBit o = true ∧ f o = f p - 1)) ∨ ∃ o, o < mk ∧ z.1 = nI o ∧ ((h p).testBit o = true ∧ f o = f p - 1) ∧ ∀ u, w ≤ u → u < o → ¬ ((h p).testBit u = true ∧ f u = f p - 1))) (fun r => ∃ r1, r = some (r1, bad, x12, x13, x14, x15, x16, x17, x18, x19, hs, fa) ∧ ((r1 = -1 ∧ ∀ o, o < mk → ¬ ((h p).testBit o = true ∧ f o = f p - 1)) ∨ ∃ o, o < mk ∧ r1 = nI o ∧ ((h p).testBit o = true ∧ f o = f p - 1) ∧ ∀ u, u < o → ¬ ((h p).testBit u = true ∧ f u = f p - 1))) mk (by omega) ?_ ?_ ⟨mk, by omega, rfl, Or.inl ⟨rfl, fun o h1 h2 => by omega⟩⟩
  · rintro i ⟨a, z⟩ hi ⟨w, w1, w2, w3⟩
    dsimp only at w2 w3
    subst w2
    obtain ⟨t, rfl⟩ : ∃ t, w = t + 1 := ⟨w - 1, by omega⟩
    have e1 : nI (t + 1) - 1 = nI t := by rw [show (1 : Int32) = nI 1 from rfl, pk_sub (by omega), Nat.add_sub_cancel]
    have e2 : nI t + (-1) = nI t - 1 := by rw [Int32.sub_eq_add_neg]
    obtain ⟨ft1, ft2, ft3⟩ := hf t (by omega)
    have hhas : f_Mo_has (nI (h p)).toInt64 (nI t) = some (if (h p).testBit t = true then 1 else 0) := by
      rw [nI_l (by omega), mhas_eq _ (by omega), lN_tb (by omega) (by omega)]
    have e3 : nI (f p) - 1 = nI (f p - 1) := by rw [show (1 : Int32) = nI 1 from rfl, pk_sub fp2]
    rw [e1]
    unfold f_Mo_criers_L237
    dsimp only
    simp only [if_neg (nI_pos (show t < 2 ^ 31 by omega)), gd_nI (show p < 6 by omega) (show 6 < 2 ^ 31 by decide), gd_nI (show t < 6 by omega) (show 6 < 2 ^ 31 by decide), nI_clamp (show p < 2 ^ 31 by omega), nI_clamp (show t < 2 ^ 31 by omega), hh.1, bd_some hhas, jnE, ltE, ft1, fp1, e2, e3]
    by_cases q : (h p).testBit t = true ∧ f t = f p - 1
    · refine Or.inl ⟨(nI t, nI t - 1), ⟨t, by omega, rfl, Or.inr ⟨t, by omega, rfl, q, fun u u1 u2 => by omega⟩⟩, fun rec => by rw [if_pos q.1, if_neg (by decide), if_pos (by rw [q.2])]⟩
    · refine Or.inl ⟨(a, nI t - 1), ⟨t, by omega, rfl, ?_⟩, fun rec => ?_⟩
      · rcases w3 with ⟨w3, w4⟩ | ⟨o, o1, o2, o3, o4⟩
        · refine Or.inl ⟨w3, fun o h1 h2 => ?_⟩
          by_cases eo : o = t
          · rw [eo]
            exact q
          · exact w4 o (by omega) h2
        · refine Or.inr ⟨o, o1, o2, o3, fun u u1 u2 => ?_⟩
          by_cases eu : u = t
          · rw [eu]
            exact q
          · exact o4 u (by omega) u2
      · by_cases q1 : (h p).testBit t = true
        · rw [if_pos q1, if_neg (by decide), if_neg (fun z => q ⟨q1, (nI_eq (by omega) (by omega)).mp z⟩)]
        · rw [if_neg q1, if_pos rfl]
  · rintro ⟨a, z⟩ ⟨w, w1, w2, w3⟩ rec
    dsimp only at w2 w3
    subst w2
    have : w = 0 := by omega
    subst this
    unfold f_Mo_criers_L237
    dsimp only
    rw [if_pos (show nI 0 - 1 < 0 from by decide)]
    refine ⟨a, rfl, ?_⟩
    rcases w3 with ⟨w3, w4⟩ | ⟨o, o1, o2, o3, o4⟩
    · exact Or.inl ⟨w3, fun o h2 => w4 o (Nat.zero_le _) h2⟩
    · exact Or.inr ⟨o, o1, o2, o3, fun u u2 => o4 u (Nat.zero_le _) u2⟩
set_option maxRecDepth 100000 in
theorem criers_call {row : Nat → Int32} {v : Nat → Nat} {W : Int32} {ev fc lc : Int64} {MK LV : Int32} {gr ar : Nat → Int64} {ki ce se pa : Nat → Int32} (S : TwoL row v W ev fc lc MK LV gr ar ki ce se pa) {cr : Nat → Int32} (hcr : ∀ i, i < v 122 → cr i = nI (v (126 + 4 * i))) {rf : Nat → Int32} {bad no full : Int32} (T : StR rf bad no full) (aN sl : Nat) (s1 s2 s3 s4 s5 : Int32) (s6 s7 : Int64) (hb : Nat → Int32) (may ways echo echoes : Nat → Int64) (kd mk ow ho bu : Int32) (comes direct all tried he fa : Nat → Int32) (a b c d : Int32) :
    ∃ r rf' bad' X Y, f_Ai_criers aN W ev fc lc MK LV sl s1 s2 s3 s4 s5 s6 s7 rf hb gr ar ki ce se cr pa may ways echo echoes a b c d = some (r, rf', X) ∧ f_Mo_criers bad 0 0 0 0 kd mk ow ho bu row comes direct all tried he fa a b c d = some (r, bad', Y) ∧ StR rf' bad' no full := by
  obtain ⟨k1, rfl, k3, k4⟩ := TwoL_mk S
  have hwf := S.2.1
  have B := refuse_bad T (-2)
  have bad2 : ∃ r rf' bad' X Y, (bd (f_Ai_refuse rf (-2)) fun ((x3, x4) : Int32 × (Nat → Int32)) => some (x3, x4, hb, sl, s1, s2, s3, s4, s5, may, ways, echo, echoes, s6, s7)) = some (r, rf', X) ∧ (bd (f_Mo_isBad bad) fun ((x3, x4) : Int32 × Int32) => some (x3, x4, comes, direct, all, tried, kd, mk, ow, ho, he, fa)) = some (r, bad', Y) ∧ StR rf' bad' no full := by
    rw [bd_some (refuse_is B.1), bd_some (isBad_eq bad)]
    exact ⟨_, _, _, _, _, rfl, rfl, B.2⟩
  unfold f_Ai_criers f_Mo_criers
  rcases in_or a (n := v 122) (by omega) with ⟨p, hp, rfl⟩ | ⟨q1, q2⟩
  rotate_left
  · rw [bd_some (isMaker_f q1), bd_some (mMaker_f S.1 (show v 122 < 2 ^ 31 by omega) q2), jnE, jnE, if_pos rfl, if_pos rfl]
    exact bad2
  rw [bd_some (isMaker_t (show v 122 < 2 ^ 31 by omega) hp), bd_some (mMaker_t S.1 (show v 122 < 2 ^ 31 by omega) hp), jnE, jnE, if_neg (show ¬ (1 : Int32) = 0 from by decide), if_neg (show ¬ (1 : Int32) = 0 from by decide)]
  rcases in_or b (n := v 122) (by omega) with ⟨q, hq, rfl⟩ | ⟨q1, q2⟩
  rotate_left
  · rw [bd_some (isMaker_f q1), bd_some (mMaker_f S.1 (show v 122 < 2 ^ 31 by omega) q2), if_pos rfl, if_pos rfl]
    exact bad2
  rw [bd_some (isMaker_t (show v 122 < 2 ^ 31 by omega) hq), bd_some (mMaker_t S.1 (show v 122 < 2 ^ 31 by omega) hq), if_neg (show ¬ (1 : Int32) = 0 from by decide), if_neg (show ¬ (1 : Int32) = 0 from by decide)]
  rcases in_or c (n := 24) (by decide) with ⟨hr, hhr, rfl⟩ | ⟨q1, q2⟩
  rotate_left
  · rw [bd_some (isHour_f q1), bd_some (mHour_f q2), if_pos rfl, if_pos rfl]
    exact bad2
  rw [bd_some (isHour_t hhr), bd_some (mHour_t hhr), if_neg (show ¬ (1 : Int32) = 0 from by decide), if_neg (show ¬ (1 : Int32) = 0 from by decide)]
  rcases either_or d with ⟨hd, i1, i2⟩ | ⟨i1, i2⟩
  rotate_left
  · rw [bd_some i1, bd_some i2, if_pos rfl, if_pos rfl]
    exact bad2
  rw [bd_some i1, bd_some i2, if_neg (show ¬ (1 : Int32) = 0 from by decide), if_neg (show ¬ (1 : Int32) = 0 from by decide)]
  -- who hears whom
  have hM64 : ∀ m, hM v hr m < 64 := fun m => Nat.lt_of_lt_of_le (mkB_lt _ _) (Nat.pow_le_pow_right (n := 2) (j := 6) (by decide) k1)
  have hMb : ∀ m o, (hM v hr m).testBit o = true → o < v 122 := fun m o z => ((mkB_bit _ _ o).mp z).1
  obtain ⟨hb', x1, x2, x3, x4, x5, x6, x7, x8, x9, x10, x11, x12, l1, l2⟩ := listen_eq S hcr hhr aN sl s1 s2 s3 s4 s5 s6 s7 hb may ways echo echoes
  obtain ⟨y1, y2, y3, y4, y5, y6, y7, y8, he', m1, m2⟩ := hearers_eq S.1 hwf hhr kd mk ow ho bu comes direct all tried he
  obtain ⟨z1, f1, z2, f2, f, f3, f4⟩ := fars_eq S.1 k1 (hs := he') (h := hM v hr) (fun m hm => ⟨m2 m hm, hM64 m⟩) hq fa
  obtain ⟨fp1, fp2, fp3, fp4⟩ := f3 p (by omega)
  have ref : ∃ r Y, (bd (f_Mo_layHearers 0 0 0 0 kd mk ow ho bu row comes direct all tried he (nI hr)) fun ((x12, x13, x14, x15, x16, x17, x18, x19, x20) : (Nat → Int32) × (Nat → Int32) × (Nat → Int32) × (Nat → Int32) × Int32 × Int32 × Int32 × Int32 × (Nat → Int32)) => jn (fun (x22 : Nat → Int32) => jn (fun (x23 : Nat → Int32) => gd (inB (nI p) 6) <| if (x23 (nI p).toNatClampNeg) = 99 then some ((-1), bad, x12, x13, x14, x15, x16, x17, x18, x19, x20, x23) else if d = 0 then gd (inB (nI p) 6) <| some (x23 (nI p).toNatClampNeg, bad, x12, x13, x14, x15, x16, x17, x18, x19, x20, x23) else lt ((row (122 : Int32).toNatClampNeg) - 1) fun x24 => lp (f_Mo_criers_L237 bad (nI p) x12 x13 x14 x15 x16 x17 x18 x19 x20 x23) FU ((-1), x24)) fun J198 => lp (f_Mo_criers_L82 row x20 J198) FU (0, x22)) fun J79 => lp (f_Mo_criers_L47 (nI q) J79) FU (0, fa)) = some (r, bad, Y) ∧ ((f p = 99 ∧ r = -1) ∨ (f p ≠ 99 ∧ d = 0 ∧ r = nI (f p)) ∨ (f p ≠ 99 ∧ d ≠ 0 ∧ ((r = -1 ∧ ∀ o, o < v 122 → ¬ ((hM v hr p).testBit o = true ∧ f o = f p - 1)) ∨ ∃ o, o < v 122 ∧ r = nI o ∧ ((hM v hr p).testBit o = true ∧ f o = f p - 1) ∧ ∀ u, u < o → ¬ ((hM v hr p).testBit u = true ∧ f u = f p - 1)))) := by
    rw [bd_some m1]
    dsimp only
    rw [jnE, f1, jnE, f2, gd_nI (show p < 6 by omega) (by decide), nI_clamp (show p < 2 ^ 31 by omega), fp1]
    by_cases h99 : f p = 99
    · rw [if_pos (show nI (f p) = 99 from by rw [h99]; rfl)]
      exact ⟨_, _, rfl, Or.inl ⟨h99, rfl⟩⟩
    · rw [if_neg (show ¬ nI (f p) = 99 from fun z => h99 ((nI_eq (b := 99) (by omega) (by decide)).mp z))]
      by_cases h0 : d = 0
      · rw [if_pos h0, gd_nI (show p < 6 by omega) (by decide)]
        exact ⟨_, _, rfl, Or.inr (Or.inl ⟨h99, h0, rfl⟩)⟩
      · have r122 : row (122 : Int32).toNatClampNeg = nI (v 122) := S.1 122 (by decide) (by decide)
        obtain ⟨r, n1, n2⟩ := next_eq k1 (hs := he') (fa := z2) (h := hM v hr) (f := f) hp ⟨m2 p hp, hM64 p⟩ (fun m hm => ⟨(f3 m hm).1, (f3 m hm).2.1, (f3 m hm).2.2.1⟩) bad y1 y2 y3 y4 y5 y6 y7 y8
        rw [if_neg h0, r122, ltE, n1]
        exact ⟨r, _, rfl, Or.inr (Or.inr ⟨h99, h0, n2⟩)⟩
  obtain ⟨r, Y, ref1, ref2⟩ := ref
  by_cases hpq : p = q
  · subst hpq
    have e1 : f p = 1 := by
      have := f4 1 p (by decide) (Or.inl rfl)
      omega
    rcases hd with rfl | rfl
    · rcases ref2 with ⟨z, _⟩ | ⟨_, _, z⟩ | ⟨_, z, _⟩
      · omega
      · subst z
        rw [e1] at ref1
        rw [if_pos rfl, if_pos rfl]
        exact ⟨_, _, _, _, _, rfl, ref1, T⟩
      · exact absurd rfl z
    · rcases ref2 with ⟨z, _⟩ | ⟨_, z, _⟩ | ⟨_, _, ⟨z, _⟩ | ⟨o, o1, o2, o3, o4⟩⟩
      · omega
      · exact absurd z (by decide)
      · subst z
        rw [if_pos rfl, if_neg (show ¬ (1 : Int32) = 0 from by decide)]
        exact ⟨_, _, _, _, _, rfl, ref1, T⟩
      · have := (f3 o (by omega)).2.1
        have := o3.2
        omega
  · have hpq' : ¬ nI p = nI q := fun z => hpq ((nI_eq (by omega) (by omega)).mp z)
    have cls : ∃ X, (if nI p = nI q then (if d = 0 then some ((1 : Int32), rf, hb, sl, s1, s2, s3, s4, s5, may, ways, echo, echoes, s6, s7) else some ((-1), rf, hb, sl, s1, s2, s3, s4, s5, may, ways, echo, echoes, s6, s7)) else bd (f_Ai_listen aN W ev fc lc (nI (v 122)) LV sl s1 s2 s3 s4 s5 s6 s7 hb gr ar ki ce se cr pa may ways echo echoes (nI hr)) fun ((x12, x13, x14, x15, x16, x17, x18, x19, x20, x21, x22, x23, x24) : (Nat → Int32) × Nat × Int32 × Int32 × Int32 × Int32 × Int32 × (Nat → Int64) × (Nat → Int64) × (Nat → Int64) × (Nat → Int64) × Int64 × Int64) => lt ((1 : Int32) <<< (nI q &&& 31)) fun x26 => jn (fun ((x27, x28) : Int32 × Int32) => if d = 0 then some (x28, rf, x12, x13, x14, x15, x16, x17, x18, x19, x20, x21, x22, x23, x24) else gd (inB (nI p) 6) <| bd (f_Ai_leastOf ((x12 (nI p).toNatClampNeg) &&& x27)) fun (x29 : Int32) => some (x29, rf, x12, x13, x14, x15, x16, x17, x18, x19, x20, x21, x22, x23, x24)) fun J91 => lp (f_Ai_criers_L67 (nI (v 122)) rf (nI p) x12 x13 x14 x15 x16 x17 x18 x19 x20 x21 x22 x23 x24 J91) FU (x26, 2)) = some (r, rf, X) := by
      rw [if_neg hpq', bd_some l1]
      dsimp only
      rw [ltE, jnE, shl_one q (by omega)]
      rcases bfs_eq k1 (hs := hb') (h := hM v hr) (fun m hm => ⟨l2 m hm, hM64 m, hMb m⟩) hp hq hpq rf x1 x2 x3 x4 x5 x6 x7 x8 x9 x10 x11 x12 (fun ((x27, x28) : Int32 × Int32) => if d = 0 then some (x28, rf, hb', x1, x2, x3, x4, x5, x6, x7, x8, x9, x10, x11, x12) else gd (inB (nI p) 6) <| bd (f_Ai_leastOf ((hb' (nI p).toNatClampNeg) &&& x27)) fun (x29 : Int32) => some (x29, rf, hb', x1, x2, x3, x4, x5, x6, x7, x8, x9, x10, x11, x12)) with ⟨c1, c2⟩ | ⟨j, nr, j2, jk, nr64, c1, c2, c3, c4⟩
      · rw [c1]
        have h99 : f p = 99 := by
          rcases fp4 with z | z
          · exact z
          · exact absurd (rch_all hq (fun m o hE => hE.1) z) c2
        rcases ref2 with ⟨_, z⟩ | ⟨z, _⟩ | ⟨z, _⟩
        · subst z
          exact ⟨_, rfl⟩
        · exact absurd h99 z
        · exact absurd h99 z
      · rw [c1]
        dsimp only
        have hfp : f p = j := by
          have a1 := f4 j p (by omega) c4
          rcases fp4 with z | z
          · omega
          · refine Nat.le_antisymm a1 (Nat.le_of_not_lt fun w => c3 (rch_le (by omega) z))
        have eqv : ∀ o, ((hM v hr p).testBit o = true ∧ f o = f p - 1) ↔ ((hM v hr p).testBit o = true ∧ nr.testBit o = true) := fun o => by
          refine and_congr_right fun ho => ?_
          have o6 := hMb p o ho
          rw [c2, hfp]
          obtain ⟨_, g2, g3, g4⟩ := f3 o (by omega)
          constructor
          · intro z
            rcases g4 with g4 | g4
            · omega
            · rw [z] at g4
              exact g4
          · intro z
            have a1 := f4 (j - 1) o (by omega) z
            refine Nat.le_antisymm a1 (Nat.le_of_not_lt fun w => c3 ?_)
            rcases g4 with g4 | g4
            · omega
            · exact rch_le (k := f o + 1) (by omega) (Or.inr ⟨o, ⟨hp, o6, ho⟩, g4⟩)
        rcases ref2 with ⟨z, _⟩ | ⟨_, z1, z2⟩ | ⟨_, z1, z2⟩
        · omega
        · subst z2
          rw [if_pos z1, hfp]
          exact ⟨_, rfl⟩
        · rw [if_neg z1, gd_nI (show p < 6 by omega) (by decide), nI_clamp (show p < 2 ^ 31 by omega), l2 p hp, and_nI]
          have h64 : hM v hr p &&& nr < 64 := Nat.lt_of_le_of_lt Nat.and_le_left (hM64 p)
          have bits : ∀ o, (hM v hr p &&& nr).testBit o = true ↔ ((hM v hr p).testBit o = true ∧ f o = f p - 1) := fun o => by
            rw [eqv, Nat.testBit_and, Bool.and_eq_true]
          rcases leastOf_eq h64 with ⟨b1, b2⟩ | ⟨o, o6, b1, b2, b3⟩
          · rw [bd_some b1]
            rcases z2 with ⟨z2, _⟩ | ⟨u, u1, u2, u3, u4⟩
            · subst z2
              exact ⟨_, rfl⟩
            · exact absurd ((bits u).mpr u3) (b2 u)
          · rw [bd_some b1]
            rcases z2 with ⟨z2, z3⟩ | ⟨u, u1, u2, u3, u4⟩
            · exact absurd ((bits o).mp b2) (z3 o (hMb p o ((bits o).mp b2).1))
            · have : o = u := by
                rcases Nat.lt_trichotomy o u with w | w | w
                · exact absurd ((bits o).mp b2) (u4 o w)
                · exact w
                · exact absurd ((bits u).mpr u3) (b3 u w)
              subst this
              subst u2
              exact ⟨_, rfl⟩
    obtain ⟨X, cls⟩ := cls
    exact ⟨_, _, _, _, _, cls, ref1, T⟩

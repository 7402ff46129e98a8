/-! an item, both sides: whole -/
theorem tk3 {n : Nat} {tx : Nat → Nat} {e p q tk : Nat} (T : TK n tx e p q tk) : (tk = 3 ↔ p < n ∧ tx p = 59) ∧ tk ≤ 4 := by
  obtain ⟨_, _, _, T4⟩ := T
  rcases T4 with ⟨a, _, b⟩ | ⟨a, _, ⟨b, c⟩ | ⟨b, _, c⟩ | ⟨_, _, c⟩⟩
  · exact ⟨⟨fun z => by omega, fun z => by omega⟩, by omega⟩
  · exact ⟨⟨fun z => by omega, fun z => by unfold ltr at b; omega⟩, by omega⟩
  · by_cases g : q - p ≤ 2
    · rw [if_pos g] at c
      exact ⟨⟨fun z => by omega, fun z => by unfold fig at b; omega⟩, by omega⟩
    · rw [if_neg g] at c
      exact ⟨⟨fun z => by omega, fun z => by unfold fig at b; omega⟩, by omega⟩
  · by_cases g : tx p = 59
    · rw [if_pos g] at c
      exact ⟨⟨fun _ => ⟨a, g⟩, fun _ => c⟩, by omega⟩
    · rw [if_neg g] at c
      exact ⟨⟨fun z => by omega, fun z => absurd z.2 g⟩, by omega⟩
/-- what both know behind so many items -/
def ItR (row0 rd : Nat → Int32) (M : Nat) (c m l : Int32) (W : Int32) (H : Int32) (ev : Int64) (fc : Int64) (lc : Int64) (MK : Int32) (LV : Int32) (PS : Int32) (gr : Nat → Int64) (ar : Nat → Int64) (to : Nat → Int64) (fe : Nat → Int32) (lts : Nat → Int32) (ki : Nat → Int32) (ce : Nat → Int32) (se : Nat → Int32) (cr : Nat → Int32) (pa : Nat → Int32) : Prop :=
  (M = 0 ∧ m = 0 ∧ l = 0) ∨ (0 < M ∧ ∃ rowM v L, tls rd row0 M = some rowM ∧ (∀ ps, LnR rowM v L W H ev fc lc MK LV PS gr ar to fe lts ki ce se cr pa ps) ∧ (∀ i, ¬ i < 517 → rowM i = row0 i) ∧ c = nI (v 0 * v 1) ∧ m = nI (v 122) ∧ l = nI (v 147))
theorem tooMany_eq {MK LV : Int32} {a b : Nat} (hM : MK = nI a) (hL : LV = nI b) (ha : a ≤ 6) (hb : b ≤ 8) (w : Nat) (hw : w < 6) : f_Rd_isTooMany MK LV (nI w) = some (if (w = 4 ∧ a = 6) ∨ (w = 5 ∧ b = 8) then 1 else 0) := by
  subst hM
  subst hL
  unfold f_Rd_isTooMany
  rw [jnE, jnE]
  have w4 : nI w = 4 ↔ w = 4 := nI_eq (b := 4) (by omega) (by decide)
  have w5 : nI w = 5 ↔ w = 5 := nI_eq (b := 5) (by omega) (by decide)
  by_cases h4 : w = 4
  · rw [if_pos (w4.mpr h4)]
    by_cases h : a = 6
    · rw [if_pos (show (6 : Int32) ≤ nI a from by rw [h]; decide), if_pos (Or.inl ⟨h4, h⟩)]
    · rw [if_neg (show ¬ (6 : Int32) ≤ nI a from nI_ge (b := 6) (by omega) (by decide)), if_neg (show ¬ ((w = 4 ∧ a = 6) ∨ (w = 5 ∧ b = 8)) from fun z => by omega)]
      dsimp only
      rw [if_neg (fun z => by have := w5.mp z; omega)]
  · rw [if_neg (fun z => h4 (w4.mp z))]
    dsimp only
    by_cases h5 : w = 5
    · rw [if_pos (w5.mpr h5)]
      by_cases h : b = 8
      · rw [if_neg (show ¬ nI b < 8 from by rw [h]; decide), if_pos (Or.inr ⟨h5, h⟩)]
      · rw [if_pos (show nI b < 8 from nI_lt (b := 8) (by omega) (by decide)), if_neg (show ¬ ((w = 4 ∧ a = 6) ∨ (w = 5 ∧ b = 8)) from fun z => by omega)]
    · rw [if_neg (fun z => h5 (w5.mp z)), if_neg (show ¬ ((w = 4 ∧ a = 6) ∨ (w = 5 ∧ b = 8)) from fun z => by omega)]
set_option maxRecDepth 100000 in
theorem item_two {n : Nat} {tx : Nat → Nat} {t1 t2 : Nat → Int32} (X : TXn n tx t1 t2) {row0 rd : Nat → Int32} {M : Nat} {c m l : Int32} {W : Int32} {H : Int32} {ev : Int64} {fc : Int64} {lc : Int64} {MK : Int32} {LV : Int32} {PS : Int32} {gr : Nat → Int64} {ar : Nat → Int64} {to : Nat → Int64} {fe : Nat → Int32} {lts : Nat → Int32} {ki : Nat → Int32} {ce : Nat → Int32} {se : Nat → Int32} {cr : Nat → Int32} {pa : Nat → Int32} (R : ItR row0 rd M c m l W H ev fc lc MK LV PS gr ar to fe lts ki ce se cr pa) {e p q tk : Nat} (T : TK n tx e p q tk) (hMp : 2 * M ≤ p) (nb : Nat → Int32) :
    (∃ W' H' ev' fc' lc' MK' LV' PS' gr' ar' to' fe' lts' ki' ce' se' cr' pa' p' e' t' nb' a' e2 rd' x y z w, f_Rd_readItem W H ev fc lc MK LV PS (nI n) (nI p) (nI q) (nI tk) gr ar to fe lts ki ce se cr pa t1 nb (if M = 0 then 1 else 0) = some (0, W', H', ev', fc', lc', gr', ar', to', fe', lts', MK', ki', ce', se', cr', LV', pa', PS', nI p', e', t', nb') ∧ f_Mo_readsItem (nI n) (nI q) (nI p) (nI q) (nI M) c m l t2 rd = some (0, a', nI p', e2, rd', x, y, z, w) ∧ p' ≤ n) ∨ (∃ W' H' ev' fc' lc' MK' LV' PS' gr' ar' to' fe' lts' ki' ce' se' cr' pa' p' q' nb' p2 q2 tk2 rd' c' m' l', f_Rd_readItem W H ev fc lc MK LV PS (nI n) (nI p) (nI q) (nI tk) gr ar to fe lts ki ce se cr pa t1 nb (if M = 0 then 1 else 0) = some (1, W', H', ev', fc', lc', gr', ar', to', fe', lts', MK', ki', ce', se', cr', LV', pa', PS', nI p', nI q', 3, nb') ∧ f_Mo_readsItem (nI n) (nI q) (nI p) (nI q) (nI M) c m l t2 rd = some (1, nI q2, nI p2, nI q2, rd', nI (M + 1), c', m', l') ∧ TK n tx q' p2 q2 tk2 ∧ f_Rd_nextToken (nI n) (nI q') t1 = some (nI p2, nI q2, nI tk2) ∧ p + 2 ≤ q' ∧ ItR row0 rd' (M + 1) c' m' l' W' H' ev' fc' lc' MK' LV' PS' gr' ar' to' fe' lts' ki' ce' se' cr' pa') := by
  have hn := X.1
  obtain ⟨w, w1, w2, w3, w4, w5⟩ := word_eq X T
  have Tq := T.2.2.1
  have Tp := T.2.1
  have tkn := (tk3 T).2
  have nw : ∀ k, k < 7 → (nI w = nI k ↔ w = k) := fun k hk => nI_eq (by omega) (by omega)
  -- the class, as far as the word
  have cls0 : f_Rd_readItem W H ev fc lc MK LV PS (nI n) (nI p) (nI q) (nI tk) gr ar to fe lts ki ce se cr pa t1 nb (if M = 0 then 1 else 0) = (if w = 6 then some (0, W, H, ev, fc, lc, gr, ar, to, fe, lts, MK, ki, ce, se, cr, LV, pa, PS, nI p, nI q, nI tk, nb) else if (if M = 0 then (1 : Int32) else 0) = (if w = 0 then 1 else 0) then bd (f_Rd_isTooMany MK LV (nI w)) fun (x3 : Int32) => if x3 = 0 then lp (f_Rd_readItem_L49 W H ev fc lc MK LV PS (nI n) gr ar to fe lts ki ce se cr pa t1 (nI w) (fun ((x5, x6, x7, x8) : Int32 × Int32 × Int32 × (Nat → Int32)) => bd (f_Rd_nextToken (nI n) x6 t1) fun ((x9, x10, x11) : Int32 × Int32 × Int32) => if x11 = 3 then bd (f_Rd_tell W H ev fc lc MK LV PS gr ar to fe lts ki ce se cr pa x8 (nI w)) fun ((x13, x14, x15, x16, x17, x18, x19, x20, x21, x22, x23, x24, x25, x26, x27, x28, x29, x30) : Int32 × Int32 × Int64 × Int64 × Int64 × (Nat → Int64) × (Nat → Int64) × (Nat → Int64) × (Nat → Int32) × (Nat → Int32) × Int32 × (Nat → Int32) × (Nat → Int32) × (Nat → Int32) × (Nat → Int32) × Int32 × (Nat → Int32) × Int32) => some (1, x13, x14, x15, x16, x17, x18, x19, x20, x21, x22, x23, x24, x25, x26, x27, x28, x29, x30, x9, x10, x11, x8) else some (0, W, H, ev, fc, lc, gr, ar, to, fe, lts, MK, ki, ce, se, cr, LV, pa, PS, x9, x10, x11, x8))) FU (0, nI p, nI q, nI tk, nb) else some (0, W, H, ev, fc, lc, gr, ar, to, fe, lts, MK, ki, ce, se, cr, LV, pa, PS, nI p, nI q, nI tk, nb) else some (0, W, H, ev, fc, lc, gr, ar, to, fe, lts, MK, ki, ce, se, cr, LV, pa, PS, nI p, nI q, nI tk, nb)) := by
    unfold f_Rd_readItem
    rw [jnE]
    have hw : (if nI tk = 1 then bd (f_Rd_wordAtPlace (nI n) (nI p) (nI q) t1) (fun (x52 : Int32) => some x52) else some 6) = some (nI w) := by
      by_cases h : tk = 1
      · rw [if_pos (show nI tk = 1 from by rw [h]; rfl), bd_some (w2 h)]
      · rw [if_neg (show ¬ nI tk = 1 from fun z => h ((nI_eq (b := 1) (by omega) (by decide)).mp z)), w3 h]
        rfl
    by_cases h : tk = 1
    · rw [if_pos (show nI tk = 1 from by rw [h]; rfl), bd_some (w2 h)]
      dsimp only
      rw [jnE, jnE]
      by_cases h6 : w = 6
      · rw [if_pos h6, if_pos (show nI w = 6 from by rw [h6]; rfl)]
      · rw [if_neg h6, if_neg (show ¬ nI w = 6 from fun z => h6 ((nw 6 (by decide)).mp z))]
        by_cases h0 : w = 0
        · rw [if_pos h0, if_pos (show nI w = 0 from by rw [h0]; rfl)]
        · rw [if_neg h0, if_neg (show ¬ nI w = 0 from fun z => h0 ((nw 0 (by decide)).mp z))]
    · have h6 := w3 h
      rw [if_neg (show ¬ nI tk = 1 from fun z => h ((nI_eq (b := 1) (by omega) (by decide)).mp z)), if_pos h6]
      rfl
  -- the reference, as far as the word
  have ref0 : f_Mo_readsItem (nI n) (nI q) (nI p) (nI q) (nI M) c m l t2 rd = (jn (fun (x3 : Int32) => if x3 = 0 then some ((0 : Int32), nI q, nI p, nI q, rd, nI M, c, m, l) else gd (inB ((6 : Int32) * nI M) 450) <| lt (upd rd ((6 : Int32) * nI M).toNatClampNeg (if w = 6 then -1 else nI w)) fun x4 => bd (f_Mo_token (nI n) (nI q) t2) fun ((x5, x6, x7) : Int32 × Int32 × Int32) => bd (f_Mo_readsRest (nI n) x5 x6 x7 (nI M) c m l t2 x4 (if w = 6 then -1 else nI w)) fun ((x9, x10, x11, x12, x13, x14, x15, x16) : Int32 × Int32 × Int32 × Int32 × (Nat → Int32) × Int32 × Int32 × Int32) => if x9 = 0 then some (0, x10, x11, x12, x13, nI M, x14, x15, x16) else if x11 = nI n then some (0, x10, x11, x12, x13, nI M, x14, x15, x16) else gd (inB x11 150) <| if (t2 x11.toNatClampNeg) = 59 then bd (f_Mo_token (nI n) x10 t2) fun ((x18, x19, x20) : Int32 × Int32 × Int32) => lt (nI M + 1) fun x22 => some (1, x18, x19, x20, x13, x22, x14, x15, x16) else some (0, x10, x11, x12, x13, nI M, x14, x15, x16)) fun J67 => if w = 6 then J67 0 else if (if M = 0 then (1 : Int32) else 0) = (if w = 0 then 1 else 0) then (if w = 4 ∧ m = 6 then J67 0 else if w = 5 ∧ l = 8 then J67 0 else J67 1) else J67 0) := by
    unfold f_Mo_readsItem
    rw [bd_some w4, jnE, jnE]
    have zM : nI M = 0 ↔ M = 0 := nI_eq (b := 0) (by omega) (by decide)
    by_cases h6 : w = 6
    · simp only [if_pos h6, jnE, if_pos trivial]
    · have hm1 : ¬ nI w = -1 := nI_m1 (by omega)
      have e0 : nI w = 0 ↔ w = 0 := nw 0 (by decide)
      have e4 : nI w = 4 ↔ w = 4 := nw 4 (by decide)
      have e5 : nI w = 5 ↔ w = 5 := nw 5 (by decide)
      simp only [if_neg h6, jnE, if_neg hm1, e0, e4, e5, zM]
      by_cases h0 : w = 0
      · by_cases hM : M = 0
        · simp [h0, hM]
        · simp [h0, hM]
      · by_cases hM : M = 0
        · simp [h0, hM]
        · simp only [if_neg h0, if_neg hM, if_pos trivial]
          by_cases h4 : w = 4
          · have h5 : ¬ w = 5 := by omega
            by_cases hm : m = 6
            · simp [h4, hm]
            · simp [h4, hm]
          · by_cases h5 : w = 5
            · by_cases hl : l = 8
              · simp [h5, hl]
              · simp [h5, hl]
            · simp [h4, h5]
  rw [cls0, ref0, jnE]
  by_cases h6 : w = 6
  · rw [if_pos h6, if_pos h6]
    dsimp only
    rw [if_pos rfl]
    exact Or.inl ⟨_, _, _, _, _, _, _, _, _, _, _, _, _, _, _, _, _, _, p, _, _, _, _, _, _, _, _, _, _, rfl, rfl, Tp⟩
  have hw6 : w < 6 := by omega
  obtain ⟨hpn, hpq, htk⟩ := w5 hw6
  have hM : 6 * M + 5 < 450 := by omega
  rw [if_neg h6, if_neg h6]
  by_cases hfst : (if M = 0 then (1 : Int32) else 0) = (if w = 0 then 1 else 0)
  rotate_left
  · rw [if_neg hfst, if_neg hfst]
    dsimp only
    rw [if_pos rfl]
    exact Or.inl ⟨_, _, _, _, _, _, _, _, _, _, _, _, _, _, _, _, _, _, p, _, _, _, _, _, _, _, _, _, _, rfl, rfl, Tp⟩
  rw [if_pos hfst, if_pos hfst]
  have hMw : M = 0 ↔ w = 0 := by
    by_cases a : M = 0
    · by_cases b : w = 0
      · exact ⟨fun _ => b, fun _ => a⟩
      · rw [if_pos a, if_neg b] at hfst
        exact absurd hfst (by decide)
    · by_cases b : w = 0
      · rw [if_neg a, if_pos b] at hfst
        exact absurd hfst (by decide)
      · exact ⟨fun z => absurd z a, fun z => absurd z b⟩
  -- too many
  have too : ∃ t : Int32, f_Rd_isTooMany MK LV (nI w) = some t ∧ ((¬ t = 0 ∧ ((w = 4 ∧ m = 6) ∨ (w = 5 ∧ l = 8))) ∨ (t = 0 ∧ ¬ (w = 4 ∧ m = 6) ∧ ¬ (w = 5 ∧ l = 8))) := by
    rcases R with ⟨R1, R2, R3⟩ | ⟨R0, rowM, v, L, R1, R2, R3, R4, R5, R6⟩
    · have h0 := hMw.mp R1
      subst h0
      exact ⟨0, rfl, Or.inr ⟨rfl, fun z => by omega, fun z => by omega⟩⟩
    · have S1 := (R2 (fun _ => 0)).1
      have k1 := S1.2.1.2.2.2.2.2.2.2.1
      have k8 := S1.2.1.2.2.2.2.2.2.2.2.2.1
      refine ⟨_, tooMany_eq S1.2.2.2.1.2.1 S1.2.2.2.1.2.2.1 k1 k8 w hw6, ?_⟩
      have m6 : m = 6 ↔ v 122 = 6 := by
        rw [R5]
        exact nI_eq (b := 6) (by omega) (by decide)
      have l8 : l = 8 ↔ v 147 = 8 := by
        rw [R6]
        exact nI_eq (b := 8) (by omega) (by decide)
      rw [m6, l8]
      by_cases h : (w = 4 ∧ v 122 = 6) ∨ (w = 5 ∧ v 147 = 8)
      · rw [if_pos h]
        exact Or.inl ⟨by decide, h⟩
      · rw [if_neg h]
        exact Or.inr ⟨rfl, fun z => h (Or.inl z), fun z => h (Or.inr z)⟩
  obtain ⟨t, t1', t2'⟩ := too
  rw [bd_some t1']
  rcases t2' with ⟨t3, t4⟩ | ⟨t3, t4, t5⟩
  · rw [if_neg t3]
    have ee : ∀ {β : Type} (A B : β), (if w = 4 ∧ m = 6 then A else if w = 5 ∧ l = 8 then A else B) = A := fun A B => by
      by_cases a : w = 4 ∧ m = 6
      · rw [if_pos a]
      · rw [if_neg a, if_pos (t4.resolve_left a)]
    rw [ee]
    dsimp only
    rw [if_pos rfl]
    exact Or.inl ⟨_, _, _, _, _, _, _, _, _, _, _, _, _, _, _, _, _, _, p, _, _, _, _, _, _, _, _, _, _, rfl, rfl, Tp⟩
  subst t3
  rw [if_pos rfl, if_neg t4, if_neg t5]
  dsimp only
  rw [if_neg (show ¬ (1 : Int32) = 0 from by decide), if_neg h6, six_n, gd_nI (show 6 * M < 450 by omega) (by decide), nI_clamp (show 6 * M < 2 ^ 31 by omega), ltE]
  -- the numbers
  obtain ⟨p1, q1, tk1, T1, u1, u2⟩ := tok_eq X (e := q) Tq
  rw [bd_some u2]
  dsimp only
  obtain ⟨F, K, k1, k2, k3⟩ := rest_eq (len := nI n) (c := c) (m := m) (l := l) hM t2 hw6
  rw [k1]
  have hms : ∀ i, msI w i (W * H) MK = msI w i c m := fun i => by
    rcases R with ⟨R1, R2, R3⟩ | ⟨R0, rowM, v, L, R1, R2, R3, R4, R5, R6⟩
    · have h0 := hMw.mp R1
      subst h0
      rfl
    · have S0 := R2 (fun _ => 0)
      rw [R4, R5, ← S0.1.2.2.2.1.2.1, S0.1.2.2.1.2.2.2.1, S0.2.1, pk_mul]
  have nm5 : nmI w < 4096 := six (P := fun w => nmI w < 4096) ⟨by decide, by decide, by decide, by decide, by decide, by decide⟩ hw6
  rcases chain X hw6 W H ev fc lc MK LV PS gr ar to fe lts ki ce se cr pa (fun ((x5, x6, x7, x8) : Int32 × Int32 × Int32 × (Nat → Int32)) => bd (f_Rd_nextToken (nI n) x6 t1) fun ((x9, x10, x11) : Int32 × Int32 × Int32) => if x11 = 3 then bd (f_Rd_tell W H ev fc lc MK LV PS gr ar to fe lts ki ce se cr pa x8 (nI w)) fun ((x13, x14, x15, x16, x17, x18, x19, x20, x21, x22, x23, x24, x25, x26, x27, x28, x29, x30) : Int32 × Int32 × Int64 × Int64 × Int64 × (Nat → Int64) × (Nat → Int64) × (Nat → Int64) × (Nat → Int32) × (Nat → Int32) × Int32 × (Nat → Int32) × (Nat → Int32) × (Nat → Int32) × (Nat → Int32) × Int32 × (Nat → Int32) × Int32) => some (1, x13, x14, x15, x16, x17, x18, x19, x20, x21, x22, x23, x24, x25, x26, x27, x28, x29, x30, x9, x10, x11, x8) else some (0, W, H, ev, fc, lc, gr, ar, to, fe, lts, MK, ki, ce, se, cr, LV, pa, PS, x9, x10, x11, x8)) F K hM hms (nmI w) 0 q p1 q1 tk1 FU (nI p) (nI tk) nb (upd rd (6 * M) (nI w)) (Nat.zero_add _) nm5 Tq T1 u1 (fun j hj => by omega) with ⟨p', q', tk', nb', rd', y1, y2, y3⟩ | ⟨x33', e', x35', nb', rd', p', q', tk', y1, y2, y3, y4, y5, y6, y7, y8, y9⟩
  · obtain ⟨fx, fy, fz, f1⟩ := k2 (nI q') (nI p') (nI q') rd'
    rw [show nI 0 = (0 : Int32) from rfl] at y1
    rw [y1, y2, f1]
    rw [bd_some rfl]
    dsimp only
    rw [if_pos rfl]
    exact Or.inl ⟨_, _, _, _, _, _, _, _, _, _, _, _, _, _, _, _, _, _, p', _, _, _, _, _, _, _, _, _, _, rfl, rfl, y3⟩
  · rw [show nI 0 = (0 : Int32) from rfl] at y1
    rw [y1, y2, k3]
    dsimp only
    rw [bd_some y4, bd_some rfl]
    dsimp only
    obtain ⟨g1, g2⟩ := tk3 y3
    have T3p := y3.2.1
    rw [if_neg (show ¬ (1 : Int32) = 0 from by decide)]
    by_cases h3 : tk' = 3
    rotate_left
    · -- no semicolon
      rw [if_neg (show ¬ nI tk' = 3 from fun z => h3 ((nI_eq (b := 3) (by omega) (by decide)).mp z))]
      by_cases hpn' : p' < n
      · have h59 : ¬ tx p' = 59 := fun z => h3 (g1.mpr ⟨hpn', z⟩)
        have b128 := (X.2 p' hpn').1
        rw [if_neg (show ¬ nI p' = nI n from fun z => by have := (nI_eq (by omega) (by omega)).mp z; omega), gd_nI (show p' < 150 by omega) (by decide), nI_clamp (by omega), (X.2 p' hpn').2.2, if_neg (show ¬ nI (tx p') = 59 from fun z => h59 ((nI_eq (b := 59) (by omega) (by decide)).mp z))]
        exact Or.inl ⟨_, _, _, _, _, _, _, _, _, _, _, _, _, _, _, _, _, _, p', _, _, _, _, _, _, _, _, _, _, rfl, rfl, T3p⟩
      · rw [if_pos (show nI p' = nI n from by rw [show p' = n by omega])]
        exact Or.inl ⟨_, _, _, _, _, _, _, _, _, _, _, _, _, _, _, _, _, _, p', _, _, _, _, _, _, _, _, _, _, rfl, rfl, T3p⟩
    · obtain ⟨hpn', h59⟩ := g1.mp h3
      have rd0 : rd' (6 * M) = nI w := by rw [y9 _ (Nat.le_refl _), upd_same]
      have ag : ∀ j, j < 6 * M → rd' j = rd j := fun j hj => by rw [y9 j (by omega), upd_ne (by omega)]
      obtain ⟨p2, q2, tk2, T2, v1, v2⟩ := tok_eq X (e := q') y3.2.2.1
      have hq' : p' < q' := by
        rcases y3.2.2.2 with ⟨a, _⟩ | ⟨_, a, _⟩ <;> omega
      have y31 := y3.1
      rw [if_pos (show nI tk' = 3 from by rw [h3]; rfl), if_neg (show ¬ nI p' = nI n from fun z => by have := (nI_eq (by omega) (by omega)).mp z; omega), gd_nI (show p' < 150 by omega) (by decide), nI_clamp (show p' < 2 ^ 31 by omega), (X.2 p' hpn').2.2, if_pos (show nI (tx p') = 59 from by rw [h59]; rfl), bd_some v2]
      dsimp only
      rw [nI1, ltE]
      have hb : ∀ j, j < nmI w → lsI w j (nb' 2) ≤ nb' j ∧ nb' j ≤ msI w j (W * H) MK := fun j hj => by
        rw [hms]
        exact y7 j (Nat.zero_le _) hj
      rcases R with ⟨R1, R2, R3⟩ | ⟨R0, rowM, v, L, R1, R2, R3, R4, R5, R6⟩
      · have h0 := hMw.mp R1
        obtain ⟨W1, H1, ev1, fc1, lc1, MK1, LV1, PS1, gr1, ar1, to1, fe1, lts1, ki1, ce1, se1, cr1, pa1, row1, v', L', z1, z2, z3, z4, z5, z6⟩ := tell_two (row := row0) (v := fun _ => 0) (L := fun _ => 0) (W := W) (H := H) (ev := ev) (fc := fc) (lc := lc) (MK := MK) (LV := LV) (PS := PS) (gr := gr) (ar := ar) (to := to) (fe := fe) (lts := lts) (ki := ki) (ce := ce) (se := se) (cr := cr) (pa := pa) hw6 (fun h => absurd h0 h) (fun h => by omega) (fun h => by omega) hM rd0 y6 hb
        obtain ⟨c1, c2, c3, c4⟩ := z6 h0
        rw [bd_some z1]
        refine Or.inr ⟨_, _, _, _, _, _, _, _, _, _, _, _, _, _, _, _, _, _, p', q', nb', p2, q2, tk2, rd', _, _, _, by rw [h3]; rfl, rfl, T2, v1, by omega, Or.inr ⟨by omega, row1, v', L', ?_, z3, z4, ?_, ?_, ?_⟩⟩
        · rw [R1] at z2 ⊢
          exact z2
        · have a1 := (y6 0 (by rw [h0]; decide)).1
          have a2 := (y6 1 (by rw [h0]; decide)).1
          rw [R1] at a1 a2
          rw [if_pos h0, a1.trans c1, a2.trans c2, pk_mul]
        · rw [if_neg (show ¬ w = 4 by omega), R2, c3]
          rfl
        · rw [if_neg (show ¬ w = 5 by omega), R3, c4]
          rfl
      · have hw0 : w ≠ 0 := fun z => by have := hMw.mpr z; omega
        have S1 := (R2 (fun _ => 0)).1
        have k6 := S1.2.1.2.2.2.2.2.2.2.1
        have k8 := S1.2.1.2.2.2.2.2.2.2.2.2.1
        obtain ⟨W1, H1, ev1, fc1, lc1, MK1, LV1, PS1, gr1, ar1, to1, fe1, lts1, ki1, ce1, se1, cr1, pa1, row1, v', L', z1, z2, z3, z4, z5, z6⟩ := tell_two (row := rowM) (v := v) (L := L) (W := W) (H := H) (ev := ev) (fc := fc) (lc := lc) (MK := MK) (LV := LV) (PS := PS) (gr := gr) (ar := ar) (to := to) (fe := fe) (lts := lts) (ki := ki) (ce := ce) (se := se) (cr := cr) (pa := pa) hw6 (fun _ => R2) (fun h => Nat.lt_of_le_of_ne k6 fun z => t4 ⟨h, by rw [R5, z]; rfl⟩) (fun h => Nat.lt_of_le_of_ne k8 fun z => t5 ⟨h, by rw [R6, z]; rfl⟩) hM rd0 y6 hb
        obtain ⟨c1, c2, c3, c4⟩ := z5 hw0
        rw [bd_some z1]
        refine Or.inr ⟨_, _, _, _, _, _, _, _, _, _, _, _, _, _, _, _, _, _, p', q', nb', p2, q2, tk2, rd', _, _, _, by rw [h3]; rfl, rfl, T2, v1, by omega, Or.inr ⟨by omega, row1, v', L', ?_, z3, fun i hi => (z4 i hi).trans (R3 i hi), ?_, ?_, ?_⟩⟩
        · show bd (tls rd' row0 M) (fun r => f_Mo_tell r rd' ((6 : Int32) * nI M)) = some row1
          rw [tls_ag (by omega) ag, bd_some R1]
          exact z2
        · rw [if_neg hw0, R4, c1, c2]
        · rw [R5, c3]
          by_cases h : w = 4
          · rw [if_pos h, if_pos h, nI1]
          · rw [if_neg h, if_neg h]
        · rw [R6, c4]
          by_cases h : w = 5
          · rw [if_pos h, if_pos h, nI1]
          · rw [if_neg h, if_neg h]

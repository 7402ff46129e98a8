/-! the text read, by both -/
def RdFin (n : Nat) (row0 : Nat → Int32) (J1 : (Int32 × Int32 × Int64 × Int64 × Int64 × (Nat → Int64) × (Nat → Int64) × (Nat → Int64) × (Nat → Int32) × (Nat → Int32) × Int32 × (Nat → Int32) × (Nat → Int32) × (Nat → Int32) × (Nat → Int32) × Int32 × (Nat → Int32) × Int32 × Int32 × Int32 × Int32 × (Nat → Int32)) → Option (Int32 × Int32 × Int32 × Int64 × Int64 × Int64 × (Nat → Int64) × (Nat → Int64) × (Nat → Int64) × (Nat → Int32) × (Nat → Int32) × Int32 × (Nat → Int32) × (Nat → Int32) × (Nat → Int32) × (Nat → Int32) × Int32 × (Nat → Int32) × Int32 × Int32 × Int32 × Int32 × (Nat → Int32))) (J2 : (Int32 × Int32 × Int32 × Int32 × (Nat → Int32) × Int32 × Int32 × Int32 × Int32) → Option (Int32 × Int32 × Int32 × Int32 × (Nat → Int32) × Int32 × Int32 × Int32 × Int32)) (A : Option (Int32 × Int32 × Int32 × Int64 × Int64 × Int64 × (Nat → Int64) × (Nat → Int64) × (Nat → Int64) × (Nat → Int32) × (Nat → Int32) × Int32 × (Nat → Int32) × (Nat → Int32) × (Nat → Int32) × (Nat → Int32) × Int32 × (Nat → Int32) × Int32 × Int32 × Int32 × Int32 × (Nat → Int32))) (B : Option (Int32 × Int32 × Int32 × Int32 × (Nat → Int32) × Int32 × Int32 × Int32 × Int32)) : Prop :=
  (∃ W' H' ev' fc' lc' MK' LV' PS' gr' ar' to' fe' lts' ki' ce' se' cr' pa' p' e' t' nb' a' e2 rd' x y z w, A = J1 (W', H', ev', fc', lc', gr', ar', to', fe', lts', MK', ki', ce', se', cr', LV', pa', PS', nI p', e', t', nb') ∧ B = J2 (0, a', nI p', e2, rd', x, y, z, w) ∧ p' ≤ n) ∨ ∃ M' W' H' ev' fc' lc' MK' LV' PS' gr' ar' to' fe' lts' ki' ce' se' cr' pa' p' e' t' nb' a' p2 e2 rd' c' m' l', 0 < M' ∧ M' < 100 ∧ A = some (nI M', W', H', ev', fc', lc', gr', ar', to', fe', lts', MK', ki', ce', se', cr', LV', pa', PS', p', e', t', nb') ∧ B = J2 (1, a', p2, e2, rd', nI M', c', m', l') ∧ ItR row0 rd' M' c' m' l' W' H' ev' fc' lc' MK' LV' PS' gr' ar' to' fe' lts' ki' ce' se' cr' pa'
theorem loop_two {n : Nat} {tx : Nat → Nat} {t1 t2 : Nat → Int32} (X : TXn n tx t1 t2) {row0 : Nat → Int32} (J1 : (Int32 × Int32 × Int64 × Int64 × Int64 × (Nat → Int64) × (Nat → Int64) × (Nat → Int64) × (Nat → Int32) × (Nat → Int32) × Int32 × (Nat → Int32) × (Nat → Int32) × (Nat → Int32) × (Nat → Int32) × Int32 × (Nat → Int32) × Int32 × Int32 × Int32 × Int32 × (Nat → Int32)) → Option (Int32 × Int32 × Int32 × Int64 × Int64 × Int64 × (Nat → Int64) × (Nat → Int64) × (Nat → Int64) × (Nat → Int32) × (Nat → Int32) × Int32 × (Nat → Int32) × (Nat → Int32) × (Nat → Int32) × (Nat → Int32) × Int32 × (Nat → Int32) × Int32 × Int32 × Int32 × Int32 × (Nat → Int32))) (J2 : (Int32 × Int32 × Int32 × Int32 × (Nat → Int32) × Int32 × Int32 × Int32 × Int32) → Option (Int32 × Int32 × Int32 × Int32 × (Nat → Int32) × Int32 × Int32 × Int32 × Int32)) : ∀ (r : Nat) (W : Int32) (H : Int32) (ev : Int64) (fc : Int64) (lc : Int64) (MK : Int32) (LV : Int32) (PS : Int32) (gr : Nat → Int64) (ar : Nat → Int64) (to : Nat → Int64) (fe : Nat → Int32) (lts : Nat → Int32) (ki : Nat → Int32) (ce : Nat → Int32) (se : Nat → Int32) (cr : Nat → Int32) (pa : Nat → Int32) (M : Nat) (c m l : Int32) (rd nb : Nat → Int32) (e p q tk fa fb : Nat), n - p ≤ r → r < fa → r < fb → 0 < M → 2 * M ≤ p → ItR row0 rd M c m l W H ev fc lc MK LV PS gr ar to fe lts ki ce se cr pa → TK n tx e p q tk → RdFin n row0 J1 J2 (lp (f_Rd_readInto_L18 (nI n) t1 J1) fa (nI M, nI M, W, H, ev, fc, lc, gr, ar, to, fe, lts, MK, ki, ce, se, cr, LV, pa, PS, nI p, nI q, nI tk, nb)) (lp (f_Mo_fault_L29 (nI n) t2 J2) fb (1, nI q, nI p, nI q, rd, nI M, c, m, l)) := by
  intro r
  induction r using Nat.strongRecOn with
  | ind r ih =>
  intro W H ev fc lc MK LV PS gr ar to fe lts ki ce se cr pa M c m l rd nb e p q tk fa fb hr ha hb hM hp R T
  have hn := X.1
  obtain ⟨ka, rfl⟩ : ∃ k, fa = k + 1 := ⟨fa - 1, by omega⟩
  obtain ⟨kb, rfl⟩ : ∃ k, fb = k + 1 := ⟨fb - 1, by omega⟩
  have hpn := T.2.1
  have tkn := (tk3 T).2
  show RdFin n row0 J1 J2 (f_Rd_readInto_L18 (nI n) t1 J1 (lp (f_Rd_readInto_L18 (nI n) t1 J1) ka) _) (f_Mo_fault_L29 (nI n) t2 J2 (lp (f_Mo_fault_L29 (nI n) t2 J2) kb) _)
  have M0 : ¬ nI M = 0 := fun z => by have := (nI_eq (b := 0) (by omega) (by decide)).mp z; omega
  by_cases hpe : p = n
  · have tk0 : tk = 0 := by
      rcases T.2.2.2 with ⟨_, _, a⟩ | ⟨a, _⟩
      · exact a
      · omega
    subst tk0
    refine Or.inr ⟨M, W, H, ev, fc, lc, MK, LV, PS, gr, ar, to, fe, lts, ki, ce, se, cr, pa, nI p, nI q, nI 0, nb, nI q, nI p, nI q, rd, c, m, l, hM, by omega, ?_, ?_, R⟩
    · unfold f_Rd_readInto_L18
      dsimp only
      rw [if_neg (show ¬ (150 : Int32) ≤ nI M from nI_ge (b := 150) (by omega) (by decide)), jnE, if_pos (show nI 0 = (0 : Int32) from rfl), if_neg M0]
    · unfold f_Mo_fault_L29
      dsimp only
      rw [if_neg (show ¬ (1 : Int32) = 0 from by decide), if_pos (nI_le (show n ≤ p by omega) (by omega))]
  · have tk0 : ¬ tk = 0 := by
      rcases T.2.2.2 with ⟨a, _⟩ | ⟨_, _, ⟨_, a⟩ | ⟨_, _, a⟩ | ⟨_, _, a⟩⟩
      · omega
      · omega
      · intro z
        rw [z] at a
        by_cases g : q - p ≤ 2
        · rw [if_pos g] at a
          exact absurd a (by decide)
        · rw [if_neg g] at a
          exact absurd a (by decide)
      · intro z
        rw [z] at a
        by_cases g : tx p = 59
        · rw [if_pos g] at a
          exact absurd a (by decide)
        · rw [if_neg g] at a
          exact absurd a (by decide)
    have it := item_two X R T hp nb
    rw [if_neg (show ¬ M = 0 by omega)] at it
    have c1 : f_Rd_readInto_L18 (nI n) t1 J1 (lp (f_Rd_readInto_L18 (nI n) t1 J1) ka) (nI M, nI M, W, H, ev, fc, lc, gr, ar, to, fe, lts, MK, ki, ce, se, cr, LV, pa, PS, nI p, nI q, nI tk, nb) = bd (f_Rd_readItem W H ev fc lc MK LV PS (nI n) (nI p) (nI q) (nI tk) gr ar to fe lts ki ce se cr pa t1 nb 0) (fun ((x52, x53, x54, x55, x56, x57, x58, x59, x60, x61, x62, x63, x64, x65, x66, x67, x68, x69, x70, x71, x72, x73, x74) : Int32 × Int32 × Int32 × Int64 × Int64 × Int64 × (Nat → Int64) × (Nat → Int64) × (Nat → Int64) × (Nat → Int32) × (Nat → Int32) × Int32 × (Nat → Int32) × (Nat → Int32) × (Nat → Int32) × (Nat → Int32) × Int32 × (Nat → Int32) × Int32 × Int32 × Int32 × Int32 × (Nat → Int32)) => if x52 = 0 then J1 (x53, x54, x55, x56, x57, x58, x59, x60, x61, x62, x63, x64, x65, x66, x67, x68, x69, x70, x71, x72, x73, x74) else lt (nI M + 1) fun x76 => bd (f_Rd_nextToken (nI n) x72 t1) fun ((x77, x78, x79) : Int32 × Int32 × Int32) => lt (nI M + 1) fun x81 => lp (f_Rd_readInto_L18 (nI n) t1 J1) ka (x76, x81, x53, x54, x55, x56, x57, x58, x59, x60, x61, x62, x63, x64, x65, x66, x67, x68, x69, x70, x77, x78, x79, x74)) := by
      unfold f_Rd_readInto_L18
      dsimp only
      rw [if_neg (show ¬ (150 : Int32) ≤ nI M from nI_ge (b := 150) (by omega) (by decide)), jnE, if_neg (show ¬ nI tk = 0 from fun z => tk0 ((nI_eq (b := 0) (by omega) (by decide)).mp z))]
      dsimp only
      rw [jnE, if_neg M0]
    have c2 : f_Mo_fault_L29 (nI n) t2 J2 (lp (f_Mo_fault_L29 (nI n) t2 J2) kb) (1, nI q, nI p, nI q, rd, nI M, c, m, l) = bd (f_Mo_readsItem (nI n) (nI q) (nI p) (nI q) (nI M) c m l t2 rd) (fun ((x33, x34, x35, x36, x37, x38, x39, x40, x41) : Int32 × Int32 × Int32 × Int32 × (Nat → Int32) × Int32 × Int32 × Int32 × Int32) => lp (f_Mo_fault_L29 (nI n) t2 J2) kb (x33, x34, x35, x36, x37, x38, x39, x40, x41)) := by
      unfold f_Mo_fault_L29
      dsimp only
      rw [if_neg (show ¬ (1 : Int32) = 0 from by decide), if_neg (nI_ge (show p < n by omega) (by omega))]
    rw [c1, c2]
    rcases it with ⟨W1, H1, ev1, fc1, lc1, MK1, LV1, PS1, gr1, ar1, to1, fe1, lts1, ki1, ce1, se1, cr1, pa1, p', e', t', nb', a', e2, rd', x, y, z, w, i1, i2, i3⟩ | ⟨W1, H1, ev1, fc1, lc1, MK1, LV1, PS1, gr1, ar1, to1, fe1, lts1, ki1, ce1, se1, cr1, pa1, p', q', nb', p2, q2, tk2, rd', c', m', l', i1, i2, i3, i4, i5, i6⟩
    · rw [bd_some i1, bd_some i2]
      dsimp only
      rw [if_pos rfl]
      obtain ⟨kc, rfl⟩ : ∃ k, kb = k + 1 := ⟨kb - 1, by omega⟩
      refine Or.inl ⟨W1, H1, ev1, fc1, lc1, MK1, LV1, PS1, gr1, ar1, to1, fe1, lts1, ki1, ce1, se1, cr1, pa1, p', e', t', nb', a', e2, rd', x, y, z, w, rfl, ?_, i3⟩
      show f_Mo_fault_L29 (nI n) t2 J2 (lp (f_Mo_fault_L29 (nI n) t2 J2) kc) _ = _
      unfold f_Mo_fault_L29
      dsimp only
      rw [if_pos rfl]
    · rw [bd_some i1, bd_some i2]
      dsimp only
      rw [if_neg (show ¬ (1 : Int32) = 0 from by decide), ltE, bd_some i4]
      dsimp only
      rw [ltE, nI1]
      have := i3.1
      have := i3.2.1
      exact ih (n - p2) (by omega) W1 H1 ev1 fc1 lc1 MK1 LV1 PS1 gr1 ar1 to1 fe1 lts1 ki1 ce1 se1 cr1 pa1 (M + 1) c' m' l' rd' nb' q' p2 q2 tk2 ka kb (Nat.le_refl _) (by omega) (by omega) (by omega) (by omega) i6 i3
theorem tls_pre {rd row : Nat → Int32} {i : Nat} : ∀ {N : Nat} {r : Nat → Int32}, tls rd row N = some r → i ≤ N → ∃ r', tls rd row i = some r'
  | 0, r, h, hi => ⟨r, by rw [show i = 0 by omega]; exact h⟩
  | N + 1, r, h, hi => by
    by_cases e : i = N + 1
    · exact ⟨r, by rw [e]; exact h⟩
    · have h2 : bd (tls rd row N) (fun r => f_Mo_tell r rd ((6 : Int32) * nI N)) = some r := h
      obtain ⟨v, v1, _⟩ := bd_at h2
      exact tls_pre v1 (by omega)
theorem tls_loop {rd row rowN : Nat → Int32} {n : Nat} (hn : n < 4096) (h : tls rd row n = some rowN) (J : (Nat → Int32) → Option (Int32 × (Nat → Int32) × Int32 × Int32 × Int32 × (Nat → Int32) × Int32 × Int32 × Int32 × Int32)) : lp (f_Mo_read_L17 rd (nI n) J) FU (0, row) = J rowN := by
  obtain ⟨⟨a, y⟩, ⟨e1, e2⟩, g⟩ := lp_fam (f := f_Mo_read_L17 rd (nI n)) (fun i (y : Int32 × (Nat → Int32)) => y.1 = nI i ∧ tls rd row i = some y.2) n hn (by
    rintro i ⟨a, y⟩ hi ⟨e1, e2⟩
    dsimp only at e1 e2
    subst e1
    obtain ⟨r', h2⟩ := tls_pre h (show i + 1 ≤ n from hi)
    have h3 : bd (tls rd row i) (fun r => f_Mo_tell r rd ((6 : Int32) * nI i)) = some r' := h2
    rw [bd_some e2] at h3
    refine ⟨(nI (i + 1), r'), ⟨rfl, h2⟩, fun J rec => ?_⟩
    unfold f_Mo_read_L17
    dsimp only
    rw [if_neg (nI_ge hi (by omega)), bd_some h3, ltE, nI1]) (x0 := ((0 : Int32), row)) ⟨rfl, rfl⟩
  dsimp only at e1 e2
  subst e1
  rw [h] at e2
  obtain ⟨rec, q⟩ := g J
  rw [q]
  unfold f_Mo_read_L17
  dsimp only
  rw [if_pos (nI_le (Nat.le_refl _) (by omega)), ← Option.some.inj e2]
theorem fault_neg : ∀ p, p < 151 → (-10 : Int32) - nI p ≤ 0 := by decide +kernel
theorem lp_FU {σ α : Type} (f : (σ → Option α) → σ → Option α) (x : σ) : lp f FU x = f (lp f 4095) x := rfl
set_option maxRecDepth 100000 in
theorem read_call {t1 t2 : Nat → Int32} {n : Nat} (X : TxR t1 t2 n) (aD aN : Nat) (dW : Int32) (dH : Int32) (dev : Int64) (dfc : Int64) (dlc : Int64) (dMK : Int32) (dLV : Int32) (dPS : Int32) (dgr : Nat → Int64) (dar : Nat → Int64) (dto : Nat → Int64) (dfe : Nat → Int32) (dlts : Nat → Int32) (dki : Nat → Int32) (dce : Nat → Int32) (dse : Nat → Int32) (dcr : Nat → Int32) (dpa : Nat → Int32) (nb row rd : Nat → Int32) (rcl : Int32) :
    ∃ r y1 y2 W' H' ev' fc' lc' MK' LV' PS' gr' ar' to' fe' lts' ki' ce' se' cr' pa' p' e' t' nb' row' Y, f_Ai_read aD aN dW dH dev dfc dlc dMK dLV dPS (nI n) dgr dar dto dfe dlts dki dce dse dcr dpa t1 nb = some (r, y1, y2, W', H', ev', fc', lc', gr', ar', to', fe', lts', MK', ki', ce', se', cr', LV', pa', PS', p', e', t', nb') ∧ f_Mo_read (nI n) rcl row t2 rd = some (r, row', Y) ∧ ((y1 = aN ∧ y2 = aD ∧ row' = row) ∨ (y1 = aD ∧ y2 = aN ∧ (∃ v L, ∀ ps, LnR row' v L W' H' ev' fc' lc' MK' LV' PS' gr' ar' to' fe' lts' ki' ce' se' cr' pa' ps) ∧ ∀ i, ¬ i < 517 → row' i = row i)) := by
  obtain ⟨tx, X⟩ := TxR_n X
  have hn := X.1
  obtain ⟨p, q, tk, T, u1, u2⟩ := tok_eq X (Nat.zero_le n)
  have hpn := T.2.1
  have it := item_two X (row0 := row) (rd := rd) (M := 0) (c := rcl) (m := 0) (l := 0) (W := dW) (H := dH) (ev := dev) (fc := dfc) (lc := dlc) (MK := dMK) (LV := dLV) (PS := dPS) (gr := dgr) (ar := dar) (to := dto) (fe := dfe) (lts := dlts) (ki := dki) (ce := dce) (se := dse) (cr := dcr) (pa := dpa) (Or.inl ⟨rfl, rfl, rfl⟩) T (Nat.zero_le _) nb
  rw [if_pos rfl] at it
  have cls0 : f_Rd_readInto dW dH dev dfc dlc dMK dLV dPS (nI n) dgr dar dto dfe dlts dki dce dse dcr dpa t1 nb = lp (f_Rd_readInto_L18 (nI n) t1 (fun ((x5, x6, x7, x8, x9, x10, x11, x12, x13, x14, x15, x16, x17, x18, x19, x20, x21, x22, x23, x24, x25, x26) : Int32 × Int32 × Int64 × Int64 × Int64 × (Nat → Int64) × (Nat → Int64) × (Nat → Int64) × (Nat → Int32) × (Nat → Int32) × Int32 × (Nat → Int32) × (Nat → Int32) × (Nat → Int32) × (Nat → Int32) × Int32 × (Nat → Int32) × Int32 × Int32 × Int32 × Int32 × (Nat → Int32)) => some ((-10 : Int32) - x23, x5, x6, x7, x8, x9, x10, x11, x12, x13, x14, x15, x16, x17, x18, x19, x20, x21, x22, x23, x24, x25, x26))) FU (0, 0, dW, dH, dev, dfc, dlc, dgr, dar, dto, dfe, dlts, dMK, dki, dce, dse, dcr, dLV, dpa, dPS, nI p, nI q, nI tk, nb) := by
    unfold f_Rd_readInto
    rw [bd_some (show f_Rd_nextToken (nI n) 0 t1 = _ from u1)]
    dsimp only
    rw [jnE]
  have ref0 : f_Mo_fault (nI n) rcl t2 rd = bd (f_Mo_readsItem (nI n) (nI q) (nI p) (nI q) 0 rcl 0 0 t2 rd) (fun ((x5, x6, x7, x8, x9, x10, x11, x12, x13) : Int32 × Int32 × Int32 × Int32 × (Nat → Int32) × Int32 × Int32 × Int32 × Int32) => lp (f_Mo_fault_L29 (nI n) t2 (fun ((x15, x16, x17, x18, x19, x20, x21, x22, x23) : Int32 × Int32 × Int32 × Int32 × (Nat → Int32) × Int32 × Int32 × Int32 × Int32) => if x15 = 0 then some (x17, x16, x17, x18, x19, x20, x21, x22, x23) else some ((-1 : Int32), x16, x17, x18, x19, x20, x21, x22, x23))) FU (x5, x6, x7, x8, x9, x10, x11, x12, x13)) := by
    unfold f_Mo_fault
    rw [bd_some (show f_Mo_token (nI n) 0 t2 = _ from u2)]
    dsimp only
    refine congrArg (bd _) (funext fun x => ?_)
    exact jnE _ _
  have c1 : f_Rd_readInto_L18 (nI n) t1 (fun ((x5, x6, x7, x8, x9, x10, x11, x12, x13, x14, x15, x16, x17, x18, x19, x20, x21, x22, x23, x24, x25, x26) : Int32 × Int32 × Int64 × Int64 × Int64 × (Nat → Int64) × (Nat → Int64) × (Nat → Int64) × (Nat → Int32) × (Nat → Int32) × Int32 × (Nat → Int32) × (Nat → Int32) × (Nat → Int32) × (Nat → Int32) × Int32 × (Nat → Int32) × Int32 × Int32 × Int32 × Int32 × (Nat → Int32)) => some ((-10 : Int32) - x23, x5, x6, x7, x8, x9, x10, x11, x12, x13, x14, x15, x16, x17, x18, x19, x20, x21, x22, x23, x24, x25, x26)) (lp (f_Rd_readInto_L18 (nI n) t1 (fun ((x5, x6, x7, x8, x9, x10, x11, x12, x13, x14, x15, x16, x17, x18, x19, x20, x21, x22, x23, x24, x25, x26) : Int32 × Int32 × Int64 × Int64 × Int64 × (Nat → Int64) × (Nat → Int64) × (Nat → Int64) × (Nat → Int32) × (Nat → Int32) × Int32 × (Nat → Int32) × (Nat → Int32) × (Nat → Int32) × (Nat → Int32) × Int32 × (Nat → Int32) × Int32 × Int32 × Int32 × Int32 × (Nat → Int32)) => some ((-10 : Int32) - x23, x5, x6, x7, x8, x9, x10, x11, x12, x13, x14, x15, x16, x17, x18, x19, x20, x21, x22, x23, x24, x25, x26))) 4095) (0, 0, dW, dH, dev, dfc, dlc, dgr, dar, dto, dfe, dlts, dMK, dki, dce, dse, dcr, dLV, dpa, dPS, nI p, nI q, nI tk, nb) = bd (f_Rd_readItem dW dH dev dfc dlc dMK dLV dPS (nI n) (nI p) (nI q) (nI tk) dgr dar dto dfe dlts dki dce dse dcr dpa t1 nb 1) (fun ((x52, x53, x54, x55, x56, x57, x58, x59, x60, x61, x62, x63, x64, x65, x66, x67, x68, x69, x70, x71, x72, x73, x74) : Int32 × Int32 × Int32 × Int64 × Int64 × Int64 × (Nat → Int64) × (Nat → Int64) × (Nat → Int64) × (Nat → Int32) × (Nat → Int32) × Int32 × (Nat → Int32) × (Nat → Int32) × (Nat → Int32) × (Nat → Int32) × Int32 × (Nat → Int32) × Int32 × Int32 × Int32 × Int32 × (Nat → Int32)) => if x52 = 0 then (fun ((x5, x6, x7, x8, x9, x10, x11, x12, x13, x14, x15, x16, x17, x18, x19, x20, x21, x22, x23, x24, x25, x26) : Int32 × Int32 × Int64 × Int64 × Int64 × (Nat → Int64) × (Nat → Int64) × (Nat → Int64) × (Nat → Int32) × (Nat → Int32) × Int32 × (Nat → Int32) × (Nat → Int32) × (Nat → Int32) × (Nat → Int32) × Int32 × (Nat → Int32) × Int32 × Int32 × Int32 × Int32 × (Nat → Int32)) => some ((-10 : Int32) - x23, x5, x6, x7, x8, x9, x10, x11, x12, x13, x14, x15, x16, x17, x18, x19, x20, x21, x22, x23, x24, x25, x26)) (x53, x54, x55, x56, x57, x58, x59, x60, x61, x62, x63, x64, x65, x66, x67, x68, x69, x70, x71, x72, x73, x74) else lt ((0 : Int32) + 1) fun x76 => bd (f_Rd_nextToken (nI n) x72 t1) fun ((x77, x78, x79) : Int32 × Int32 × Int32) => lt ((0 : Int32) + 1) fun x81 => lp (f_Rd_readInto_L18 (nI n) t1 (fun ((x5, x6, x7, x8, x9, x10, x11, x12, x13, x14, x15, x16, x17, x18, x19, x20, x21, x22, x23, x24, x25, x26) : Int32 × Int32 × Int64 × Int64 × Int64 × (Nat → Int64) × (Nat → Int64) × (Nat → Int64) × (Nat → Int32) × (Nat → Int32) × Int32 × (Nat → Int32) × (Nat → Int32) × (Nat → Int32) × (Nat → Int32) × Int32 × (Nat → Int32) × Int32 × Int32 × Int32 × Int32 × (Nat → Int32)) => some ((-10 : Int32) - x23, x5, x6, x7, x8, x9, x10, x11, x12, x13, x14, x15, x16, x17, x18, x19, x20, x21, x22, x23, x24, x25, x26))) 4095 (x76, x81, x53, x54, x55, x56, x57, x58, x59, x60, x61, x62, x63, x64, x65, x66, x67, x68, x69, x70, x77, x78, x79, x74)) := by
    unfold f_Rd_readInto_L18
    dsimp only
    rw [if_neg (show ¬ (150 : Int32) ≤ 0 from by decide), jnE]
    dsimp only
    rw [jnE, if_pos (show (0 : Int32) = 0 from rfl), if_pos (show (0 : Int32) = 0 from rfl)]
    by_cases h : nI tk = 0
    · rw [if_pos h]
    · rw [if_neg h]
  have key : RdFin n row (fun ((x5, x6, x7, x8, x9, x10, x11, x12, x13, x14, x15, x16, x17, x18, x19, x20, x21, x22, x23, x24, x25, x26) : Int32 × Int32 × Int64 × Int64 × Int64 × (Nat → Int64) × (Nat → Int64) × (Nat → Int64) × (Nat → Int32) × (Nat → Int32) × Int32 × (Nat → Int32) × (Nat → Int32) × (Nat → Int32) × (Nat → Int32) × Int32 × (Nat → Int32) × Int32 × Int32 × Int32 × Int32 × (Nat → Int32)) => some ((-10 : Int32) - x23, x5, x6, x7, x8, x9, x10, x11, x12, x13, x14, x15, x16, x17, x18, x19, x20, x21, x22, x23, x24, x25, x26)) (fun ((x15, x16, x17, x18, x19, x20, x21, x22, x23) : Int32 × Int32 × Int32 × Int32 × (Nat → Int32) × Int32 × Int32 × Int32 × Int32) => if x15 = 0 then some (x17, x16, x17, x18, x19, x20, x21, x22, x23) else some ((-1 : Int32), x16, x17, x18, x19, x20, x21, x22, x23)) (f_Rd_readInto dW dH dev dfc dlc dMK dLV dPS (nI n) dgr dar dto dfe dlts dki dce dse dcr dpa t1 nb) (f_Mo_fault (nI n) rcl t2 rd) := by
    rw [cls0, ref0, lp_FU, c1]
    rcases it with ⟨W1, H1, ev1, fc1, lc1, MK1, LV1, PS1, gr1, ar1, to1, fe1, lts1, ki1, ce1, se1, cr1, pa1, p', e', t', nb', a', e2, rd', x, y, z, w, i1, i2, i3⟩ | ⟨W1, H1, ev1, fc1, lc1, MK1, LV1, PS1, gr1, ar1, to1, fe1, lts1, ki1, ce1, se1, cr1, pa1, p', q', nb', p2, q2, tk2, rd', c', m', l', i1, i2, i3, i4, i5, i6⟩
    · rw [bd_some i1, bd_some (show f_Mo_readsItem (nI n) (nI q) (nI p) (nI q) 0 rcl 0 0 t2 rd = _ from i2)]
      dsimp only
      rw [if_pos rfl, lp_FU]
      refine Or.inl ⟨W1, H1, ev1, fc1, lc1, MK1, LV1, PS1, gr1, ar1, to1, fe1, lts1, ki1, ce1, se1, cr1, pa1, p', e', t', nb', a', e2, rd', x, y, z, w, rfl, ?_, i3⟩
      unfold f_Mo_fault_L29
      dsimp only
      rw [if_pos rfl]
    · rw [bd_some i1, bd_some (show f_Mo_readsItem (nI n) (nI q) (nI p) (nI q) 0 rcl 0 0 t2 rd = _ from i2)]
      dsimp only
      rw [if_neg (show ¬ (1 : Int32) = 0 from by decide), ltE, bd_some i4]
      dsimp only
      rw [ltE, show (0 : Int32) + 1 = nI 1 from rfl]
      have := i3.1
      exact loop_two X _ _ n W1 H1 ev1 fc1 lc1 MK1 LV1 PS1 gr1 ar1 to1 fe1 lts1 ki1 ce1 se1 cr1 pa1 1 c' m' l' rd' nb' q' p2 q2 tk2 4095 FU (by omega) (by omega) (by show n < 4096; omega) (by decide) (by omega) i6 i3
  unfold f_Ai_read f_Mo_read
  rcases key with ⟨W1, H1, ev1, fc1, lc1, MK1, LV1, PS1, gr1, ar1, to1, fe1, lts1, ki1, ce1, se1, cr1, pa1, p', e', t', nb', a', e2, rd', x, y, z, w, i1, i2, i3⟩ | ⟨M', W1, H1, ev1, fc1, lc1, MK1, LV1, PS1, gr1, ar1, to1, fe1, lts1, ki1, ce1, se1, cr1, pa1, p', e', t', nb', a', p2, e2, rd', c', m', l', i1, i2, i3, i4, i5⟩
  · rw [i1, i2]
    dsimp only
    rw [bd_some rfl, if_pos rfl, bd_some rfl]
    dsimp only
    rw [if_pos (fault_neg p' (by omega)), if_neg (nI_m1 (show p' < 2 ^ 31 by omega))]
    exact ⟨_, _, _, _, _, _, _, _, _, _, _, _, _, _, _, _, _, _, _, _, _, _, _, _, _, _, _, rfl, rfl, Or.inl ⟨rfl, rfl, rfl⟩⟩
  · rw [i3, i4]
    dsimp only
    rw [bd_some rfl, if_neg (show ¬ (1 : Int32) = 0 from by decide), bd_some rfl]
    dsimp only
    rcases i5 with ⟨h, _⟩ | ⟨_, rowM, v, L, r1, r2, r3, _⟩
    · omega
    rw [if_neg (show ¬ nI M' ≤ 0 from nI_ge (a := 0) (b := M') i1 (by omega)), if_pos rfl, jnE, tls_loop (by omega) r1]
    exact ⟨_, _, _, _, _, _, _, _, _, _, _, _, _, _, _, _, _, _, _, _, _, _, _, _, _, _, _, rfl, rfl, Or.inr ⟨rfl, rfl, ⟨v, L, r2⟩, r3⟩⟩

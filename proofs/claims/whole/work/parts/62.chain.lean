/-! an item's numbers, both sides one behind the other -/
def lsI (w i : Nat) (z : Int32) : Int32 := if w = 5 ∧ i = 3 then z else if w = 0 ∨ (w = 5 ∧ i = 4) then 1 else 0
def msI (w i : Nat) (c m : Int32) : Int32 := if w = 0 then 6 else if w = 1 then (if i = 0 then c - 1 else 2) else if w = 2 then (if i = 0 then c - 1 else 5) else if w = 3 then (if i = 0 then 5 else 99) else if w = 4 then (if i = 0 then 5 else if i = 1 then c - 1 else 5) else (if i = 0 then m - 1 else if i = 1 then 5 else if i = 4 then 20 else 23)
def nmI (w : Nat) : Nat := if w = 5 then 5 else if w = 4 then 3 else 2
theorem six {P : Nat → Prop} (h : P 0 ∧ P 1 ∧ P 2 ∧ P 3 ∧ P 4 ∧ P 5) {w : Nat} (hw : w < 6) : P w := by
  have : w = 0 ∨ w = 1 ∨ w = 2 ∨ w = 3 ∨ w = 4 ∨ w = 5 := by omega
  rcases this with rfl | rfl | rfl | rfl | rfl | rfl
  · exact h.1
  · exact h.2.1
  · exact h.2.2.1
  · exact h.2.2.2.1
  · exact h.2.2.2.2.1
  · exact h.2.2.2.2.2
theorem five {P : Nat → Prop} (h : P 0 ∧ P 1 ∧ P 2 ∧ P 3 ∧ P 4) {i : Nat} (hi : i < 5) : P i := by
  have : i = 0 ∨ i = 1 ∨ i = 2 ∨ i = 3 ∨ i = 4 := by omega
  rcases this with rfl | rfl | rfl | rfl | rfl
  · exact h.1
  · exact h.2.1
  · exact h.2.2.1
  · exact h.2.2.2.1
  · exact h.2.2.2.2
theorem numbersOf_eq {w : Nat} (hw : w < 6) : f_Rd_numbersOf (nI w) = some (nI (nmI w)) := six (P := fun w => f_Rd_numbersOf (nI w) = some (nI (nmI w))) ⟨rfl, rfl, rfl, rfl, rfl, rfl⟩ hw
theorem least_eq (nb : Nat → Int32) {w i : Nat} (hw : w < 6) (hi : i < 5) : f_Rd_least nb (nI w) (nI i) = some (lsI w i (nb 2)) :=
  six (P := fun w => f_Rd_least nb (nI w) (nI i) = some (lsI w i (nb 2))) ⟨five (P := fun i => f_Rd_least nb (nI 0) (nI i) = some (lsI 0 i (nb 2))) ⟨rfl, rfl, rfl, rfl, rfl⟩ hi, five (P := fun i => f_Rd_least nb (nI 1) (nI i) = some (lsI 1 i (nb 2))) ⟨rfl, rfl, rfl, rfl, rfl⟩ hi, five (P := fun i => f_Rd_least nb (nI 2) (nI i) = some (lsI 2 i (nb 2))) ⟨rfl, rfl, rfl, rfl, rfl⟩ hi, five (P := fun i => f_Rd_least nb (nI 3) (nI i) = some (lsI 3 i (nb 2))) ⟨rfl, rfl, rfl, rfl, rfl⟩ hi, five (P := fun i => f_Rd_least nb (nI 4) (nI i) = some (lsI 4 i (nb 2))) ⟨rfl, rfl, rfl, rfl, rfl⟩ hi, five (P := fun i => f_Rd_least nb (nI 5) (nI i) = some (lsI 5 i (nb 2))) ⟨rfl, rfl, rfl, rfl, rfl⟩ hi⟩ hw
theorem most_eq (W H MK : Int32) {w i : Nat} (hw : w < 6) (hi : i < 5) : f_Rd_most W H MK (nI w) (nI i) = some (msI w i (W * H) MK) :=
  six (P := fun w => f_Rd_most W H MK (nI w) (nI i) = some (msI w i (W * H) MK)) ⟨five (P := fun i => f_Rd_most W H MK (nI 0) (nI i) = some (msI 0 i (W * H) MK)) ⟨rfl, rfl, rfl, rfl, rfl⟩ hi, five (P := fun i => f_Rd_most W H MK (nI 1) (nI i) = some (msI 1 i (W * H) MK)) ⟨rfl, rfl, rfl, rfl, rfl⟩ hi, five (P := fun i => f_Rd_most W H MK (nI 2) (nI i) = some (msI 2 i (W * H) MK)) ⟨rfl, rfl, rfl, rfl, rfl⟩ hi, five (P := fun i => f_Rd_most W H MK (nI 3) (nI i) = some (msI 3 i (W * H) MK)) ⟨rfl, rfl, rfl, rfl, rfl⟩ hi, five (P := fun i => f_Rd_most W H MK (nI 4) (nI i) = some (msI 4 i (W * H) MK)) ⟨rfl, rfl, rfl, rfl, rfl⟩ hi, five (P := fun i => f_Rd_most W H MK (nI 5) (nI i) = some (msI 5 i (W * H) MK)) ⟨rfl, rfl, rfl, rfl, rfl⟩ hi⟩ hw
theorem lsI_0 {w i : Nat} {z : Int32} (h : ∃ v, v < 100 ∧ z = nI v) : -1 < lsI w i z := by
  obtain ⟨v, hv, rfl⟩ := h
  unfold lsI
  by_cases a : w = 5 ∧ i = 3
  · rw [if_pos a, Int32.lt_iff_toInt_lt, nI_toInt (by omega), show (-1 : Int32).toInt = -1 from by decide]
    omega
  · rw [if_neg a]
    by_cases b : w = 0 ∨ (w = 5 ∧ i = 4)
    · rw [if_pos b]
      decide
    · rw [if_neg b]
      decide
theorem lsI_0' {w i : Nat} {z : Int32} (h : ¬ (w = 5 ∧ i = 3)) : -1 < lsI w i z := by
  unfold lsI
  rw [if_neg h]
  by_cases b : w = 0 ∨ (w = 5 ∧ i = 4)
  · rw [if_pos b]
    decide
  · rw [if_neg b]
    decide
theorem lsI_cg {w i : Nat} {z z' : Int32} (h : w = 5 ∧ i = 3 → z = z') : lsI w i z = lsI w i z' := by
  unfold lsI
  by_cases a : w = 5 ∧ i = 3
  · rw [if_pos a, if_pos a, h a]
  · rw [if_neg a, if_neg a]
def rC {α : Type} (len many c m : Int32) (t2 : Nat → Int32) (w : Nat) (F K : Int32 → Int32 → Int32 → (Nat → Int32) → Option α) : Nat → Nat → Int32 → Int32 → Int32 → (Nat → Int32) → Option α
  | 0, _, a, p, e, rd => K a p e rd
  | d + 1, i, a, p, e, rd => if w = 5 ∧ i = 3 then gd (inB (((6 : Int32) * many) + 3) 450) <| bd (f_Mo_reads len a p e many t2 rd (nI (i + 1)) (lsI w i (rd (((6 : Int32) * many) + 3).toNatClampNeg)) (msI w i c m)) fun ((z, a', p', e', rd') : Int32 × Int32 × Int32 × Int32 × (Nat → Int32)) => if z = 0 then F a' p' e' rd' else rC len many c m t2 w F K d (i + 1) a' p' e' rd' else bd (f_Mo_reads len a p e many t2 rd (nI (i + 1)) (lsI w i (rd (((6 : Int32) * many) + 3).toNatClampNeg)) (msI w i c m)) fun ((z, a', p', e', rd') : Int32 × Int32 × Int32 × Int32 × (Nat → Int32)) => if z = 0 then F a' p' e' rd' else rC len many c m t2 w F K d (i + 1) a' p' e' rd'
theorem rC_s {α : Type} {len c m : Int32} {M : Nat} {t2 : Nat → Int32} {w : Nat} {F K : Int32 → Int32 → Int32 → (Nat → Int32) → Option α} {d i : Nat} {a p e : Int32} {rd : Nat → Int32} (hM : 6 * M + 5 < 450) : rC len (nI M) c m t2 w F K (d + 1) i a p e rd = bd (f_Mo_reads len a p e (nI M) t2 rd (nI (i + 1)) (lsI w i (rd (6 * M + 3))) (msI w i c m)) fun ((z, a', p', e', rd') : Int32 × Int32 × Int32 × Int32 × (Nat → Int32)) => if z = 0 then F a' p' e' rd' else rC len (nI M) c m t2 w F K d (i + 1) a' p' e' rd' := by
  have e1 : ((6 : Int32) * nI M) + 3 = nI (6 * M + 3) := by rw [show (6 : Int32) = nI 6 from rfl, show (3 : Int32) = nI 3 from rfl, pk_mul, nIa]
  show (if w = 5 ∧ i = 3 then gd (inB (((6 : Int32) * nI M) + 3) 450) <| bd (f_Mo_reads len a p e (nI M) t2 rd (nI (i + 1)) (lsI w i (rd (((6 : Int32) * nI M) + 3).toNatClampNeg)) (msI w i c m)) fun ((z, a', p', e', rd') : Int32 × Int32 × Int32 × Int32 × (Nat → Int32)) => if z = 0 then F a' p' e' rd' else rC len (nI M) c m t2 w F K d (i + 1) a' p' e' rd' else bd (f_Mo_reads len a p e (nI M) t2 rd (nI (i + 1)) (lsI w i (rd (((6 : Int32) * nI M) + 3).toNatClampNeg)) (msI w i c m)) fun ((z, a', p', e', rd') : Int32 × Int32 × Int32 × Int32 × (Nat → Int32)) => if z = 0 then F a' p' e' rd' else rC len (nI M) c m t2 w F K d (i + 1) a' p' e' rd') = _
  rw [e1, gd_nI (show 6 * M + 3 < 450 by omega) (by decide), nI_clamp (show 6 * M + 3 < 2 ^ 31 by omega)]
  by_cases h : w = 5 ∧ i = 3
  · rw [if_pos h]
  · rw [if_neg h]
theorem chain {n : Nat} {tx : Nat → Nat} {t1 t2 : Nat → Int32} (X : TXn n tx t1 t2) {w : Nat} (hw : w < 6) (W H : Int32) (ev fc lc : Int64) (MK LV PS : Int32) (gr ar to : Nat → Int64) (fe lts ki ce se cr pa : Nat → Int32) (J : (Int32 × Int32 × Int32 × (Nat → Int32)) → Option (Int32 × Int32 × Int32 × Int64 × Int64 × Int64 × (Nat → Int64) × (Nat → Int64) × (Nat → Int64) × (Nat → Int32) × (Nat → Int32) × Int32 × (Nat → Int32) × (Nat → Int32) × (Nat → Int32) × (Nat → Int32) × Int32 × (Nat → Int32) × Int32 × Int32 × Int32 × Int32 × (Nat → Int32))) {α : Type} (F K : Int32 → Int32 → Int32 → (Nat → Int32) → Option α) {M : Nat} (hM : 6 * M + 5 < 450) {c m : Int32} (hms : ∀ i, msI w i (W * H) MK = msI w i c m) :
    ∀ (d i e p q tk fuel : Nat) (x33 x35 : Int32) (nb rd : Nat → Int32), i + d = nmI w → d < fuel → e ≤ n → TK n tx e p q tk → f_Rd_nextToken (nI n) (nI e) t1 = some (nI p, nI q, nI tk) → (∀ j, j < i → rd (6 * M + 1 + j) = nb j ∧ ∃ v, v < 100 ∧ nb j = nI v) →
    (∃ p' q' tk' nb' rd', lp (f_Rd_readItem_L49 W H ev fc lc MK LV PS (nI n) gr ar to fe lts ki ce se cr pa t1 (nI w) J) fuel (nI i, x33, nI e, x35, nb) = some (0, W, H, ev, fc, lc, gr, ar, to, fe, lts, MK, ki, ce, se, cr, LV, pa, PS, nI p', nI q', nI tk', nb') ∧ rC (nI n) (nI M) c m t2 w F K d i (nI q) (nI p) (nI q) rd = F (nI q') (nI p') (nI q') rd' ∧ p' ≤ n) ∨
    (∃ x33' e' x35' nb' rd' p' q' tk', lp (f_Rd_readItem_L49 W H ev fc lc MK LV PS (nI n) gr ar to fe lts ki ce se cr pa t1 (nI w) J) fuel (nI i, x33, nI e, x35, nb) = J (x33', nI e', x35', nb') ∧ rC (nI n) (nI M) c m t2 w F K d i (nI q) (nI p) (nI q) rd = K (nI q') (nI p') (nI q') rd' ∧ TK n tx e' p' q' tk' ∧ f_Rd_nextToken (nI n) (nI e') t1 = some (nI p', nI q', nI tk') ∧ e ≤ e' ∧ (∀ j, j < nmI w → rd' (6 * M + 1 + j) = nb' j ∧ ∃ v, v < 100 ∧ nb' j = nI v) ∧ (∀ j, i ≤ j → j < nmI w → lsI w j (nb' 2) ≤ nb' j ∧ nb' j ≤ msI w j c m) ∧ (∀ j, j < i → nb' j = nb j) ∧ ∀ j, j ≤ 6 * M → rd' j = rd j)
  | 0, i, e, p, q, tk, fuel, x33, x35, nb, rd, hd, hf, he, T, hT, hn => by
    obtain ⟨k, rfl⟩ : ∃ k, fuel = k + 1 := ⟨fuel - 1, by omega⟩
    have hi : i = nmI w := by omega
    have hm5 : nmI w ≤ 5 := six (P := fun w => nmI w ≤ 5) ⟨by decide, by decide, by decide, by decide, by decide, by decide⟩ hw
    refine Or.inr ⟨x33, e, x35, nb, rd, p, q, tk, ?_, rfl, T, hT, Nat.le_refl _, fun j hj => hn j (by omega), fun j h1 h2 => by omega, fun _ _ => rfl, fun _ _ => rfl⟩
    show f_Rd_readItem_L49 W H ev fc lc MK LV PS (nI n) gr ar to fe lts ki ce se cr pa t1 (nI w) J (lp (f_Rd_readItem_L49 W H ev fc lc MK LV PS (nI n) gr ar to fe lts ki ce se cr pa t1 (nI w) J) k) (nI i, x33, nI e, x35, nb) = _
    unfold f_Rd_readItem_L49
    dsimp only
    rw [bd_some (numbersOf_eq hw), if_pos (nI_le (show nmI w ≤ i by omega) (by omega))]
  | d + 1, i, e, p, q, tk, fuel, x33, x35, nb, rd, hd, hf, he, T, hT, hn => by
    obtain ⟨k, rfl⟩ : ∃ k, fuel = k + 1 := ⟨fuel - 1, by omega⟩
    have hm5 : nmI w ≤ 5 := six (P := fun w => nmI w ≤ 5) ⟨by decide, by decide, by decide, by decide, by decide, by decide⟩ hw
    have hi5 : i < 5 := by omega
    have hlo : lsI w i (rd (6 * M + 3)) = lsI w i (nb 2) := lsI_cg fun h => (hn 2 (by omega)).1
    have un : ∀ rec, f_Rd_readItem_L49 W H ev fc lc MK LV PS (nI n) gr ar to fe lts ki ce se cr pa t1 (nI w) J rec (nI i, x33, nI e, x35, nb) = (jn (fun (x43 : Int32) => if x43 < lsI w i (nb 2) then some (0, W, H, ev, fc, lc, gr, ar, to, fe, lts, MK, ki, ce, se, cr, LV, pa, PS, nI p, nI q, nI tk, nb) else if x43 ≤ msI w i c m then rec (nI (i + 1), nI p, nI q, nI tk, upd nb i x43) else some (0, W, H, ev, fc, lc, gr, ar, to, fe, lts, MK, ki, ce, se, cr, LV, pa, PS, nI p, nI q, nI tk, nb)) fun J86 => if nI tk = 2 then bd (f_Rd_numberAtPlace (nI n) (nI p) (nI q) t1) fun (x50 : Int32) => J86 x50 else J86 (-1)) := by
      intro rec
      unfold f_Rd_readItem_L49
      dsimp only
      rw [bd_some (numbersOf_eq hw), if_neg (nI_ge (show i < nmI w by omega) (by omega)), if_neg (show ¬ (5 : Int32) ≤ nI i from nI_ge (b := 5) hi5 (by decide)), bd_some hT]
      simp only [bd_some (least_eq nb hw hi5), bd_some (most_eq W H MK hw hi5), hms, gd_nI hi5 (show 5 < 2 ^ 31 by decide), nI_clamp (show i < 2 ^ 31 by omega), ltE, nI1]
    have tkn : nI tk = 2 ↔ tk = 2 := by
      obtain ⟨_, _, _, T4⟩ := T
      refine nI_eq (b := 2) ?_ (by decide)
      rcases T4 with ⟨_, _, a⟩ | ⟨_, _, ⟨_, a⟩ | ⟨_, _, a⟩ | ⟨_, _, a⟩⟩
      · omega
      · omega
      · rw [a]
        by_cases g : q - p ≤ 2
        · rw [if_pos g]
          decide
        · rw [if_neg g]
          decide
      · rw [a]
        by_cases g : tx p = 59
        · rw [if_pos g]
          decide
        · rw [if_neg g]
          decide
    have lneg : -1 < lsI w i (nb 2) := by
      by_cases h : w = 5 ∧ i = 3
      · exact lsI_0 (hn 2 (by omega)).2
      · exact lsI_0' h
    by_cases h : tk = 2 ∧ lsI w i (nb 2) ≤ nI (vl tx p (q - p)) ∧ nI (vl tx p (q - p)) ≤ msI w i c m
    · -- the number stands
      obtain ⟨h1, h2, h3⟩ := h
      obtain ⟨a, b, c1, c2, c3⟩ := tk2 T h1
      obtain ⟨p2, q2, tk2', T2, u1, u2⟩ := tok_eq X (e := q) T.2.2.1
      have hro := reads_ok X T h1 h2 h3 (M := M) (k := i + 1) (by omega) u2 rd
      have cl : f_Rd_readItem_L49 W H ev fc lc MK LV PS (nI n) gr ar to fe lts ki ce se cr pa t1 (nI w) J (lp (f_Rd_readItem_L49 W H ev fc lc MK LV PS (nI n) gr ar to fe lts ki ce se cr pa t1 (nI w) J) k) (nI i, x33, nI e, x35, nb) = lp (f_Rd_readItem_L49 W H ev fc lc MK LV PS (nI n) gr ar to fe lts ki ce se cr pa t1 (nI w) J) k (nI (i + 1), nI p, nI q, nI tk, upd nb i (nI (vl tx p (q - p)))) := by
        rw [un, jnE, if_pos (tkn.mpr h1), bd_some (num_cls X (Nat.le_of_lt b) T.2.2.1 c3)]
        dsimp only
        rw [if_neg (Int32.not_lt.mpr h2), if_pos h3]
      have hn' : ∀ j, j < i + 1 → upd rd (6 * M + (i + 1)) (nI (vl tx p (q - p))) (6 * M + 1 + j) = upd nb i (nI (vl tx p (q - p))) j ∧ ∃ v, v < 100 ∧ upd nb i (nI (vl tx p (q - p))) j = nI v := fun j hj => by
        by_cases ej : j = i
        · rw [ej, show 6 * M + 1 + i = 6 * M + (i + 1) from by omega, upd_same, upd_same]
          exact ⟨rfl, _, tk2_vl T h1, rfl⟩
        · rw [upd_ne (by omega), upd_ne ej]
          exact hn j (by omega)
      have ih := chain X hw W H ev fc lc MK LV PS gr ar to fe lts ki ce se cr pa J F K hM hms d (i + 1) q p2 q2 tk2' k (nI p) (nI tk) (upd nb i (nI (vl tx p (q - p)))) (upd rd (6 * M + (i + 1)) (nI (vl tx p (q - p)))) (by omega) (by omega) T.2.2.1 T2 u1 hn'
      have rc : rC (nI n) (nI M) c m t2 w F K (d + 1) i (nI q) (nI p) (nI q) rd = rC (nI n) (nI M) c m t2 w F K d (i + 1) (nI q2) (nI p2) (nI q2) (upd rd (6 * M + (i + 1)) (nI (vl tx p (q - p)))) := by
        rw [rC_s hM, hlo, bd_some hro]
        dsimp only
        rw [if_neg (show ¬ (1 : Int32) = 0 from by decide)]
      rw [rc]
      have hcl : lp (f_Rd_readItem_L49 W H ev fc lc MK LV PS (nI n) gr ar to fe lts ki ce se cr pa t1 (nI w) J) (k + 1) (nI i, x33, nI e, x35, nb) = lp (f_Rd_readItem_L49 W H ev fc lc MK LV PS (nI n) gr ar to fe lts ki ce se cr pa t1 (nI w) J) k (nI (i + 1), nI p, nI q, nI tk, upd nb i (nI (vl tx p (q - p)))) := cl
      rw [hcl]
      rcases ih with ih | ⟨x33', e', x35', nb', rd', p', q', tk', y1, y2, y3, y4, y5, y6, y7, y8, y9⟩
      · exact Or.inl ih
      · refine Or.inr ⟨x33', e', x35', nb', rd', p', q', tk', y1, y2, y3, y4, ?_, y6, fun j j1 j2 => ?_, fun j hj => ?_, fun j hj => ?_⟩
        · have := T.1
          omega
        · by_cases ej : j = i
          · subst ej
            have e1 : nb' j = nI (vl tx p (q - p)) := by rw [y8 j (by omega), upd_same]
            have e2 : lsI w j (nb' 2) = lsI w j (nb 2) := lsI_cg fun z => by rw [y8 2 (by omega), upd_ne (by omega)]
            rw [e1, e2]
            exact ⟨h2, h3⟩
          · exact y7 j (by omega) j2
        · rw [y8 j (by omega), upd_ne (by omega)]
        · rw [y9 j hj, upd_ne (by omega)]
    · -- it does not
      have hrn := reads_no X T h (nI M) (nI (i + 1)) rd
      refine Or.inl ⟨p, q, tk, nb, rd, ?_, ?_, T.2.1⟩
      · show f_Rd_readItem_L49 W H ev fc lc MK LV PS (nI n) gr ar to fe lts ki ce se cr pa t1 (nI w) J (lp (f_Rd_readItem_L49 W H ev fc lc MK LV PS (nI n) gr ar to fe lts ki ce se cr pa t1 (nI w) J) k) (nI i, x33, nI e, x35, nb) = _
        rw [un, jnE]
        by_cases h1 : tk = 2
        · obtain ⟨a, b, c1, c2, c3⟩ := tk2 T h1
          rw [if_pos (tkn.mpr h1), bd_some (num_cls X (Nat.le_of_lt b) T.2.2.1 c3)]
          dsimp only
          by_cases h2 : nI (vl tx p (q - p)) < lsI w i (nb 2)
          · rw [if_pos h2]
          · rw [if_neg h2, if_neg (fun z => h ⟨h1, Int32.not_lt.mp h2, z⟩)]
        · rw [if_neg (fun z => h1 (tkn.mp z))]
          dsimp only
          rw [if_pos lneg]
      · rw [rC_s hM, hlo, bd_some hrn]
        dsimp only
        rw [if_pos rfl]

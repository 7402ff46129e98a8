/-! what stays as it was -/
def vs (v : Nat → Nat) (i x : Nat) : Nat → Nat := fun j => if j = i then x else v j
theorem vs_same {v : Nat → Nat} {i x : Nat} : vs v i x i = x := if_pos rfl
theorem vs_ne {v : Nat → Nat} {i x j : Nat} (h : j ≠ i) : vs v i x j = v j := if_neg h
theorem Rm_set {row : Nat → Int32} {v : Nat → Nat} (R : Rm row v) (i x : Nat) : Rm (upd row i (nI x)) (vs v i x) := by
  intro j h1 h2
  by_cases hj : j = i
  · subst hj
    rw [upd_same, vs_same]
  · rw [upd_ne hj, vs_ne hj, R j h1 h2]
theorem RS_ag {K n : Nat} {rows : Nat → Int64} {g g' : Nat → Nat} (h : RS K n rows g) (e : ∀ c, c < n → g' c = g c) : RS K n rows g' := by
  intro k hk c hc
  rw [h k hk c hc]
  by_cases hn : c < n
  · rw [e c hn]
  · simp [hn]
theorem WFL_ag {v v' : Nat → Nat} (h : WFL v) (e122 : v' 122 = v 122) (e : ∀ i, 147 ≤ i → i < 188 → v' i = v i) : WFL v' := by
  obtain ⟨h1, h2⟩ := h
  have e147 : v' 147 = v 147 := e 147 (by decide) (by decide)
  refine ⟨by rw [e147]; exact h1, fun j hj => ?_⟩
  rw [e147] at hj
  have := h2 j hj
  rw [e122, e _ (by omega) (by omega), e _ (by omega) (by omega), e _ (by omega) (by omega), e _ (by omega) (by omega), e _ (by omega) (by omega)]
  exact this
theorem SW_ag {v v' : Nat → Nat} {W : Int32} {ev fc lc : Int64} {MK LV : Int32} {gr ar : Nat → Int64} {ki ce se pa : Nat → Int32} (S : SW v W ev fc lc MK LV gr ar ki ce se pa) (e : ∀ i, i < 188 → ¬ (74 ≤ i ∧ i < 122) → (∀ k, k < 6 → i ≠ 126 + 4 * k) → v' i = v i) : SW v' W ev fc lc MK LV gr ar ki ce se pa := by
  obtain ⟨G, ⟨s1, s2, s3, s4, s5, s6, s7, s8⟩, r, m⟩ := S
  have hn : v 0 * v 1 ≤ 36 := G.2.2.1
  have e0 : v' 0 = v 0 := e 0 (by decide) (by decide) (fun k _ => by omega)
  have e1 : v' 1 = v 1 := e 1 (by decide) (by decide) (fun k _ => by omega)
  have e122 : v' 122 = v 122 := e 122 (by decide) (by decide) (fun k _ => by omega)
  have e147 : v' 147 = v 147 := e 147 (by decide) (by decide) (fun k _ => by omega)
  have h8 : v 147 ≤ 8 := s6.1
  refine ⟨by rw [e0, e1]; exact G, ⟨by rw [e122]; exact s1, by rw [e122]; exact s2, by rw [e147]; exact s3, fun i hi => ?_, fun j hj => ?_, WFL_ag s6 e122 (fun i h1 h2 => e i h2 (by omega) (fun k _ => by omega)), fun c => ?_, ?_⟩, ?_, fun i hi => ?_⟩
  · rw [e122] at hi
    rw [e _ (by omega) (by omega) (fun k _ => by omega)]
    exact s4 i hi
  · rw [e147] at hj
    rw [e _ (by omega) (by omega) (fun k _ => by omega)]
    exact s5 j hj
  · rw [e0, e1]
    by_cases hc : c < 36
    · rw [e _ (by omega) (by omega) (fun k _ => by omega)]
      exact s7 c
    · exact Or.inr (by omega)
  · rw [e0, e1]
    exact RS_ag s8 fun c hc => e _ (by omega) (by omega) (fun k _ => by omega)
  · rw [e0, e1]
    exact RS_ag r fun c hc => e _ (by omega) (by omega) (fun k _ => by omega)
  · rw [e122] at hi
    rw [e0, e1, e _ (by omega) (by omega) (fun k _ => by omega), e (124 + 4 * i) (by omega) (by omega) (fun k _ => by omega)]
    exact m i hi
/-- ears -/
theorem ears_call {row : Nat → Int32} {v : Nat → Nat} {W : Int32} {ev fc lc : Int64} {MK LV : Int32} {gr ar : Nat → Int64} {ki ce se pa : Nat → Int32} (S : TwoL row v W ev fc lc MK LV gr ar ki ce se pa) {to : Nat → Int64} (hT : RS 3 (v 0 * v 1) to (fun c => v (74 + c))) {rf : Nat → Int32} {bad no full : Int32} (T : StR rf bad no full) (a b : Int32) :
    ∃ r rf' bad' to' row' v', f_Ai_ears W (nI (v 1)) rf to a b = some (r, rf', to') ∧ f_Mo_ears bad row a b = some (r, row', bad') ∧ StR rf' bad' no full ∧ TwoL row' v' W ev fc lc MK LV gr ar ki ce se pa ∧ RS 3 (v' 0 * v' 1) to' (fun c => v' (74 + c)) ∧ (∀ i, ¬ (74 ≤ i ∧ i < 110) → v' i = v i ∧ row' i = row i) := by
  obtain ⟨k1, k2, k3, k4⟩ := TwoL_mk S
  have hW : W = nI (v 0) := S.2.2.1.2.2.2.1
  have B := refuse_bad T (-2)
  have bad2 : ∃ r rf' bad' to' row' v', (bd (f_Ai_refuse rf (-2)) fun ((x3, x4) : Int32 × (Nat → Int32)) => some (x3, x4, to)) = some (r, rf', to') ∧ (bd (f_Mo_isBad bad) fun ((x3, x4) : Int32 × Int32) => some (x3, row, x4)) = some (r, row', bad') ∧ StR rf' bad' no full ∧ TwoL row' v' W ev fc lc MK LV gr ar ki ce se pa ∧ RS 3 (v' 0 * v' 1) to' (fun c => v' (74 + c)) ∧ (∀ i, ¬ (74 ≤ i ∧ i < 110) → v' i = v i ∧ row' i = row i) := by
    rw [bd_some (refuse_is B.1), bd_some (isBad_eq bad)]
    exact ⟨_, _, _, _, _, v, rfl, rfl, B.2, S, hT, fun _ _ => ⟨rfl, rfl⟩⟩
  unfold f_Ai_ears f_Mo_ears
  rcases in_or a (n := v 0 * v 1) (by omega) with ⟨c, hc, rfl⟩ | ⟨q1, q2⟩
  · have i1 : f_Ai_isCell W (nI (v 1)) (nI c) = some 1 := by rw [hW]; exact isCell_t (by omega) hc
    simp only [bd_some i1, bd_some (mCell_t S.1 (show v 0 * v 1 < 2 ^ 31 by omega) hc), jnE, if_neg (show ¬ (1 : Int32) = 0 from by decide)]
    rcases in_or b (n := 3) (by decide) with ⟨x, hx, rfl⟩ | ⟨q1, q2⟩
    · have hc3 := S.2.1.2.2.2.2.2.1 c hc
      obtain ⟨to', t1, t2⟩ := sortInto_eq (by decide) hT hc k3 hc3.2.2 hx
      rw [show (3 : Int32) = nI 3 from rfl, lt_t hx (by decide), bd_some (show f_Mo_in (nI x).toInt64 0 2 = some 1 from mIn_t (N := 2) (by omega) (by decide)), if_neg (by decide), bd_some t1, show (74 : Int32) = nI 74 from rfl, nIa, gd_nI (by omega) (by decide), nI_clamp (by omega), ltE, gd_nI (by omega) (by decide), ltE, S.1 _ (by omega) (by omega)]
      have ne : ∀ i, i ≠ 74 + c → vs v (74 + c) x i = v i := fun i hi => vs_ne hi
      have e0 : vs v (74 + c) x 0 = v 0 := ne 0 (by omega)
      have e1 : vs v (74 + c) x 1 = v 1 := ne 1 (by omega)
      have e122 : vs v (74 + c) x 122 = v 122 := ne 122 (by omega)
      refine ⟨_, _, _, to', _, vs v (74 + c) x, rfl, rfl, T, ⟨Rm_set S.1 _ _, ?_, SW_ag S.2.2 fun i h1 h2 h3 => ne i (by omega)⟩, ?_, fun i hi => ⟨ne i (by omega), upd_ne (by omega)⟩⟩
      · obtain ⟨w1, w2, w3, w4, w5, w6, w7, w8, w9, w10⟩ := S.2.1
        refine ⟨by rw [e0]; exact w1, by rw [e0]; exact w2, by rw [e1]; exact w3, by rw [e1]; exact w4, by rw [e0, e1]; exact w5, fun d hd => ?_, fun i hi => by rw [ne _ (by omega)]; exact w7 i hi, by rw [e122]; exact w8, fun i hi => ?_, WFL_ag w10 e122 fun i h1 h2 => ne i (by omega)⟩
        · rw [e0, e1] at hd
          have := w6 d hd
          rw [ne (2 + d) (by omega), ne (38 + d) (by omega)]
          refine ⟨this.1, this.2.1, ?_⟩
          by_cases hdc : d = c
          · subst hdc
            rw [vs_same]
            exact hx
          · rw [ne _ (by omega)]
            exact this.2.2
        · rw [e122] at hi
          rw [e0, e1, ne _ (by omega), ne _ (by omega), ne _ (by omega), ne _ (by omega)]
          exact w9 i hi
      · rw [e0, e1]
        refine RS_ag t2 fun d hd => ?_
        by_cases hdc : d = c
        · subst hdc
          rw [vs_same, if_pos rfl]
        · rw [ne _ (by omega), if_neg hdc]
    · rw [show (3 : Int32) = nI 3 from rfl, lt_f q1, bd_some (show f_Mo_in b.toInt64 0 2 = some 0 from mIn_f (N := 2) (by decide) q2), if_pos rfl]
      exact bad2
  · have i1 : f_Ai_isCell W (nI (v 1)) a = some 0 := by rw [hW]; exact isCell_f q1
    simp only [bd_some i1, bd_some (mCell_f S.1 (show v 0 * v 1 < 2 ^ 31 by omega) q2), jnE, if_pos (show (0 : Int32) = 0 from rfl)]
    exact bad2

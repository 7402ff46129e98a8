/-! put -/
theorem put_ground {row : Nat → Int32} {v : Nat → Nat} {W : Int32} {ev fc lc : Int64} {MK LV : Int32} {gr gr' ar : Nat → Int64} {ki ce se pa : Nat → Int32} (S : TwoL row v W ev fc lc MK LV gr ar ki ce se pa) {c x : Nat} (hc : c < v 0 * v 1) (hx : x < 3) (h : RS 3 (v 0 * v 1) gr' (fun d => if d = c then x else v (2 + d))) : TwoL (upd row (2 + c) (nI x)) (vs v (2 + c) x) W ev fc lc MK LV gr' ar ki ce se pa := by
  obtain ⟨k1, k2, k3, k4⟩ := TwoL_mk S
  have ne : ∀ i, i ≠ 2 + c → vs v (2 + c) x i = v i := fun i hi => vs_ne hi
  have e0 : vs v (2 + c) x 0 = v 0 := ne 0 (by omega)
  have e1 : vs v (2 + c) x 1 = v 1 := ne 1 (by omega)
  have e122 : vs v (2 + c) x 122 = v 122 := ne 122 (by omega)
  have e147 : vs v (2 + c) x 147 = v 147 := ne 147 (by omega)
  obtain ⟨R, ⟨w1, w2, w3, w4, w5, w6, w7, w8, w9, w10⟩, G, ⟨s1, s2, s3, s4, s5, s6, s7, s8⟩, r, m⟩ := S
  refine ⟨Rm_set R _ _, ⟨by rw [e0]; exact w1, by rw [e0]; exact w2, by rw [e1]; exact w3, by rw [e1]; exact w4, by rw [e0, e1]; exact w5, fun d hd => ?_, fun i hi => by rw [ne _ (by omega)]; exact w7 i hi, by rw [e122]; exact w8, fun i hi => ?_, WFL_ag w10 e122 fun i a b => ne i (by omega)⟩, by rw [e0, e1]; exact G, ⟨by rw [e122]; exact s1, by rw [e122]; exact s2, by rw [e147]; exact s3, fun i hi => ?_, fun j hj => ?_, WFL_ag s6 e122 fun i a b => ne i (by omega), fun d => ?_, ?_⟩, ?_, fun i hi => ?_⟩
  · rw [e0, e1] at hd
    have := w6 d hd
    rw [ne (38 + d) (by omega), ne (74 + d) (by omega)]
    refine ⟨?_, this.2.1, this.2.2⟩
    by_cases hdc : d = c
    · subst hdc
      rw [vs_same]
      exact hx
    · rw [ne _ (by omega)]
      exact this.1
  · rw [e122] at hi
    rw [e0, e1, ne (123 + 4 * i) (by omega), ne (124 + 4 * i) (by omega), ne (125 + 4 * i) (by omega), ne (126 + 4 * i) (by omega)]
    exact w9 i hi
  · rw [e122] at hi
    rw [ne _ (by omega)]
    exact s4 i hi
  · rw [e147] at hj
    rw [ne _ (by omega)]
    exact s5 j hj
  · rw [e0, e1, ne _ (by omega)]
    exact s7 d
  · rw [e0, e1]
    exact RS_ag s8 fun d hd => ne _ (by omega)
  · rw [e0, e1]
    refine RS_ag h fun d hd => ?_
    by_cases hdc : d = c
    · subst hdc
      rw [vs_same, if_pos rfl]
    · rw [ne _ (by omega), if_neg hdc]
  · rw [e122] at hi
    rw [e0, e1, ne (123 + 4 * i) (by omega), ne (124 + 4 * i) (by omega)]
    exact m i hi
theorem put_air {row : Nat → Int32} {v : Nat → Nat} {W : Int32} {ev fc lc : Int64} {MK LV : Int32} {gr ar ar' : Nat → Int64} {ki ce se pa : Nat → Int32} (S : TwoL row v W ev fc lc MK LV gr ar ki ce se pa) {c x : Nat} (hc : c < v 0 * v 1) (hx : x < 6) (h : RS 6 (v 0 * v 1) ar' (fun d => if d = c then x else v (38 + d))) : TwoL (upd row (38 + c) (nI x)) (vs v (38 + c) x) W ev fc lc MK LV gr ar' ki ce se pa := by
  obtain ⟨k1, k2, k3, k4⟩ := TwoL_mk S
  have ne : ∀ i, i ≠ 38 + c → vs v (38 + c) x i = v i := fun i hi => vs_ne hi
  have e0 : vs v (38 + c) x 0 = v 0 := ne 0 (by omega)
  have e1 : vs v (38 + c) x 1 = v 1 := ne 1 (by omega)
  have e122 : vs v (38 + c) x 122 = v 122 := ne 122 (by omega)
  have e147 : vs v (38 + c) x 147 = v 147 := ne 147 (by omega)
  obtain ⟨R, ⟨w1, w2, w3, w4, w5, w6, w7, w8, w9, w10⟩, G, ⟨s1, s2, s3, s4, s5, s6, s7, s8⟩, r, m⟩ := S
  refine ⟨Rm_set R _ _, ⟨by rw [e0]; exact w1, by rw [e0]; exact w2, by rw [e1]; exact w3, by rw [e1]; exact w4, by rw [e0, e1]; exact w5, fun d hd => ?_, fun i hi => by rw [ne _ (by omega)]; exact w7 i hi, by rw [e122]; exact w8, fun i hi => ?_, WFL_ag w10 e122 fun i a b => ne i (by omega)⟩, by rw [e0, e1]; exact G, ⟨by rw [e122]; exact s1, by rw [e122]; exact s2, by rw [e147]; exact s3, fun i hi => ?_, fun j hj => ?_, WFL_ag s6 e122 fun i a b => ne i (by omega), fun d => ?_, ?_⟩, ?_, fun i hi => ?_⟩
  · rw [e0, e1] at hd
    have := w6 d hd
    rw [ne (2 + d) (by omega), ne (74 + d) (by omega)]
    refine ⟨this.1, ?_, this.2.2⟩
    by_cases hdc : d = c
    · subst hdc
      rw [vs_same]
      exact hx
    · rw [ne _ (by omega)]
      exact this.2.1
  · rw [e122] at hi
    rw [e0, e1, ne (123 + 4 * i) (by omega), ne (124 + 4 * i) (by omega), ne (125 + 4 * i) (by omega), ne (126 + 4 * i) (by omega)]
    exact w9 i hi
  · rw [e122] at hi
    rw [ne _ (by omega)]
    exact s4 i hi
  · rw [e147] at hj
    rw [ne _ (by omega)]
    exact s5 j hj
  · rw [e0, e1]
    by_cases hdc : d = c
    · subst hdc
      rw [vs_same]
      exact Or.inl hx
    · rw [ne _ (by omega)]
      exact s7 d
  · rw [e0, e1]
    refine RS_ag h fun d hd => ?_
    by_cases hdc : d = c
    · subst hdc
      rw [vs_same, if_pos rfl]
    · rw [ne _ (by omega), if_neg hdc]
  · rw [e0, e1]
    exact RS_ag r fun d hd => ne _ (by omega)
  · rw [e122] at hi
    rw [e0, e1, ne (123 + 4 * i) (by omega), ne (124 + 4 * i) (by omega)]
    exact m i hi

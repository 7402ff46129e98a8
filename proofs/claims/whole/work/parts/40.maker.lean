/-! maker -/
def vmk (v : Nat → Nat) (n k c o : Nat) : Nat → Nat := vs (vs (vs (vs (vs v (123 + 4 * n) k) (124 + 4 * n) c) (125 + 4 * n) o) (126 + 4 * n) 5) 122 (n + 1)
theorem vmk_ne {v : Nat → Nat} {n k c o i : Nat} (h : i ≠ 122) (h2 : ¬ (123 + 4 * n ≤ i ∧ i < 127 + 4 * n)) : vmk v n k c o i = v i := by
  unfold vmk
  rw [vs_ne h, vs_ne (by omega), vs_ne (by omega), vs_ne (by omega), vs_ne (by omega)]
theorem vmk_at {v : Nat → Nat} {n k c o : Nat} : vmk v n k c o 122 = n + 1 ∧ vmk v n k c o (123 + 4 * n) = k ∧ vmk v n k c o (124 + 4 * n) = c ∧ vmk v n k c o (125 + 4 * n) = o ∧ vmk v n k c o (126 + 4 * n) = 5 := by
  unfold vmk
  refine ⟨vs_same, ?_, ?_, ?_, ?_⟩
  · rw [vs_ne (by omega), vs_ne (by omega), vs_ne (by omega), vs_ne (by omega), vs_same]
  · rw [vs_ne (by omega), vs_ne (by omega), vs_ne (by omega), vs_same]
  · rw [vs_ne (by omega), vs_ne (by omega), vs_same]
  · rw [vs_ne (by omega), vs_same]
theorem maker_set {row : Nat → Int32} {v : Nat → Nat} {W : Int32} {ev fc lc : Int64} {MK LV : Int32} {gr ar : Nat → Int64} {ki ce se pa : Nat → Int32} (S : TwoL row v W ev fc lc MK LV gr ar ki ce se pa) {k c o : Nat} (hn : v 122 < 6) (hk : k < 6) (hc : c < v 0 * v 1) (ho : o < 6) {row' : Nat → Int32} (hr : Rm row' (vmk v (v 122) k c o)) : TwoL row' (vmk v (v 122) k c o) W ev fc lc (nI (v 122 + 1)) LV gr ar (upd ki (v 122) (nI k)) (upd ce (v 122) (nI c)) (upd se (v 122) (nI o)) pa := by
  obtain ⟨R, ⟨w1, w2, w3, w4, w5, w6, w7, w8, w9, w10⟩, G, ⟨s1, s2, s3, s4, s5, s6, s7, s8⟩, r, m⟩ := S
  have ne : ∀ i, i ≠ 122 → ¬ (123 + 4 * v 122 ≤ i ∧ i < 127 + 4 * v 122) → vmk v (v 122) k c o i = v i := fun i h1 h2 => vmk_ne h1 h2
  obtain ⟨e122, ek, ec, eo, ey⟩ := vmk_at (v := v) (n := v 122) (k := k) (c := c) (o := o)
  generalize hv : vmk v (v 122) k c o = v' at *
  have e0 : v' 0 = v 0 := ne 0 (by omega) (by omega)
  have e1 : v' 1 = v 1 := ne 1 (by omega) (by omega)
  have e147 : v' 147 = v 147 := ne 147 (by omega) (by omega)
  have hL : WFL v' := by
    refine ⟨by rw [e147]; exact w10.1, fun j hj => ?_⟩
    rw [e147] at hj
    have h8 := w10.1
    have := w10.2 j hj
    rw [e122, ne (148 + 5 * j) (by omega) (by omega), ne (149 + 5 * j) (by omega) (by omega), ne (150 + 5 * j) (by omega) (by omega), ne (151 + 5 * j) (by omega) (by omega), ne (152 + 5 * j) (by omega) (by omega)]
    exact ⟨by omega, this.2⟩
  refine ⟨hr, ⟨by rw [e0]; exact w1, by rw [e0]; exact w2, by rw [e1]; exact w3, by rw [e1]; exact w4, by rw [e0, e1]; exact w5, fun d hd => ?_, fun i hi => by rw [ne _ (by omega) (by omega)]; exact w7 i hi, by omega, fun i hi => ?_, hL⟩, by rw [e0, e1]; exact G, ⟨by omega, by rw [e122], by rw [e147]; exact s3, fun i hi => ?_, fun j hj => ?_, hL, fun d => ?_, ?_⟩, ?_, fun i hi => ?_⟩
  · rw [e0, e1] at hd
    rw [ne (2 + d) (by omega) (by omega), ne (38 + d) (by omega) (by omega), ne (74 + d) (by omega) (by omega)]
    exact w6 d hd
  · rw [e122] at hi
    rw [e0, e1]
    by_cases hin : i = v 122
    · rw [hin, ek, ec, eo, ey]
      exact ⟨hk, hc, ho, by decide⟩
    · rw [ne (123 + 4 * i) (by omega) (by omega), ne (124 + 4 * i) (by omega) (by omega), ne (125 + 4 * i) (by omega) (by omega), ne (126 + 4 * i) (by omega) (by omega)]
      exact w9 i (by omega)
  · rw [e122] at hi
    by_cases hin : i = v 122
    · rw [hin, eo, upd_same]
      exact ⟨rfl, ho⟩
    · rw [ne (125 + 4 * i) (by omega) (by omega), upd_ne hin]
      exact s4 i (by omega)
  · rw [e147] at hj
    have h8 := w10.1
    rw [ne _ (by omega) (by omega)]
    exact s5 j hj
  · rw [e0, e1]
    by_cases hd : d < 36
    · rw [ne _ (by omega) (by omega)]
      exact s7 d
    · exact Or.inr (by omega)
  · rw [e0, e1]
    exact RS_ag s8 fun d hd => ne _ (by omega) (by omega)
  · rw [e0, e1]
    exact RS_ag r fun d hd => ne _ (by omega) (by omega)
  · rw [e122] at hi
    rw [e0, e1]
    by_cases hin : i = v 122
    · rw [hin, ek, ec, upd_same, upd_same]
      exact ⟨rfl, hk, rfl, hc⟩
    · rw [ne (123 + 4 * i) (by omega) (by omega), ne (124 + 4 * i) (by omega) (by omega), upd_ne hin, upd_ne hin]
      exact m i (by omega)

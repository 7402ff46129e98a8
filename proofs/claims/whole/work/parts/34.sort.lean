/-! a cell sorted into one of the rows of bits -/
theorem rowOf_eq {K n : Nat} (hK : K ≤ 6) {rows : Nat → Int64} {g : Nat → Nat} (h : RS K n rows g) {c : Nat} (hc : c < n) (hn : n ≤ 36) (hg : g c < K) : f_Ld_rowOf K rows (nI c) = some (nI (g c)) := by
  unfold f_Ld_rowOf
  refine lp_or (fun i (y : Int32) => y = nI i ∧ i ≤ g c) (fun r => r = some (nI (g c))) (g c) (by omega) ?_ ?_ ⟨rfl, Nat.zero_le _⟩
  · rintro i _ hi ⟨rfl, _⟩
    refine Or.inl ⟨nI (i + 1), ⟨rfl, by omega⟩, fun rec => ?_⟩
    unfold f_Ld_rowOf_L2
    rw [if_neg (show ¬ Int32.ofNat K ≤ nI i from nI_ge (b := K) (by omega) (by omega)), gd_nI (by omega) (by omega), nI_clamp (by omega), bd_some (hasCell_eq _ (by omega)), if_neg (show ¬ tb (rows i) c = true from by rw [h i (by omega) c (by omega)]; simp; omega), if_pos rfl, ltE, nI1]
  · rintro _ ⟨rfl, _⟩ rec
    unfold f_Ld_rowOf_L2
    rw [if_neg (show ¬ Int32.ofNat K ≤ nI (g c) from nI_ge (b := K) (by omega) (by omega)), gd_nI (by omega) (by omega), nI_clamp (by omega), bd_some (hasCell_eq _ (by omega)), if_pos (show tb (rows (g c)) c = true from by rw [h (g c) hg c (by omega)]; simp; omega), if_neg (by decide)]
theorem sortInto_eq {K n : Nat} (hK : K ≤ 6) {rows : Nat → Int64} {g : Nat → Nat} (h : RS K n rows g) {c x : Nat} (hc : c < n) (hn : n ≤ 36) (hg : g c < K) (hx : x < K) : ∃ rows', f_Ld_sortInto K rows (nI c) (nI x) = some (nI (g c), rows') ∧ RS K n rows' (fun d => if d = c then x else g d) := by
  unfold f_Ld_sortInto
  rw [bd_some (rowOf_eq hK h hc hn hg), ltE]
  refine lp_or (fun i (y : Int32 × (Nat → Int64)) => y.1 = nI i ∧ ∀ k, k < K → ∀ d, d < 64 → tb (y.2 k) d = if k < i then decide (d < n ∧ (if d = c then x else g d) = k) else decide (d < n ∧ g d = k)) (fun r => ∃ rows', r = some (nI (g c), rows') ∧ RS K n rows' (fun d => if d = c then x else g d)) K (by omega) ?_ ?_ ⟨rfl, fun k hk d hd => by rw [if_neg (by omega)]; exact h k hk d hd⟩
  · rintro i ⟨y, f⟩ hi ⟨e, hf⟩
    dsimp only at e hf
    subst e
    have en : ¬ Int32.ofNat K ≤ nI i := nI_ge (b := K) (by omega) (by omega)
    have ei : ∀ z : Int64, (∀ d, d < 64 → tb z d = decide (d < n ∧ (if d = c then x else g d) = i)) → ∀ k, k < K → ∀ d, d < 64 → tb (vp_updL f i z k) d = if k < i + 1 then decide (d < n ∧ (if d = c then x else g d) = k) else decide (d < n ∧ g d = k) := by
      intro z hz k hk d hd
      by_cases hki : k = i
      · subst hki
        rw [vpu_same, if_pos (show k < k + 1 by omega), hz d hd]
      · rw [vpu_ne hki, hf k hk d hd]
        by_cases hlt : k < i
        · rw [if_pos hlt, if_pos (show k < i + 1 by omega)]
        · rw [if_neg hlt, if_neg (show ¬ k < i + 1 by omega)]
    have hfi : ∀ d, d < 64 → tb (f i) d = decide (d < n ∧ g d = i) := fun d hd => by rw [hf i hi d hd, if_neg (by omega)]
    by_cases hix : i = x
    · refine Or.inl ⟨(nI (i + 1), vp_updL f i (f i ||| ((1 : Int64) <<< ((nI c).toInt64 &&& 63)))), ⟨rfl, ei _ fun d hd => ?_⟩, fun rec => ?_⟩
      · rw [tb_or, tb_one (by omega), hfi d hd]
        by_cases hdc : d = c
        · subst hdc
          rw [if_pos rfl]
          simp [hc, hix]
        · rw [if_neg hdc]
          simp [hdc]
      · unfold f_Ld_sortInto_L14
        dsimp only
        rw [if_neg en, jnE, if_pos ((nI_eq (by omega) (by omega)).mpr hix), gd_nI hi (by omega)]
        dsimp only
        rw [gd_nI hi (by omega), nI_clamp (by omega), ltE, ltE, nI1]
    · refine Or.inl ⟨(nI (i + 1), vp_updL f i (f i &&& (((1 : Int64) <<< ((nI c).toInt64 &&& 63)) ^^^ (-1)))), ⟨rfl, ei _ fun d hd => ?_⟩, fun rec => ?_⟩
      · rw [tb_and, tb_not _ hd, tb_one (by omega), hfi d hd]
        by_cases hdc : d = c
        · subst hdc
          rw [if_pos rfl]
          simp
          omega
        · rw [if_neg hdc]
          simp [hdc]
      · unfold f_Ld_sortInto_L14
        dsimp only
        rw [if_neg en, jnE, if_neg (fun z => hix ((nI_eq (by omega) (by omega)).mp z)), gd_nI hi (by omega)]
        dsimp only
        rw [gd_nI hi (by omega), nI_clamp (by omega), ltE, ltE, nI1]
  · rintro ⟨y, f⟩ ⟨e, hf⟩ rec
    dsimp only at e hf
    subst e
    unfold f_Ld_sortInto_L14
    dsimp only
    rw [if_pos (show Int32.ofNat K ≤ nI K from nI_le (Nat.le_refl K) (by omega))]
    refine ⟨f, rfl, fun k hk d hd => ?_⟩
    rw [hf k hk d hd, if_pos hk]

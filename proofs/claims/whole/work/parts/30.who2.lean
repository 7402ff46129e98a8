/-! who: the class, and the call -/
theorem cnt_k {B : Nat → Bool} {k : Nat} : (B k = true → cnt B (k + 1) = cnt B k + 1) ∧ (¬ B k = true → cnt B (k + 1) = cnt B k) := ⟨cnt_s, cnt_z⟩
def WhoT : Type := Int32 × Int32 × Nat × Int32 × Int32 × Int32 × Int32 × Int32 × (Nat → Int64) × (Nat → Int64) × (Nat → Int64) × (Nat → Int64) × Int64 × Int64
set_option maxRecDepth 100000 in
theorem who_one {row : Nat → Int32} {v : Nat → Nat} {W : Int32} {ev fc lc : Int64} {MK LV : Int32} {gr ar : Nat → Int64} {ki ce se pa : Nat → Int32} (S : TwoL row v W ev fc lc MK LV gr ar ki ce se pa) {to : Nat → Int64} (hT : RS 3 (v 0 * v 1) to (fun c => v (74 + c))) {rf : Nat → Int32} (aN : Nat) {hr m : Nat} (hhr : hr < 24) (hm : m < v 122) {p : Int32} (xs : Int32 × Int32 × Nat × Int32 × Int32 × Int32 × Int32 × Int32 × (Nat → Int64) × (Nat → Int64) × (Nat → Int64) × (Nat → Int64) × Int64 × Int64) (hx : xs.1 = nI (cnt (whoB v hr) (20 * m)) ∧ xs.2.1 = 1) (hA : whoA (whoB v hr) p (20 * v 122) 0 = whoA (whoB v hr) p (20 * v 122 - 20 * m) (20 * m))
    {J69 : (Int32 × Int32 × Nat × Int32 × Int32 × Int32 × Int32 × Int32 × (Nat → Int64) × (Nat → Int64) × (Nat → Int64) × (Nat → Int64) × Int64 × Int64) → Option (Int32 × (Nat → Int32) × Nat × Int32 × Int32 × Int32 × Int32 × Int32 × (Nat → Int64) × (Nat → Int64) × (Nat → Int64) × (Nat → Int64) × Int64 × Int64)} (hJ : ∀ ld z, ∃ Y, J69 (nI m, ld, z) = some (((100 : Int32) * nI m) + ld, rf, Y)) :
    (∃ z, whoA (whoB v hr) p (20 * v 122) 0 = whoA (whoB v hr) p (20 * v 122 - 20 * (m + 1)) (20 * (m + 1)) ∧ ∀ J87, lp (f_Ai_who_L41 aN W ev fc lc MK LV gr ar to ki ce se pa (nI hr) p J69 (nI m) J87) FU xs = J87 (nI (cnt (whoB v hr) (20 * (m + 1))), z))
    ∨ ∀ J87, ∃ Y, lp (f_Ai_who_L41 aN W ev fc lc MK LV gr ar to ki ce se pa (nI hr) p J69 (nI m) J87) FU xs = some (whoA (whoB v hr) p (20 * v 122) 0, rf, Y) := by
  obtain ⟨k1, rfl, k3, k4⟩ := TwoL_mk S
  have h3 : ∀ c, c < v 0 * v 1 → v (74 + c) < 3 := fun c hc => (S.2.1.2.2.2.2.2.1 c hc).2.2
  rcases lp_fam_or (f := f_Ai_who_L41 aN W ev fc lc (nI (v 122)) LV gr ar to ki ce se pa (nI hr) p J69 (nI m)) (fun i (x : Int32 × Int32 × Nat × Int32 × Int32 × Int32 × Int32 × Int32 × (Nat → Int64) × (Nat → Int64) × (Nat → Int64) × (Nat → Int64) × Int64 × Int64) => x.1 = nI (cnt (whoB v hr) (20 * m + i)) ∧ x.2.1 = nI (1 + i) ∧ whoA (whoB v hr) p (20 * v 122) 0 = whoA (whoB v hr) p (20 * v 122 - (20 * m + i)) (20 * m + i)) (fun r => ∃ Y, r = some (whoA (whoB v hr) p (20 * v 122) 0, rf, Y)) 20 (by decide) (by
    rintro i ⟨x61, x62, x63, x64, x65, x66, x67, x68, x69, x70, x71, x72, x73, x74⟩ hi ⟨q1, q2, q3⟩
    dsimp only at q1 q2
    subst q1 q2
    obtain ⟨a1, a2, a3, a4, a5, a6, h1, _, _, _, h5, _, _⟩ := makeSound_eq S hm (ld := 1 + i) (by omega) (by omega) hhr x69 x70 x71 x72
    obtain ⟨y, y1, y2⟩ := isAsTold_eq (al := a6) hT h3 k3
    have ed : (20 * m + i) / 20 = m := by omega
    have em : (20 * m + i) % 20 + 1 = 1 + i := by omega
    have eq : asTold v (tb a6) ↔ whoB v hr (20 * m + i) = true := by
      rw [whoB_iff]
      refine asTold_congr fun c hc => ?_
      rw [h5 c (by omega), whoQ_iff, ed, em]
    rw [whoA_s (show 20 * m + i < 20 * v 122 by omega), ed, em] at q3
    have e : ∀ J rec, f_Ai_who_L41 aN W ev fc lc (nI (v 122)) LV gr ar to ki ce se pa (nI hr) p J69 (nI m) J rec (nI (cnt (whoB v hr) (20 * m + i)), nI (1 + i), x63, x64, x65, x66, x67, x68, x69, x70, x71, x72, x73, x74) = (if y = 0 then rec (nI (cnt (whoB v hr) (20 * m + i)), nI (1 + i + 1), aN, nI m, nI (1 + i), nI hr, 0, 0, a1, a2, a3, a4, a5, a6) else if nI (cnt (whoB v hr) (20 * m + i)) = p then J69 (nI m, nI (1 + i), aN, nI m, nI (1 + i), nI hr, 0, 0, a1, a2, a3, a4, a5, a6) else rec (nI (cnt (whoB v hr) (20 * m + i) + 1), nI (1 + i + 1), aN, nI m, nI (1 + i), nI hr, 0, 0, a1, a2, a3, a4, a5, a6)) := by
      intro J rec
      unfold f_Ai_who_L41
      dsimp only
      simp only [if_neg (show ¬ (20 : Int32) < nI (1 + i) from nI_nlt (a := 20) (b := 1 + i) (by omega) (by omega)), bd_some h1, bd_some y1, jnE, ltE, nI1]
    rcases y2 with ⟨rfl, ya⟩ | ⟨rfl, ya⟩
    · have hB := eq.mp ya
      by_cases hq : nI (cnt (whoB v hr) (20 * m + i)) = p
      · refine Or.inr fun J rec => ?_
        rw [e, if_neg (by decide), if_pos hq]
        rw [if_pos ⟨hB, hq⟩] at q3
        obtain ⟨Y, hY⟩ := hJ (nI (1 + i)) (aN, nI m, nI (1 + i), nI hr, 0, 0, a1, a2, a3, a4, a5, a6)
        rw [hY, q3, show (100 : Int32) = nI 100 from rfl, pk_mul, nIa]
        exact ⟨_, rfl⟩
      · rw [if_neg (fun z => hq z.2)] at q3
        refine Or.inl ⟨_, ⟨?_, ?_, q3⟩, fun J rec => by rw [e, if_neg (by decide), if_neg hq]⟩
        · dsimp only
          rw [← Nat.add_assoc, cnt_s hB]
        · rfl
    · have hB : ¬ whoB v hr (20 * m + i) = true := fun z => ya (eq.mpr z)
      rw [if_neg (fun z => hB z.1)] at q3
      refine Or.inl ⟨_, ⟨?_, ?_, q3⟩, fun J rec => by rw [e, if_pos rfl]⟩
      · dsimp only
        rw [← Nat.add_assoc, cnt_z hB]
      · rfl) (x0 := xs) ⟨hx.1, hx.2, hA⟩ with ⟨x, ⟨q1, q2, q3⟩, h⟩ | h
  · obtain ⟨x61, x62, z⟩ := x
    dsimp only at q1 q2
    subst q1 q2
    refine Or.inl ⟨z, q3, fun J => ?_⟩
    obtain ⟨rec, hr2⟩ := h J
    rw [hr2]
    obtain ⟨x63, x64, x65, x66, x67, x68, x69, x70, x71, x72, x73, x74⟩ := z
    unfold f_Ai_who_L41
    dsimp only
    rw [if_pos (show (20 : Int32) < nI (1 + 20) from by decide)]
    rfl
  · exact Or.inr h
set_option maxRecDepth 100000 in
theorem who_call {row : Nat → Int32} {v : Nat → Nat} {W : Int32} {ev fc lc : Int64} {MK LV : Int32} {gr ar : Nat → Int64} {ki ce se pa : Nat → Int32} (S : TwoL row v W ev fc lc MK LV gr ar ki ce se pa) {to : Nat → Int64} (hT : RS 3 (v 0 * v 1) to (fun c => v (74 + c))) {rf : Nat → Int32} {bad no full : Int32} (T : StR rf bad no full) (aN sl : Nat) (s1 s2 s3 s4 s5 : Int32) (s6 s7 : Int64) (may ways echo echoes : Nat → Int64) (kd mk ow ho bu : Int32) (comes direct all tried : Nat → Int32) (a b : Int32) :
    ∃ r rf' bad' X Y, f_Ai_who aN W ev fc lc MK LV sl s1 s2 s3 s4 s5 s6 s7 rf gr ar to ki ce se pa may ways echo echoes a b = some (r, rf', X) ∧ f_Mo_who bad 0 0 0 0 kd mk ow ho bu row comes direct all tried a b = some (r, bad', Y) ∧ StR rf' bad' no full := by
  obtain ⟨k1, rfl, k3, k4⟩ := TwoL_mk S
  have B := refuse_bad T (-10)
  rcases in_or a (n := 24) (by decide) with ⟨hr, hhr, rfl⟩ | ⟨q1, q2⟩
  · by_cases hb : -1 ≤ b
    · obtain ⟨Y, hY⟩ := who_ref S.1 S.2.1 bad kd mk ow ho bu comes direct all tried hhr hb
      have key : ∃ X, f_Ai_who aN W ev fc lc (nI (v 122)) LV sl s1 s2 s3 s4 s5 s6 s7 rf gr ar to ki ce se pa may ways echo echoes (nI hr) b = some (whoA (whoB v hr) b (20 * v 122) 0, rf, X) := by
        unfold f_Ai_who
        simp only [bd_some (isHour_t hhr), jnE, if_neg (show ¬ (1 : Int32) = 0 from by decide), if_pos hb]
        refine lp_or (fun m (x : Int32 × Int32 × Nat × Int32 × Int32 × Int32 × Int32 × Int32 × (Nat → Int64) × (Nat → Int64) × (Nat → Int64) × (Nat → Int64) × Int64 × Int64) => x.1 = nI (cnt (whoB v hr) (20 * m)) ∧ x.2.1 = nI m ∧ whoA (whoB v hr) b (20 * v 122) 0 = whoA (whoB v hr) b (20 * v 122 - 20 * m) (20 * m)) (fun r => ∃ X, r = some (whoA (whoB v hr) b (20 * v 122) 0, rf, X)) (v 122) (by omega) ?_ ?_ ⟨rfl, rfl, rfl⟩
        · rintro m ⟨x33, x34, x35, x36, x37, x38, x39, x40, x41, x42, x43, x44, x45, x46⟩ hm ⟨q1, q2, q3⟩
          dsimp only at q1 q2
          subst q1 q2
          unfold f_Ai_who_L26
          dsimp only
          simp only [if_neg (nI_ge hm (show v 122 < 2 ^ 31 by omega)), jnE, ltE, nI1]
          rcases who_one S hT (rf := rf) aN hhr hm (p := b) (nI (cnt (whoB v hr) (20 * m)), 1, x35, x36, x37, x38, x39, x40, x41, x42, x43, x44, x45, x46) ⟨rfl, rfl⟩ q3 (J69 := fun ((x19, x20, x21, x22, x23, x24, x25, x26, x27, x28, x29, x30, x31, x32) : Int32 × Int32 × Nat × Int32 × Int32 × Int32 × Int32 × Int32 × (Nat → Int64) × (Nat → Int64) × (Nat → Int64) × (Nat → Int64) × Int64 × Int64) => some (((100 : Int32) * x19) + x20, rf, x21, x22, x23, x24, x25, x26, x27, x28, x29, x30, x31, x32)) (fun ld z => ⟨_, rfl⟩) with ⟨z, z1, z2⟩ | z
          · obtain ⟨x63, x64, x65, x66, x67, x68, x69, x70, x71, x72, x73, x74⟩ := z
            exact Or.inl ⟨(nI (cnt (whoB v hr) (20 * (m + 1))), nI (m + 1), x63, x64, x65, x66, x67, x68, x69, x70, x71, x72, x73, x74), ⟨rfl, rfl, z1⟩, fun rec => z2 _⟩
          · exact Or.inr fun rec => z _
        · rintro ⟨x33, x34, x35, x36, x37, x38, x39, x40, x41, x42, x43, x44, x45, x46⟩ ⟨q1, q2, q3⟩ rec
          dsimp only at q1 q2
          subst q1 q2
          rw [whoA_e] at q3
          unfold f_Ai_who_L26
          dsimp only
          rw [if_pos (nI_le (Nat.le_refl _) (show v 122 < 2 ^ 31 by omega)), q3]
          by_cases h1 : b = -1
          · rw [if_pos h1, if_pos h1]
            exact ⟨_, rfl⟩
          · rw [if_neg h1, if_neg h1]
            exact ⟨_, rfl⟩
      obtain ⟨X, hX⟩ := key
      exact ⟨_, _, _, X, Y, hX, hY, T⟩
    · unfold f_Ai_who f_Mo_who
      simp only [bd_some (isHour_t hhr), bd_some (mHour_t hhr), jnE, if_neg (show ¬ (1 : Int32) = 0 from by decide), if_neg hb, bd_some B.1, bd_some (isBadToo_eq bad)]
      exact ⟨_, _, _, _, _, rfl, rfl, B.2⟩
  · unfold f_Ai_who f_Mo_who
    simp only [bd_some (isHour_f q1), bd_some (mHour_f q2), jnE, if_pos (show (0 : Int32) = 0 from rfl), bd_some B.1, bd_some (isBadToo_eq bad)]
    exact ⟨_, _, _, _, _, rfl, rfl, B.2⟩

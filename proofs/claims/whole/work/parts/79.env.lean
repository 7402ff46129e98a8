/-! what the law may take as given, from its entry on -/
theorem env_words {s : State} {b : Nat} (hgv : (Jvm.Cond.and given_1 narrow_1).before #[Value.ref b] s = true) : ∃ adK adV : Nat → Nat, vk_S 6 sLen sByt adK adV (LA s) s s.heap ∧ ∀ i : Nat, i < 6 → (Term.string "LentAir$Reader" (132 + 2 * i)).eval #[Value.ref b] s none [] s = some (.ref (adK i)) := by
  have hs := flat_of_before _ hgv
  have i6 : ∀ i : Nat, i < 6 → i = 0 ∨ i = 1 ∨ i = 2 ∨ i = 3 ∨ i = 4 ∨ i = 5 := fun i h => by omega
  refine vk_Sof (args := #[Value.ref b]) (s := s) (N := 6) (tm := fun i => Term.string "LentAir$Reader" (132 + 2 * i)) (len := sLen) (byt := sByt) (A := LA s) ?_ ?_ ?_ ?_ ?_ ?_ ?_ (fun a h => Nat.not_le.mpr h)
  · intro i hi
    rcases i6 i hi with rfl | rfl | rfl | rfl | rfl | rfl <;> decide
  · intro i hi
    rcases i6 i hi with rfl | rfl | rfl | rfl | rfl | rfl <;> exact hs _ (by decide +kernel)
  · intro i hi
    rcases i6 i hi with rfl | rfl | rfl | rfl | rfl | rfl <;> exact hs _ (by decide +kernel)
  · intro i hi
    rcases i6 i hi with rfl | rfl | rfl | rfl | rfl | rfl <;> exact hs _ (by decide +kernel)
  · intro i hi
    rcases i6 i hi with rfl | rfl | rfl | rfl | rfl | rfl <;> exact hs _ (by decide +kernel)
  · intro i hi j hj
    rcases i6 i hi with rfl | rfl | rfl | rfl | rfl | rfl
    · have hj : j < 6 := hj
      rcases (show j = 0 ∨ j = 1 ∨ j = 2 ∨ j = 3 ∨ j = 4 ∨ j = 5 by omega) with rfl | rfl | rfl | rfl | rfl | rfl <;> exact hs _ (by decide +kernel)
    · have hj : j < 6 := hj
      rcases (show j = 0 ∨ j = 1 ∨ j = 2 ∨ j = 3 ∨ j = 4 ∨ j = 5 by omega) with rfl | rfl | rfl | rfl | rfl | rfl <;> exact hs _ (by decide +kernel)
    · have hj : j < 3 := hj
      rcases (show j = 0 ∨ j = 1 ∨ j = 2 by omega) with rfl | rfl | rfl <;> exact hs _ (by decide +kernel)
    · have hj : j < 3 := hj
      rcases (show j = 0 ∨ j = 1 ∨ j = 2 by omega) with rfl | rfl | rfl <;> exact hs _ (by decide +kernel)
    · have hj : j < 5 := hj
      rcases (show j = 0 ∨ j = 1 ∨ j = 2 ∨ j = 3 ∨ j = 4 by omega) with rfl | rfl | rfl | rfl | rfl <;> exact hs _ (by decide +kernel)
    · have hj : j < 5 := hj
      rcases (show j = 0 ∨ j = 1 ∨ j = 2 ∨ j = 3 ∨ j = 4 by omega) with rfl | rfl | rfl | rfl | rfl <;> exact hs _ (by decide +kernel)
  · intro i j hi hj hij
    rcases i6 i hi with rfl | rfl | rfl | rfl | rfl | rfl
    · rcases i6 j hj with rfl | rfl | rfl | rfl | rfl | rfl
      · exact absurd rfl hij
      · exact Or.inl (hs _ (by decide +kernel))
      · exact Or.inl (hs _ (by decide +kernel))
      · exact Or.inl (hs _ (by decide +kernel))
      · exact Or.inl (hs _ (by decide +kernel))
      · exact Or.inl (hs _ (by decide +kernel))
    · rcases i6 j hj with rfl | rfl | rfl | rfl | rfl | rfl
      · exact Or.inr (hs _ (by decide +kernel))
      · exact absurd rfl hij
      · exact Or.inl (hs _ (by decide +kernel))
      · exact Or.inl (hs _ (by decide +kernel))
      · exact Or.inl (hs _ (by decide +kernel))
      · exact Or.inl (hs _ (by decide +kernel))
    · rcases i6 j hj with rfl | rfl | rfl | rfl | rfl | rfl
      · exact Or.inr (hs _ (by decide +kernel))
      · exact Or.inr (hs _ (by decide +kernel))
      · exact absurd rfl hij
      · exact Or.inl (hs _ (by decide +kernel))
      · exact Or.inl (hs _ (by decide +kernel))
      · exact Or.inl (hs _ (by decide +kernel))
    · rcases i6 j hj with rfl | rfl | rfl | rfl | rfl | rfl
      · exact Or.inr (hs _ (by decide +kernel))
      · exact Or.inr (hs _ (by decide +kernel))
      · exact Or.inr (hs _ (by decide +kernel))
      · exact absurd rfl hij
      · exact Or.inl (hs _ (by decide +kernel))
      · exact Or.inl (hs _ (by decide +kernel))
    · rcases i6 j hj with rfl | rfl | rfl | rfl | rfl | rfl
      · exact Or.inr (hs _ (by decide +kernel))
      · exact Or.inr (hs _ (by decide +kernel))
      · exact Or.inr (hs _ (by decide +kernel))
      · exact Or.inr (hs _ (by decide +kernel))
      · exact absurd rfl hij
      · exact Or.inl (hs _ (by decide +kernel))
    · rcases i6 j hj with rfl | rfl | rfl | rfl | rfl | rfl
      · exact Or.inr (hs _ (by decide +kernel))
      · exact Or.inr (hs _ (by decide +kernel))
      · exact Or.inr (hs _ (by decide +kernel))
      · exact Or.inr (hs _ (by decide +kernel))
      · exact Or.inr (hs _ (by decide +kernel))
      · exact absurd rfl hij
theorem env_arr {s : State} {b : Nat} {ty : FieldType} (h : (Cond.arrayClass ty).before #[Value.ref b] s = true) : ∃ c, ArrOfT s c ty ∧ s.vm.findClass ("[" ++ ty.toString) = some c := by
  obtain ⟨c, k, q, a1, a2, a3⟩ := Cond.arrayClass_spec h
  exact ⟨c, fun n z => ⟨(fun k h => by cases h), k, a2, q, a3⟩, a1⟩
theorem kk_start {s : State} {b : Nat} (hts : ∀ w ∈ lw_tbl, w.before #[Value.ref b] s = true) (hgv : (Jvm.Cond.and given_1 narrow_1).before #[Value.ref b] s = true) : ∃ G : Gl, KK G (LA s) s ∧ va_AO "LentAir$Land" s := by
  have hT : ∀ w ∈ TT, w.before #[Value.ref b] s = true := fun w h => hts w (tt_tbl h)
  have hs := flat_of_before _ hgv
  have hA : ∀ a : Nat, a < s.heap.size → ¬ LA s a := fun a h => Nat.not_le.mpr h
  obtain ⟨c0, i0, k0⟩ := u_known (C := R_Ld) (T := F_Ld) (N := 19) (n := 19) hT i_Ld (hT (.instantiable R_Ld 19) tw99)
  obtain ⟨c1, i1, k1⟩ := u_known (C := R_Rd) (T := F_Rd) (N := 7) (n := 7) hT i_Rd (hT (.instantiable R_Rd 7) tw250)
  obtain ⟨c2, i2, k2⟩ := u_known (C := R_Sd) (T := F_Sd) (N := 12) (n := 12) hT i_Sd (hT (.instantiable R_Sd 12) tw204)
  obtain ⟨c3, i3, k3⟩ := u_known (C := R_Ai) (T := F_Ai) (N := 8) (n := 8) hT i_Ai (hT (.instantiable R_Ai 8) tw91)
  obtain ⟨c4, i4, k4⟩ := u_known (C := R_Mo) (T := F_Mo) (N := 32) (n := 32) hT i_Mo (hT (.instantiable R_Mo 32) tw807)
  obtain ⟨cI, aI, fI⟩ := env_arr (hT _ tw201)
  obtain ⟨cJ, aJ, fJ⟩ := env_arr (hT _ tw200)
  obtain ⟨cZ, aZ, fZ⟩ := env_arr (hT _ tw248)
  obtain ⟨cB, aB, fB⟩ := env_arr (hT _ tw278)
  have hO : (Cond.arrayOver (.object "LentAir$Land")).before #[Value.ref b] s = true := hts _ (List.mem_of_getElem? (i := 202) (by decide +kernel))
  obtain ⟨qO, cO, kO, o1, o2, o3, o4, o5⟩ := Cond.arrayOver_spec hO
  obtain ⟨adK, adV, hS, hev⟩ := env_words hgv
  refine ⟨((fun k => if k = 0 then c0 else if k = 1 then c1 else if k = 2 then c2 else if k = 3 then c3 else c4, fun k => if k = 0 then i0 else if k = 1 then i1 else if k = 2 then i2 else if k = 3 then i3 else i4), (cI, cJ, cZ, cB, cO), adK, adV), ⟨⟨?_, ?_⟩, ?_, ?_, ?_, ?_⟩, va_AO.of hO⟩
  · intro k q hq
    match k, hq with
    | 0, hq => cases hq; exact k0
    | 1, hq => cases hq; exact k1
    | 2, hq => cases hq; exact k2
    | 3, hq => cases hq; exact k3
    | 4, hq => cases hq; exact k4
    | k + 5, hq => simp [classes] at hq
  · intro k q hq
    match k, hq with
    | 0, hq => cases hq; exact ⟨aI, fI⟩
    | 1, hq => cases hq; exact ⟨aJ, fJ⟩
    | 2, hq => cases hq; exact ⟨aZ, fZ⟩
    | 3, hq => cases hq; exact ⟨aB, fB⟩
    | 4, hq => cases hq; exact ⟨fun n z => ⟨(fun k h => by cases h), kO, o3, qO, o4⟩, kO, qO, o3, o4, o1, o5⟩
    | k + 5, hq => simp [gT] at hq
  · exact va_Nw.of (w := nk1) rfl (hts nk1 (List.mem_of_getElem? (i := 331) (by decide +kernel)))
  · exact va_Nw.of (w := nk2) rfl (hts nk2 (List.mem_of_getElem? (i := 636) (by decide +kernel)))
  · exact ⟨vk_R.of (hts (.stringRef "LentAir$Reader" 132 "valley") (List.mem_of_getElem? (i := 456) (by decide +kernel))) (hev 0 (by decide)), vk_R.of (hts (.stringRef "LentAir$Reader" 134 "ground") (List.mem_of_getElem? (i := 457) (by decide +kernel))) (hev 1 (by decide)), vk_R.of (hts (.stringRef "LentAir$Reader" 136 "air") (List.mem_of_getElem? (i := 458) (by decide +kernel))) (hev 2 (by decide)), vk_R.of (hts (.stringRef "LentAir$Reader" 138 "fee") (List.mem_of_getElem? (i := 459) (by decide +kernel))) (hev 3 (by decide)), vk_R.of (hts (.stringRef "LentAir$Reader" 140 "maker") (List.mem_of_getElem? (i := 460) (by decide +kernel))) (hev 4 (by decide)), vk_R.of (hts (.stringRef "LentAir$Reader" 142 "leave") (List.mem_of_getElem? (i := 461) (by decide +kernel))) (hev 5 (by decide))⟩
  · refine ⟨hS, va_Zof (hts (.laysStatic "java/lang/String" "COMPACT_STRINGS" "Z") (List.mem_of_getElem? (i := 475) (by decide +kernel))) (hT _ tw84) (va_eqi (hs _ (by decide +kernel))) hA, va_Zqof (hts (.laysStatic "jdk/internal/util/Preconditions" "SIOOBE_FORMATTER" "Ljava/util/function/BiFunction;") (List.mem_of_getElem? (i := 491) (by decide +kernel))) (hT _ tw86) (hs _ (by decide +kernel)) hA⟩

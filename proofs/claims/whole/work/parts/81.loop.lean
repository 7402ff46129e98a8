/-! the loop of the law -/
theorem lw_len {L i : Nat} (hL : L ≤ 384) (hi : i ≤ L) (h : ¬ (Int32.ofNat L - 6 < nI i)) : i + 6 ≤ L := by
  by_cases h6 : 6 ≤ L
  · have e : Int32.ofNat L - 6 = nI (L - 6) := by
      show nI L - nI 6 = _
      exact pk_sub h6
    rw [e] at h
    by_cases h7 : i + 6 ≤ L
    · exact h7
    · exact absurd (nI_lt (show L - 6 < i by omega) (by omega)) h
  · have key : ∀ a : _root_.Fin 6, ∀ c : _root_.Fin 6, Int32.ofNat a.val - 6 < nI c.val := by decide +kernel
    exact absurd (key ⟨L, by omega⟩ ⟨i, by omega⟩) h
theorem Stt.sep {G : Gl} {s : State} {aA aM : Nat} {H : Heap} {locs : List Loc} (h : Stt G s aA aM H locs) : va_S (LA s) s.heap H locs := by
  obtain ⟨q, n, d, i, j, m, x, y, z, w, S, R, M, t1, t2, row, kept, ik, rf, hb, bad, no, full, tn, I, hW⟩ := h
  exact hW.2.2.1
section LWL
variable {p : Program} {l : Launch} {e : Env} {s : State} {m : MethodId} {below : List Frame} {meth : Method} {c : Code} {b L aA aM : Nat} {xs : Nat → Int32} {G : Gl}
set_option maxHeartbeats 4000000 in
theorem law_turn {Q : State → Prop} (E : LwE p s m c b L xs G) {i : Nat} (h6 : i + 6 ≤ L) {H : Heap} {locs : List Loc} {ls : Array Slot} (hS : Stt G s aA aM H locs) (hl : lv_has ls 4 (lvL b aA aM i)) (kk : ∀ (H : Heap) (locs : List Loc), Stt G s aA aM H locs → W p l e room_1 s m #[Value.ref b] below meth c H locs 73 5116 Q (F0 m 1358 ls [])) {x : Int32} : W p l e room_1 s m #[Value.ref b] below meth c H locs 73 5116 Q (F0 m 33 ls [.int x]) := by
  have C := E.1
  by_cases c0 : x = Int32.ofInt 0
  · exact lv_tableIn (tgt := 184) C.1 C.2.1 d_law_33 (by rw [c0]; decide) (by rw [c0]; decide) (by rw [c0]; rfl) (by decide) (k_valley E h6 hS hl kk)
  by_cases c1 : x = Int32.ofInt 1
  · exact lv_tableIn (tgt := 217) C.1 C.2.1 d_law_33 (by rw [c1]; decide) (by rw [c1]; decide) (by rw [c1]; rfl) (by decide) (k_put E h6 hS hl kk)
  by_cases c2 : x = Int32.ofInt 2
  · exact lv_tableIn (tgt := 260) C.1 C.2.1 d_law_33 (by rw [c2]; decide) (by rw [c2]; decide) (by rw [c2]; rfl) (by decide) (k_fee E h6 hS hl kk)
  by_cases c3 : x = Int32.ofInt 3
  · exact lv_tableIn (tgt := 293) C.1 C.2.1 d_law_33 (by rw [c3]; decide) (by rw [c3]; decide) (by rw [c3]; rfl) (by decide) (k_maker E h6 hS hl kk)
  by_cases c4 : x = Int32.ofInt 4
  · exact lv_tableIn (tgt := 336) C.1 C.2.1 d_law_33 (by rw [c4]; decide) (by rw [c4]; decide) (by rw [c4]; rfl) (by decide) (k_leave E h6 hS hl kk)
  by_cases c5 : x = Int32.ofInt 5
  · exact lv_tableIn (tgt := 399) C.1 C.2.1 d_law_33 (by rw [c5]; decide) (by rw [c5]; decide) (by rw [c5]; rfl) (by decide) (k_take E h6 hS hl kk)
  by_cases c6 : x = Int32.ofInt 6
  · exact lv_tableIn (tgt := 422) C.1 C.2.1 d_law_33 (by rw [c6]; decide) (by rw [c6]; decide) (by rw [c6]; rfl) (by decide) (k_undo E h6 hS hl kk)
  by_cases c7 : x = Int32.ofInt 7
  · exact lv_tableIn (tgt := 435) C.1 C.2.1 d_law_33 (by rw [c7]; decide) (by rw [c7]; decide) (by rw [c7]; rfl) (by decide) (k_about E h6 hS hl kk)
  by_cases c8 : x = Int32.ofInt 8
  · exact lv_tableIn (tgt := 468) C.1 C.2.1 d_law_33 (by rw [c8]; decide) (by rw [c8]; decide) (by rw [c8]; rfl) (by decide) (k_type E h6 hS hl kk)
  by_cases c9 : x = Int32.ofInt 9
  · exact lv_tableIn (tgt := 491) C.1 C.2.1 d_law_33 (by rw [c9]; decide) (by rw [c9]; decide) (by rw [c9]; rfl) (by decide) (k_clear E h6 hS hl kk)
  by_cases c10 : x = Int32.ofInt 10
  · exact lv_tableIn (tgt := 504) C.1 C.2.1 d_law_33 (by rw [c10]; decide) (by rw [c10]; decide) (by rw [c10]; rfl) (by decide) (k_read E h6 hS hl kk)
  by_cases c11 : x = Int32.ofInt 11
  · exact lv_tableIn (tgt := 517) C.1 C.2.1 d_law_33 (by rw [c11]; decide) (by rw [c11]; decide) (by rw [c11]; rfl) (by decide) (k_heard E h6 hS hl kk)
  by_cases c12 : x = Int32.ofInt 12
  · exact lv_tableIn (tgt := 570) C.1 C.2.1 d_law_33 (by rw [c12]; decide) (by rw [c12]; decide) (by rw [c12]; rfl) (by decide) (k_far E h6 hS hl kk)
  by_cases c13 : x = Int32.ofInt 13
  · exact lv_tableIn (tgt := 613) C.1 C.2.1 d_law_33 (by rw [c13]; decide) (by rw [c13]; decide) (by rw [c13]; rfl) (by decide) (k_cost E h6 hS hl kk)
  by_cases c14 : x = Int32.ofInt 14
  · exact lv_tableIn (tgt := 656) C.1 C.2.1 d_law_33 (by rw [c14]; decide) (by rw [c14]; decide) (by rw [c14]; rfl) (by decide) (k_trespass E h6 hS hl kk)
  by_cases c15 : x = Int32.ofInt 15
  · exact lv_tableIn (tgt := 709) C.1 C.2.1 d_law_33 (by rw [c15]; decide) (by rw [c15]; decide) (by rw [c15]; rfl) (by decide) (k_carried E h6 hS hl kk)
  by_cases c16 : x = Int32.ofInt 16
  · exact lv_tableIn (tgt := 762) C.1 C.2.1 d_law_33 (by rw [c16]; decide) (by rw [c16]; decide) (by rw [c16]; rfl) (by decide) (k_mend E h6 hS hl kk)
  by_cases c17 : x = Int32.ofInt 17
  · exact lv_tableIn (tgt := 806) C.1 C.2.1 d_law_33 (by rw [c17]; decide) (by rw [c17]; decide) (by rw [c17]; rfl) (by decide) (k_ears E h6 hS hl kk)
  by_cases c18 : x = Int32.ofInt 18
  · exact lv_tableIn (tgt := 839) C.1 C.2.1 d_law_33 (by rw [c18]; decide) (by rw [c18]; decide) (by rw [c18]; rfl) (by decide) (k_buy E h6 hS hl kk)
  by_cases c19 : x = Int32.ofInt 19
  · exact lv_tableIn (tgt := 892) C.1 C.2.1 d_law_33 (by rw [c19]; decide) (by rw [c19]; decide) (by rw [c19]; rfl) (by decide) (k_who E h6 hS hl kk)
  by_cases c20 : x = Int32.ofInt 20
  · exact lv_tableIn (tgt := 925) C.1 C.2.1 d_law_33 (by rw [c20]; decide) (by rw [c20]; decide) (by rw [c20]; rfl) (by decide) (k_still E h6 hS hl kk)
  by_cases c21 : x = Int32.ofInt 21
  · exact lv_tableIn (tgt := 968) C.1 C.2.1 d_law_33 (by rw [c21]; decide) (by rw [c21]; decide) (by rw [c21]; rfl) (by decide) (k_cry E h6 hS hl kk)
  by_cases c22 : x = Int32.ofInt 22
  · exact lv_tableIn (tgt := 1001) C.1 C.2.1 d_law_33 (by rw [c22]; decide) (by rw [c22]; decide) (by rw [c22]; rfl) (by decide) (k_criers E h6 hS hl kk)
  by_cases c23 : x = Int32.ofInt 23
  · exact lv_tableIn (tgt := 1054) C.1 C.2.1 d_law_33 (by rw [c23]; decide) (by rw [c23]; decide) (by rw [c23]; rfl) (by decide) (k_let E h6 hS hl kk)
  by_cases c24 : x = Int32.ofInt 24
  · exact lv_tableIn (tgt := 1087) C.1 C.2.1 d_law_33 (by rw [c24]; decide) (by rw [c24]; decide) (by rw [c24]; rfl) (by decide) (k_liable E h6 hS hl kk)
  by_cases c25 : x = Int32.ofInt 25
  · exact lv_tableIn (tgt := 1110) C.1 C.2.1 d_law_33 (by rw [c25]; decide) (by rw [c25]; decide) (by rw [c25]; rfl) (by decide) (k_rings E h6 hS hl kk)
  by_cases c26 : x = Int32.ofInt 26
  · exact lv_tableIn (tgt := 1123) C.1 C.2.1 d_law_33 (by rw [c26]; decide) (by rw [c26]; decide) (by rw [c26]; rfl) (by decide) (k_first E h6 hS hl kk)
  by_cases c27 : x = Int32.ofInt 27
  · exact lv_tableIn (tgt := 1176) C.1 C.2.1 d_law_33 (by rw [c27]; decide) (by rw [c27]; decide) (by rw [c27]; rfl) (by decide) (k_peal E h6 hS hl kk)
  by_cases c28 : x = Int32.ofInt 28
  · exact lv_tableIn (tgt := 1219) C.1 C.2.1 d_law_33 (by rw [c28]; decide) (by rw [c28]; decide) (by rw [c28]; rfl) (by decide) (k_thunder E h6 hS hl kk)
  by_cases c29 : x = Int32.ofInt 29
  · exact lv_tableIn (tgt := 1252) C.1 C.2.1 d_law_33 (by rw [c29]; decide) (by rw [c29]; decide) (by rw [c29]; rfl) (by decide) (k_image E h6 hS hl kk)
  by_cases c30 : x = Int32.ofInt 30
  · exact lv_tableIn (tgt := 1275) C.1 C.2.1 d_law_33 (by rw [c30]; decide) (by rw [c30]; decide) (by rw [c30]; rfl) (by decide) (k_from E h6 hS hl kk)
  by_cases c31 : x = Int32.ofInt 31
  · exact lv_tableIn (tgt := 1298) C.1 C.2.1 d_law_33 (by rw [c31]; decide) (by rw [c31]; decide) (by rw [c31]; rfl) (by decide) (k_status E h6 hS hl kk)
  by_cases c32 : x = Int32.ofInt 32
  · exact lv_tableIn (tgt := 1321) C.1 C.2.1 d_law_33 (by rw [c32]; decide) (by rw [c32]; decide) (by rw [c32]; rfl) (by decide) (k_count E h6 hS hl kk)
  by_cases c33 : x = Int32.ofInt 33
  · exact lv_tableIn (tgt := 1344) C.1 C.2.1 d_law_33 (by rw [c33]; decide) (by rw [c33]; decide) (by rw [c33]; rfl) (by decide) (k_digest E h6 hS hl kk)
  refine lv_tableOut (tgt := 1358) C.1 C.2.1 d_law_33 (tsw_out fun z h1 h2 hz => ?_) (by decide) (kk H locs hS)
  have hz4 : z = 0 ∨ z = 1 ∨ z = 2 ∨ z = 3 ∨ z = 4 ∨ z = 5 ∨ z = 6 ∨ z = 7 ∨ z = 8 ∨ z = 9 ∨ z = 10 ∨ z = 11 ∨ z = 12 ∨ z = 13 ∨ z = 14 ∨ z = 15 ∨ z = 16 ∨ z = 17 ∨ z = 18 ∨ z = 19 ∨ z = 20 ∨ z = 21 ∨ z = 22 ∨ z = 23 ∨ z = 24 ∨ z = 25 ∨ z = 26 ∨ z = 27 ∨ z = 28 ∨ z = 29 ∨ z = 30 ∨ z = 31 ∨ z = 32 ∨ z = 33 := by omega
  rcases hz4 with rfl | rfl | rfl | rfl | rfl | rfl | rfl | rfl | rfl | rfl | rfl | rfl | rfl | rfl | rfl | rfl | rfl | rfl | rfl | rfl | rfl | rfl | rfl | rfl | rfl | rfl | rfl | rfl | rfl | rfl | rfl | rfl | rfl | rfl
  · exact c0 (tsw hz)
  · exact c1 (tsw hz)
  · exact c2 (tsw hz)
  · exact c3 (tsw hz)
  · exact c4 (tsw hz)
  · exact c5 (tsw hz)
  · exact c6 (tsw hz)
  · exact c7 (tsw hz)
  · exact c8 (tsw hz)
  · exact c9 (tsw hz)
  · exact c10 (tsw hz)
  · exact c11 (tsw hz)
  · exact c12 (tsw hz)
  · exact c13 (tsw hz)
  · exact c14 (tsw hz)
  · exact c15 (tsw hz)
  · exact c16 (tsw hz)
  · exact c17 (tsw hz)
  · exact c18 (tsw hz)
  · exact c19 (tsw hz)
  · exact c20 (tsw hz)
  · exact c21 (tsw hz)
  · exact c22 (tsw hz)
  · exact c23 (tsw hz)
  · exact c24 (tsw hz)
  · exact c25 (tsw hz)
  · exact c26 (tsw hz)
  · exact c27 (tsw hz)
  · exact c28 (tsw hz)
  · exact c29 (tsw hz)
  · exact c30 (tsw hz)
  · exact c31 (tsw hz)
  · exact c32 (tsw hz)
  · exact c33 (tsw hz)
set_option maxHeartbeats 4000000 in
theorem law_loop (E : LwE p s m c b L xs G) (hr : meth.sig.returnType = ret) (hlocks : meth.locks = false) : ∀ (n i : Nat), i ≤ L → L + 1 ≤ i + n → ∀ (H : Heap) (locs : List Loc) (ls : Array Slot), Stt G s aA aM H locs → lv_has ls 4 (lvL b aA aM i) → W p l e room_1 s m #[Value.ref b] below meth c H locs 73 5116 (lw_Z below #[Value.ref b] s) (F0 m 18 ls []) := by
  intro n
  induction n with
  | zero => intro i h1 h2; exact absurd h2 (by omega)
  | succ n ih =>
    intro i hi hin H locs ls hS hl
    have E0 := E
    obtain ⟨C, hE, hX, hbl, hL⟩ := E0
    have hWS := hS.sep
    refine lv_iload_n C.1 C.2.1 d_law_18 rfl (lv_at hl 0 rfl) ?_
    refine lv_aload_n C.1 C.2.1 d_law_19 rfl (lv_at hl 3 rfl) ?_
    refine va_slen C.1 C.2.1 hX hbl (Nat.not_le.mpr hbl) hWS d_law_20 ?_
    refine lv_bipush (v := 6) C.1 C.2.1 d_law_21 (by decide) ?_
    refine lv_isub C.1 C.2.1 d_law_23 ?_
    refine lv_icmp_gt (tgt := 1364) C.1 C.2.1 d_law_24 (by decide) (fun cg => ?_) (fun cg => ?_)
    · refine lv_iconst (v := 1) C.1 C.2.1 d_law_1364 (by decide) ?_
      refine va_forget (fun q hq => hWS.2.2 q hq) ?_
      exact lw_ret C.1 C.2.1 hr hlocks d_law_1365
    · have h6 : i + 6 ≤ L := lw_len hL hi cg
      refine lv_aload_n C.1 C.2.1 d_law_27 rfl (lv_at hl 3 rfl) ?_
      refine lv_iload_n C.1 C.2.1 d_law_28 rfl (lv_at hl 0 rfl) ?_
      have h_in : vp_in (nI i) L := vp_in_nI (by omega) (by omega)
      refine va_sld C.1 C.2.1 hX hbl (Nat.not_le.mpr hbl) hWS h_in d_law_29 ?_
      refine lv_bipush (v := 63) C.1 C.2.1 d_law_30 (by decide) ?_
      refine lv_iand C.1 C.2.1 d_law_32 ?_
      refine law_turn E h6 hS hl (fun H locs hS => ?_)
      refine lv_iinc (v := nI (i + 6)) (lv' := lvL b aA aM (i + 6)) C.1 C.2.1 d_law_1358 hl (k := 0) rfl (nIa i 6) (by decide) rfl (fun ls hl => ?_)
      refine lv_goto (tgt := 18) C.1 C.2.1 d_law_1361 (by decide) ?_
      exact ih (i + 6) h6 (by omega) H locs ls hS hl
end LWL

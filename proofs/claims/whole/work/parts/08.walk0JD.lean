set_option maxHeartbeats 4000000 in
set_option maxRecDepth 100000 in
theorem c_JI_bitCount (l : Launch) (G : Gl) (p1 : Int32) {res : Int32} (h : f_JI_bitCount p1 = some res) : Ct l y_JI_bitCount b_JI_bitCount 1 (some .int) 0 0 G [.int p1] [] (some (.int res)) [] := by
  refine Ct.mk (by decide) (Nat.le_of_ble_eq_true rfl) ?_
  intro p e s m args below meth c ls A Q C hE hW hl hQ
  have C : Cx p s args m c meth "java/lang/Integer" y_JI_bitCount b_JI_bitCount 1 (some .int) := C
  have hl : lv_has ls 1 [(0, .int p1)] := hl
  unfold f_JI_bitCount at h
  refine lv_iload_n C.1.1 C.1.2.1 d_JI_bitCount_0 rfl (lv_at hl 0 rfl) ?_
  refine lv_iload_n C.1.1 C.1.2.1 d_JI_bitCount_1 rfl (lv_at hl 0 rfl) ?_
  refine lv_iconst (v := 1) C.1.1 C.1.2.1 d_JI_bitCount_2 (by decide) ?_
  refine lv_iushr C.1.1 C.1.2.1 d_JI_bitCount_3 rfl ?_
  refine lv_ldcw (own := "java/lang/Integer") (v := 1431655765) C.1.1 C.1.2.1 C.1.2.2.2.1 (C.w tw717) d_JI_bitCount_4 ?_
  refine lv_iand C.1.1 C.1.2.1 d_JI_bitCount_7 ?_
  refine lv_isub C.1.1 C.1.2.1 d_JI_bitCount_8 ?_
  refine lv_topi (fun x1 ex1 => ?_)
  replace h := lt_at ex1 h
  refine lv_istore_n (lv' := [(0, .int x1)]) C.1.1 C.1.2.1 d_JI_bitCount_9 rfl hl (by decide) rfl (fun ls hl => ?_)
  refine lv_iload_n C.1.1 C.1.2.1 d_JI_bitCount_10 rfl (lv_at hl 0 rfl) ?_
  refine lv_ldcw (own := "java/lang/Integer") (v := 858993459) C.1.1 C.1.2.1 C.1.2.2.2.1 (C.w tw718) d_JI_bitCount_11 ?_
  refine lv_iand C.1.1 C.1.2.1 d_JI_bitCount_14 ?_
  refine lv_iload_n C.1.1 C.1.2.1 d_JI_bitCount_15 rfl (lv_at hl 0 rfl) ?_
  refine lv_iconst (v := 2) C.1.1 C.1.2.1 d_JI_bitCount_16 (by decide) ?_
  refine lv_iushr C.1.1 C.1.2.1 d_JI_bitCount_17 rfl ?_
  refine lv_ldcw (own := "java/lang/Integer") (v := 858993459) C.1.1 C.1.2.1 C.1.2.2.2.1 (C.w tw718) d_JI_bitCount_18 ?_
  refine lv_iand C.1.1 C.1.2.1 d_JI_bitCount_21 ?_
  refine lv_iadd C.1.1 C.1.2.1 d_JI_bitCount_22 ?_
  refine lv_topi (fun x2 ex2 => ?_)
  replace h := lt_at ex2 h
  refine lv_istore_n (lv' := [(0, .int x2)]) C.1.1 C.1.2.1 d_JI_bitCount_23 rfl hl (by decide) rfl (fun ls hl => ?_)
  refine lv_iload_n C.1.1 C.1.2.1 d_JI_bitCount_24 rfl (lv_at hl 0 rfl) ?_
  refine lv_iload_n C.1.1 C.1.2.1 d_JI_bitCount_25 rfl (lv_at hl 0 rfl) ?_
  refine lv_iconst (v := 4) C.1.1 C.1.2.1 d_JI_bitCount_26 (by decide) ?_
  refine lv_iushr C.1.1 C.1.2.1 d_JI_bitCount_27 rfl ?_
  refine lv_iadd C.1.1 C.1.2.1 d_JI_bitCount_28 ?_
  refine lv_ldcw (own := "java/lang/Integer") (v := 252645135) C.1.1 C.1.2.1 C.1.2.2.2.1 (C.w tw719) d_JI_bitCount_29 ?_
  refine lv_iand C.1.1 C.1.2.1 d_JI_bitCount_32 ?_
  refine lv_topi (fun x3 ex3 => ?_)
  replace h := lt_at ex3 h
  refine lv_istore_n (lv' := [(0, .int x3)]) C.1.1 C.1.2.1 d_JI_bitCount_33 rfl hl (by decide) rfl (fun ls hl => ?_)
  refine lv_iload_n C.1.1 C.1.2.1 d_JI_bitCount_34 rfl (lv_at hl 0 rfl) ?_
  refine lv_iload_n C.1.1 C.1.2.1 d_JI_bitCount_35 rfl (lv_at hl 0 rfl) ?_
  refine lv_bipush (v := 8) C.1.1 C.1.2.1 d_JI_bitCount_36 (by decide) ?_
  refine lv_iushr C.1.1 C.1.2.1 d_JI_bitCount_38 rfl ?_
  refine lv_iadd C.1.1 C.1.2.1 d_JI_bitCount_39 ?_
  refine lv_topi (fun x4 ex4 => ?_)
  replace h := lt_at ex4 h
  refine lv_istore_n (lv' := [(0, .int x4)]) C.1.1 C.1.2.1 d_JI_bitCount_40 rfl hl (by decide) rfl (fun ls hl => ?_)
  refine lv_iload_n C.1.1 C.1.2.1 d_JI_bitCount_41 rfl (lv_at hl 0 rfl) ?_
  refine lv_iload_n C.1.1 C.1.2.1 d_JI_bitCount_42 rfl (lv_at hl 0 rfl) ?_
  refine lv_bipush (v := 16) C.1.1 C.1.2.1 d_JI_bitCount_43 (by decide) ?_
  refine lv_iushr C.1.1 C.1.2.1 d_JI_bitCount_45 rfl ?_
  refine lv_iadd C.1.1 C.1.2.1 d_JI_bitCount_46 ?_
  refine lv_topi (fun x5 ex5 => ?_)
  replace h := lt_at ex5 h
  refine lv_istore_n (lv' := [(0, .int x5)]) C.1.1 C.1.2.1 d_JI_bitCount_47 rfl hl (by decide) rfl (fun ls hl => ?_)
  refine lv_iload_n C.1.1 C.1.2.1 d_JI_bitCount_48 rfl (lv_at hl 0 rfl) ?_
  refine lv_bipush (v := 63) C.1.1 C.1.2.1 d_JI_bitCount_49 (by decide) ?_
  refine lv_iand C.1.1 C.1.2.1 d_JI_bitCount_51 ?_
  obtain rfl := Option.some.inj h
  exact x_iret C hW rfl rfl hQ d_JI_bitCount_52
set_option maxHeartbeats 4000000 in
set_option maxRecDepth 100000 in
theorem c_Ai_hasCell (l : Launch) (G : Gl) (p1 : Int64) (p2 : Int32) {res : Int32} (h : f_Ai_hasCell p1 p2 = some res) : Ct l y_Ai_hasCell b_Ai_hasCell 3 (some .boolean) 0 0 G [.long p1, .int p2] [] (some (.int res)) [] := by
  refine Ct.mk (by decide) (Nat.le_of_ble_eq_true rfl) ?_
  intro p e s m args below meth c ls A Q C hE hW hl hQ
  have C : Cx p s args m c meth "LentAir" y_Ai_hasCell b_Ai_hasCell 3 (some .boolean) := C
  have hl : lv_has ls 3 [(0, .long p1), (2, .int p2)] := hl
  unfold f_Ai_hasCell at h
  refine lv_lload_n C.1.1 C.1.2.1 d_Ai_hasCell_0 rfl (lv_at hl 0 rfl) ?_
  refine lv_iload_n C.1.1 C.1.2.1 d_Ai_hasCell_1 rfl (lv_at hl 1 rfl) ?_
  refine lv_lshr C.1.1 C.1.2.1 d_Ai_hasCell_2 rfl ?_
  refine lv_lconst (v := 1) C.1.1 C.1.2.1 d_Ai_hasCell_3 (by decide) ?_
  refine lv_land C.1.1 C.1.2.1 d_Ai_hasCell_4 ?_
  refine lv_lconst (v := 0) C.1.1 C.1.2.1 d_Ai_hasCell_5 (by decide) ?_
  refine W.lcmp C.1.1 C.1.2.1 d_Ai_hasCell_6 ?_
  refine lv_if_eq (tgt := 14) C.1.1 C.1.2.1 d_Ai_hasCell_7 (by decide) (fun cc => ?_) (fun cc => ?_)
  · replace h := it_t cc h
    refine lv_iconst (v := 0) C.1.1 C.1.2.1 d_Ai_hasCell_14 (by decide) ?_
    obtain rfl := Option.some.inj h
    exact x_zret C hW rfl rfl rfl hQ d_Ai_hasCell_15
  · replace h := it_f cc h
    refine lv_iconst (v := 1) C.1.1 C.1.2.1 d_Ai_hasCell_10 (by decide) ?_
    refine lv_goto (tgt := 15) C.1.1 C.1.2.1 d_Ai_hasCell_11 (by decide) ?_
    obtain rfl := Option.some.inj h
    exact x_zret C hW rfl rfl rfl hQ d_Ai_hasCell_15
set_option maxHeartbeats 4000000 in
set_option maxRecDepth 100000 in
theorem c_JL_bitCount (l : Launch) (G : Gl) (p1 : Int64) {res : Int32} (h : f_JL_bitCount p1 = some res) : Ct l y_JL_bitCount b_JL_bitCount 2 (some .int) 0 0 G [.long p1] [] (some (.int res)) [] := by
  refine Ct.mk (by decide) (Nat.le_of_ble_eq_true rfl) ?_
  intro p e s m args below meth c ls A Q C hE hW hl hQ
  have C : Cx p s args m c meth "java/lang/Long" y_JL_bitCount b_JL_bitCount 2 (some .int) := C
  have hl : lv_has ls 2 [(0, .long p1)] := hl
  unfold f_JL_bitCount at h
  refine lv_lload_n C.1.1 C.1.2.1 d_JL_bitCount_0 rfl (lv_at hl 0 rfl) ?_
  refine lv_lload_n C.1.1 C.1.2.1 d_JL_bitCount_1 rfl (lv_at hl 0 rfl) ?_
  refine lv_iconst (v := 1) C.1.1 C.1.2.1 d_JL_bitCount_2 (by decide) ?_
  refine lv_lushr C.1.1 C.1.2.1 d_JL_bitCount_3 rfl ?_
  refine lv_ldc2 (own := "java/lang/Long") (v := 6148914691236517205) C.1.1 C.1.2.1 C.1.2.2.2.1 (C.w tw644) d_JL_bitCount_4 ?_
  refine lv_land C.1.1 C.1.2.1 d_JL_bitCount_7 ?_
  refine lv_lsub C.1.1 C.1.2.1 d_JL_bitCount_8 ?_
  refine lv_topl (fun x1 ex1 => ?_)
  replace h := lt_at ex1 h
  refine lv_lstore_n (lv' := [(0, .long x1)]) C.1.1 C.1.2.1 d_JL_bitCount_9 rfl hl (by decide) rfl (fun ls hl => ?_)
  refine lv_lload_n C.1.1 C.1.2.1 d_JL_bitCount_10 rfl (lv_at hl 0 rfl) ?_
  refine lv_ldc2 (own := "java/lang/Long") (v := 3689348814741910323) C.1.1 C.1.2.1 C.1.2.2.2.1 (C.w tw645) d_JL_bitCount_11 ?_
  refine lv_land C.1.1 C.1.2.1 d_JL_bitCount_14 ?_
  refine lv_lload_n C.1.1 C.1.2.1 d_JL_bitCount_15 rfl (lv_at hl 0 rfl) ?_
  refine lv_iconst (v := 2) C.1.1 C.1.2.1 d_JL_bitCount_16 (by decide) ?_
  refine lv_lushr C.1.1 C.1.2.1 d_JL_bitCount_17 rfl ?_
  refine lv_ldc2 (own := "java/lang/Long") (v := 3689348814741910323) C.1.1 C.1.2.1 C.1.2.2.2.1 (C.w tw645) d_JL_bitCount_18 ?_
  refine lv_land C.1.1 C.1.2.1 d_JL_bitCount_21 ?_
  refine lv_ladd C.1.1 C.1.2.1 d_JL_bitCount_22 ?_
  refine lv_topl (fun x2 ex2 => ?_)
  replace h := lt_at ex2 h
  refine lv_lstore_n (lv' := [(0, .long x2)]) C.1.1 C.1.2.1 d_JL_bitCount_23 rfl hl (by decide) rfl (fun ls hl => ?_)
  refine lv_lload_n C.1.1 C.1.2.1 d_JL_bitCount_24 rfl (lv_at hl 0 rfl) ?_
  refine lv_lload_n C.1.1 C.1.2.1 d_JL_bitCount_25 rfl (lv_at hl 0 rfl) ?_
  refine lv_iconst (v := 4) C.1.1 C.1.2.1 d_JL_bitCount_26 (by decide) ?_
  refine lv_lushr C.1.1 C.1.2.1 d_JL_bitCount_27 rfl ?_
  refine lv_ladd C.1.1 C.1.2.1 d_JL_bitCount_28 ?_
  refine lv_ldc2 (own := "java/lang/Long") (v := 1085102592571150095) C.1.1 C.1.2.1 C.1.2.2.2.1 (C.w tw646) d_JL_bitCount_29 ?_
  refine lv_land C.1.1 C.1.2.1 d_JL_bitCount_32 ?_
  refine lv_topl (fun x3 ex3 => ?_)
  replace h := lt_at ex3 h
  refine lv_lstore_n (lv' := [(0, .long x3)]) C.1.1 C.1.2.1 d_JL_bitCount_33 rfl hl (by decide) rfl (fun ls hl => ?_)
  refine lv_lload_n C.1.1 C.1.2.1 d_JL_bitCount_34 rfl (lv_at hl 0 rfl) ?_
  refine lv_lload_n C.1.1 C.1.2.1 d_JL_bitCount_35 rfl (lv_at hl 0 rfl) ?_
  refine lv_bipush (v := 8) C.1.1 C.1.2.1 d_JL_bitCount_36 (by decide) ?_
  refine lv_lushr C.1.1 C.1.2.1 d_JL_bitCount_38 rfl ?_
  refine lv_ladd C.1.1 C.1.2.1 d_JL_bitCount_39 ?_
  refine lv_topl (fun x4 ex4 => ?_)
  replace h := lt_at ex4 h
  refine lv_lstore_n (lv' := [(0, .long x4)]) C.1.1 C.1.2.1 d_JL_bitCount_40 rfl hl (by decide) rfl (fun ls hl => ?_)
  refine lv_lload_n C.1.1 C.1.2.1 d_JL_bitCount_41 rfl (lv_at hl 0 rfl) ?_
  refine lv_lload_n C.1.1 C.1.2.1 d_JL_bitCount_42 rfl (lv_at hl 0 rfl) ?_
  refine lv_bipush (v := 16) C.1.1 C.1.2.1 d_JL_bitCount_43 (by decide) ?_
  refine lv_lushr C.1.1 C.1.2.1 d_JL_bitCount_45 rfl ?_
  refine lv_ladd C.1.1 C.1.2.1 d_JL_bitCount_46 ?_
  refine lv_topl (fun x5 ex5 => ?_)
  replace h := lt_at ex5 h
  refine lv_lstore_n (lv' := [(0, .long x5)]) C.1.1 C.1.2.1 d_JL_bitCount_47 rfl hl (by decide) rfl (fun ls hl => ?_)
  refine lv_lload_n C.1.1 C.1.2.1 d_JL_bitCount_48 rfl (lv_at hl 0 rfl) ?_
  refine lv_lload_n C.1.1 C.1.2.1 d_JL_bitCount_49 rfl (lv_at hl 0 rfl) ?_
  refine lv_bipush (v := 32) C.1.1 C.1.2.1 d_JL_bitCount_50 (by decide) ?_
  refine lv_lushr C.1.1 C.1.2.1 d_JL_bitCount_52 rfl ?_
  refine lv_ladd C.1.1 C.1.2.1 d_JL_bitCount_53 ?_
  refine lv_topl (fun x6 ex6 => ?_)
  replace h := lt_at ex6 h
  refine lv_lstore_n (lv' := [(0, .long x6)]) C.1.1 C.1.2.1 d_JL_bitCount_54 rfl hl (by decide) rfl (fun ls hl => ?_)
  refine lv_lload_n C.1.1 C.1.2.1 d_JL_bitCount_55 rfl (lv_at hl 0 rfl) ?_
  refine lv_l2i C.1.1 C.1.2.1 d_JL_bitCount_56 rfl ?_
  refine lv_bipush (v := 127) C.1.1 C.1.2.1 d_JL_bitCount_57 (by decide) ?_
  refine lv_iand C.1.1 C.1.2.1 d_JL_bitCount_59 ?_
  obtain rfl := Option.some.inj h
  exact x_iret C hW rfl rfl hQ d_JL_bitCount_60
set_option maxHeartbeats 4000000 in
set_option maxRecDepth 100000 in
theorem c_JA_fillJ (l : Launch) (G : Gl) (aP : Nat) (nP : Nat) (P_c : Nat → Int64) (p2 : Int64) {res : (Nat → Int64)} (h : f_JA_fillJ nP P_c p2 = some res) : Ct l y_JA_fillJ b_JA_fillJ 5 none 0 0 G [.ref aP, .long p2] [(aP, .inl (gJ G, nP, .inr (.inl P_c)))] none [(aP, .inl (gJ G, nP, .inr (.inl res)))] := by
  refine Ct.mk (by decide) (Nat.le_of_ble_eq_true rfl) ?_
  intro p e s m args below meth c ls A Q C hE hW hl hQ
  have C : Cx p s args m c meth "java/util/Arrays" y_JA_fillJ b_JA_fillJ 5 none := C
  have hl : lv_has ls 5 [(0, .ref aP), (1, .long p2)] := hl
  unfold f_JA_fillJ at h
  refine lv_iconst (v := 0) C.1.1 C.1.2.1 d_JA_fillJ_0 (by decide) ?_
  refine lv_istore_n (lv' := [(3, .int 0), (0, .ref aP), (1, .long p2)]) C.1.1 C.1.2.1 d_JA_fillJ_1 rfl hl (by decide) rfl (fun ls hl => ?_)
  refine lv_aload_n C.1.1 C.1.2.1 d_JA_fillJ_2 rfl (lv_at hl 1 rfl) ?_
  refine x_alen (v := Int32.ofNat nP) C hE hW 0 1 rfl rfl rfl d_JA_fillJ_3 ?_
  refine lv_topi (fun x1 ex1 => ?_)
  replace h := lt_at ex1 h
  refine lv_istore (lv' := [(4, .int x1), (3, .int 0), (0, .ref aP), (1, .long p2)]) C.1.1 C.1.2.1 d_JA_fillJ_4 hl (by decide) rfl (fun ls hl => ?_)
  refine lp_at (P := fun ((x2, x3) : Int32 × (Nat → Int64)) => ∀ (H : Heap) (locs : List Loc) (ls : Array Slot), Wd G A s.heap H locs [(aP, .inl (gJ G, nP, .inr (.inl x3)))] → lv_has ls 5 [(0, .ref aP), (1, .long p2), (3, .int x2), (4, .int x1)] → W p l e (RM 0 0) s m args below meth c H locs 0 0 Q (F0 m 6 ls [])) ?_ FU _ h _ _ _ hW (lv_sub hl [2, 3, 1, 0] rfl)
  clear h hl hW
  intro rec6 ih6
  intro x h
  obtain ⟨x2, x3⟩ := x
  unfold f_JA_fillJ_L6 at h
  intro H locs ls hW hl
  refine lv_iload_n C.1.1 C.1.2.1 d_JA_fillJ_6 rfl (lv_at hl 2 rfl) ?_
  refine lv_iload C.1.1 C.1.2.1 d_JA_fillJ_7 (lv_at hl 3 rfl) ?_
  refine lv_icmp_ge (tgt := 22) C.1.1 C.1.2.1 d_JA_fillJ_9 (by decide) (fun cc => ?_) (fun cc => ?_)
  · replace h := it_t cc h
    obtain rfl := Option.some.inj h
    exact x_vret C hW rfl rfl hQ d_JA_fillJ_22
  · replace h := it_f cc h
    refine lv_aload_n C.1.1 C.1.2.1 d_JA_fillJ_12 rfl (lv_at hl 0 rfl) ?_
    refine lv_iload_n C.1.1 C.1.2.1 d_JA_fillJ_13 rfl (lv_at hl 2 rfl) ?_
    refine lv_lload_n C.1.1 C.1.2.1 d_JA_fillJ_14 rfl (lv_at hl 1 rfl) ?_
    obtain ⟨hg, h⟩ := gd_at h
    obtain ⟨x4, ex4⟩ : ∃ y : Nat → Int64, y = vp_updL x3 x2.toNatClampNeg p2 := ⟨_, rfl⟩
    replace h := lt_at ex4 h
    refine x_last (ws' := [(aP, .inl (gJ G, nP, .inr (.inl x4)))]) C hE hW 0 rfl (inB_in hg) (by subst ex4; rfl) d_JA_fillJ_15 (fun H locs hW => ?_)
    obtain ⟨x5, ex5⟩ : ∃ y : Int32, y = x2 + 1 := ⟨_, rfl⟩
    replace h := lt_at ex5 h
    refine lv_iinc (v := x5) (lv' := [(3, .int x5), (0, .ref aP), (1, .long p2), (4, .int x1)]) C.1.1 C.1.2.1 d_JA_fillJ_16 hl (k := 2) rfl (by rw [ex5]; rfl) (by decide) rfl (fun ls hl => ?_)
    refine lv_goto (tgt := 6) C.1.1 C.1.2.1 d_JA_fillJ_19 (by decide) ?_
    exact ih6 _ h _ _ _ hW (lv_sub hl [1, 2, 0, 3] rfl)
set_option maxHeartbeats 4000000 in
set_option maxRecDepth 100000 in
theorem c_JA_fillI (l : Launch) (G : Gl) (aP : Nat) (nP : Nat) (P_c : Nat → Int32) (p2 : Int32) {res : (Nat → Int32)} (h : f_JA_fillI nP P_c p2 = some res) : Ct l y_JA_fillI b_JA_fillI 4 none 0 0 G [.ref aP, .int p2] [(aP, .inl (gI G, nP, .inl P_c))] none [(aP, .inl (gI G, nP, .inl res))] := by
  refine Ct.mk (by decide) (Nat.le_of_ble_eq_true rfl) ?_
  intro p e s m args below meth c ls A Q C hE hW hl hQ
  have C : Cx p s args m c meth "java/util/Arrays" y_JA_fillI b_JA_fillI 4 none := C
  have hl : lv_has ls 4 [(0, .ref aP), (1, .int p2)] := hl
  unfold f_JA_fillI at h
  refine lv_iconst (v := 0) C.1.1 C.1.2.1 d_JA_fillI_0 (by decide) ?_
  refine lv_istore_n (lv' := [(2, .int 0), (0, .ref aP), (1, .int p2)]) C.1.1 C.1.2.1 d_JA_fillI_1 rfl hl (by decide) rfl (fun ls hl => ?_)
  refine lv_aload_n C.1.1 C.1.2.1 d_JA_fillI_2 rfl (lv_at hl 1 rfl) ?_
  refine x_alen (v := Int32.ofNat nP) C hE hW 0 0 rfl rfl rfl d_JA_fillI_3 ?_
  refine lv_topi (fun x1 ex1 => ?_)
  replace h := lt_at ex1 h
  refine lv_istore_n (lv' := [(3, .int x1), (2, .int 0), (0, .ref aP), (1, .int p2)]) C.1.1 C.1.2.1 d_JA_fillI_4 rfl hl (by decide) rfl (fun ls hl => ?_)
  refine lp_at (P := fun ((x2, x3) : Int32 × (Nat → Int32)) => ∀ (H : Heap) (locs : List Loc) (ls : Array Slot), Wd G A s.heap H locs [(aP, .inl (gI G, nP, .inl x3))] → lv_has ls 4 [(0, .ref aP), (1, .int p2), (2, .int x2), (3, .int x1)] → W p l e (RM 0 0) s m args below meth c H locs 0 0 Q (F0 m 5 ls [])) ?_ FU _ h _ _ _ hW (lv_sub hl [2, 3, 1, 0] rfl)
  clear h hl hW
  intro rec5 ih5
  intro x h
  obtain ⟨x2, x3⟩ := x
  unfold f_JA_fillI_L5 at h
  intro H locs ls hW hl
  refine lv_iload_n C.1.1 C.1.2.1 d_JA_fillI_5 rfl (lv_at hl 2 rfl) ?_
  refine lv_iload_n C.1.1 C.1.2.1 d_JA_fillI_6 rfl (lv_at hl 3 rfl) ?_
  refine lv_icmp_ge (tgt := 20) C.1.1 C.1.2.1 d_JA_fillI_7 (by decide) (fun cc => ?_) (fun cc => ?_)
  · replace h := it_t cc h
    obtain rfl := Option.some.inj h
    exact x_vret C hW rfl rfl hQ d_JA_fillI_20
  · replace h := it_f cc h
    refine lv_aload_n C.1.1 C.1.2.1 d_JA_fillI_10 rfl (lv_at hl 0 rfl) ?_
    refine lv_iload_n C.1.1 C.1.2.1 d_JA_fillI_11 rfl (lv_at hl 2 rfl) ?_
    refine lv_iload_n C.1.1 C.1.2.1 d_JA_fillI_12 rfl (lv_at hl 1 rfl) ?_
    obtain ⟨hg, h⟩ := gd_at h
    obtain ⟨x4, ex4⟩ : ∃ y : Nat → Int32, y = upd x3 x2.toNatClampNeg p2 := ⟨_, rfl⟩
    replace h := lt_at ex4 h
    refine x_iast (ws' := [(aP, .inl (gI G, nP, .inl x4))]) C hE hW 0 rfl (inB_in hg) (by subst ex4; rfl) d_JA_fillI_13 (fun H locs hW => ?_)
    obtain ⟨x5, ex5⟩ : ∃ y : Int32, y = x2 + 1 := ⟨_, rfl⟩
    replace h := lt_at ex5 h
    refine lv_iinc (v := x5) (lv' := [(2, .int x5), (0, .ref aP), (1, .int p2), (3, .int x1)]) C.1.1 C.1.2.1 d_JA_fillI_14 hl (k := 2) rfl (by rw [ex5]; rfl) (by decide) rfl (fun ls hl => ?_)
    refine lv_goto (tgt := 5) C.1.1 C.1.2.1 d_JA_fillI_17 (by decide) ?_
    exact ih5 _ h _ _ _ hW (lv_sub hl [1, 2, 0, 3] rfl)

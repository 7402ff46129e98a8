set_option maxHeartbeats 4000000 in
set_option maxRecDepth 100000 in
theorem c_Ld_startRows (l : Launch) (G : Gl) (aN : Nat) (aN_grounds : Nat) (aN_airs : Nat) (aN_tolds : Nat) (aN_fees : Nat) (aN_lets : Nat) (aN_kinds : Nat) (aN_cells : Nat) (aN_selves : Nat) (aN_cries : Nat) (aN_parts : Nat) (aN_past : Nat) (aP : Nat) (N_width : Int32) (N_height : Int32) (N_everywhere : Int64) (N_firstColumn : Int64) (N_lastColumn : Int64) (N_makers : Int32) (N_leaves : Int32) (N_pasts : Int32) (nP : Nat) (P_c : Nat → Int64) {res : (Nat → Int64)} (h : f_Ld_startRows N_everywhere nP P_c = some res) : Ct l y_Ld_startRows b_Ld_startRows 3 none 0 0 G [.ref aN, .ref aP] [(aN, .inr (0, [.int N_width, .int N_height, .long N_everywhere, .long N_firstColumn, .long N_lastColumn, .ref aN_grounds, .ref aN_airs, .ref aN_tolds, .ref aN_fees, .ref aN_lets, .int N_makers, .ref aN_kinds, .ref aN_cells, .ref aN_selves, .ref aN_cries, .int N_leaves, .ref aN_parts, .int N_pasts, .ref aN_past])), (aP, .inl (gJ G, nP, .inr (.inl P_c)))] none [(aN, .inr (0, [.int N_width, .int N_height, .long N_everywhere, .long N_firstColumn, .long N_lastColumn, .ref aN_grounds, .ref aN_airs, .ref aN_tolds, .ref aN_fees, .ref aN_lets, .int N_makers, .ref aN_kinds, .ref aN_cells, .ref aN_selves, .ref aN_cries, .int N_leaves, .ref aN_parts, .int N_pasts, .ref aN_past])), (aP, .inl (gJ G, nP, .inr (.inl res)))] := by
  refine Ct.mk (by decide) (Nat.le_of_ble_eq_true rfl) ?_
  intro p e s m args below meth c ls A Q C hE hW hl hQ
  have C : Cx p s args m c meth "LentAir$Land" y_Ld_startRows b_Ld_startRows 3 none := C
  have hl : lv_has ls 3 [(0, .ref aN), (1, .ref aP)] := hl
  unfold f_Ld_startRows at h
  refine lv_iconst (v := 0) C.1.1 C.1.2.1 d_Ld_startRows_0 (by decide) ?_
  refine lv_istore_n (lv' := [(2, .int 0), (0, .ref aN), (1, .ref aP)]) C.1.1 C.1.2.1 d_Ld_startRows_1 rfl hl (by decide) rfl (fun ls hl => ?_)
  refine lp_at (P := fun ((x1, x2) : Int32 × (Nat → Int64)) => ∀ (H : Heap) (locs : List Loc) (ls : Array Slot), Wd G A s.heap H locs [(aN, .inr (0, [.int N_width, .int N_height, .long N_everywhere, .long N_firstColumn, .long N_lastColumn, .ref aN_grounds, .ref aN_airs, .ref aN_tolds, .ref aN_fees, .ref aN_lets, .int N_makers, .ref aN_kinds, .ref aN_cells, .ref aN_selves, .ref aN_cries, .int N_leaves, .ref aN_parts, .int N_pasts, .ref aN_past])), (aP, .inl (gJ G, nP, .inr (.inl x2)))] → lv_has ls 3 [(0, .ref aN), (1, .ref aP), (2, .int x1)] → W p l e (RM 0 0) s m args below meth c H locs 0 0 Q (F0 m 2 ls [])) ?_ FU _ h _ _ _ hW (lv_sub hl [1, 2, 0] rfl)
  clear h hl hW
  intro rec2 ih2
  intro x h
  obtain ⟨x1, x2⟩ := x
  unfold f_Ld_startRows_L2 at h
  intro H locs ls hW hl
  refine lv_iload_n C.1.1 C.1.2.1 d_Ld_startRows_2 rfl (lv_at hl 2 rfl) ?_
  refine lv_aload_n C.1.1 C.1.2.1 d_Ld_startRows_3 rfl (lv_at hl 1 rfl) ?_
  refine x_alen (v := Int32.ofNat nP) C hE hW 1 1 rfl rfl rfl d_Ld_startRows_4 ?_
  refine lv_icmp_ge (tgt := 29) C.1.1 C.1.2.1 d_Ld_startRows_5 (by decide) (fun cc => ?_) (fun cc => ?_)
  · replace h := it_t cc h
    obtain rfl := Option.some.inj h
    exact x_vret C hW rfl rfl hQ d_Ld_startRows_29
  · replace h := it_f cc h
    refine lv_aload_n C.1.1 C.1.2.1 d_Ld_startRows_8 rfl (lv_at hl 1 rfl) ?_
    refine lv_iload_n C.1.1 C.1.2.1 d_Ld_startRows_9 rfl (lv_at hl 2 rfl) ?_
    refine lv_iload_n C.1.1 C.1.2.1 d_Ld_startRows_10 rfl (lv_at hl 2 rfl) ?_
    refine jn_at (P := fun (x3 : Int64) => ∀ (H : Heap) (locs : List Loc) (ls : Array Slot), Wd G A s.heap H locs [(aN, .inr (0, [.int N_width, .int N_height, .long N_everywhere, .long N_firstColumn, .long N_lastColumn, .ref aN_grounds, .ref aN_airs, .ref aN_tolds, .ref aN_fees, .ref aN_lets, .int N_makers, .ref aN_kinds, .ref aN_cells, .ref aN_selves, .ref aN_cries, .int N_leaves, .ref aN_parts, .int N_pasts, .ref aN_past])), (aP, .inl (gJ G, nP, .inr (.inl x2)))] → lv_has ls 3 [(0, .ref aN), (1, .ref aP), (2, .int x1)] → W p l e (RM 0 0) s m args below meth c H locs 0 0 Q (F0 m 22 ls [.long x3, .int x1, .ref aP])) h ?_ ?_
    · skip
      intro x3 h
      intro H locs ls hW hl
      obtain ⟨hg, h⟩ := gd_at h
      obtain ⟨x4, ex4⟩ : ∃ y : Nat → Int64, y = vp_updL x2 x1.toNatClampNeg x3 := ⟨_, rfl⟩
      replace h := lt_at ex4 h
      refine x_last (ws' := [(aN, .inr (0, [.int N_width, .int N_height, .long N_everywhere, .long N_firstColumn, .long N_lastColumn, .ref aN_grounds, .ref aN_airs, .ref aN_tolds, .ref aN_fees, .ref aN_lets, .int N_makers, .ref aN_kinds, .ref aN_cells, .ref aN_selves, .ref aN_cries, .int N_leaves, .ref aN_parts, .int N_pasts, .ref aN_past])), (aP, .inl (gJ G, nP, .inr (.inl x4)))]) C hE hW 1 rfl (inB_in hg) (by subst ex4; rfl) d_Ld_startRows_22 (fun H locs hW => ?_)
      obtain ⟨x5, ex5⟩ : ∃ y : Int32, y = x1 + 1 := ⟨_, rfl⟩
      replace h := lt_at ex5 h
      refine lv_iinc (v := x5) (lv' := [(2, .int x5), (0, .ref aN), (1, .ref aP)]) C.1.1 C.1.2.1 d_Ld_startRows_23 hl (k := 2) rfl (by rw [ex5]; rfl) (by decide) rfl (fun ls hl => ?_)
      refine lv_goto (tgt := 2) C.1.1 C.1.2.1 d_Ld_startRows_26 (by decide) ?_
      exact ih2 _ h _ _ _ hW (lv_sub hl [1, 2, 0] rfl)
    · intro J22 hJ22 h
      refine lv_if_ne (tgt := 21) C.1.1 C.1.2.1 d_Ld_startRows_11 (by decide) (fun cc => ?_) (fun cc => ?_)
      · replace h := it_f cc h
        refine lv_lconst (v := 0) C.1.1 C.1.2.1 d_Ld_startRows_21 (by decide) ?_
        exact hJ22 _ h _ _ _ hW (lv_sub hl [0, 1, 2] rfl)
      · replace h := it_t cc h
        refine lv_aload_n C.1.1 C.1.2.1 d_Ld_startRows_14 rfl (lv_at hl 0 rfl) ?_
        refine x_get C hE hW fl_Ld_57 0 rfl rfl d_Ld_startRows_15 ?_
        refine lv_goto (tgt := 22) C.1.1 C.1.2.1 d_Ld_startRows_18 (by decide) ?_
        exact hJ22 _ h _ _ _ hW (lv_sub hl [0, 1, 2] rfl)
set_option maxHeartbeats 4000000 in
set_option maxRecDepth 100000 in
theorem c_Ld_lay (l : Launch) (G : Gl) (aN : Nat) (aN_grounds : Nat) (aN_airs : Nat) (aN_tolds : Nat) (aN_fees : Nat) (aN_lets : Nat) (aN_kinds : Nat) (aN_cells : Nat) (aN_selves : Nat) (aN_cries : Nat) (aN_parts : Nat) (aN_past : Nat) (N_width : Int32) (N_height : Int32) (N_everywhere : Int64) (N_firstColumn : Int64) (N_lastColumn : Int64) (N_makers : Int32) (N_leaves : Int32) (N_pasts : Int32) (N_grounds : Nat → Int64) (N_airs : Nat → Int64) (N_tolds : Nat → Int64) (N_fees : Nat → Int32) (N_lets : Nat → Int32) (p1 : Int32) (p2 : Int32) {res : Int32 × Int32 × Int64 × Int64 × Int64 × (Nat → Int64) × (Nat → Int64) × (Nat → Int64) × (Nat → Int32) × (Nat → Int32) × Int32 × Int32 × Int32} (h : f_Ld_lay N_grounds N_airs N_tolds N_fees N_lets p1 p2 = some res) : Ct l y_Ld_lay b_Ld_lay 4 none 1 23 G [.ref aN, .int p1, .int p2] [(aN, .inr (0, [.int N_width, .int N_height, .long N_everywhere, .long N_firstColumn, .long N_lastColumn, .ref aN_grounds, .ref aN_airs, .ref aN_tolds, .ref aN_fees, .ref aN_lets, .int N_makers, .ref aN_kinds, .ref aN_cells, .ref aN_selves, .ref aN_cries, .int N_leaves, .ref aN_parts, .int N_pasts, .ref aN_past])), (aN_grounds, .inl (gJ G, 3, .inr (.inl N_grounds))), (aN_airs, .inl (gJ G, 6, .inr (.inl N_airs))), (aN_tolds, .inl (gJ G, 3, .inr (.inl N_tolds))), (aN_fees, .inl (gI G, 6, .inl N_fees)), (aN_lets, .inl (gI G, 6, .inl N_lets))] none [(aN, .inr (0, [.int (res.1), .int (res.2.1), .long (res.2.2.1), .long (res.2.2.2.1), .long (res.2.2.2.2.1), .ref aN_grounds, .ref aN_airs, .ref aN_tolds, .ref aN_fees, .ref aN_lets, .int (res.2.2.2.2.2.2.2.2.2.2.1), .ref aN_kinds, .ref aN_cells, .ref aN_selves, .ref aN_cries, .int (res.2.2.2.2.2.2.2.2.2.2.2.1), .ref aN_parts, .int (res.2.2.2.2.2.2.2.2.2.2.2.2), .ref aN_past])), (aN_grounds, .inl (gJ G, 3, .inr (.inl (res.2.2.2.2.2.1)))), (aN_airs, .inl (gJ G, 6, .inr (.inl (res.2.2.2.2.2.2.1)))), (aN_tolds, .inl (gJ G, 3, .inr (.inl (res.2.2.2.2.2.2.2.1)))), (aN_fees, .inl (gI G, 6, .inl (res.2.2.2.2.2.2.2.2.1))), (aN_lets, .inl (gI G, 6, .inl (res.2.2.2.2.2.2.2.2.2.1)))] := by
  refine Ct.mk (by decide) (Nat.le_of_ble_eq_true rfl) ?_
  intro p e s m args below meth c ls A Q C hE hW hl hQ
  have C : Cx p s args m c meth "LentAir$Land" y_Ld_lay b_Ld_lay 4 none := C
  have hl : lv_has ls 4 [(0, .ref aN), (1, .int p1), (2, .int p2)] := hl
  unfold f_Ld_lay at h
  refine lv_aload_n C.1.1 C.1.2.1 d_Ld_lay_0 rfl (lv_at hl 0 rfl) ?_
  refine lv_iload_n C.1.1 C.1.2.1 d_Ld_lay_1 rfl (lv_at hl 1 rfl) ?_
  refine x_put (ws' := [(aN, .inr (0, [.int p1, .int N_height, .long N_everywhere, .long N_firstColumn, .long N_lastColumn, .ref aN_grounds, .ref aN_airs, .ref aN_tolds, .ref aN_fees, .ref aN_lets, .int N_makers, .ref aN_kinds, .ref aN_cells, .ref aN_selves, .ref aN_cries, .int N_leaves, .ref aN_parts, .int N_pasts, .ref aN_past])), (aN_grounds, .inl (gJ G, 3, .inr (.inl N_grounds))), (aN_airs, .inl (gJ G, 6, .inr (.inl N_airs))), (aN_tolds, .inl (gJ G, 3, .inr (.inl N_tolds))), (aN_fees, .inl (gI G, 6, .inl N_fees)), (aN_lets, .inl (gI G, 6, .inl N_lets))]) C hE hW fp_Ld_50 0 rfl rfl rfl (Nat.le_of_ble_eq_true rfl) rfl d_Ld_lay_2 (fun H locs hW => ?_)
  refine lv_aload_n C.1.1 C.1.2.1 d_Ld_lay_5 rfl (lv_at hl 0 rfl) ?_
  refine lv_iload_n C.1.1 C.1.2.1 d_Ld_lay_6 rfl (lv_at hl 2 rfl) ?_
  refine x_put (ws' := [(aN, .inr (0, [.int p1, .int p2, .long N_everywhere, .long N_firstColumn, .long N_lastColumn, .ref aN_grounds, .ref aN_airs, .ref aN_tolds, .ref aN_fees, .ref aN_lets, .int N_makers, .ref aN_kinds, .ref aN_cells, .ref aN_selves, .ref aN_cries, .int N_leaves, .ref aN_parts, .int N_pasts, .ref aN_past])), (aN_grounds, .inl (gJ G, 3, .inr (.inl N_grounds))), (aN_airs, .inl (gJ G, 6, .inr (.inl N_airs))), (aN_tolds, .inl (gJ G, 3, .inr (.inl N_tolds))), (aN_fees, .inl (gI G, 6, .inl N_fees)), (aN_lets, .inl (gI G, 6, .inl N_lets))]) C hE hW fp_Ld_54 0 rfl rfl rfl (Nat.le_of_ble_eq_true rfl) rfl d_Ld_lay_7 (fun H locs hW => ?_)
  refine lv_aload_n C.1.1 C.1.2.1 d_Ld_lay_10 rfl (lv_at hl 0 rfl) ?_
  refine lv_lconst (v := 1) C.1.1 C.1.2.1 d_Ld_lay_11 (by decide) ?_
  refine lv_iload_n C.1.1 C.1.2.1 d_Ld_lay_12 rfl (lv_at hl 1 rfl) ?_
  refine lv_iload_n C.1.1 C.1.2.1 d_Ld_lay_13 rfl (lv_at hl 2 rfl) ?_
  refine lv_imul C.1.1 C.1.2.1 d_Ld_lay_14 ?_
  refine lv_lshl C.1.1 C.1.2.1 d_Ld_lay_15 rfl ?_
  refine lv_lconst (v := 1) C.1.1 C.1.2.1 d_Ld_lay_16 (by decide) ?_
  refine lv_lsub C.1.1 C.1.2.1 d_Ld_lay_17 ?_
  refine lv_topl (fun x1 ex1 => ?_)
  replace h := lt_at ex1 h
  refine x_put (ws' := [(aN, .inr (0, [.int p1, .int p2, .long x1, .long N_firstColumn, .long N_lastColumn, .ref aN_grounds, .ref aN_airs, .ref aN_tolds, .ref aN_fees, .ref aN_lets, .int N_makers, .ref aN_kinds, .ref aN_cells, .ref aN_selves, .ref aN_cries, .int N_leaves, .ref aN_parts, .int N_pasts, .ref aN_past])), (aN_grounds, .inl (gJ G, 3, .inr (.inl N_grounds))), (aN_airs, .inl (gJ G, 6, .inr (.inl N_airs))), (aN_tolds, .inl (gJ G, 3, .inr (.inl N_tolds))), (aN_fees, .inl (gI G, 6, .inl N_fees)), (aN_lets, .inl (gI G, 6, .inl N_lets))]) C hE hW fp_Ld_57 0 rfl rfl rfl (Nat.le_of_ble_eq_true rfl) rfl d_Ld_lay_18 (fun H locs hW => ?_)
  refine lv_aload_n C.1.1 C.1.2.1 d_Ld_lay_21 rfl (lv_at hl 0 rfl) ?_
  refine lv_lconst (v := 0) C.1.1 C.1.2.1 d_Ld_lay_22 (by decide) ?_
  refine x_put (ws' := [(aN, .inr (0, [.int p1, .int p2, .long x1, .long 0, .long N_lastColumn, .ref aN_grounds, .ref aN_airs, .ref aN_tolds, .ref aN_fees, .ref aN_lets, .int N_makers, .ref aN_kinds, .ref aN_cells, .ref aN_selves, .ref aN_cries, .int N_leaves, .ref aN_parts, .int N_pasts, .ref aN_past])), (aN_grounds, .inl (gJ G, 3, .inr (.inl N_grounds))), (aN_airs, .inl (gJ G, 6, .inr (.inl N_airs))), (aN_tolds, .inl (gJ G, 3, .inr (.inl N_tolds))), (aN_fees, .inl (gI G, 6, .inl N_fees)), (aN_lets, .inl (gI G, 6, .inl N_lets))]) C hE hW fp_Ld_61 0 rfl rfl rfl (Nat.le_of_ble_eq_true rfl) rfl d_Ld_lay_23 (fun H locs hW => ?_)
  refine lv_iconst (v := 0) C.1.1 C.1.2.1 d_Ld_lay_26 (by decide) ?_
  refine lv_istore_n (lv' := [(3, .int 0), (0, .ref aN), (1, .int p1), (2, .int p2)]) C.1.1 C.1.2.1 d_Ld_lay_27 rfl hl (by decide) rfl (fun ls hl => ?_)
  refine jn_at (P := fun (x2 : Int64) => ∀ (H : Heap) (locs : List Loc) (ls : Array Slot), Wd G A s.heap H locs [(aN, .inr (0, [.int p1, .int p2, .long x1, .long x2, .long N_lastColumn, .ref aN_grounds, .ref aN_airs, .ref aN_tolds, .ref aN_fees, .ref aN_lets, .int N_makers, .ref aN_kinds, .ref aN_cells, .ref aN_selves, .ref aN_cries, .int N_leaves, .ref aN_parts, .int N_pasts, .ref aN_past])), (aN_grounds, .inl (gJ G, 3, .inr (.inl N_grounds))), (aN_airs, .inl (gJ G, 6, .inr (.inl N_airs))), (aN_tolds, .inl (gJ G, 3, .inr (.inl N_tolds))), (aN_fees, .inl (gI G, 6, .inl N_fees)), (aN_lets, .inl (gI G, 6, .inl N_lets))] → lv_has ls 4 [(0, .ref aN), (1, .int p1)] → W p l e (RM 1 23) s m args below meth c H locs 0 0 Q (F0 m 53 ls [])) h ?_ ?_
  · skip
    intro x2 h
    intro H locs ls hW hl
    refine lv_aload_n C.1.1 C.1.2.1 d_Ld_lay_53 rfl (lv_at hl 0 rfl) ?_
    refine lv_aload_n C.1.1 C.1.2.1 d_Ld_lay_54 rfl (lv_at hl 0 rfl) ?_
    refine x_get C hE hW fl_Ld_61 0 rfl rfl d_Ld_lay_55 ?_
    refine lv_iload_n C.1.1 C.1.2.1 d_Ld_lay_58 rfl (lv_at hl 1 rfl) ?_
    refine lv_iconst (v := 1) C.1.1 C.1.2.1 d_Ld_lay_59 (by decide) ?_
    refine lv_isub C.1.1 C.1.2.1 d_Ld_lay_60 ?_
    refine lv_lshl C.1.1 C.1.2.1 d_Ld_lay_61 rfl ?_
    refine lv_topl (fun x3 ex3 => ?_)
    replace h := lt_at ex3 h
    refine x_put (ws' := [(aN, .inr (0, [.int p1, .int p2, .long x1, .long x2, .long x3, .ref aN_grounds, .ref aN_airs, .ref aN_tolds, .ref aN_fees, .ref aN_lets, .int N_makers, .ref aN_kinds, .ref aN_cells, .ref aN_selves, .ref aN_cries, .int N_leaves, .ref aN_parts, .int N_pasts, .ref aN_past])), (aN_grounds, .inl (gJ G, 3, .inr (.inl N_grounds))), (aN_airs, .inl (gJ G, 6, .inr (.inl N_airs))), (aN_tolds, .inl (gJ G, 3, .inr (.inl N_tolds))), (aN_fees, .inl (gI G, 6, .inl N_fees)), (aN_lets, .inl (gI G, 6, .inl N_lets))]) C hE hW fp_Ld_64 0 rfl rfl rfl (Nat.le_of_ble_eq_true rfl) rfl d_Ld_lay_62 (fun H locs hW => ?_)
    refine lv_aload_n C.1.1 C.1.2.1 d_Ld_lay_65 rfl (lv_at hl 0 rfl) ?_
    refine lv_aload_n C.1.1 C.1.2.1 d_Ld_lay_66 rfl (lv_at hl 0 rfl) ?_
    refine x_get C hE hW fl_Ld_9 0 rfl rfl d_Ld_lay_67 ?_
    obtain ⟨x4, hc5, h⟩ := bd_at h
    refine x_callV (ws' := [(aN, .inr (0, [.int p1, .int p2, .long x1, .long x2, .long x3, .ref aN_grounds, .ref aN_airs, .ref aN_tolds, .ref aN_fees, .ref aN_lets, .int N_makers, .ref aN_kinds, .ref aN_cells, .ref aN_selves, .ref aN_cries, .int N_leaves, .ref aN_parts, .int N_pasts, .ref aN_past])), (aN_grounds, .inl (gJ G, 3, .inr (.inl x4))), (aN_airs, .inl (gJ G, 6, .inr (.inl N_airs))), (aN_tolds, .inl (gJ G, 3, .inr (.inl N_tolds))), (aN_fees, .inl (gI G, 6, .inl N_fees)), (aN_lets, .inl (gI G, 6, .inl N_lets))]) (stk := []) (rest := []) (As := [.ref aN_grounds]) (q0 := 0) C hE hW (c_Ld_startRows l G aN aN_grounds aN_airs aN_tolds aN_fees aN_lets aN_kinds aN_cells aN_selves aN_cries aN_parts aN_past aN_grounds p1 p2 x1 x2 x3 N_makers N_leaves N_pasts 3 N_grounds hc5) cv_Ld_startRows tw108 hl rfl rfl (Nat.le_of_ble_eq_true rfl) rfl rfl rfl ⟨Nat.le_of_ble_eq_true rfl, Nat.le_of_ble_eq_true rfl⟩ ⟨Nat.zero_le _, Nat.zero_le _⟩ [0, 1] [2, 3, 4, 5] [4, 5, 0, 1, 2, 3] rfl rfl rfl (by decide) rfl rfl rfl rfl d_Ld_lay_70 (fun H locs hW => ?_)
    refine lv_aload_n C.1.1 C.1.2.1 d_Ld_lay_73 rfl (lv_at hl 0 rfl) ?_
    refine lv_aload_n C.1.1 C.1.2.1 d_Ld_lay_74 rfl (lv_at hl 0 rfl) ?_
    refine x_get C hE hW fl_Ld_15 0 rfl rfl d_Ld_lay_75 ?_
    obtain ⟨x6, hc7, h⟩ := bd_at h
    refine x_callV (ws' := [(aN, .inr (0, [.int p1, .int p2, .long x1, .long x2, .long x3, .ref aN_grounds, .ref aN_airs, .ref aN_tolds, .ref aN_fees, .ref aN_lets, .int N_makers, .ref aN_kinds, .ref aN_cells, .ref aN_selves, .ref aN_cries, .int N_leaves, .ref aN_parts, .int N_pasts, .ref aN_past])), (aN_grounds, .inl (gJ G, 3, .inr (.inl x4))), (aN_airs, .inl (gJ G, 6, .inr (.inl x6))), (aN_tolds, .inl (gJ G, 3, .inr (.inl N_tolds))), (aN_fees, .inl (gI G, 6, .inl N_fees)), (aN_lets, .inl (gI G, 6, .inl N_lets))]) (stk := []) (rest := []) (As := [.ref aN_airs]) (q0 := 0) C hE hW (c_Ld_startRows l G aN aN_grounds aN_airs aN_tolds aN_fees aN_lets aN_kinds aN_cells aN_selves aN_cries aN_parts aN_past aN_airs p1 p2 x1 x2 x3 N_makers N_leaves N_pasts 6 N_airs hc7) cv_Ld_startRows tw108 hl rfl rfl (Nat.le_of_ble_eq_true rfl) rfl rfl rfl ⟨Nat.le_of_ble_eq_true rfl, Nat.le_of_ble_eq_true rfl⟩ ⟨Nat.zero_le _, Nat.zero_le _⟩ [0, 2] [1, 3, 4, 5] [4, 0, 5, 1, 2, 3] rfl rfl rfl (by decide) rfl rfl rfl rfl d_Ld_lay_78 (fun H locs hW => ?_)
    refine lv_aload_n C.1.1 C.1.2.1 d_Ld_lay_81 rfl (lv_at hl 0 rfl) ?_
    refine lv_aload_n C.1.1 C.1.2.1 d_Ld_lay_82 rfl (lv_at hl 0 rfl) ?_
    refine x_get C hE hW fl_Ld_18 0 rfl rfl d_Ld_lay_83 ?_
    obtain ⟨x8, hc9, h⟩ := bd_at h
    refine x_callV (ws' := [(aN, .inr (0, [.int p1, .int p2, .long x1, .long x2, .long x3, .ref aN_grounds, .ref aN_airs, .ref aN_tolds, .ref aN_fees, .ref aN_lets, .int N_makers, .ref aN_kinds, .ref aN_cells, .ref aN_selves, .ref aN_cries, .int N_leaves, .ref aN_parts, .int N_pasts, .ref aN_past])), (aN_grounds, .inl (gJ G, 3, .inr (.inl x4))), (aN_airs, .inl (gJ G, 6, .inr (.inl x6))), (aN_tolds, .inl (gJ G, 3, .inr (.inl x8))), (aN_fees, .inl (gI G, 6, .inl N_fees)), (aN_lets, .inl (gI G, 6, .inl N_lets))]) (stk := []) (rest := []) (As := [.ref aN_tolds]) (q0 := 0) C hE hW (c_Ld_startRows l G aN aN_grounds aN_airs aN_tolds aN_fees aN_lets aN_kinds aN_cells aN_selves aN_cries aN_parts aN_past aN_tolds p1 p2 x1 x2 x3 N_makers N_leaves N_pasts 3 N_tolds hc9) cv_Ld_startRows tw108 hl rfl rfl (Nat.le_of_ble_eq_true rfl) rfl rfl rfl ⟨Nat.le_of_ble_eq_true rfl, Nat.le_of_ble_eq_true rfl⟩ ⟨Nat.zero_le _, Nat.zero_le _⟩ [0, 3] [1, 2, 4, 5] [4, 0, 1, 5, 2, 3] rfl rfl rfl (by decide) rfl rfl rfl rfl d_Ld_lay_86 (fun H locs hW => ?_)
    refine lv_aload_n C.1.1 C.1.2.1 d_Ld_lay_89 rfl (lv_at hl 0 rfl) ?_
    refine x_get C hE hW fl_Ld_21 0 rfl rfl d_Ld_lay_90 ?_
    refine lv_iconst (v := 1) C.1.1 C.1.2.1 d_Ld_lay_93 (by decide) ?_
    obtain ⟨x10, hc11, h⟩ := bd_at h
    refine x_callS (ws' := [(aN, .inr (0, [.int p1, .int p2, .long x1, .long x2, .long x3, .ref aN_grounds, .ref aN_airs, .ref aN_tolds, .ref aN_fees, .ref aN_lets, .int N_makers, .ref aN_kinds, .ref aN_cells, .ref aN_selves, .ref aN_cries, .int N_leaves, .ref aN_parts, .int N_pasts, .ref aN_past])), (aN_grounds, .inl (gJ G, 3, .inr (.inl x4))), (aN_airs, .inl (gJ G, 6, .inr (.inl x6))), (aN_tolds, .inl (gJ G, 3, .inr (.inl x8))), (aN_fees, .inl (gI G, 6, .inl x10)), (aN_lets, .inl (gI G, 6, .inl N_lets))]) (stk := []) (rest := []) (As := [.ref aN_fees, .int 1]) C hE hW (c_JA_fillI l G aN_fees 6 N_fees 1 hc11) cv_JA_fillI tw112 hl rfl rfl (Nat.le_of_ble_eq_true rfl) ⟨Nat.le_of_ble_eq_true rfl, Nat.le_of_ble_eq_true rfl⟩ ⟨Nat.zero_le _, Nat.zero_le _⟩ [4] [0, 1, 2, 3, 5] [0, 1, 2, 3, 5, 4] rfl rfl rfl (by decide) rfl rfl rfl rfl d_Ld_lay_94 (fun H locs hW => ?_)
    refine lv_aload_n C.1.1 C.1.2.1 d_Ld_lay_97 rfl (lv_at hl 0 rfl) ?_
    refine x_get C hE hW fl_Ld_25 0 rfl rfl d_Ld_lay_98 ?_
    refine lv_iconst (v := (-1)) C.1.1 C.1.2.1 d_Ld_lay_101 (by decide) ?_
    obtain ⟨x12, hc13, h⟩ := bd_at h
    refine x_callS (ws' := [(aN, .inr (0, [.int p1, .int p2, .long x1, .long x2, .long x3, .ref aN_grounds, .ref aN_airs, .ref aN_tolds, .ref aN_fees, .ref aN_lets, .int N_makers, .ref aN_kinds, .ref aN_cells, .ref aN_selves, .ref aN_cries, .int N_leaves, .ref aN_parts, .int N_pasts, .ref aN_past])), (aN_grounds, .inl (gJ G, 3, .inr (.inl x4))), (aN_airs, .inl (gJ G, 6, .inr (.inl x6))), (aN_tolds, .inl (gJ G, 3, .inr (.inl x8))), (aN_fees, .inl (gI G, 6, .inl x10)), (aN_lets, .inl (gI G, 6, .inl x12))]) (stk := []) (rest := []) (As := [.ref aN_lets, .int (-1)]) C hE hW (c_JA_fillI l G aN_lets 6 N_lets (-1) hc13) cv_JA_fillI tw112 hl rfl rfl (Nat.le_of_ble_eq_true rfl) ⟨Nat.le_of_ble_eq_true rfl, Nat.le_of_ble_eq_true rfl⟩ ⟨Nat.zero_le _, Nat.zero_le _⟩ [5] [0, 1, 2, 3, 4] [0, 1, 2, 3, 4, 5] rfl rfl rfl (by decide) rfl rfl rfl rfl d_Ld_lay_102 (fun H locs hW => ?_)
    refine lv_aload_n C.1.1 C.1.2.1 d_Ld_lay_105 rfl (lv_at hl 0 rfl) ?_
    refine lv_iconst (v := 0) C.1.1 C.1.2.1 d_Ld_lay_106 (by decide) ?_
    refine x_put (ws' := [(aN, .inr (0, [.int p1, .int p2, .long x1, .long x2, .long x3, .ref aN_grounds, .ref aN_airs, .ref aN_tolds, .ref aN_fees, .ref aN_lets, .int 0, .ref aN_kinds, .ref aN_cells, .ref aN_selves, .ref aN_cries, .int N_leaves, .ref aN_parts, .int N_pasts, .ref aN_past])), (aN_grounds, .inl (gJ G, 3, .inr (.inl x4))), (aN_airs, .inl (gJ G, 6, .inr (.inl x6))), (aN_tolds, .inl (gJ G, 3, .inr (.inl x8))), (aN_fees, .inl (gI G, 6, .inl x10)), (aN_lets, .inl (gI G, 6, .inl x12))]) C hE hW fp_Ld_77 0 rfl rfl rfl (Nat.le_of_ble_eq_true rfl) rfl d_Ld_lay_107 (fun H locs hW => ?_)
    refine lv_aload_n C.1.1 C.1.2.1 d_Ld_lay_110 rfl (lv_at hl 0 rfl) ?_
    refine lv_iconst (v := 0) C.1.1 C.1.2.1 d_Ld_lay_111 (by decide) ?_
    refine x_put (ws' := [(aN, .inr (0, [.int p1, .int p2, .long x1, .long x2, .long x3, .ref aN_grounds, .ref aN_airs, .ref aN_tolds, .ref aN_fees, .ref aN_lets, .int 0, .ref aN_kinds, .ref aN_cells, .ref aN_selves, .ref aN_cries, .int 0, .ref aN_parts, .int N_pasts, .ref aN_past])), (aN_grounds, .inl (gJ G, 3, .inr (.inl x4))), (aN_airs, .inl (gJ G, 6, .inr (.inl x6))), (aN_tolds, .inl (gJ G, 3, .inr (.inl x8))), (aN_fees, .inl (gI G, 6, .inl x10)), (aN_lets, .inl (gI G, 6, .inl x12))]) C hE hW fp_Ld_80 0 rfl rfl rfl (Nat.le_of_ble_eq_true rfl) rfl d_Ld_lay_112 (fun H locs hW => ?_)
    refine lv_aload_n C.1.1 C.1.2.1 d_Ld_lay_115 rfl (lv_at hl 0 rfl) ?_
    refine lv_iconst (v := 0) C.1.1 C.1.2.1 d_Ld_lay_116 (by decide) ?_
    refine x_put (ws' := [(aN, .inr (0, [.int p1, .int p2, .long x1, .long x2, .long x3, .ref aN_grounds, .ref aN_airs, .ref aN_tolds, .ref aN_fees, .ref aN_lets, .int 0, .ref aN_kinds, .ref aN_cells, .ref aN_selves, .ref aN_cries, .int 0, .ref aN_parts, .int 0, .ref aN_past])), (aN_grounds, .inl (gJ G, 3, .inr (.inl x4))), (aN_airs, .inl (gJ G, 6, .inr (.inl x6))), (aN_tolds, .inl (gJ G, 3, .inr (.inl x8))), (aN_fees, .inl (gI G, 6, .inl x10)), (aN_lets, .inl (gI G, 6, .inl x12))]) C hE hW fp_Ld_83 0 rfl rfl rfl (Nat.le_of_ble_eq_true rfl) rfl d_Ld_lay_117 (fun H locs hW => ?_)
    obtain rfl := Option.some.inj h
    exact x_vret C hW rfl rfl hQ d_Ld_lay_120
  · intro J53 hJ53 h
    refine lp_at (P := fun ((x14, x15) : Int32 × Int64) => ∀ (H : Heap) (locs : List Loc) (ls : Array Slot), Wd G A s.heap H locs [(aN, .inr (0, [.int p1, .int p2, .long x1, .long x15, .long N_lastColumn, .ref aN_grounds, .ref aN_airs, .ref aN_tolds, .ref aN_fees, .ref aN_lets, .int N_makers, .ref aN_kinds, .ref aN_cells, .ref aN_selves, .ref aN_cries, .int N_leaves, .ref aN_parts, .int N_pasts, .ref aN_past])), (aN_grounds, .inl (gJ G, 3, .inr (.inl N_grounds))), (aN_airs, .inl (gJ G, 6, .inr (.inl N_airs))), (aN_tolds, .inl (gJ G, 3, .inr (.inl N_tolds))), (aN_fees, .inl (gI G, 6, .inl N_fees)), (aN_lets, .inl (gI G, 6, .inl N_lets))] → lv_has ls 4 [(0, .ref aN), (1, .int p1), (2, .int p2), (3, .int x14)] → W p l e (RM 1 23) s m args below meth c H locs 0 0 Q (F0 m 28 ls [])) ?_ FU _ h _ _ _ hW (lv_sub hl [1, 2, 3, 0] rfl)
    clear h hl hW
    intro rec28 ih28
    intro x h
    obtain ⟨x14, x15⟩ := x
    unfold f_Ld_lay_L28 at h
    intro H locs ls hW hl
    refine lv_iload_n C.1.1 C.1.2.1 d_Ld_lay_28 rfl (lv_at hl 3 rfl) ?_
    refine lv_iload_n C.1.1 C.1.2.1 d_Ld_lay_29 rfl (lv_at hl 2 rfl) ?_
    refine lv_icmp_ge (tgt := 53) C.1.1 C.1.2.1 d_Ld_lay_30 (by decide) (fun cc => ?_) (fun cc => ?_)
    · replace h := it_t cc h
      exact hJ53 _ h _ _ _ hW (lv_sub hl [0, 1] rfl)
    · replace h := it_f cc h
      refine lv_aload_n C.1.1 C.1.2.1 d_Ld_lay_33 rfl (lv_at hl 0 rfl) ?_
      refine lv_dup C.1.1 C.1.2.1 d_Ld_lay_34 rfl ?_
      refine x_get C hE hW fl_Ld_61 0 rfl rfl d_Ld_lay_35 ?_
      refine lv_lconst (v := 1) C.1.1 C.1.2.1 d_Ld_lay_38 (by decide) ?_
      refine lv_iload_n C.1.1 C.1.2.1 d_Ld_lay_39 rfl (lv_at hl 1 rfl) ?_
      refine lv_iload_n C.1.1 C.1.2.1 d_Ld_lay_40 rfl (lv_at hl 3 rfl) ?_
      refine lv_imul C.1.1 C.1.2.1 d_Ld_lay_41 ?_
      refine lv_lshl C.1.1 C.1.2.1 d_Ld_lay_42 rfl ?_
      refine lv_lor C.1.1 C.1.2.1 d_Ld_lay_43 ?_
      refine lv_topl (fun x16 ex16 => ?_)
      replace h := lt_at ex16 h
      refine x_put (ws' := [(aN, .inr (0, [.int p1, .int p2, .long x1, .long x16, .long N_lastColumn, .ref aN_grounds, .ref aN_airs, .ref aN_tolds, .ref aN_fees, .ref aN_lets, .int N_makers, .ref aN_kinds, .ref aN_cells, .ref aN_selves, .ref aN_cries, .int N_leaves, .ref aN_parts, .int N_pasts, .ref aN_past])), (aN_grounds, .inl (gJ G, 3, .inr (.inl N_grounds))), (aN_airs, .inl (gJ G, 6, .inr (.inl N_airs))), (aN_tolds, .inl (gJ G, 3, .inr (.inl N_tolds))), (aN_fees, .inl (gI G, 6, .inl N_fees)), (aN_lets, .inl (gI G, 6, .inl N_lets))]) C hE hW fp_Ld_61 0 rfl rfl rfl (Nat.le_of_ble_eq_true rfl) rfl d_Ld_lay_44 (fun H locs hW => ?_)
      obtain ⟨x17, ex17⟩ : ∃ y : Int32, y = x14 + 1 := ⟨_, rfl⟩
      replace h := lt_at ex17 h
      refine lv_iinc (v := x17) (lv' := [(3, .int x17), (0, .ref aN), (1, .int p1), (2, .int p2)]) C.1.1 C.1.2.1 d_Ld_lay_47 hl (k := 3) rfl (by rw [ex17]; rfl) (by decide) rfl (fun ls hl => ?_)
      refine lv_goto (tgt := 28) C.1.1 C.1.2.1 d_Ld_lay_50 (by decide) ?_
      exact ih28 _ h _ _ _ hW (lv_sub hl [1, 2, 3, 0] rfl)
set_option maxHeartbeats 4000000 in
set_option maxRecDepth 100000 in
theorem c_Ld_copyFrom (l : Launch) (G : Gl) (aN : Nat) (aN_grounds : Nat) (aN_airs : Nat) (aN_tolds : Nat) (aN_fees : Nat) (aN_lets : Nat) (aN_kinds : Nat) (aN_cells : Nat) (aN_selves : Nat) (aN_cries : Nat) (aN_parts : Nat) (aN_past : Nat) (aO : Nat) (aO_grounds : Nat) (aO_airs : Nat) (aO_tolds : Nat) (aO_fees : Nat) (aO_lets : Nat) (aO_kinds : Nat) (aO_cells : Nat) (aO_selves : Nat) (aO_cries : Nat) (aO_parts : Nat) (aO_past : Nat) (N_width : Int32) (N_height : Int32) (N_everywhere : Int64) (N_firstColumn : Int64) (N_lastColumn : Int64) (N_makers : Int32) (N_leaves : Int32) (N_pasts : Int32) (O_width : Int32) (O_height : Int32) (O_everywhere : Int64) (O_firstColumn : Int64) (O_lastColumn : Int64) (O_makers : Int32) (O_leaves : Int32) (O_pasts : Int32) (N_grounds : Nat → Int64) (N_airs : Nat → Int64) (N_tolds : Nat → Int64) (N_fees : Nat → Int32) (N_lets : Nat → Int32) (N_kinds : Nat → Int32) (N_cells : Nat → Int32) (N_selves : Nat → Int32) (N_cries : Nat → Int32) (N_parts : Nat → Int32) (N_past : Nat → Int32) (O_grounds : Nat → Int64) (O_airs : Nat → Int64) (O_tolds : Nat → Int64) (O_fees : Nat → Int32) (O_lets : Nat → Int32) (O_kinds : Nat → Int32) (O_cells : Nat → Int32) (O_selves : Nat → Int32) (O_cries : Nat → Int32) (O_parts : Nat → Int32) (O_past : Nat → Int32) {res : Int32 × Int32 × Int64 × Int64 × Int64 × (Nat → Int64) × (Nat → Int64) × (Nat → Int64) × (Nat → Int32) × (Nat → Int32) × Int32 × (Nat → Int32) × (Nat → Int32) × (Nat → Int32) × (Nat → Int32) × Int32 × (Nat → Int32) × Int32 × (Nat → Int32)} (h : f_Ld_copyFrom O_width O_height O_everywhere O_firstColumn O_lastColumn O_makers O_leaves O_pasts N_grounds N_airs N_tolds N_fees N_lets N_kinds N_cells N_selves N_cries N_parts N_past O_grounds O_airs O_tolds O_fees O_lets O_kinds O_cells O_selves O_cries O_parts O_past = some res) : Ct l y_Ld_copyFrom b_Ld_copyFrom 2 none 1 40 G [.ref aN, .ref aO] [(aN, .inr (0, [.int N_width, .int N_height, .long N_everywhere, .long N_firstColumn, .long N_lastColumn, .ref aN_grounds, .ref aN_airs, .ref aN_tolds, .ref aN_fees, .ref aN_lets, .int N_makers, .ref aN_kinds, .ref aN_cells, .ref aN_selves, .ref aN_cries, .int N_leaves, .ref aN_parts, .int N_pasts, .ref aN_past])), (aN_grounds, .inl (gJ G, 3, .inr (.inl N_grounds))), (aN_airs, .inl (gJ G, 6, .inr (.inl N_airs))), (aN_tolds, .inl (gJ G, 3, .inr (.inl N_tolds))), (aN_fees, .inl (gI G, 6, .inl N_fees)), (aN_lets, .inl (gI G, 6, .inl N_lets)), (aN_kinds, .inl (gI G, 6, .inl N_kinds)), (aN_cells, .inl (gI G, 6, .inl N_cells)), (aN_selves, .inl (gI G, 6, .inl N_selves)), (aN_cries, .inl (gI G, 6, .inl N_cries)), (aN_parts, .inl (gI G, 40, .inl N_parts)), (aN_past, .inl (gI G, 328, .inl N_past)), (aO, .inr (0, [.int O_width, .int O_height, .long O_everywhere, .long O_firstColumn, .long O_lastColumn, .ref aO_grounds, .ref aO_airs, .ref aO_tolds, .ref aO_fees, .ref aO_lets, .int O_makers, .ref aO_kinds, .ref aO_cells, .ref aO_selves, .ref aO_cries, .int O_leaves, .ref aO_parts, .int O_pasts, .ref aO_past])), (aO_grounds, .inl (gJ G, 3, .inr (.inl O_grounds))), (aO_airs, .inl (gJ G, 6, .inr (.inl O_airs))), (aO_tolds, .inl (gJ G, 3, .inr (.inl O_tolds))), (aO_fees, .inl (gI G, 6, .inl O_fees)), (aO_lets, .inl (gI G, 6, .inl O_lets)), (aO_kinds, .inl (gI G, 6, .inl O_kinds)), (aO_cells, .inl (gI G, 6, .inl O_cells)), (aO_selves, .inl (gI G, 6, .inl O_selves)), (aO_cries, .inl (gI G, 6, .inl O_cries)), (aO_parts, .inl (gI G, 40, .inl O_parts)), (aO_past, .inl (gI G, 328, .inl O_past))] none [(aN, .inr (0, [.int (res.1), .int (res.2.1), .long (res.2.2.1), .long (res.2.2.2.1), .long (res.2.2.2.2.1), .ref aN_grounds, .ref aN_airs, .ref aN_tolds, .ref aN_fees, .ref aN_lets, .int (res.2.2.2.2.2.2.2.2.2.2.1), .ref aN_kinds, .ref aN_cells, .ref aN_selves, .ref aN_cries, .int (res.2.2.2.2.2.2.2.2.2.2.2.2.2.2.2.1), .ref aN_parts, .int (res.2.2.2.2.2.2.2.2.2.2.2.2.2.2.2.2.2.1), .ref aN_past])), (aN_grounds, .inl (gJ G, 3, .inr (.inl (res.2.2.2.2.2.1)))), (aN_airs, .inl (gJ G, 6, .inr (.inl (res.2.2.2.2.2.2.1)))), (aN_tolds, .inl (gJ G, 3, .inr (.inl (res.2.2.2.2.2.2.2.1)))), (aN_fees, .inl (gI G, 6, .inl (res.2.2.2.2.2.2.2.2.1))), (aN_lets, .inl (gI G, 6, .inl (res.2.2.2.2.2.2.2.2.2.1))), (aN_kinds, .inl (gI G, 6, .inl (res.2.2.2.2.2.2.2.2.2.2.2.1))), (aN_cells, .inl (gI G, 6, .inl (res.2.2.2.2.2.2.2.2.2.2.2.2.1))), (aN_selves, .inl (gI G, 6, .inl (res.2.2.2.2.2.2.2.2.2.2.2.2.2.1))), (aN_cries, .inl (gI G, 6, .inl (res.2.2.2.2.2.2.2.2.2.2.2.2.2.2.1))), (aN_parts, .inl (gI G, 40, .inl (res.2.2.2.2.2.2.2.2.2.2.2.2.2.2.2.2.1))), (aN_past, .inl (gI G, 328, .inl (res.2.2.2.2.2.2.2.2.2.2.2.2.2.2.2.2.2.2))), (aO, .inr (0, [.int O_width, .int O_height, .long O_everywhere, .long O_firstColumn, .long O_lastColumn, .ref aO_grounds, .ref aO_airs, .ref aO_tolds, .ref aO_fees, .ref aO_lets, .int O_makers, .ref aO_kinds, .ref aO_cells, .ref aO_selves, .ref aO_cries, .int O_leaves, .ref aO_parts, .int O_pasts, .ref aO_past])), (aO_grounds, .inl (gJ G, 3, .inr (.inl O_grounds))), (aO_airs, .inl (gJ G, 6, .inr (.inl O_airs))), (aO_tolds, .inl (gJ G, 3, .inr (.inl O_tolds))), (aO_fees, .inl (gI G, 6, .inl O_fees)), (aO_lets, .inl (gI G, 6, .inl O_lets)), (aO_kinds, .inl (gI G, 6, .inl O_kinds)), (aO_cells, .inl (gI G, 6, .inl O_cells)), (aO_selves, .inl (gI G, 6, .inl O_selves)), (aO_cries, .inl (gI G, 6, .inl O_cries)), (aO_parts, .inl (gI G, 40, .inl O_parts)), (aO_past, .inl (gI G, 328, .inl O_past))] := by
  refine Ct.mk (by decide) (Nat.le_of_ble_eq_true rfl) ?_
  intro p e s m args below meth c ls A Q C hE hW hl hQ
  have C : Cx p s args m c meth "LentAir$Land" y_Ld_copyFrom b_Ld_copyFrom 2 none := C
  have hl : lv_has ls 2 [(0, .ref aN), (1, .ref aO)] := hl
  unfold f_Ld_copyFrom at h
  refine lv_aload_n C.1.1 C.1.2.1 d_Ld_copyFrom_0 rfl (lv_at hl 0 rfl) ?_
  refine lv_aload_n C.1.1 C.1.2.1 d_Ld_copyFrom_1 rfl (lv_at hl 1 rfl) ?_
  refine x_get C hE hW fl_Ld_50 12 rfl rfl d_Ld_copyFrom_2 ?_
  refine x_put (ws' := [(aN, .inr (0, [.int O_width, .int N_height, .long N_everywhere, .long N_firstColumn, .long N_lastColumn, .ref aN_grounds, .ref aN_airs, .ref aN_tolds, .ref aN_fees, .ref aN_lets, .int N_makers, .ref aN_kinds, .ref aN_cells, .ref aN_selves, .ref aN_cries, .int N_leaves, .ref aN_parts, .int N_pasts, .ref aN_past])), (aN_grounds, .inl (gJ G, 3, .inr (.inl N_grounds))), (aN_airs, .inl (gJ G, 6, .inr (.inl N_airs))), (aN_tolds, .inl (gJ G, 3, .inr (.inl N_tolds))), (aN_fees, .inl (gI G, 6, .inl N_fees)), (aN_lets, .inl (gI G, 6, .inl N_lets)), (aN_kinds, .inl (gI G, 6, .inl N_kinds)), (aN_cells, .inl (gI G, 6, .inl N_cells)), (aN_selves, .inl (gI G, 6, .inl N_selves)), (aN_cries, .inl (gI G, 6, .inl N_cries)), (aN_parts, .inl (gI G, 40, .inl N_parts)), (aN_past, .inl (gI G, 328, .inl N_past)), (aO, .inr (0, [.int O_width, .int O_height, .long O_everywhere, .long O_firstColumn, .long O_lastColumn, .ref aO_grounds, .ref aO_airs, .ref aO_tolds, .ref aO_fees, .ref aO_lets, .int O_makers, .ref aO_kinds, .ref aO_cells, .ref aO_selves, .ref aO_cries, .int O_leaves, .ref aO_parts, .int O_pasts, .ref aO_past])), (aO_grounds, .inl (gJ G, 3, .inr (.inl O_grounds))), (aO_airs, .inl (gJ G, 6, .inr (.inl O_airs))), (aO_tolds, .inl (gJ G, 3, .inr (.inl O_tolds))), (aO_fees, .inl (gI G, 6, .inl O_fees)), (aO_lets, .inl (gI G, 6, .inl O_lets)), (aO_kinds, .inl (gI G, 6, .inl O_kinds)), (aO_cells, .inl (gI G, 6, .inl O_cells)), (aO_selves, .inl (gI G, 6, .inl O_selves)), (aO_cries, .inl (gI G, 6, .inl O_cries)), (aO_parts, .inl (gI G, 40, .inl O_parts)), (aO_past, .inl (gI G, 328, .inl O_past))]) C hE hW fp_Ld_50 0 rfl rfl rfl (Nat.le_of_ble_eq_true rfl) rfl d_Ld_copyFrom_5 (fun H locs hW => ?_)
  refine lv_aload_n C.1.1 C.1.2.1 d_Ld_copyFrom_8 rfl (lv_at hl 0 rfl) ?_
  refine lv_aload_n C.1.1 C.1.2.1 d_Ld_copyFrom_9 rfl (lv_at hl 1 rfl) ?_
  refine x_get C hE hW fl_Ld_54 12 rfl rfl d_Ld_copyFrom_10 ?_
  refine x_put (ws' := [(aN, .inr (0, [.int O_width, .int O_height, .long N_everywhere, .long N_firstColumn, .long N_lastColumn, .ref aN_grounds, .ref aN_airs, .ref aN_tolds, .ref aN_fees, .ref aN_lets, .int N_makers, .ref aN_kinds, .ref aN_cells, .ref aN_selves, .ref aN_cries, .int N_leaves, .ref aN_parts, .int N_pasts, .ref aN_past])), (aN_grounds, .inl (gJ G, 3, .inr (.inl N_grounds))), (aN_airs, .inl (gJ G, 6, .inr (.inl N_airs))), (aN_tolds, .inl (gJ G, 3, .inr (.inl N_tolds))), (aN_fees, .inl (gI G, 6, .inl N_fees)), (aN_lets, .inl (gI G, 6, .inl N_lets)), (aN_kinds, .inl (gI G, 6, .inl N_kinds)), (aN_cells, .inl (gI G, 6, .inl N_cells)), (aN_selves, .inl (gI G, 6, .inl N_selves)), (aN_cries, .inl (gI G, 6, .inl N_cries)), (aN_parts, .inl (gI G, 40, .inl N_parts)), (aN_past, .inl (gI G, 328, .inl N_past)), (aO, .inr (0, [.int O_width, .int O_height, .long O_everywhere, .long O_firstColumn, .long O_lastColumn, .ref aO_grounds, .ref aO_airs, .ref aO_tolds, .ref aO_fees, .ref aO_lets, .int O_makers, .ref aO_kinds, .ref aO_cells, .ref aO_selves, .ref aO_cries, .int O_leaves, .ref aO_parts, .int O_pasts, .ref aO_past])), (aO_grounds, .inl (gJ G, 3, .inr (.inl O_grounds))), (aO_airs, .inl (gJ G, 6, .inr (.inl O_airs))), (aO_tolds, .inl (gJ G, 3, .inr (.inl O_tolds))), (aO_fees, .inl (gI G, 6, .inl O_fees)), (aO_lets, .inl (gI G, 6, .inl O_lets)), (aO_kinds, .inl (gI G, 6, .inl O_kinds)), (aO_cells, .inl (gI G, 6, .inl O_cells)), (aO_selves, .inl (gI G, 6, .inl O_selves)), (aO_cries, .inl (gI G, 6, .inl O_cries)), (aO_parts, .inl (gI G, 40, .inl O_parts)), (aO_past, .inl (gI G, 328, .inl O_past))]) C hE hW fp_Ld_54 0 rfl rfl rfl (Nat.le_of_ble_eq_true rfl) rfl d_Ld_copyFrom_13 (fun H locs hW => ?_)
  refine lv_aload_n C.1.1 C.1.2.1 d_Ld_copyFrom_16 rfl (lv_at hl 0 rfl) ?_
  refine lv_aload_n C.1.1 C.1.2.1 d_Ld_copyFrom_17 rfl (lv_at hl 1 rfl) ?_
  refine x_get C hE hW fl_Ld_57 12 rfl rfl d_Ld_copyFrom_18 ?_
  refine x_put (ws' := [(aN, .inr (0, [.int O_width, .int O_height, .long O_everywhere, .long N_firstColumn, .long N_lastColumn, .ref aN_grounds, .ref aN_airs, .ref aN_tolds, .ref aN_fees, .ref aN_lets, .int N_makers, .ref aN_kinds, .ref aN_cells, .ref aN_selves, .ref aN_cries, .int N_leaves, .ref aN_parts, .int N_pasts, .ref aN_past])), (aN_grounds, .inl (gJ G, 3, .inr (.inl N_grounds))), (aN_airs, .inl (gJ G, 6, .inr (.inl N_airs))), (aN_tolds, .inl (gJ G, 3, .inr (.inl N_tolds))), (aN_fees, .inl (gI G, 6, .inl N_fees)), (aN_lets, .inl (gI G, 6, .inl N_lets)), (aN_kinds, .inl (gI G, 6, .inl N_kinds)), (aN_cells, .inl (gI G, 6, .inl N_cells)), (aN_selves, .inl (gI G, 6, .inl N_selves)), (aN_cries, .inl (gI G, 6, .inl N_cries)), (aN_parts, .inl (gI G, 40, .inl N_parts)), (aN_past, .inl (gI G, 328, .inl N_past)), (aO, .inr (0, [.int O_width, .int O_height, .long O_everywhere, .long O_firstColumn, .long O_lastColumn, .ref aO_grounds, .ref aO_airs, .ref aO_tolds, .ref aO_fees, .ref aO_lets, .int O_makers, .ref aO_kinds, .ref aO_cells, .ref aO_selves, .ref aO_cries, .int O_leaves, .ref aO_parts, .int O_pasts, .ref aO_past])), (aO_grounds, .inl (gJ G, 3, .inr (.inl O_grounds))), (aO_airs, .inl (gJ G, 6, .inr (.inl O_airs))), (aO_tolds, .inl (gJ G, 3, .inr (.inl O_tolds))), (aO_fees, .inl (gI G, 6, .inl O_fees)), (aO_lets, .inl (gI G, 6, .inl O_lets)), (aO_kinds, .inl (gI G, 6, .inl O_kinds)), (aO_cells, .inl (gI G, 6, .inl O_cells)), (aO_selves, .inl (gI G, 6, .inl O_selves)), (aO_cries, .inl (gI G, 6, .inl O_cries)), (aO_parts, .inl (gI G, 40, .inl O_parts)), (aO_past, .inl (gI G, 328, .inl O_past))]) C hE hW fp_Ld_57 0 rfl rfl rfl (Nat.le_of_ble_eq_true rfl) rfl d_Ld_copyFrom_21 (fun H locs hW => ?_)
  refine lv_aload_n C.1.1 C.1.2.1 d_Ld_copyFrom_24 rfl (lv_at hl 0 rfl) ?_
  refine lv_aload_n C.1.1 C.1.2.1 d_Ld_copyFrom_25 rfl (lv_at hl 1 rfl) ?_
  refine x_get C hE hW fl_Ld_61 12 rfl rfl d_Ld_copyFrom_26 ?_
  refine x_put (ws' := [(aN, .inr (0, [.int O_width, .int O_height, .long O_everywhere, .long O_firstColumn, .long N_lastColumn, .ref aN_grounds, .ref aN_airs, .ref aN_tolds, .ref aN_fees, .ref aN_lets, .int N_makers, .ref aN_kinds, .ref aN_cells, .ref aN_selves, .ref aN_cries, .int N_leaves, .ref aN_parts, .int N_pasts, .ref aN_past])), (aN_grounds, .inl (gJ G, 3, .inr (.inl N_grounds))), (aN_airs, .inl (gJ G, 6, .inr (.inl N_airs))), (aN_tolds, .inl (gJ G, 3, .inr (.inl N_tolds))), (aN_fees, .inl (gI G, 6, .inl N_fees)), (aN_lets, .inl (gI G, 6, .inl N_lets)), (aN_kinds, .inl (gI G, 6, .inl N_kinds)), (aN_cells, .inl (gI G, 6, .inl N_cells)), (aN_selves, .inl (gI G, 6, .inl N_selves)), (aN_cries, .inl (gI G, 6, .inl N_cries)), (aN_parts, .inl (gI G, 40, .inl N_parts)), (aN_past, .inl (gI G, 328, .inl N_past)), (aO, .inr (0, [.int O_width, .int O_height, .long O_everywhere, .long O_firstColumn, .long O_lastColumn, .ref aO_grounds, .ref aO_airs, .ref aO_tolds, .ref aO_fees, .ref aO_lets, .int O_makers, .ref aO_kinds, .ref aO_cells, .ref aO_selves, .ref aO_cries, .int O_leaves, .ref aO_parts, .int O_pasts, .ref aO_past])), (aO_grounds, .inl (gJ G, 3, .inr (.inl O_grounds))), (aO_airs, .inl (gJ G, 6, .inr (.inl O_airs))), (aO_tolds, .inl (gJ G, 3, .inr (.inl O_tolds))), (aO_fees, .inl (gI G, 6, .inl O_fees)), (aO_lets, .inl (gI G, 6, .inl O_lets)), (aO_kinds, .inl (gI G, 6, .inl O_kinds)), (aO_cells, .inl (gI G, 6, .inl O_cells)), (aO_selves, .inl (gI G, 6, .inl O_selves)), (aO_cries, .inl (gI G, 6, .inl O_cries)), (aO_parts, .inl (gI G, 40, .inl O_parts)), (aO_past, .inl (gI G, 328, .inl O_past))]) C hE hW fp_Ld_61 0 rfl rfl rfl (Nat.le_of_ble_eq_true rfl) rfl d_Ld_copyFrom_29 (fun H locs hW => ?_)
  refine lv_aload_n C.1.1 C.1.2.1 d_Ld_copyFrom_32 rfl (lv_at hl 0 rfl) ?_
  refine lv_aload_n C.1.1 C.1.2.1 d_Ld_copyFrom_33 rfl (lv_at hl 1 rfl) ?_
  refine x_get C hE hW fl_Ld_64 12 rfl rfl d_Ld_copyFrom_34 ?_
  refine x_put (ws' := [(aN, .inr (0, [.int O_width, .int O_height, .long O_everywhere, .long O_firstColumn, .long O_lastColumn, .ref aN_grounds, .ref aN_airs, .ref aN_tolds, .ref aN_fees, .ref aN_lets, .int N_makers, .ref aN_kinds, .ref aN_cells, .ref aN_selves, .ref aN_cries, .int N_leaves, .ref aN_parts, .int N_pasts, .ref aN_past])), (aN_grounds, .inl (gJ G, 3, .inr (.inl N_grounds))), (aN_airs, .inl (gJ G, 6, .inr (.inl N_airs))), (aN_tolds, .inl (gJ G, 3, .inr (.inl N_tolds))), (aN_fees, .inl (gI G, 6, .inl N_fees)), (aN_lets, .inl (gI G, 6, .inl N_lets)), (aN_kinds, .inl (gI G, 6, .inl N_kinds)), (aN_cells, .inl (gI G, 6, .inl N_cells)), (aN_selves, .inl (gI G, 6, .inl N_selves)), (aN_cries, .inl (gI G, 6, .inl N_cries)), (aN_parts, .inl (gI G, 40, .inl N_parts)), (aN_past, .inl (gI G, 328, .inl N_past)), (aO, .inr (0, [.int O_width, .int O_height, .long O_everywhere, .long O_firstColumn, .long O_lastColumn, .ref aO_grounds, .ref aO_airs, .ref aO_tolds, .ref aO_fees, .ref aO_lets, .int O_makers, .ref aO_kinds, .ref aO_cells, .ref aO_selves, .ref aO_cries, .int O_leaves, .ref aO_parts, .int O_pasts, .ref aO_past])), (aO_grounds, .inl (gJ G, 3, .inr (.inl O_grounds))), (aO_airs, .inl (gJ G, 6, .inr (.inl O_airs))), (aO_tolds, .inl (gJ G, 3, .inr (.inl O_tolds))), (aO_fees, .inl (gI G, 6, .inl O_fees)), (aO_lets, .inl (gI G, 6, .inl O_lets)), (aO_kinds, .inl (gI G, 6, .inl O_kinds)), (aO_cells, .inl (gI G, 6, .inl O_cells)), (aO_selves, .inl (gI G, 6, .inl O_selves)), (aO_cries, .inl (gI G, 6, .inl O_cries)), (aO_parts, .inl (gI G, 40, .inl O_parts)), (aO_past, .inl (gI G, 328, .inl O_past))]) C hE hW fp_Ld_64 0 rfl rfl rfl (Nat.le_of_ble_eq_true rfl) rfl d_Ld_copyFrom_37 (fun H locs hW => ?_)
  refine lv_aload_n C.1.1 C.1.2.1 d_Ld_copyFrom_40 rfl (lv_at hl 1 rfl) ?_
  refine x_get C hE hW fl_Ld_9 12 rfl rfl d_Ld_copyFrom_41 ?_
  refine lv_iconst (v := 0) C.1.1 C.1.2.1 d_Ld_copyFrom_44 (by decide) ?_
  refine lv_aload_n C.1.1 C.1.2.1 d_Ld_copyFrom_45 rfl (lv_at hl 0 rfl) ?_
  refine x_get C hE hW fl_Ld_9 0 rfl rfl d_Ld_copyFrom_46 ?_
  refine lv_iconst (v := 0) C.1.1 C.1.2.1 d_Ld_copyFrom_49 (by decide) ?_
  refine lv_iconst (v := 3) C.1.1 C.1.2.1 d_Ld_copyFrom_50 (by decide) ?_
  obtain ⟨x1, ex1⟩ : ∃ y : Nat → Int64, y = va_cpy O_grounds N_grounds (0 : Int32).toNatClampNeg (0 : Int32).toNatClampNeg (3 : Int32).toNatClampNeg := ⟨_, rfl⟩
  replace h := lt_at ex1 h
  refine x_copyl (ws' := [(aN, .inr (0, [.int O_width, .int O_height, .long O_everywhere, .long O_firstColumn, .long O_lastColumn, .ref aN_grounds, .ref aN_airs, .ref aN_tolds, .ref aN_fees, .ref aN_lets, .int N_makers, .ref aN_kinds, .ref aN_cells, .ref aN_selves, .ref aN_cries, .int N_leaves, .ref aN_parts, .int N_pasts, .ref aN_past])), (aN_grounds, .inl (gJ G, 3, .inr (.inl x1))), (aN_airs, .inl (gJ G, 6, .inr (.inl N_airs))), (aN_tolds, .inl (gJ G, 3, .inr (.inl N_tolds))), (aN_fees, .inl (gI G, 6, .inl N_fees)), (aN_lets, .inl (gI G, 6, .inl N_lets)), (aN_kinds, .inl (gI G, 6, .inl N_kinds)), (aN_cells, .inl (gI G, 6, .inl N_cells)), (aN_selves, .inl (gI G, 6, .inl N_selves)), (aN_cries, .inl (gI G, 6, .inl N_cries)), (aN_parts, .inl (gI G, 40, .inl N_parts)), (aN_past, .inl (gI G, 328, .inl N_past)), (aO, .inr (0, [.int O_width, .int O_height, .long O_everywhere, .long O_firstColumn, .long O_lastColumn, .ref aO_grounds, .ref aO_airs, .ref aO_tolds, .ref aO_fees, .ref aO_lets, .int O_makers, .ref aO_kinds, .ref aO_cells, .ref aO_selves, .ref aO_cries, .int O_leaves, .ref aO_parts, .int O_pasts, .ref aO_past])), (aO_grounds, .inl (gJ G, 3, .inr (.inl O_grounds))), (aO_airs, .inl (gJ G, 6, .inr (.inl O_airs))), (aO_tolds, .inl (gJ G, 3, .inr (.inl O_tolds))), (aO_fees, .inl (gI G, 6, .inl O_fees)), (aO_lets, .inl (gI G, 6, .inl O_lets)), (aO_kinds, .inl (gI G, 6, .inl O_kinds)), (aO_cells, .inl (gI G, 6, .inl O_cells)), (aO_selves, .inl (gI G, 6, .inl O_selves)), (aO_cries, .inl (gI G, 6, .inl O_cries)), (aO_parts, .inl (gI G, 40, .inl O_parts)), (aO_past, .inl (gI G, 328, .inl O_past))]) C hE hW hl tw372 13 1 rfl rfl (cpOk_at (by decide)) (by subst ex1; rfl) (Nat.le_of_ble_eq_true rfl) (Nat.le_of_ble_eq_true rfl) d_Ld_copyFrom_51 (fun H locs hW => ?_)
  refine lv_aload_n C.1.1 C.1.2.1 d_Ld_copyFrom_54 rfl (lv_at hl 1 rfl) ?_
  refine x_get C hE hW fl_Ld_15 12 rfl rfl d_Ld_copyFrom_55 ?_
  refine lv_iconst (v := 0) C.1.1 C.1.2.1 d_Ld_copyFrom_58 (by decide) ?_
  refine lv_aload_n C.1.1 C.1.2.1 d_Ld_copyFrom_59 rfl (lv_at hl 0 rfl) ?_
  refine x_get C hE hW fl_Ld_15 0 rfl rfl d_Ld_copyFrom_60 ?_
  refine lv_iconst (v := 0) C.1.1 C.1.2.1 d_Ld_copyFrom_63 (by decide) ?_
  refine lv_bipush (v := 6) C.1.1 C.1.2.1 d_Ld_copyFrom_64 (by decide) ?_
  obtain ⟨x2, ex2⟩ : ∃ y : Nat → Int64, y = va_cpy O_airs N_airs (0 : Int32).toNatClampNeg (0 : Int32).toNatClampNeg (6 : Int32).toNatClampNeg := ⟨_, rfl⟩
  replace h := lt_at ex2 h
  refine x_copyl (ws' := [(aN, .inr (0, [.int O_width, .int O_height, .long O_everywhere, .long O_firstColumn, .long O_lastColumn, .ref aN_grounds, .ref aN_airs, .ref aN_tolds, .ref aN_fees, .ref aN_lets, .int N_makers, .ref aN_kinds, .ref aN_cells, .ref aN_selves, .ref aN_cries, .int N_leaves, .ref aN_parts, .int N_pasts, .ref aN_past])), (aN_grounds, .inl (gJ G, 3, .inr (.inl x1))), (aN_airs, .inl (gJ G, 6, .inr (.inl x2))), (aN_tolds, .inl (gJ G, 3, .inr (.inl N_tolds))), (aN_fees, .inl (gI G, 6, .inl N_fees)), (aN_lets, .inl (gI G, 6, .inl N_lets)), (aN_kinds, .inl (gI G, 6, .inl N_kinds)), (aN_cells, .inl (gI G, 6, .inl N_cells)), (aN_selves, .inl (gI G, 6, .inl N_selves)), (aN_cries, .inl (gI G, 6, .inl N_cries)), (aN_parts, .inl (gI G, 40, .inl N_parts)), (aN_past, .inl (gI G, 328, .inl N_past)), (aO, .inr (0, [.int O_width, .int O_height, .long O_everywhere, .long O_firstColumn, .long O_lastColumn, .ref aO_grounds, .ref aO_airs, .ref aO_tolds, .ref aO_fees, .ref aO_lets, .int O_makers, .ref aO_kinds, .ref aO_cells, .ref aO_selves, .ref aO_cries, .int O_leaves, .ref aO_parts, .int O_pasts, .ref aO_past])), (aO_grounds, .inl (gJ G, 3, .inr (.inl O_grounds))), (aO_airs, .inl (gJ G, 6, .inr (.inl O_airs))), (aO_tolds, .inl (gJ G, 3, .inr (.inl O_tolds))), (aO_fees, .inl (gI G, 6, .inl O_fees)), (aO_lets, .inl (gI G, 6, .inl O_lets)), (aO_kinds, .inl (gI G, 6, .inl O_kinds)), (aO_cells, .inl (gI G, 6, .inl O_cells)), (aO_selves, .inl (gI G, 6, .inl O_selves)), (aO_cries, .inl (gI G, 6, .inl O_cries)), (aO_parts, .inl (gI G, 40, .inl O_parts)), (aO_past, .inl (gI G, 328, .inl O_past))]) C hE hW hl tw372 14 2 rfl rfl (cpOk_at (by decide)) (by subst ex2; rfl) (Nat.le_of_ble_eq_true rfl) (Nat.le_of_ble_eq_true rfl) d_Ld_copyFrom_66 (fun H locs hW => ?_)
  refine lv_aload_n C.1.1 C.1.2.1 d_Ld_copyFrom_69 rfl (lv_at hl 1 rfl) ?_
  refine x_get C hE hW fl_Ld_18 12 rfl rfl d_Ld_copyFrom_70 ?_
  refine lv_iconst (v := 0) C.1.1 C.1.2.1 d_Ld_copyFrom_73 (by decide) ?_
  refine lv_aload_n C.1.1 C.1.2.1 d_Ld_copyFrom_74 rfl (lv_at hl 0 rfl) ?_
  refine x_get C hE hW fl_Ld_18 0 rfl rfl d_Ld_copyFrom_75 ?_
  refine lv_iconst (v := 0) C.1.1 C.1.2.1 d_Ld_copyFrom_78 (by decide) ?_
  refine lv_iconst (v := 3) C.1.1 C.1.2.1 d_Ld_copyFrom_79 (by decide) ?_
  obtain ⟨x3, ex3⟩ : ∃ y : Nat → Int64, y = va_cpy O_tolds N_tolds (0 : Int32).toNatClampNeg (0 : Int32).toNatClampNeg (3 : Int32).toNatClampNeg := ⟨_, rfl⟩
  replace h := lt_at ex3 h
  refine x_copyl (ws' := [(aN, .inr (0, [.int O_width, .int O_height, .long O_everywhere, .long O_firstColumn, .long O_lastColumn, .ref aN_grounds, .ref aN_airs, .ref aN_tolds, .ref aN_fees, .ref aN_lets, .int N_makers, .ref aN_kinds, .ref aN_cells, .ref aN_selves, .ref aN_cries, .int N_leaves, .ref aN_parts, .int N_pasts, .ref aN_past])), (aN_grounds, .inl (gJ G, 3, .inr (.inl x1))), (aN_airs, .inl (gJ G, 6, .inr (.inl x2))), (aN_tolds, .inl (gJ G, 3, .inr (.inl x3))), (aN_fees, .inl (gI G, 6, .inl N_fees)), (aN_lets, .inl (gI G, 6, .inl N_lets)), (aN_kinds, .inl (gI G, 6, .inl N_kinds)), (aN_cells, .inl (gI G, 6, .inl N_cells)), (aN_selves, .inl (gI G, 6, .inl N_selves)), (aN_cries, .inl (gI G, 6, .inl N_cries)), (aN_parts, .inl (gI G, 40, .inl N_parts)), (aN_past, .inl (gI G, 328, .inl N_past)), (aO, .inr (0, [.int O_width, .int O_height, .long O_everywhere, .long O_firstColumn, .long O_lastColumn, .ref aO_grounds, .ref aO_airs, .ref aO_tolds, .ref aO_fees, .ref aO_lets, .int O_makers, .ref aO_kinds, .ref aO_cells, .ref aO_selves, .ref aO_cries, .int O_leaves, .ref aO_parts, .int O_pasts, .ref aO_past])), (aO_grounds, .inl (gJ G, 3, .inr (.inl O_grounds))), (aO_airs, .inl (gJ G, 6, .inr (.inl O_airs))), (aO_tolds, .inl (gJ G, 3, .inr (.inl O_tolds))), (aO_fees, .inl (gI G, 6, .inl O_fees)), (aO_lets, .inl (gI G, 6, .inl O_lets)), (aO_kinds, .inl (gI G, 6, .inl O_kinds)), (aO_cells, .inl (gI G, 6, .inl O_cells)), (aO_selves, .inl (gI G, 6, .inl O_selves)), (aO_cries, .inl (gI G, 6, .inl O_cries)), (aO_parts, .inl (gI G, 40, .inl O_parts)), (aO_past, .inl (gI G, 328, .inl O_past))]) C hE hW hl tw372 15 3 rfl rfl (cpOk_at (by decide)) (by subst ex3; rfl) (Nat.le_of_ble_eq_true rfl) (Nat.le_of_ble_eq_true rfl) d_Ld_copyFrom_80 (fun H locs hW => ?_)
  refine lv_aload_n C.1.1 C.1.2.1 d_Ld_copyFrom_83 rfl (lv_at hl 1 rfl) ?_
  refine x_get C hE hW fl_Ld_21 12 rfl rfl d_Ld_copyFrom_84 ?_
  refine lv_iconst (v := 0) C.1.1 C.1.2.1 d_Ld_copyFrom_87 (by decide) ?_
  refine lv_aload_n C.1.1 C.1.2.1 d_Ld_copyFrom_88 rfl (lv_at hl 0 rfl) ?_
  refine x_get C hE hW fl_Ld_21 0 rfl rfl d_Ld_copyFrom_89 ?_
  refine lv_iconst (v := 0) C.1.1 C.1.2.1 d_Ld_copyFrom_92 (by decide) ?_
  refine lv_bipush (v := 6) C.1.1 C.1.2.1 d_Ld_copyFrom_93 (by decide) ?_
  obtain ⟨x4, ex4⟩ : ∃ y : Nat → Int32, y = va_cpy O_fees N_fees (0 : Int32).toNatClampNeg (0 : Int32).toNatClampNeg (6 : Int32).toNatClampNeg := ⟨_, rfl⟩
  replace h := lt_at ex4 h
  refine x_copyi (ws' := [(aN, .inr (0, [.int O_width, .int O_height, .long O_everywhere, .long O_firstColumn, .long O_lastColumn, .ref aN_grounds, .ref aN_airs, .ref aN_tolds, .ref aN_fees, .ref aN_lets, .int N_makers, .ref aN_kinds, .ref aN_cells, .ref aN_selves, .ref aN_cries, .int N_leaves, .ref aN_parts, .int N_pasts, .ref aN_past])), (aN_grounds, .inl (gJ G, 3, .inr (.inl x1))), (aN_airs, .inl (gJ G, 6, .inr (.inl x2))), (aN_tolds, .inl (gJ G, 3, .inr (.inl x3))), (aN_fees, .inl (gI G, 6, .inl x4)), (aN_lets, .inl (gI G, 6, .inl N_lets)), (aN_kinds, .inl (gI G, 6, .inl N_kinds)), (aN_cells, .inl (gI G, 6, .inl N_cells)), (aN_selves, .inl (gI G, 6, .inl N_selves)), (aN_cries, .inl (gI G, 6, .inl N_cries)), (aN_parts, .inl (gI G, 40, .inl N_parts)), (aN_past, .inl (gI G, 328, .inl N_past)), (aO, .inr (0, [.int O_width, .int O_height, .long O_everywhere, .long O_firstColumn, .long O_lastColumn, .ref aO_grounds, .ref aO_airs, .ref aO_tolds, .ref aO_fees, .ref aO_lets, .int O_makers, .ref aO_kinds, .ref aO_cells, .ref aO_selves, .ref aO_cries, .int O_leaves, .ref aO_parts, .int O_pasts, .ref aO_past])), (aO_grounds, .inl (gJ G, 3, .inr (.inl O_grounds))), (aO_airs, .inl (gJ G, 6, .inr (.inl O_airs))), (aO_tolds, .inl (gJ G, 3, .inr (.inl O_tolds))), (aO_fees, .inl (gI G, 6, .inl O_fees)), (aO_lets, .inl (gI G, 6, .inl O_lets)), (aO_kinds, .inl (gI G, 6, .inl O_kinds)), (aO_cells, .inl (gI G, 6, .inl O_cells)), (aO_selves, .inl (gI G, 6, .inl O_selves)), (aO_cries, .inl (gI G, 6, .inl O_cries)), (aO_parts, .inl (gI G, 40, .inl O_parts)), (aO_past, .inl (gI G, 328, .inl O_past))]) C hE hW hl tw372 16 4 rfl rfl (cpOk_at (by decide)) (by subst ex4; rfl) (Nat.le_of_ble_eq_true rfl) (Nat.le_of_ble_eq_true rfl) d_Ld_copyFrom_95 (fun H locs hW => ?_)
  refine lv_aload_n C.1.1 C.1.2.1 d_Ld_copyFrom_98 rfl (lv_at hl 1 rfl) ?_
  refine x_get C hE hW fl_Ld_25 12 rfl rfl d_Ld_copyFrom_99 ?_
  refine lv_iconst (v := 0) C.1.1 C.1.2.1 d_Ld_copyFrom_102 (by decide) ?_
  refine lv_aload_n C.1.1 C.1.2.1 d_Ld_copyFrom_103 rfl (lv_at hl 0 rfl) ?_
  refine x_get C hE hW fl_Ld_25 0 rfl rfl d_Ld_copyFrom_104 ?_
  refine lv_iconst (v := 0) C.1.1 C.1.2.1 d_Ld_copyFrom_107 (by decide) ?_
  refine lv_bipush (v := 6) C.1.1 C.1.2.1 d_Ld_copyFrom_108 (by decide) ?_
  obtain ⟨x5, ex5⟩ : ∃ y : Nat → Int32, y = va_cpy O_lets N_lets (0 : Int32).toNatClampNeg (0 : Int32).toNatClampNeg (6 : Int32).toNatClampNeg := ⟨_, rfl⟩
  replace h := lt_at ex5 h
  refine x_copyi (ws' := [(aN, .inr (0, [.int O_width, .int O_height, .long O_everywhere, .long O_firstColumn, .long O_lastColumn, .ref aN_grounds, .ref aN_airs, .ref aN_tolds, .ref aN_fees, .ref aN_lets, .int N_makers, .ref aN_kinds, .ref aN_cells, .ref aN_selves, .ref aN_cries, .int N_leaves, .ref aN_parts, .int N_pasts, .ref aN_past])), (aN_grounds, .inl (gJ G, 3, .inr (.inl x1))), (aN_airs, .inl (gJ G, 6, .inr (.inl x2))), (aN_tolds, .inl (gJ G, 3, .inr (.inl x3))), (aN_fees, .inl (gI G, 6, .inl x4)), (aN_lets, .inl (gI G, 6, .inl x5)), (aN_kinds, .inl (gI G, 6, .inl N_kinds)), (aN_cells, .inl (gI G, 6, .inl N_cells)), (aN_selves, .inl (gI G, 6, .inl N_selves)), (aN_cries, .inl (gI G, 6, .inl N_cries)), (aN_parts, .inl (gI G, 40, .inl N_parts)), (aN_past, .inl (gI G, 328, .inl N_past)), (aO, .inr (0, [.int O_width, .int O_height, .long O_everywhere, .long O_firstColumn, .long O_lastColumn, .ref aO_grounds, .ref aO_airs, .ref aO_tolds, .ref aO_fees, .ref aO_lets, .int O_makers, .ref aO_kinds, .ref aO_cells, .ref aO_selves, .ref aO_cries, .int O_leaves, .ref aO_parts, .int O_pasts, .ref aO_past])), (aO_grounds, .inl (gJ G, 3, .inr (.inl O_grounds))), (aO_airs, .inl (gJ G, 6, .inr (.inl O_airs))), (aO_tolds, .inl (gJ G, 3, .inr (.inl O_tolds))), (aO_fees, .inl (gI G, 6, .inl O_fees)), (aO_lets, .inl (gI G, 6, .inl O_lets)), (aO_kinds, .inl (gI G, 6, .inl O_kinds)), (aO_cells, .inl (gI G, 6, .inl O_cells)), (aO_selves, .inl (gI G, 6, .inl O_selves)), (aO_cries, .inl (gI G, 6, .inl O_cries)), (aO_parts, .inl (gI G, 40, .inl O_parts)), (aO_past, .inl (gI G, 328, .inl O_past))]) C hE hW hl tw372 17 5 rfl rfl (cpOk_at (by decide)) (by subst ex5; rfl) (Nat.le_of_ble_eq_true rfl) (Nat.le_of_ble_eq_true rfl) d_Ld_copyFrom_110 (fun H locs hW => ?_)
  refine lv_aload_n C.1.1 C.1.2.1 d_Ld_copyFrom_113 rfl (lv_at hl 0 rfl) ?_
  refine lv_aload_n C.1.1 C.1.2.1 d_Ld_copyFrom_114 rfl (lv_at hl 1 rfl) ?_
  refine x_get C hE hW fl_Ld_77 12 rfl rfl d_Ld_copyFrom_115 ?_
  refine x_put (ws' := [(aN, .inr (0, [.int O_width, .int O_height, .long O_everywhere, .long O_firstColumn, .long O_lastColumn, .ref aN_grounds, .ref aN_airs, .ref aN_tolds, .ref aN_fees, .ref aN_lets, .int O_makers, .ref aN_kinds, .ref aN_cells, .ref aN_selves, .ref aN_cries, .int N_leaves, .ref aN_parts, .int N_pasts, .ref aN_past])), (aN_grounds, .inl (gJ G, 3, .inr (.inl x1))), (aN_airs, .inl (gJ G, 6, .inr (.inl x2))), (aN_tolds, .inl (gJ G, 3, .inr (.inl x3))), (aN_fees, .inl (gI G, 6, .inl x4)), (aN_lets, .inl (gI G, 6, .inl x5)), (aN_kinds, .inl (gI G, 6, .inl N_kinds)), (aN_cells, .inl (gI G, 6, .inl N_cells)), (aN_selves, .inl (gI G, 6, .inl N_selves)), (aN_cries, .inl (gI G, 6, .inl N_cries)), (aN_parts, .inl (gI G, 40, .inl N_parts)), (aN_past, .inl (gI G, 328, .inl N_past)), (aO, .inr (0, [.int O_width, .int O_height, .long O_everywhere, .long O_firstColumn, .long O_lastColumn, .ref aO_grounds, .ref aO_airs, .ref aO_tolds, .ref aO_fees, .ref aO_lets, .int O_makers, .ref aO_kinds, .ref aO_cells, .ref aO_selves, .ref aO_cries, .int O_leaves, .ref aO_parts, .int O_pasts, .ref aO_past])), (aO_grounds, .inl (gJ G, 3, .inr (.inl O_grounds))), (aO_airs, .inl (gJ G, 6, .inr (.inl O_airs))), (aO_tolds, .inl (gJ G, 3, .inr (.inl O_tolds))), (aO_fees, .inl (gI G, 6, .inl O_fees)), (aO_lets, .inl (gI G, 6, .inl O_lets)), (aO_kinds, .inl (gI G, 6, .inl O_kinds)), (aO_cells, .inl (gI G, 6, .inl O_cells)), (aO_selves, .inl (gI G, 6, .inl O_selves)), (aO_cries, .inl (gI G, 6, .inl O_cries)), (aO_parts, .inl (gI G, 40, .inl O_parts)), (aO_past, .inl (gI G, 328, .inl O_past))]) C hE hW fp_Ld_77 0 rfl rfl rfl (Nat.le_of_ble_eq_true rfl) rfl d_Ld_copyFrom_118 (fun H locs hW => ?_)
  refine lv_aload_n C.1.1 C.1.2.1 d_Ld_copyFrom_121 rfl (lv_at hl 1 rfl) ?_
  refine x_get C hE hW fl_Ld_28 12 rfl rfl d_Ld_copyFrom_122 ?_
  refine lv_iconst (v := 0) C.1.1 C.1.2.1 d_Ld_copyFrom_125 (by decide) ?_
  refine lv_aload_n C.1.1 C.1.2.1 d_Ld_copyFrom_126 rfl (lv_at hl 0 rfl) ?_
  refine x_get C hE hW fl_Ld_28 0 rfl rfl d_Ld_copyFrom_127 ?_
  refine lv_iconst (v := 0) C.1.1 C.1.2.1 d_Ld_copyFrom_130 (by decide) ?_
  refine lv_bipush (v := 6) C.1.1 C.1.2.1 d_Ld_copyFrom_131 (by decide) ?_
  obtain ⟨x6, ex6⟩ : ∃ y : Nat → Int32, y = va_cpy O_kinds N_kinds (0 : Int32).toNatClampNeg (0 : Int32).toNatClampNeg (6 : Int32).toNatClampNeg := ⟨_, rfl⟩
  replace h := lt_at ex6 h
  refine x_copyi (ws' := [(aN, .inr (0, [.int O_width, .int O_height, .long O_everywhere, .long O_firstColumn, .long O_lastColumn, .ref aN_grounds, .ref aN_airs, .ref aN_tolds, .ref aN_fees, .ref aN_lets, .int O_makers, .ref aN_kinds, .ref aN_cells, .ref aN_selves, .ref aN_cries, .int N_leaves, .ref aN_parts, .int N_pasts, .ref aN_past])), (aN_grounds, .inl (gJ G, 3, .inr (.inl x1))), (aN_airs, .inl (gJ G, 6, .inr (.inl x2))), (aN_tolds, .inl (gJ G, 3, .inr (.inl x3))), (aN_fees, .inl (gI G, 6, .inl x4)), (aN_lets, .inl (gI G, 6, .inl x5)), (aN_kinds, .inl (gI G, 6, .inl x6)), (aN_cells, .inl (gI G, 6, .inl N_cells)), (aN_selves, .inl (gI G, 6, .inl N_selves)), (aN_cries, .inl (gI G, 6, .inl N_cries)), (aN_parts, .inl (gI G, 40, .inl N_parts)), (aN_past, .inl (gI G, 328, .inl N_past)), (aO, .inr (0, [.int O_width, .int O_height, .long O_everywhere, .long O_firstColumn, .long O_lastColumn, .ref aO_grounds, .ref aO_airs, .ref aO_tolds, .ref aO_fees, .ref aO_lets, .int O_makers, .ref aO_kinds, .ref aO_cells, .ref aO_selves, .ref aO_cries, .int O_leaves, .ref aO_parts, .int O_pasts, .ref aO_past])), (aO_grounds, .inl (gJ G, 3, .inr (.inl O_grounds))), (aO_airs, .inl (gJ G, 6, .inr (.inl O_airs))), (aO_tolds, .inl (gJ G, 3, .inr (.inl O_tolds))), (aO_fees, .inl (gI G, 6, .inl O_fees)), (aO_lets, .inl (gI G, 6, .inl O_lets)), (aO_kinds, .inl (gI G, 6, .inl O_kinds)), (aO_cells, .inl (gI G, 6, .inl O_cells)), (aO_selves, .inl (gI G, 6, .inl O_selves)), (aO_cries, .inl (gI G, 6, .inl O_cries)), (aO_parts, .inl (gI G, 40, .inl O_parts)), (aO_past, .inl (gI G, 328, .inl O_past))]) C hE hW hl tw372 18 6 rfl rfl (cpOk_at (by decide)) (by subst ex6; rfl) (Nat.le_of_ble_eq_true rfl) (Nat.le_of_ble_eq_true rfl) d_Ld_copyFrom_133 (fun H locs hW => ?_)
  refine lv_aload_n C.1.1 C.1.2.1 d_Ld_copyFrom_136 rfl (lv_at hl 1 rfl) ?_
  refine x_get C hE hW fl_Ld_31 12 rfl rfl d_Ld_copyFrom_137 ?_
  refine lv_iconst (v := 0) C.1.1 C.1.2.1 d_Ld_copyFrom_140 (by decide) ?_
  refine lv_aload_n C.1.1 C.1.2.1 d_Ld_copyFrom_141 rfl (lv_at hl 0 rfl) ?_
  refine x_get C hE hW fl_Ld_31 0 rfl rfl d_Ld_copyFrom_142 ?_
  refine lv_iconst (v := 0) C.1.1 C.1.2.1 d_Ld_copyFrom_145 (by decide) ?_
  refine lv_bipush (v := 6) C.1.1 C.1.2.1 d_Ld_copyFrom_146 (by decide) ?_
  obtain ⟨x7, ex7⟩ : ∃ y : Nat → Int32, y = va_cpy O_cells N_cells (0 : Int32).toNatClampNeg (0 : Int32).toNatClampNeg (6 : Int32).toNatClampNeg := ⟨_, rfl⟩
  replace h := lt_at ex7 h
  refine x_copyi (ws' := [(aN, .inr (0, [.int O_width, .int O_height, .long O_everywhere, .long O_firstColumn, .long O_lastColumn, .ref aN_grounds, .ref aN_airs, .ref aN_tolds, .ref aN_fees, .ref aN_lets, .int O_makers, .ref aN_kinds, .ref aN_cells, .ref aN_selves, .ref aN_cries, .int N_leaves, .ref aN_parts, .int N_pasts, .ref aN_past])), (aN_grounds, .inl (gJ G, 3, .inr (.inl x1))), (aN_airs, .inl (gJ G, 6, .inr (.inl x2))), (aN_tolds, .inl (gJ G, 3, .inr (.inl x3))), (aN_fees, .inl (gI G, 6, .inl x4)), (aN_lets, .inl (gI G, 6, .inl x5)), (aN_kinds, .inl (gI G, 6, .inl x6)), (aN_cells, .inl (gI G, 6, .inl x7)), (aN_selves, .inl (gI G, 6, .inl N_selves)), (aN_cries, .inl (gI G, 6, .inl N_cries)), (aN_parts, .inl (gI G, 40, .inl N_parts)), (aN_past, .inl (gI G, 328, .inl N_past)), (aO, .inr (0, [.int O_width, .int O_height, .long O_everywhere, .long O_firstColumn, .long O_lastColumn, .ref aO_grounds, .ref aO_airs, .ref aO_tolds, .ref aO_fees, .ref aO_lets, .int O_makers, .ref aO_kinds, .ref aO_cells, .ref aO_selves, .ref aO_cries, .int O_leaves, .ref aO_parts, .int O_pasts, .ref aO_past])), (aO_grounds, .inl (gJ G, 3, .inr (.inl O_grounds))), (aO_airs, .inl (gJ G, 6, .inr (.inl O_airs))), (aO_tolds, .inl (gJ G, 3, .inr (.inl O_tolds))), (aO_fees, .inl (gI G, 6, .inl O_fees)), (aO_lets, .inl (gI G, 6, .inl O_lets)), (aO_kinds, .inl (gI G, 6, .inl O_kinds)), (aO_cells, .inl (gI G, 6, .inl O_cells)), (aO_selves, .inl (gI G, 6, .inl O_selves)), (aO_cries, .inl (gI G, 6, .inl O_cries)), (aO_parts, .inl (gI G, 40, .inl O_parts)), (aO_past, .inl (gI G, 328, .inl O_past))]) C hE hW hl tw372 19 7 rfl rfl (cpOk_at (by decide)) (by subst ex7; rfl) (Nat.le_of_ble_eq_true rfl) (Nat.le_of_ble_eq_true rfl) d_Ld_copyFrom_148 (fun H locs hW => ?_)
  refine lv_aload_n C.1.1 C.1.2.1 d_Ld_copyFrom_151 rfl (lv_at hl 1 rfl) ?_
  refine x_get C hE hW fl_Ld_34 12 rfl rfl d_Ld_copyFrom_152 ?_
  refine lv_iconst (v := 0) C.1.1 C.1.2.1 d_Ld_copyFrom_155 (by decide) ?_
  refine lv_aload_n C.1.1 C.1.2.1 d_Ld_copyFrom_156 rfl (lv_at hl 0 rfl) ?_
  refine x_get C hE hW fl_Ld_34 0 rfl rfl d_Ld_copyFrom_157 ?_
  refine lv_iconst (v := 0) C.1.1 C.1.2.1 d_Ld_copyFrom_160 (by decide) ?_
  refine lv_bipush (v := 6) C.1.1 C.1.2.1 d_Ld_copyFrom_161 (by decide) ?_
  obtain ⟨x8, ex8⟩ : ∃ y : Nat → Int32, y = va_cpy O_selves N_selves (0 : Int32).toNatClampNeg (0 : Int32).toNatClampNeg (6 : Int32).toNatClampNeg := ⟨_, rfl⟩
  replace h := lt_at ex8 h
  refine x_copyi (ws' := [(aN, .inr (0, [.int O_width, .int O_height, .long O_everywhere, .long O_firstColumn, .long O_lastColumn, .ref aN_grounds, .ref aN_airs, .ref aN_tolds, .ref aN_fees, .ref aN_lets, .int O_makers, .ref aN_kinds, .ref aN_cells, .ref aN_selves, .ref aN_cries, .int N_leaves, .ref aN_parts, .int N_pasts, .ref aN_past])), (aN_grounds, .inl (gJ G, 3, .inr (.inl x1))), (aN_airs, .inl (gJ G, 6, .inr (.inl x2))), (aN_tolds, .inl (gJ G, 3, .inr (.inl x3))), (aN_fees, .inl (gI G, 6, .inl x4)), (aN_lets, .inl (gI G, 6, .inl x5)), (aN_kinds, .inl (gI G, 6, .inl x6)), (aN_cells, .inl (gI G, 6, .inl x7)), (aN_selves, .inl (gI G, 6, .inl x8)), (aN_cries, .inl (gI G, 6, .inl N_cries)), (aN_parts, .inl (gI G, 40, .inl N_parts)), (aN_past, .inl (gI G, 328, .inl N_past)), (aO, .inr (0, [.int O_width, .int O_height, .long O_everywhere, .long O_firstColumn, .long O_lastColumn, .ref aO_grounds, .ref aO_airs, .ref aO_tolds, .ref aO_fees, .ref aO_lets, .int O_makers, .ref aO_kinds, .ref aO_cells, .ref aO_selves, .ref aO_cries, .int O_leaves, .ref aO_parts, .int O_pasts, .ref aO_past])), (aO_grounds, .inl (gJ G, 3, .inr (.inl O_grounds))), (aO_airs, .inl (gJ G, 6, .inr (.inl O_airs))), (aO_tolds, .inl (gJ G, 3, .inr (.inl O_tolds))), (aO_fees, .inl (gI G, 6, .inl O_fees)), (aO_lets, .inl (gI G, 6, .inl O_lets)), (aO_kinds, .inl (gI G, 6, .inl O_kinds)), (aO_cells, .inl (gI G, 6, .inl O_cells)), (aO_selves, .inl (gI G, 6, .inl O_selves)), (aO_cries, .inl (gI G, 6, .inl O_cries)), (aO_parts, .inl (gI G, 40, .inl O_parts)), (aO_past, .inl (gI G, 328, .inl O_past))]) C hE hW hl tw372 20 8 rfl rfl (cpOk_at (by decide)) (by subst ex8; rfl) (Nat.le_of_ble_eq_true rfl) (Nat.le_of_ble_eq_true rfl) d_Ld_copyFrom_163 (fun H locs hW => ?_)
  refine lv_aload_n C.1.1 C.1.2.1 d_Ld_copyFrom_166 rfl (lv_at hl 1 rfl) ?_
  refine x_get C hE hW fl_Ld_37 12 rfl rfl d_Ld_copyFrom_167 ?_
  refine lv_iconst (v := 0) C.1.1 C.1.2.1 d_Ld_copyFrom_170 (by decide) ?_
  refine lv_aload_n C.1.1 C.1.2.1 d_Ld_copyFrom_171 rfl (lv_at hl 0 rfl) ?_
  refine x_get C hE hW fl_Ld_37 0 rfl rfl d_Ld_copyFrom_172 ?_
  refine lv_iconst (v := 0) C.1.1 C.1.2.1 d_Ld_copyFrom_175 (by decide) ?_
  refine lv_bipush (v := 6) C.1.1 C.1.2.1 d_Ld_copyFrom_176 (by decide) ?_
  obtain ⟨x9, ex9⟩ : ∃ y : Nat → Int32, y = va_cpy O_cries N_cries (0 : Int32).toNatClampNeg (0 : Int32).toNatClampNeg (6 : Int32).toNatClampNeg := ⟨_, rfl⟩
  replace h := lt_at ex9 h
  refine x_copyi (ws' := [(aN, .inr (0, [.int O_width, .int O_height, .long O_everywhere, .long O_firstColumn, .long O_lastColumn, .ref aN_grounds, .ref aN_airs, .ref aN_tolds, .ref aN_fees, .ref aN_lets, .int O_makers, .ref aN_kinds, .ref aN_cells, .ref aN_selves, .ref aN_cries, .int N_leaves, .ref aN_parts, .int N_pasts, .ref aN_past])), (aN_grounds, .inl (gJ G, 3, .inr (.inl x1))), (aN_airs, .inl (gJ G, 6, .inr (.inl x2))), (aN_tolds, .inl (gJ G, 3, .inr (.inl x3))), (aN_fees, .inl (gI G, 6, .inl x4)), (aN_lets, .inl (gI G, 6, .inl x5)), (aN_kinds, .inl (gI G, 6, .inl x6)), (aN_cells, .inl (gI G, 6, .inl x7)), (aN_selves, .inl (gI G, 6, .inl x8)), (aN_cries, .inl (gI G, 6, .inl x9)), (aN_parts, .inl (gI G, 40, .inl N_parts)), (aN_past, .inl (gI G, 328, .inl N_past)), (aO, .inr (0, [.int O_width, .int O_height, .long O_everywhere, .long O_firstColumn, .long O_lastColumn, .ref aO_grounds, .ref aO_airs, .ref aO_tolds, .ref aO_fees, .ref aO_lets, .int O_makers, .ref aO_kinds, .ref aO_cells, .ref aO_selves, .ref aO_cries, .int O_leaves, .ref aO_parts, .int O_pasts, .ref aO_past])), (aO_grounds, .inl (gJ G, 3, .inr (.inl O_grounds))), (aO_airs, .inl (gJ G, 6, .inr (.inl O_airs))), (aO_tolds, .inl (gJ G, 3, .inr (.inl O_tolds))), (aO_fees, .inl (gI G, 6, .inl O_fees)), (aO_lets, .inl (gI G, 6, .inl O_lets)), (aO_kinds, .inl (gI G, 6, .inl O_kinds)), (aO_cells, .inl (gI G, 6, .inl O_cells)), (aO_selves, .inl (gI G, 6, .inl O_selves)), (aO_cries, .inl (gI G, 6, .inl O_cries)), (aO_parts, .inl (gI G, 40, .inl O_parts)), (aO_past, .inl (gI G, 328, .inl O_past))]) C hE hW hl tw372 21 9 rfl rfl (cpOk_at (by decide)) (by subst ex9; rfl) (Nat.le_of_ble_eq_true rfl) (Nat.le_of_ble_eq_true rfl) d_Ld_copyFrom_178 (fun H locs hW => ?_)
  refine lv_aload_n C.1.1 C.1.2.1 d_Ld_copyFrom_181 rfl (lv_at hl 0 rfl) ?_
  refine lv_aload_n C.1.1 C.1.2.1 d_Ld_copyFrom_182 rfl (lv_at hl 1 rfl) ?_
  refine x_get C hE hW fl_Ld_80 12 rfl rfl d_Ld_copyFrom_183 ?_
  refine x_put (ws' := [(aN, .inr (0, [.int O_width, .int O_height, .long O_everywhere, .long O_firstColumn, .long O_lastColumn, .ref aN_grounds, .ref aN_airs, .ref aN_tolds, .ref aN_fees, .ref aN_lets, .int O_makers, .ref aN_kinds, .ref aN_cells, .ref aN_selves, .ref aN_cries, .int O_leaves, .ref aN_parts, .int N_pasts, .ref aN_past])), (aN_grounds, .inl (gJ G, 3, .inr (.inl x1))), (aN_airs, .inl (gJ G, 6, .inr (.inl x2))), (aN_tolds, .inl (gJ G, 3, .inr (.inl x3))), (aN_fees, .inl (gI G, 6, .inl x4)), (aN_lets, .inl (gI G, 6, .inl x5)), (aN_kinds, .inl (gI G, 6, .inl x6)), (aN_cells, .inl (gI G, 6, .inl x7)), (aN_selves, .inl (gI G, 6, .inl x8)), (aN_cries, .inl (gI G, 6, .inl x9)), (aN_parts, .inl (gI G, 40, .inl N_parts)), (aN_past, .inl (gI G, 328, .inl N_past)), (aO, .inr (0, [.int O_width, .int O_height, .long O_everywhere, .long O_firstColumn, .long O_lastColumn, .ref aO_grounds, .ref aO_airs, .ref aO_tolds, .ref aO_fees, .ref aO_lets, .int O_makers, .ref aO_kinds, .ref aO_cells, .ref aO_selves, .ref aO_cries, .int O_leaves, .ref aO_parts, .int O_pasts, .ref aO_past])), (aO_grounds, .inl (gJ G, 3, .inr (.inl O_grounds))), (aO_airs, .inl (gJ G, 6, .inr (.inl O_airs))), (aO_tolds, .inl (gJ G, 3, .inr (.inl O_tolds))), (aO_fees, .inl (gI G, 6, .inl O_fees)), (aO_lets, .inl (gI G, 6, .inl O_lets)), (aO_kinds, .inl (gI G, 6, .inl O_kinds)), (aO_cells, .inl (gI G, 6, .inl O_cells)), (aO_selves, .inl (gI G, 6, .inl O_selves)), (aO_cries, .inl (gI G, 6, .inl O_cries)), (aO_parts, .inl (gI G, 40, .inl O_parts)), (aO_past, .inl (gI G, 328, .inl O_past))]) C hE hW fp_Ld_80 0 rfl rfl rfl (Nat.le_of_ble_eq_true rfl) rfl d_Ld_copyFrom_186 (fun H locs hW => ?_)
  refine lv_aload_n C.1.1 C.1.2.1 d_Ld_copyFrom_189 rfl (lv_at hl 1 rfl) ?_
  refine x_get C hE hW fl_Ld_40 12 rfl rfl d_Ld_copyFrom_190 ?_
  refine lv_iconst (v := 0) C.1.1 C.1.2.1 d_Ld_copyFrom_193 (by decide) ?_
  refine lv_aload_n C.1.1 C.1.2.1 d_Ld_copyFrom_194 rfl (lv_at hl 0 rfl) ?_
  refine x_get C hE hW fl_Ld_40 0 rfl rfl d_Ld_copyFrom_195 ?_
  refine lv_iconst (v := 0) C.1.1 C.1.2.1 d_Ld_copyFrom_198 (by decide) ?_
  refine lv_bipush (v := 40) C.1.1 C.1.2.1 d_Ld_copyFrom_199 (by decide) ?_
  obtain ⟨x10, ex10⟩ : ∃ y : Nat → Int32, y = va_cpy O_parts N_parts (0 : Int32).toNatClampNeg (0 : Int32).toNatClampNeg (40 : Int32).toNatClampNeg := ⟨_, rfl⟩
  replace h := lt_at ex10 h
  refine x_copyi (ws' := [(aN, .inr (0, [.int O_width, .int O_height, .long O_everywhere, .long O_firstColumn, .long O_lastColumn, .ref aN_grounds, .ref aN_airs, .ref aN_tolds, .ref aN_fees, .ref aN_lets, .int O_makers, .ref aN_kinds, .ref aN_cells, .ref aN_selves, .ref aN_cries, .int O_leaves, .ref aN_parts, .int N_pasts, .ref aN_past])), (aN_grounds, .inl (gJ G, 3, .inr (.inl x1))), (aN_airs, .inl (gJ G, 6, .inr (.inl x2))), (aN_tolds, .inl (gJ G, 3, .inr (.inl x3))), (aN_fees, .inl (gI G, 6, .inl x4)), (aN_lets, .inl (gI G, 6, .inl x5)), (aN_kinds, .inl (gI G, 6, .inl x6)), (aN_cells, .inl (gI G, 6, .inl x7)), (aN_selves, .inl (gI G, 6, .inl x8)), (aN_cries, .inl (gI G, 6, .inl x9)), (aN_parts, .inl (gI G, 40, .inl x10)), (aN_past, .inl (gI G, 328, .inl N_past)), (aO, .inr (0, [.int O_width, .int O_height, .long O_everywhere, .long O_firstColumn, .long O_lastColumn, .ref aO_grounds, .ref aO_airs, .ref aO_tolds, .ref aO_fees, .ref aO_lets, .int O_makers, .ref aO_kinds, .ref aO_cells, .ref aO_selves, .ref aO_cries, .int O_leaves, .ref aO_parts, .int O_pasts, .ref aO_past])), (aO_grounds, .inl (gJ G, 3, .inr (.inl O_grounds))), (aO_airs, .inl (gJ G, 6, .inr (.inl O_airs))), (aO_tolds, .inl (gJ G, 3, .inr (.inl O_tolds))), (aO_fees, .inl (gI G, 6, .inl O_fees)), (aO_lets, .inl (gI G, 6, .inl O_lets)), (aO_kinds, .inl (gI G, 6, .inl O_kinds)), (aO_cells, .inl (gI G, 6, .inl O_cells)), (aO_selves, .inl (gI G, 6, .inl O_selves)), (aO_cries, .inl (gI G, 6, .inl O_cries)), (aO_parts, .inl (gI G, 40, .inl O_parts)), (aO_past, .inl (gI G, 328, .inl O_past))]) C hE hW hl tw372 22 10 rfl rfl (cpOk_at (by decide)) (by subst ex10; rfl) (Nat.le_of_ble_eq_true rfl) (Nat.le_of_ble_eq_true rfl) d_Ld_copyFrom_201 (fun H locs hW => ?_)
  refine lv_aload_n C.1.1 C.1.2.1 d_Ld_copyFrom_204 rfl (lv_at hl 0 rfl) ?_
  refine lv_aload_n C.1.1 C.1.2.1 d_Ld_copyFrom_205 rfl (lv_at hl 1 rfl) ?_
  refine x_get C hE hW fl_Ld_83 12 rfl rfl d_Ld_copyFrom_206 ?_
  refine x_put (ws' := [(aN, .inr (0, [.int O_width, .int O_height, .long O_everywhere, .long O_firstColumn, .long O_lastColumn, .ref aN_grounds, .ref aN_airs, .ref aN_tolds, .ref aN_fees, .ref aN_lets, .int O_makers, .ref aN_kinds, .ref aN_cells, .ref aN_selves, .ref aN_cries, .int O_leaves, .ref aN_parts, .int O_pasts, .ref aN_past])), (aN_grounds, .inl (gJ G, 3, .inr (.inl x1))), (aN_airs, .inl (gJ G, 6, .inr (.inl x2))), (aN_tolds, .inl (gJ G, 3, .inr (.inl x3))), (aN_fees, .inl (gI G, 6, .inl x4)), (aN_lets, .inl (gI G, 6, .inl x5)), (aN_kinds, .inl (gI G, 6, .inl x6)), (aN_cells, .inl (gI G, 6, .inl x7)), (aN_selves, .inl (gI G, 6, .inl x8)), (aN_cries, .inl (gI G, 6, .inl x9)), (aN_parts, .inl (gI G, 40, .inl x10)), (aN_past, .inl (gI G, 328, .inl N_past)), (aO, .inr (0, [.int O_width, .int O_height, .long O_everywhere, .long O_firstColumn, .long O_lastColumn, .ref aO_grounds, .ref aO_airs, .ref aO_tolds, .ref aO_fees, .ref aO_lets, .int O_makers, .ref aO_kinds, .ref aO_cells, .ref aO_selves, .ref aO_cries, .int O_leaves, .ref aO_parts, .int O_pasts, .ref aO_past])), (aO_grounds, .inl (gJ G, 3, .inr (.inl O_grounds))), (aO_airs, .inl (gJ G, 6, .inr (.inl O_airs))), (aO_tolds, .inl (gJ G, 3, .inr (.inl O_tolds))), (aO_fees, .inl (gI G, 6, .inl O_fees)), (aO_lets, .inl (gI G, 6, .inl O_lets)), (aO_kinds, .inl (gI G, 6, .inl O_kinds)), (aO_cells, .inl (gI G, 6, .inl O_cells)), (aO_selves, .inl (gI G, 6, .inl O_selves)), (aO_cries, .inl (gI G, 6, .inl O_cries)), (aO_parts, .inl (gI G, 40, .inl O_parts)), (aO_past, .inl (gI G, 328, .inl O_past))]) C hE hW fp_Ld_83 0 rfl rfl rfl (Nat.le_of_ble_eq_true rfl) rfl d_Ld_copyFrom_209 (fun H locs hW => ?_)
  refine lv_aload_n C.1.1 C.1.2.1 d_Ld_copyFrom_212 rfl (lv_at hl 1 rfl) ?_
  refine x_get C hE hW fl_Ld_43 12 rfl rfl d_Ld_copyFrom_213 ?_
  refine lv_iconst (v := 0) C.1.1 C.1.2.1 d_Ld_copyFrom_216 (by decide) ?_
  refine lv_aload_n C.1.1 C.1.2.1 d_Ld_copyFrom_217 rfl (lv_at hl 0 rfl) ?_
  refine x_get C hE hW fl_Ld_43 0 rfl rfl d_Ld_copyFrom_218 ?_
  refine lv_iconst (v := 0) C.1.1 C.1.2.1 d_Ld_copyFrom_221 (by decide) ?_
  refine lv_sipush (v := 328) C.1.1 C.1.2.1 d_Ld_copyFrom_222 (by decide) ?_
  obtain ⟨x11, ex11⟩ : ∃ y : Nat → Int32, y = va_cpy O_past N_past (0 : Int32).toNatClampNeg (0 : Int32).toNatClampNeg (328 : Int32).toNatClampNeg := ⟨_, rfl⟩
  replace h := lt_at ex11 h
  refine x_copyi (ws' := [(aN, .inr (0, [.int O_width, .int O_height, .long O_everywhere, .long O_firstColumn, .long O_lastColumn, .ref aN_grounds, .ref aN_airs, .ref aN_tolds, .ref aN_fees, .ref aN_lets, .int O_makers, .ref aN_kinds, .ref aN_cells, .ref aN_selves, .ref aN_cries, .int O_leaves, .ref aN_parts, .int O_pasts, .ref aN_past])), (aN_grounds, .inl (gJ G, 3, .inr (.inl x1))), (aN_airs, .inl (gJ G, 6, .inr (.inl x2))), (aN_tolds, .inl (gJ G, 3, .inr (.inl x3))), (aN_fees, .inl (gI G, 6, .inl x4)), (aN_lets, .inl (gI G, 6, .inl x5)), (aN_kinds, .inl (gI G, 6, .inl x6)), (aN_cells, .inl (gI G, 6, .inl x7)), (aN_selves, .inl (gI G, 6, .inl x8)), (aN_cries, .inl (gI G, 6, .inl x9)), (aN_parts, .inl (gI G, 40, .inl x10)), (aN_past, .inl (gI G, 328, .inl x11)), (aO, .inr (0, [.int O_width, .int O_height, .long O_everywhere, .long O_firstColumn, .long O_lastColumn, .ref aO_grounds, .ref aO_airs, .ref aO_tolds, .ref aO_fees, .ref aO_lets, .int O_makers, .ref aO_kinds, .ref aO_cells, .ref aO_selves, .ref aO_cries, .int O_leaves, .ref aO_parts, .int O_pasts, .ref aO_past])), (aO_grounds, .inl (gJ G, 3, .inr (.inl O_grounds))), (aO_airs, .inl (gJ G, 6, .inr (.inl O_airs))), (aO_tolds, .inl (gJ G, 3, .inr (.inl O_tolds))), (aO_fees, .inl (gI G, 6, .inl O_fees)), (aO_lets, .inl (gI G, 6, .inl O_lets)), (aO_kinds, .inl (gI G, 6, .inl O_kinds)), (aO_cells, .inl (gI G, 6, .inl O_cells)), (aO_selves, .inl (gI G, 6, .inl O_selves)), (aO_cries, .inl (gI G, 6, .inl O_cries)), (aO_parts, .inl (gI G, 40, .inl O_parts)), (aO_past, .inl (gI G, 328, .inl O_past))]) C hE hW hl tw372 23 11 rfl rfl (cpOk_at (by decide)) (by subst ex11; rfl) (Nat.le_of_ble_eq_true rfl) (Nat.le_of_ble_eq_true rfl) d_Ld_copyFrom_225 (fun H locs hW => ?_)
  obtain rfl := Option.some.inj h
  exact x_vret C hW rfl rfl hQ d_Ld_copyFrom_228
set_option maxHeartbeats 4000000 in
set_option maxRecDepth 100000 in
theorem c_Ld_rowOf (l : Launch) (G : Gl) (aP : Nat) (nP : Nat) (P_c : Nat → Int64) (p2 : Int32) {res : Int32} (h : f_Ld_rowOf nP P_c p2 = some res) : Ct l y_Ld_rowOf b_Ld_rowOf 3 (some .int) 1 22 G [.ref aP, .int p2] [(aP, .inl (gJ G, nP, .inr (.inl P_c)))] (some (.int res)) [(aP, .inl (gJ G, nP, .inr (.inl P_c)))] := by
  refine Ct.mk (by decide) (Nat.le_of_ble_eq_true rfl) ?_
  intro p e s m args below meth c ls A Q C hE hW hl hQ
  have C : Cx p s args m c meth "LentAir$Land" y_Ld_rowOf b_Ld_rowOf 3 (some .int) := C
  have hl : lv_has ls 3 [(0, .ref aP), (1, .int p2)] := hl
  unfold f_Ld_rowOf at h
  refine lv_iconst (v := 0) C.1.1 C.1.2.1 d_Ld_rowOf_0 (by decide) ?_
  refine lv_istore_n (lv' := [(2, .int 0), (0, .ref aP), (1, .int p2)]) C.1.1 C.1.2.1 d_Ld_rowOf_1 rfl hl (by decide) rfl (fun ls hl => ?_)
  refine lp_at (P := fun (x1 : Int32) => ∀ (H : Heap) (locs : List Loc) (ls : Array Slot), Wd G A s.heap H locs [(aP, .inl (gJ G, nP, .inr (.inl P_c)))] → lv_has ls 3 [(0, .ref aP), (1, .int p2), (2, .int x1)] → W p l e (RM 1 22) s m args below meth c H locs 0 0 Q (F0 m 2 ls [])) ?_ FU _ h _ _ _ hW (lv_sub hl [1, 2, 0] rfl)
  clear h hl hW
  intro rec2 ih2
  intro x1 h
  unfold f_Ld_rowOf_L2 at h
  intro H locs ls hW hl
  refine lv_iload_n C.1.1 C.1.2.1 d_Ld_rowOf_2 rfl (lv_at hl 2 rfl) ?_
  refine lv_aload_n C.1.1 C.1.2.1 d_Ld_rowOf_3 rfl (lv_at hl 0 rfl) ?_
  refine x_alen (v := Int32.ofNat nP) C hE hW 0 1 rfl rfl rfl d_Ld_rowOf_4 ?_
  refine lv_icmp_ge (tgt := 26) C.1.1 C.1.2.1 d_Ld_rowOf_5 (by decide) (fun cc => ?_) (fun cc => ?_)
  · replace h := it_t cc h
    refine lv_iconst (v := 0) C.1.1 C.1.2.1 d_Ld_rowOf_26 (by decide) ?_
    obtain rfl := Option.some.inj h
    exact x_iret C hW rfl rfl hQ d_Ld_rowOf_27
  · replace h := it_f cc h
    refine lv_aload_n C.1.1 C.1.2.1 d_Ld_rowOf_8 rfl (lv_at hl 0 rfl) ?_
    refine lv_iload_n C.1.1 C.1.2.1 d_Ld_rowOf_9 rfl (lv_at hl 2 rfl) ?_
    obtain ⟨hg, h⟩ := gd_at h
    refine x_lald C hE hW 0 rfl (inB_in hg) d_Ld_rowOf_10 ?_
    refine lv_iload_n C.1.1 C.1.2.1 d_Ld_rowOf_11 rfl (lv_at hl 1 rfl) ?_
    obtain ⟨x2, hc3, h⟩ := bd_at h
    refine x_callN (ws' := [(aP, .inl (gJ G, nP, .inr (.inl P_c)))]) (stk := [.int x2]) (rest := []) (As := [.long (P_c x1.toNatClampNeg), .int p2]) C hE hW (c_Ai_hasCell l G (P_c x1.toNatClampNeg) p2 hc3) cv_Ai_hasCell hE.2.1 hl rfl rfl (Nat.le_of_ble_eq_true rfl) ⟨Nat.le_of_ble_eq_true rfl, Nat.le_of_ble_eq_true rfl⟩ ⟨Nat.zero_le _, Nat.zero_le _⟩ [] [0] [0] rfl rfl rfl (by decide) rfl rfl rfl rfl d_Ld_rowOf_12 (fun H locs hW => ?_)
    refine lv_if_eq (tgt := 20) C.1.1 C.1.2.1 d_Ld_rowOf_15 (by decide) (fun cc => ?_) (fun cc => ?_)
    · replace h := it_t cc h
      obtain ⟨x4, ex4⟩ : ∃ y : Int32, y = x1 + 1 := ⟨_, rfl⟩
      replace h := lt_at ex4 h
      refine lv_iinc (v := x4) (lv' := [(2, .int x4), (0, .ref aP), (1, .int p2)]) C.1.1 C.1.2.1 d_Ld_rowOf_20 hl (k := 2) rfl (by rw [ex4]; rfl) (by decide) rfl (fun ls hl => ?_)
      refine lv_goto (tgt := 2) C.1.1 C.1.2.1 d_Ld_rowOf_23 (by decide) ?_
      exact ih2 _ h _ _ _ hW (lv_sub hl [1, 2, 0] rfl)
    · replace h := it_f cc h
      refine lv_iload_n C.1.1 C.1.2.1 d_Ld_rowOf_18 rfl (lv_at hl 2 rfl) ?_
      obtain rfl := Option.some.inj h
      exact x_iret C hW rfl rfl hQ d_Ld_rowOf_19
set_option maxHeartbeats 4000000 in
set_option maxRecDepth 100000 in
theorem c_Ld_sortInto (l : Launch) (G : Gl) (aP : Nat) (nP : Nat) (P_c : Nat → Int64) (p2 : Int32) (p3 : Int32) {res : Int32 × (Nat → Int64)} (h : f_Ld_sortInto nP P_c p2 p3 = some res) : Ct l y_Ld_sortInto b_Ld_sortInto 7 (some .int) 2 44 G [.ref aP, .int p2, .int p3] [(aP, .inl (gJ G, nP, .inr (.inl P_c)))] (some (.int res.1)) [(aP, .inl (gJ G, nP, .inr (.inl (res.2))))] := by
  refine Ct.mk (by decide) (Nat.le_of_ble_eq_true rfl) ?_
  intro p e s m args below meth c ls A Q C hE hW hl hQ
  have C : Cx p s args m c meth "LentAir$Land" y_Ld_sortInto b_Ld_sortInto 7 (some .int) := C
  have hl : lv_has ls 7 [(0, .ref aP), (1, .int p2), (2, .int p3)] := hl
  unfold f_Ld_sortInto at h
  refine lv_aload_n C.1.1 C.1.2.1 d_Ld_sortInto_0 rfl (lv_at hl 0 rfl) ?_
  refine lv_iload_n C.1.1 C.1.2.1 d_Ld_sortInto_1 rfl (lv_at hl 1 rfl) ?_
  obtain ⟨x1, hc2, h⟩ := bd_at h
  refine x_callS (ws' := [(aP, .inl (gJ G, nP, .inr (.inl P_c)))]) (stk := [.int x1]) (rest := []) (As := [.ref aP, .int p2]) C hE hW (c_Ld_rowOf l G aP nP P_c p2 hc2) cv_Ld_rowOf tw328 hl rfl rfl (Nat.le_of_ble_eq_true rfl) ⟨Nat.le_of_ble_eq_true rfl, Nat.le_of_ble_eq_true rfl⟩ ⟨Nat.zero_le _, Nat.zero_le _⟩ [0] [] [0] rfl rfl rfl (by decide) rfl rfl rfl rfl d_Ld_sortInto_2 (fun H locs hW => ?_)
  refine lv_istore_n (lv' := [(3, .int x1), (0, .ref aP), (1, .int p2), (2, .int p3)]) C.1.1 C.1.2.1 d_Ld_sortInto_5 rfl hl (by decide) rfl (fun ls hl => ?_)
  refine lv_lconst (v := 1) C.1.1 C.1.2.1 d_Ld_sortInto_6 (by decide) ?_
  refine lv_iload_n C.1.1 C.1.2.1 d_Ld_sortInto_7 rfl (lv_at hl 2 rfl) ?_
  refine lv_lshl C.1.1 C.1.2.1 d_Ld_sortInto_8 rfl ?_
  refine lv_topl (fun x3 ex3 => ?_)
  replace h := lt_at ex3 h
  refine lv_lstore (lv' := [(4, .long x3), (3, .int x1), (0, .ref aP), (1, .int p2), (2, .int p3)]) C.1.1 C.1.2.1 d_Ld_sortInto_9 hl (by decide) rfl (fun ls hl => ?_)
  refine lv_iconst (v := 0) C.1.1 C.1.2.1 d_Ld_sortInto_11 (by decide) ?_
  refine lv_istore (lv' := [(6, .int 0), (4, .long x3), (3, .int x1), (0, .ref aP), (1, .int p2), (2, .int p3)]) C.1.1 C.1.2.1 d_Ld_sortInto_12 hl (by decide) rfl (fun ls hl => ?_)
  refine lp_at (P := fun ((x4, x5) : Int32 × (Nat → Int64)) => ∀ (H : Heap) (locs : List Loc) (ls : Array Slot), Wd G A s.heap H locs [(aP, .inl (gJ G, nP, .inr (.inl x5)))] → lv_has ls 7 [(0, .ref aP), (2, .int p3), (3, .int x1), (4, .long x3), (6, .int x4)] → W p l e (RM 2 44) s m args below meth c H locs 0 0 Q (F0 m 14 ls [])) ?_ FU _ h _ _ _ hW (lv_sub hl [3, 5, 2, 1, 0] rfl)
  clear h hl hW
  intro rec14 ih14
  intro x h
  obtain ⟨x4, x5⟩ := x
  unfold f_Ld_sortInto_L14 at h
  intro H locs ls hW hl
  refine lv_iload C.1.1 C.1.2.1 d_Ld_sortInto_14 (lv_at hl 4 rfl) ?_
  refine lv_aload_n C.1.1 C.1.2.1 d_Ld_sortInto_16 rfl (lv_at hl 0 rfl) ?_
  refine x_alen (v := Int32.ofNat nP) C hE hW 0 1 rfl rfl rfl d_Ld_sortInto_17 ?_
  refine lv_icmp_ge (tgt := 58) C.1.1 C.1.2.1 d_Ld_sortInto_18 (by decide) (fun cc => ?_) (fun cc => ?_)
  · replace h := it_t cc h
    refine lv_iload_n C.1.1 C.1.2.1 d_Ld_sortInto_58 rfl (lv_at hl 2 rfl) ?_
    obtain rfl := Option.some.inj h
    exact x_iret C hW rfl rfl hQ d_Ld_sortInto_59
  · replace h := it_f cc h
    refine lv_aload_n C.1.1 C.1.2.1 d_Ld_sortInto_21 rfl (lv_at hl 0 rfl) ?_
    refine lv_iload C.1.1 C.1.2.1 d_Ld_sortInto_22 (lv_at hl 4 rfl) ?_
    refine lv_iload C.1.1 C.1.2.1 d_Ld_sortInto_24 (lv_at hl 4 rfl) ?_
    refine lv_iload_n C.1.1 C.1.2.1 d_Ld_sortInto_26 rfl (lv_at hl 1 rfl) ?_
    refine jn_at (P := fun (x6 : Int64) => ∀ (H : Heap) (locs : List Loc) (ls : Array Slot), Wd G A s.heap H locs [(aP, .inl (gJ G, nP, .inr (.inl x5)))] → lv_has ls 7 [(0, .ref aP), (2, .int p3), (3, .int x1), (4, .long x3), (6, .int x4)] → W p l e (RM 2 44) s m args below meth c H locs 0 0 Q (F0 m 51 ls [.long x6, .int x4, .ref aP])) h ?_ ?_
    · skip
      intro x6 h
      intro H locs ls hW hl
      obtain ⟨hg, h⟩ := gd_at h
      obtain ⟨x7, ex7⟩ : ∃ y : Nat → Int64, y = vp_updL x5 x4.toNatClampNeg x6 := ⟨_, rfl⟩
      replace h := lt_at ex7 h
      refine x_last (ws' := [(aP, .inl (gJ G, nP, .inr (.inl x7)))]) C hE hW 0 rfl (inB_in hg) (by subst ex7; rfl) d_Ld_sortInto_51 (fun H locs hW => ?_)
      obtain ⟨x8, ex8⟩ : ∃ y : Int32, y = x4 + 1 := ⟨_, rfl⟩
      replace h := lt_at ex8 h
      refine lv_iinc (v := x8) (lv' := [(6, .int x8), (0, .ref aP), (2, .int p3), (3, .int x1), (4, .long x3)]) C.1.1 C.1.2.1 d_Ld_sortInto_52 hl (k := 4) rfl (by rw [ex8]; rfl) (by decide) rfl (fun ls hl => ?_)
      refine lv_goto (tgt := 14) C.1.1 C.1.2.1 d_Ld_sortInto_55 (by decide) ?_
      exact ih14 _ h _ _ _ hW (lv_sub hl [1, 2, 3, 4, 0] rfl)
    · intro J51 hJ51 h
      refine lv_icmp_ne (tgt := 40) C.1.1 C.1.2.1 d_Ld_sortInto_27 (by decide) (fun cc => ?_) (fun cc => ?_)
      · replace h := it_f cc h
        refine lv_aload_n C.1.1 C.1.2.1 d_Ld_sortInto_40 rfl (lv_at hl 0 rfl) ?_
        refine lv_iload C.1.1 C.1.2.1 d_Ld_sortInto_41 (lv_at hl 4 rfl) ?_
        obtain ⟨hg, h⟩ := gd_at h
        refine x_lald C hE hW 0 rfl (inB_in hg) d_Ld_sortInto_43 ?_
        refine lv_lload C.1.1 C.1.2.1 d_Ld_sortInto_44 (lv_at hl 3 rfl) ?_
        refine lv_ldc2 (own := "LentAir$Land") (v := (-1)) C.1.1 C.1.2.1 C.1.2.2.2.1 (C.w tw334) d_Ld_sortInto_46 ?_
        refine lv_lxor C.1.1 C.1.2.1 d_Ld_sortInto_49 ?_
        refine lv_land C.1.1 C.1.2.1 d_Ld_sortInto_50 ?_
        exact hJ51 _ h _ _ _ hW (lv_sub hl [0, 1, 2, 3, 4] rfl)
      · replace h := it_t cc h
        refine lv_aload_n C.1.1 C.1.2.1 d_Ld_sortInto_30 rfl (lv_at hl 0 rfl) ?_
        refine lv_iload C.1.1 C.1.2.1 d_Ld_sortInto_31 (lv_at hl 4 rfl) ?_
        obtain ⟨hg, h⟩ := gd_at h
        refine x_lald C hE hW 0 rfl (inB_in hg) d_Ld_sortInto_33 ?_
        refine lv_lload C.1.1 C.1.2.1 d_Ld_sortInto_34 (lv_at hl 3 rfl) ?_
        refine lv_lor C.1.1 C.1.2.1 d_Ld_sortInto_36 ?_
        refine lv_goto (tgt := 51) C.1.1 C.1.2.1 d_Ld_sortInto_37 (by decide) ?_
        exact hJ51 _ h _ _ _ hW (lv_sub hl [0, 1, 2, 3, 4] rfl)
set_option maxHeartbeats 4000000 in
set_option maxRecDepth 100000 in
theorem c_Ld_beside (l : Launch) (G : Gl) (aN : Nat) (aN_grounds : Nat) (aN_airs : Nat) (aN_tolds : Nat) (aN_fees : Nat) (aN_lets : Nat) (aN_kinds : Nat) (aN_cells : Nat) (aN_selves : Nat) (aN_cries : Nat) (aN_parts : Nat) (aN_past : Nat) (N_width : Int32) (N_height : Int32) (N_everywhere : Int64) (N_firstColumn : Int64) (N_lastColumn : Int64) (N_makers : Int32) (N_leaves : Int32) (N_pasts : Int32) (p1 : Int64) {res : Int64} (h : f_Ld_beside N_width N_everywhere N_firstColumn N_lastColumn p1 = some res) : Ct l y_Ld_beside b_Ld_beside 5 (some .long) 0 0 G [.ref aN, .long p1] [(aN, .inr (0, [.int N_width, .int N_height, .long N_everywhere, .long N_firstColumn, .long N_lastColumn, .ref aN_grounds, .ref aN_airs, .ref aN_tolds, .ref aN_fees, .ref aN_lets, .int N_makers, .ref aN_kinds, .ref aN_cells, .ref aN_selves, .ref aN_cries, .int N_leaves, .ref aN_parts, .int N_pasts, .ref aN_past]))] (some (.long res)) [(aN, .inr (0, [.int N_width, .int N_height, .long N_everywhere, .long N_firstColumn, .long N_lastColumn, .ref aN_grounds, .ref aN_airs, .ref aN_tolds, .ref aN_fees, .ref aN_lets, .int N_makers, .ref aN_kinds, .ref aN_cells, .ref aN_selves, .ref aN_cries, .int N_leaves, .ref aN_parts, .int N_pasts, .ref aN_past]))] := by
  refine Ct.mk (by decide) (Nat.le_of_ble_eq_true rfl) ?_
  intro p e s m args below meth c ls A Q C hE hW hl hQ
  have C : Cx p s args m c meth "LentAir$Land" y_Ld_beside b_Ld_beside 5 (some .long) := C
  have hl : lv_has ls 5 [(0, .ref aN), (1, .long p1)] := hl
  unfold f_Ld_beside at h
  refine lv_lload_n C.1.1 C.1.2.1 d_Ld_beside_0 rfl (lv_at hl 1 rfl) ?_
  refine lv_aload_n C.1.1 C.1.2.1 d_Ld_beside_1 rfl (lv_at hl 0 rfl) ?_
  refine x_get C hE hW fl_Ld_61 0 rfl rfl d_Ld_beside_2 ?_
  refine lv_ldc2 (own := "LentAir$Land") (v := (-1)) C.1.1 C.1.2.1 C.1.2.2.2.1 (C.w tw334) d_Ld_beside_5 ?_
  refine lv_lxor C.1.1 C.1.2.1 d_Ld_beside_8 ?_
  refine lv_land C.1.1 C.1.2.1 d_Ld_beside_9 ?_
  refine lv_iconst (v := 1) C.1.1 C.1.2.1 d_Ld_beside_10 (by decide) ?_
  refine lv_lushr C.1.1 C.1.2.1 d_Ld_beside_11 rfl ?_
  refine lv_lload_n C.1.1 C.1.2.1 d_Ld_beside_12 rfl (lv_at hl 1 rfl) ?_
  refine lv_aload_n C.1.1 C.1.2.1 d_Ld_beside_13 rfl (lv_at hl 0 rfl) ?_
  refine x_get C hE hW fl_Ld_64 0 rfl rfl d_Ld_beside_14 ?_
  refine lv_ldc2 (own := "LentAir$Land") (v := (-1)) C.1.1 C.1.2.1 C.1.2.2.2.1 (C.w tw334) d_Ld_beside_17 ?_
  refine lv_lxor C.1.1 C.1.2.1 d_Ld_beside_20 ?_
  refine lv_land C.1.1 C.1.2.1 d_Ld_beside_21 ?_
  refine lv_iconst (v := 1) C.1.1 C.1.2.1 d_Ld_beside_22 (by decide) ?_
  refine lv_lshl C.1.1 C.1.2.1 d_Ld_beside_23 rfl ?_
  refine lv_lor C.1.1 C.1.2.1 d_Ld_beside_24 ?_
  refine lv_topl (fun x1 ex1 => ?_)
  replace h := lt_at ex1 h
  refine lv_lstore_n (lv' := [(3, .long x1), (0, .ref aN), (1, .long p1)]) C.1.1 C.1.2.1 d_Ld_beside_25 rfl hl (by decide) rfl (fun ls hl => ?_)
  refine lv_lload_n C.1.1 C.1.2.1 d_Ld_beside_26 rfl (lv_at hl 0 rfl) ?_
  refine lv_lload_n C.1.1 C.1.2.1 d_Ld_beside_27 rfl (lv_at hl 2 rfl) ?_
  refine lv_aload_n C.1.1 C.1.2.1 d_Ld_beside_28 rfl (lv_at hl 1 rfl) ?_
  refine x_get C hE hW fl_Ld_50 0 rfl rfl d_Ld_beside_29 ?_
  refine lv_lushr C.1.1 C.1.2.1 d_Ld_beside_32 rfl ?_
  refine lv_lor C.1.1 C.1.2.1 d_Ld_beside_33 ?_
  refine lv_lload_n C.1.1 C.1.2.1 d_Ld_beside_34 rfl (lv_at hl 2 rfl) ?_
  refine lv_aload_n C.1.1 C.1.2.1 d_Ld_beside_35 rfl (lv_at hl 1 rfl) ?_
  refine x_get C hE hW fl_Ld_50 0 rfl rfl d_Ld_beside_36 ?_
  refine lv_lshl C.1.1 C.1.2.1 d_Ld_beside_39 rfl ?_
  refine lv_lor C.1.1 C.1.2.1 d_Ld_beside_40 ?_
  refine lv_aload_n C.1.1 C.1.2.1 d_Ld_beside_41 rfl (lv_at hl 1 rfl) ?_
  refine x_get C hE hW fl_Ld_57 0 rfl rfl d_Ld_beside_42 ?_
  refine lv_land C.1.1 C.1.2.1 d_Ld_beside_45 ?_
  obtain rfl := Option.some.inj h
  exact x_lret C hW rfl rfl hQ d_Ld_beside_46
set_option maxHeartbeats 4000000 in
set_option maxRecDepth 100000 in
theorem c_Ld_airOf (l : Launch) (G : Gl) (aN : Nat) (aN_grounds : Nat) (aN_airs : Nat) (aN_tolds : Nat) (aN_fees : Nat) (aN_lets : Nat) (aN_kinds : Nat) (aN_cells : Nat) (aN_selves : Nat) (aN_cries : Nat) (aN_parts : Nat) (aN_past : Nat) (N_width : Int32) (N_height : Int32) (N_everywhere : Int64) (N_firstColumn : Int64) (N_lastColumn : Int64) (N_makers : Int32) (N_leaves : Int32) (N_pasts : Int32) (N_airs : Nat → Int64) (p1 : Int32) {res : Int64} (h : f_Ld_airOf N_airs p1 = some res) : Ct l y_Ld_airOf b_Ld_airOf 2 (some .long) 0 0 G [.ref aN, .int p1] [(aN, .inr (0, [.int N_width, .int N_height, .long N_everywhere, .long N_firstColumn, .long N_lastColumn, .ref aN_grounds, .ref aN_airs, .ref aN_tolds, .ref aN_fees, .ref aN_lets, .int N_makers, .ref aN_kinds, .ref aN_cells, .ref aN_selves, .ref aN_cries, .int N_leaves, .ref aN_parts, .int N_pasts, .ref aN_past])), (aN_airs, .inl (gJ G, 6, .inr (.inl N_airs)))] (some (.long res)) [(aN, .inr (0, [.int N_width, .int N_height, .long N_everywhere, .long N_firstColumn, .long N_lastColumn, .ref aN_grounds, .ref aN_airs, .ref aN_tolds, .ref aN_fees, .ref aN_lets, .int N_makers, .ref aN_kinds, .ref aN_cells, .ref aN_selves, .ref aN_cries, .int N_leaves, .ref aN_parts, .int N_pasts, .ref aN_past])), (aN_airs, .inl (gJ G, 6, .inr (.inl N_airs)))] := by
  refine Ct.mk (by decide) (Nat.le_of_ble_eq_true rfl) ?_
  intro p e s m args below meth c ls A Q C hE hW hl hQ
  have C : Cx p s args m c meth "LentAir$Land" y_Ld_airOf b_Ld_airOf 2 (some .long) := C
  have hl : lv_has ls 2 [(0, .ref aN), (1, .int p1)] := hl
  unfold f_Ld_airOf at h
  refine lv_iload_n C.1.1 C.1.2.1 d_Ld_airOf_0 rfl (lv_at hl 1 rfl) ?_
  refine lv_if_lt (tgt := 19) C.1.1 C.1.2.1 d_Ld_airOf_1 (by decide) (fun cc => ?_) (fun cc => ?_)
  · replace h := it_t cc h
    refine lv_lconst (v := 0) C.1.1 C.1.2.1 d_Ld_airOf_19 (by decide) ?_
    obtain rfl := Option.some.inj h
    exact x_lret C hW rfl rfl hQ d_Ld_airOf_20
  · replace h := it_f cc h
    refine lv_iload_n C.1.1 C.1.2.1 d_Ld_airOf_4 rfl (lv_at hl 1 rfl) ?_
    refine lv_bipush (v := 6) C.1.1 C.1.2.1 d_Ld_airOf_5 (by decide) ?_
    refine lv_icmp_ge (tgt := 19) C.1.1 C.1.2.1 d_Ld_airOf_7 (by decide) (fun cc => ?_) (fun cc => ?_)
    · replace h := it_t cc h
      refine lv_lconst (v := 0) C.1.1 C.1.2.1 d_Ld_airOf_19 (by decide) ?_
      obtain rfl := Option.some.inj h
      exact x_lret C hW rfl rfl hQ d_Ld_airOf_20
    · replace h := it_f cc h
      refine lv_aload_n C.1.1 C.1.2.1 d_Ld_airOf_10 rfl (lv_at hl 0 rfl) ?_
      refine x_get C hE hW fl_Ld_15 0 rfl rfl d_Ld_airOf_11 ?_
      refine lv_iload_n C.1.1 C.1.2.1 d_Ld_airOf_14 rfl (lv_at hl 1 rfl) ?_
      obtain ⟨hg, h⟩ := gd_at h
      refine x_lald C hE hW 1 rfl (inB_in hg) d_Ld_airOf_15 ?_
      refine lv_goto (tgt := 20) C.1.1 C.1.2.1 d_Ld_airOf_16 (by decide) ?_
      obtain rfl := Option.some.inj h
      exact x_lret C hW rfl rfl hQ d_Ld_airOf_20
set_option maxHeartbeats 4000000 in
set_option maxRecDepth 100000 in
theorem c_Ld_changeFee (l : Launch) (G : Gl) (aN : Nat) (aN_grounds : Nat) (aN_airs : Nat) (aN_tolds : Nat) (aN_fees : Nat) (aN_lets : Nat) (aN_kinds : Nat) (aN_cells : Nat) (aN_selves : Nat) (aN_cries : Nat) (aN_parts : Nat) (aN_past : Nat) (N_width : Int32) (N_height : Int32) (N_everywhere : Int64) (N_firstColumn : Int64) (N_lastColumn : Int64) (N_makers : Int32) (N_leaves : Int32) (N_pasts : Int32) (N_fees : Nat → Int32) (p1 : Int32) (p2 : Int32) {res : Int32 × (Nat → Int32)} (h : f_Ld_changeFee N_fees p1 p2 = some res) : Ct l y_Ld_changeFee b_Ld_changeFee 4 (some .int) 0 0 G [.ref aN, .int p1, .int p2] [(aN, .inr (0, [.int N_width, .int N_height, .long N_everywhere, .long N_firstColumn, .long N_lastColumn, .ref aN_grounds, .ref aN_airs, .ref aN_tolds, .ref aN_fees, .ref aN_lets, .int N_makers, .ref aN_kinds, .ref aN_cells, .ref aN_selves, .ref aN_cries, .int N_leaves, .ref aN_parts, .int N_pasts, .ref aN_past])), (aN_fees, .inl (gI G, 6, .inl N_fees))] (some (.int res.1)) [(aN, .inr (0, [.int N_width, .int N_height, .long N_everywhere, .long N_firstColumn, .long N_lastColumn, .ref aN_grounds, .ref aN_airs, .ref aN_tolds, .ref aN_fees, .ref aN_lets, .int N_makers, .ref aN_kinds, .ref aN_cells, .ref aN_selves, .ref aN_cries, .int N_leaves, .ref aN_parts, .int N_pasts, .ref aN_past])), (aN_fees, .inl (gI G, 6, .inl (res.2)))] := by
  refine Ct.mk (by decide) (Nat.le_of_ble_eq_true rfl) ?_
  intro p e s m args below meth c ls A Q C hE hW hl hQ
  have C : Cx p s args m c meth "LentAir$Land" y_Ld_changeFee b_Ld_changeFee 4 (some .int) := C
  have hl : lv_has ls 4 [(0, .ref aN), (1, .int p1), (2, .int p2)] := hl
  unfold f_Ld_changeFee at h
  refine lv_iload_n C.1.1 C.1.2.1 d_Ld_changeFee_0 rfl (lv_at hl 1 rfl) ?_
  refine lv_if_lt (tgt := 10) C.1.1 C.1.2.1 d_Ld_changeFee_1 (by decide) (fun cc => ?_) (fun cc => ?_)
  · replace h := it_t cc h
    refine lv_iconst (v := (-1)) C.1.1 C.1.2.1 d_Ld_changeFee_10 (by decide) ?_
    obtain rfl := Option.some.inj h
    exact x_iret C hW rfl rfl hQ d_Ld_changeFee_11
  · replace h := it_f cc h
    refine lv_iload_n C.1.1 C.1.2.1 d_Ld_changeFee_4 rfl (lv_at hl 1 rfl) ?_
    refine lv_bipush (v := 6) C.1.1 C.1.2.1 d_Ld_changeFee_5 (by decide) ?_
    refine lv_icmp_lt (tgt := 12) C.1.1 C.1.2.1 d_Ld_changeFee_7 (by decide) (fun cc => ?_) (fun cc => ?_)
    · replace h := it_t cc h
      refine lv_aload_n C.1.1 C.1.2.1 d_Ld_changeFee_12 rfl (lv_at hl 0 rfl) ?_
      refine x_get C hE hW fl_Ld_21 0 rfl rfl d_Ld_changeFee_13 ?_
      refine lv_iload_n C.1.1 C.1.2.1 d_Ld_changeFee_16 rfl (lv_at hl 1 rfl) ?_
      obtain ⟨hg, h⟩ := gd_at h
      refine x_iald C hE hW 1 rfl (inB_in hg) d_Ld_changeFee_17 ?_
      refine lv_topi (fun x1 ex1 => ?_)
      replace h := lt_at ex1 h
      refine lv_istore_n (lv' := [(3, .int x1), (0, .ref aN), (1, .int p1), (2, .int p2)]) C.1.1 C.1.2.1 d_Ld_changeFee_18 rfl hl (by decide) rfl (fun ls hl => ?_)
      refine lv_aload_n C.1.1 C.1.2.1 d_Ld_changeFee_19 rfl (lv_at hl 1 rfl) ?_
      refine x_get C hE hW fl_Ld_21 0 rfl rfl d_Ld_changeFee_20 ?_
      refine lv_iload_n C.1.1 C.1.2.1 d_Ld_changeFee_23 rfl (lv_at hl 2 rfl) ?_
      refine lv_iload_n C.1.1 C.1.2.1 d_Ld_changeFee_24 rfl (lv_at hl 3 rfl) ?_
      obtain ⟨hg, h⟩ := gd_at h
      obtain ⟨x2, ex2⟩ : ∃ y : Nat → Int32, y = upd N_fees p1.toNatClampNeg p2 := ⟨_, rfl⟩
      replace h := lt_at ex2 h
      refine x_iast (ws' := [(aN, .inr (0, [.int N_width, .int N_height, .long N_everywhere, .long N_firstColumn, .long N_lastColumn, .ref aN_grounds, .ref aN_airs, .ref aN_tolds, .ref aN_fees, .ref aN_lets, .int N_makers, .ref aN_kinds, .ref aN_cells, .ref aN_selves, .ref aN_cries, .int N_leaves, .ref aN_parts, .int N_pasts, .ref aN_past])), (aN_fees, .inl (gI G, 6, .inl x2))]) C hE hW 1 rfl (inB_in hg) (by subst ex2; rfl) d_Ld_changeFee_25 (fun H locs hW => ?_)
      refine lv_iload_n C.1.1 C.1.2.1 d_Ld_changeFee_26 rfl (lv_at hl 0 rfl) ?_
      obtain rfl := Option.some.inj h
      exact x_iret C hW rfl rfl hQ d_Ld_changeFee_27
    · replace h := it_f cc h
      refine lv_iconst (v := (-1)) C.1.1 C.1.2.1 d_Ld_changeFee_10 (by decide) ?_
      obtain rfl := Option.some.inj h
      exact x_iret C hW rfl rfl hQ d_Ld_changeFee_11
set_option maxHeartbeats 4000000 in
set_option maxRecDepth 100000 in
theorem c_Ld_letBy (l : Launch) (G : Gl) (aN : Nat) (aN_grounds : Nat) (aN_airs : Nat) (aN_tolds : Nat) (aN_fees : Nat) (aN_lets : Nat) (aN_kinds : Nat) (aN_cells : Nat) (aN_selves : Nat) (aN_cries : Nat) (aN_parts : Nat) (aN_past : Nat) (N_width : Int32) (N_height : Int32) (N_everywhere : Int64) (N_firstColumn : Int64) (N_lastColumn : Int64) (N_makers : Int32) (N_leaves : Int32) (N_pasts : Int32) (N_lets : Nat → Int32) (p1 : Int32) {res : Int32} (h : f_Ld_letBy N_lets p1 = some res) : Ct l y_Ld_letBy b_Ld_letBy 2 (some .int) 0 0 G [.ref aN, .int p1] [(aN, .inr (0, [.int N_width, .int N_height, .long N_everywhere, .long N_firstColumn, .long N_lastColumn, .ref aN_grounds, .ref aN_airs, .ref aN_tolds, .ref aN_fees, .ref aN_lets, .int N_makers, .ref aN_kinds, .ref aN_cells, .ref aN_selves, .ref aN_cries, .int N_leaves, .ref aN_parts, .int N_pasts, .ref aN_past])), (aN_lets, .inl (gI G, 6, .inl N_lets))] (some (.int res)) [(aN, .inr (0, [.int N_width, .int N_height, .long N_everywhere, .long N_firstColumn, .long N_lastColumn, .ref aN_grounds, .ref aN_airs, .ref aN_tolds, .ref aN_fees, .ref aN_lets, .int N_makers, .ref aN_kinds, .ref aN_cells, .ref aN_selves, .ref aN_cries, .int N_leaves, .ref aN_parts, .int N_pasts, .ref aN_past])), (aN_lets, .inl (gI G, 6, .inl N_lets))] := by
  refine Ct.mk (by decide) (Nat.le_of_ble_eq_true rfl) ?_
  intro p e s m args below meth c ls A Q C hE hW hl hQ
  have C : Cx p s args m c meth "LentAir$Land" y_Ld_letBy b_Ld_letBy 2 (some .int) := C
  have hl : lv_has ls 2 [(0, .ref aN), (1, .int p1)] := hl
  unfold f_Ld_letBy at h
  refine lv_iload_n C.1.1 C.1.2.1 d_Ld_letBy_0 rfl (lv_at hl 1 rfl) ?_
  refine lv_if_lt (tgt := 19) C.1.1 C.1.2.1 d_Ld_letBy_1 (by decide) (fun cc => ?_) (fun cc => ?_)
  · replace h := it_t cc h
    refine lv_iconst (v := (-1)) C.1.1 C.1.2.1 d_Ld_letBy_19 (by decide) ?_
    obtain rfl := Option.some.inj h
    exact x_iret C hW rfl rfl hQ d_Ld_letBy_20
  · replace h := it_f cc h
    refine lv_iload_n C.1.1 C.1.2.1 d_Ld_letBy_4 rfl (lv_at hl 1 rfl) ?_
    refine lv_bipush (v := 6) C.1.1 C.1.2.1 d_Ld_letBy_5 (by decide) ?_
    refine lv_icmp_ge (tgt := 19) C.1.1 C.1.2.1 d_Ld_letBy_7 (by decide) (fun cc => ?_) (fun cc => ?_)
    · replace h := it_t cc h
      refine lv_iconst (v := (-1)) C.1.1 C.1.2.1 d_Ld_letBy_19 (by decide) ?_
      obtain rfl := Option.some.inj h
      exact x_iret C hW rfl rfl hQ d_Ld_letBy_20
    · replace h := it_f cc h
      refine lv_aload_n C.1.1 C.1.2.1 d_Ld_letBy_10 rfl (lv_at hl 0 rfl) ?_
      refine x_get C hE hW fl_Ld_25 0 rfl rfl d_Ld_letBy_11 ?_
      refine lv_iload_n C.1.1 C.1.2.1 d_Ld_letBy_14 rfl (lv_at hl 1 rfl) ?_
      obtain ⟨hg, h⟩ := gd_at h
      refine x_iald C hE hW 1 rfl (inB_in hg) d_Ld_letBy_15 ?_
      refine lv_goto (tgt := 20) C.1.1 C.1.2.1 d_Ld_letBy_16 (by decide) ?_
      obtain rfl := Option.some.inj h
      exact x_iret C hW rfl rfl hQ d_Ld_letBy_20
set_option maxHeartbeats 4000000 in
set_option maxRecDepth 100000 in
theorem c_Ld_selfOf (l : Launch) (G : Gl) (aN : Nat) (aN_grounds : Nat) (aN_airs : Nat) (aN_tolds : Nat) (aN_fees : Nat) (aN_lets : Nat) (aN_kinds : Nat) (aN_cells : Nat) (aN_selves : Nat) (aN_cries : Nat) (aN_parts : Nat) (aN_past : Nat) (N_width : Int32) (N_height : Int32) (N_everywhere : Int64) (N_firstColumn : Int64) (N_lastColumn : Int64) (N_makers : Int32) (N_leaves : Int32) (N_pasts : Int32) (N_selves : Nat → Int32) (p1 : Int32) {res : Int32} (h : f_Ld_selfOf N_makers N_selves p1 = some res) : Ct l y_Ld_selfOf b_Ld_selfOf 2 (some .int) 0 0 G [.ref aN, .int p1] [(aN, .inr (0, [.int N_width, .int N_height, .long N_everywhere, .long N_firstColumn, .long N_lastColumn, .ref aN_grounds, .ref aN_airs, .ref aN_tolds, .ref aN_fees, .ref aN_lets, .int N_makers, .ref aN_kinds, .ref aN_cells, .ref aN_selves, .ref aN_cries, .int N_leaves, .ref aN_parts, .int N_pasts, .ref aN_past])), (aN_selves, .inl (gI G, 6, .inl N_selves))] (some (.int res)) [(aN, .inr (0, [.int N_width, .int N_height, .long N_everywhere, .long N_firstColumn, .long N_lastColumn, .ref aN_grounds, .ref aN_airs, .ref aN_tolds, .ref aN_fees, .ref aN_lets, .int N_makers, .ref aN_kinds, .ref aN_cells, .ref aN_selves, .ref aN_cries, .int N_leaves, .ref aN_parts, .int N_pasts, .ref aN_past])), (aN_selves, .inl (gI G, 6, .inl N_selves))] := by
  refine Ct.mk (by decide) (Nat.le_of_ble_eq_true rfl) ?_
  intro p e s m args below meth c ls A Q C hE hW hl hQ
  have C : Cx p s args m c meth "LentAir$Land" y_Ld_selfOf b_Ld_selfOf 2 (some .int) := C
  have hl : lv_has ls 2 [(0, .ref aN), (1, .int p1)] := hl
  unfold f_Ld_selfOf at h
  refine lv_iload_n C.1.1 C.1.2.1 d_Ld_selfOf_0 rfl (lv_at hl 1 rfl) ?_
  refine lv_if_lt (tgt := 21) C.1.1 C.1.2.1 d_Ld_selfOf_1 (by decide) (fun cc => ?_) (fun cc => ?_)
  · replace h := it_t cc h
    refine lv_iconst (v := (-1)) C.1.1 C.1.2.1 d_Ld_selfOf_21 (by decide) ?_
    obtain rfl := Option.some.inj h
    exact x_iret C hW rfl rfl hQ d_Ld_selfOf_22
  · replace h := it_f cc h
    refine lv_iload_n C.1.1 C.1.2.1 d_Ld_selfOf_4 rfl (lv_at hl 1 rfl) ?_
    refine lv_aload_n C.1.1 C.1.2.1 d_Ld_selfOf_5 rfl (lv_at hl 0 rfl) ?_
    refine x_get C hE hW fl_Ld_77 0 rfl rfl d_Ld_selfOf_6 ?_
    refine lv_icmp_ge (tgt := 21) C.1.1 C.1.2.1 d_Ld_selfOf_9 (by decide) (fun cc => ?_) (fun cc => ?_)
    · replace h := it_t cc h
      refine lv_iconst (v := (-1)) C.1.1 C.1.2.1 d_Ld_selfOf_21 (by decide) ?_
      obtain rfl := Option.some.inj h
      exact x_iret C hW rfl rfl hQ d_Ld_selfOf_22
    · replace h := it_f cc h
      refine lv_aload_n C.1.1 C.1.2.1 d_Ld_selfOf_12 rfl (lv_at hl 0 rfl) ?_
      refine x_get C hE hW fl_Ld_34 0 rfl rfl d_Ld_selfOf_13 ?_
      refine lv_iload_n C.1.1 C.1.2.1 d_Ld_selfOf_16 rfl (lv_at hl 1 rfl) ?_
      obtain ⟨hg, h⟩ := gd_at h
      refine x_iald C hE hW 1 rfl (inB_in hg) d_Ld_selfOf_17 ?_
      refine lv_goto (tgt := 22) C.1.1 C.1.2.1 d_Ld_selfOf_18 (by decide) ?_
      obtain rfl := Option.some.inj h
      exact x_iret C hW rfl rfl hQ d_Ld_selfOf_22
set_option maxHeartbeats 4000000 in
set_option maxRecDepth 100000 in
theorem c_Ld_addMaker (l : Launch) (G : Gl) (aN : Nat) (aN_grounds : Nat) (aN_airs : Nat) (aN_tolds : Nat) (aN_fees : Nat) (aN_lets : Nat) (aN_kinds : Nat) (aN_cells : Nat) (aN_selves : Nat) (aN_cries : Nat) (aN_parts : Nat) (aN_past : Nat) (N_width : Int32) (N_height : Int32) (N_everywhere : Int64) (N_firstColumn : Int64) (N_lastColumn : Int64) (N_makers : Int32) (N_leaves : Int32) (N_pasts : Int32) (N_kinds : Nat → Int32) (N_cells : Nat → Int32) (N_selves : Nat → Int32) (N_cries : Nat → Int32) (p1 : Int32) (p2 : Int32) (p3 : Int32) {res : Int32 × (Nat → Int32) × (Nat → Int32) × (Nat → Int32) × (Nat → Int32)} (h : f_Ld_addMaker N_makers N_kinds N_cells N_selves N_cries p1 p2 p3 = some res) : Ct l y_Ld_addMaker b_Ld_addMaker 4 none 0 0 G [.ref aN, .int p1, .int p2, .int p3] [(aN, .inr (0, [.int N_width, .int N_height, .long N_everywhere, .long N_firstColumn, .long N_lastColumn, .ref aN_grounds, .ref aN_airs, .ref aN_tolds, .ref aN_fees, .ref aN_lets, .int N_makers, .ref aN_kinds, .ref aN_cells, .ref aN_selves, .ref aN_cries, .int N_leaves, .ref aN_parts, .int N_pasts, .ref aN_past])), (aN_kinds, .inl (gI G, 6, .inl N_kinds)), (aN_cells, .inl (gI G, 6, .inl N_cells)), (aN_selves, .inl (gI G, 6, .inl N_selves)), (aN_cries, .inl (gI G, 6, .inl N_cries))] none [(aN, .inr (0, [.int N_width, .int N_height, .long N_everywhere, .long N_firstColumn, .long N_lastColumn, .ref aN_grounds, .ref aN_airs, .ref aN_tolds, .ref aN_fees, .ref aN_lets, .int (res.1), .ref aN_kinds, .ref aN_cells, .ref aN_selves, .ref aN_cries, .int N_leaves, .ref aN_parts, .int N_pasts, .ref aN_past])), (aN_kinds, .inl (gI G, 6, .inl (res.2.1))), (aN_cells, .inl (gI G, 6, .inl (res.2.2.1))), (aN_selves, .inl (gI G, 6, .inl (res.2.2.2.1))), (aN_cries, .inl (gI G, 6, .inl (res.2.2.2.2)))] := by
  refine Ct.mk (by decide) (Nat.le_of_ble_eq_true rfl) ?_
  intro p e s m args below meth c ls A Q C hE hW hl hQ
  have C : Cx p s args m c meth "LentAir$Land" y_Ld_addMaker b_Ld_addMaker 4 none := C
  have hl : lv_has ls 4 [(0, .ref aN), (1, .int p1), (2, .int p2), (3, .int p3)] := hl
  unfold f_Ld_addMaker at h
  refine lv_aload_n C.1.1 C.1.2.1 d_Ld_addMaker_0 rfl (lv_at hl 0 rfl) ?_
  refine x_get C hE hW fl_Ld_77 0 rfl rfl d_Ld_addMaker_1 ?_
  refine lv_bipush (v := 6) C.1.1 C.1.2.1 d_Ld_addMaker_4 (by decide) ?_
  refine lv_icmp_ge (tgt := 59) C.1.1 C.1.2.1 d_Ld_addMaker_6 (by decide) (fun cc => ?_) (fun cc => ?_)
  · replace h := it_t cc h
    obtain rfl := Option.some.inj h
    exact x_vret C hW rfl rfl hQ d_Ld_addMaker_59
  · replace h := it_f cc h
    refine lv_aload_n C.1.1 C.1.2.1 d_Ld_addMaker_9 rfl (lv_at hl 0 rfl) ?_
    refine x_get C hE hW fl_Ld_28 0 rfl rfl d_Ld_addMaker_10 ?_
    refine lv_aload_n C.1.1 C.1.2.1 d_Ld_addMaker_13 rfl (lv_at hl 0 rfl) ?_
    refine x_get C hE hW fl_Ld_77 0 rfl rfl d_Ld_addMaker_14 ?_
    refine lv_iload_n C.1.1 C.1.2.1 d_Ld_addMaker_17 rfl (lv_at hl 1 rfl) ?_
    obtain ⟨hg, h⟩ := gd_at h
    obtain ⟨x1, ex1⟩ : ∃ y : Nat → Int32, y = upd N_kinds N_makers.toNatClampNeg p1 := ⟨_, rfl⟩
    replace h := lt_at ex1 h
    refine x_iast (ws' := [(aN, .inr (0, [.int N_width, .int N_height, .long N_everywhere, .long N_firstColumn, .long N_lastColumn, .ref aN_grounds, .ref aN_airs, .ref aN_tolds, .ref aN_fees, .ref aN_lets, .int N_makers, .ref aN_kinds, .ref aN_cells, .ref aN_selves, .ref aN_cries, .int N_leaves, .ref aN_parts, .int N_pasts, .ref aN_past])), (aN_kinds, .inl (gI G, 6, .inl x1)), (aN_cells, .inl (gI G, 6, .inl N_cells)), (aN_selves, .inl (gI G, 6, .inl N_selves)), (aN_cries, .inl (gI G, 6, .inl N_cries))]) C hE hW 1 rfl (inB_in hg) (by subst ex1; rfl) d_Ld_addMaker_18 (fun H locs hW => ?_)
    refine lv_aload_n C.1.1 C.1.2.1 d_Ld_addMaker_19 rfl (lv_at hl 0 rfl) ?_
    refine x_get C hE hW fl_Ld_31 0 rfl rfl d_Ld_addMaker_20 ?_
    refine lv_aload_n C.1.1 C.1.2.1 d_Ld_addMaker_23 rfl (lv_at hl 0 rfl) ?_
    refine x_get C hE hW fl_Ld_77 0 rfl rfl d_Ld_addMaker_24 ?_
    refine lv_iload_n C.1.1 C.1.2.1 d_Ld_addMaker_27 rfl (lv_at hl 2 rfl) ?_
    obtain ⟨hg, h⟩ := gd_at h
    obtain ⟨x2, ex2⟩ : ∃ y : Nat → Int32, y = upd N_cells N_makers.toNatClampNeg p2 := ⟨_, rfl⟩
    replace h := lt_at ex2 h
    refine x_iast (ws' := [(aN, .inr (0, [.int N_width, .int N_height, .long N_everywhere, .long N_firstColumn, .long N_lastColumn, .ref aN_grounds, .ref aN_airs, .ref aN_tolds, .ref aN_fees, .ref aN_lets, .int N_makers, .ref aN_kinds, .ref aN_cells, .ref aN_selves, .ref aN_cries, .int N_leaves, .ref aN_parts, .int N_pasts, .ref aN_past])), (aN_kinds, .inl (gI G, 6, .inl x1)), (aN_cells, .inl (gI G, 6, .inl x2)), (aN_selves, .inl (gI G, 6, .inl N_selves)), (aN_cries, .inl (gI G, 6, .inl N_cries))]) C hE hW 2 rfl (inB_in hg) (by subst ex2; rfl) d_Ld_addMaker_28 (fun H locs hW => ?_)
    refine lv_aload_n C.1.1 C.1.2.1 d_Ld_addMaker_29 rfl (lv_at hl 0 rfl) ?_
    refine x_get C hE hW fl_Ld_34 0 rfl rfl d_Ld_addMaker_30 ?_
    refine lv_aload_n C.1.1 C.1.2.1 d_Ld_addMaker_33 rfl (lv_at hl 0 rfl) ?_
    refine x_get C hE hW fl_Ld_77 0 rfl rfl d_Ld_addMaker_34 ?_
    refine lv_iload_n C.1.1 C.1.2.1 d_Ld_addMaker_37 rfl (lv_at hl 3 rfl) ?_
    obtain ⟨hg, h⟩ := gd_at h
    obtain ⟨x3, ex3⟩ : ∃ y : Nat → Int32, y = upd N_selves N_makers.toNatClampNeg p3 := ⟨_, rfl⟩
    replace h := lt_at ex3 h
    refine x_iast (ws' := [(aN, .inr (0, [.int N_width, .int N_height, .long N_everywhere, .long N_firstColumn, .long N_lastColumn, .ref aN_grounds, .ref aN_airs, .ref aN_tolds, .ref aN_fees, .ref aN_lets, .int N_makers, .ref aN_kinds, .ref aN_cells, .ref aN_selves, .ref aN_cries, .int N_leaves, .ref aN_parts, .int N_pasts, .ref aN_past])), (aN_kinds, .inl (gI G, 6, .inl x1)), (aN_cells, .inl (gI G, 6, .inl x2)), (aN_selves, .inl (gI G, 6, .inl x3)), (aN_cries, .inl (gI G, 6, .inl N_cries))]) C hE hW 3 rfl (inB_in hg) (by subst ex3; rfl) d_Ld_addMaker_38 (fun H locs hW => ?_)
    refine lv_aload_n C.1.1 C.1.2.1 d_Ld_addMaker_39 rfl (lv_at hl 0 rfl) ?_
    refine x_get C hE hW fl_Ld_37 0 rfl rfl d_Ld_addMaker_40 ?_
    refine lv_aload_n C.1.1 C.1.2.1 d_Ld_addMaker_43 rfl (lv_at hl 0 rfl) ?_
    refine x_get C hE hW fl_Ld_77 0 rfl rfl d_Ld_addMaker_44 ?_
    refine lv_iconst (v := 5) C.1.1 C.1.2.1 d_Ld_addMaker_47 (by decide) ?_
    obtain ⟨hg, h⟩ := gd_at h
    obtain ⟨x4, ex4⟩ : ∃ y : Nat → Int32, y = upd N_cries N_makers.toNatClampNeg 5 := ⟨_, rfl⟩
    replace h := lt_at ex4 h
    refine x_iast (ws' := [(aN, .inr (0, [.int N_width, .int N_height, .long N_everywhere, .long N_firstColumn, .long N_lastColumn, .ref aN_grounds, .ref aN_airs, .ref aN_tolds, .ref aN_fees, .ref aN_lets, .int N_makers, .ref aN_kinds, .ref aN_cells, .ref aN_selves, .ref aN_cries, .int N_leaves, .ref aN_parts, .int N_pasts, .ref aN_past])), (aN_kinds, .inl (gI G, 6, .inl x1)), (aN_cells, .inl (gI G, 6, .inl x2)), (aN_selves, .inl (gI G, 6, .inl x3)), (aN_cries, .inl (gI G, 6, .inl x4))]) C hE hW 4 rfl (inB_in hg) (by subst ex4; rfl) d_Ld_addMaker_48 (fun H locs hW => ?_)
    refine lv_aload_n C.1.1 C.1.2.1 d_Ld_addMaker_49 rfl (lv_at hl 0 rfl) ?_
    refine lv_dup C.1.1 C.1.2.1 d_Ld_addMaker_50 rfl ?_
    refine x_get C hE hW fl_Ld_77 0 rfl rfl d_Ld_addMaker_51 ?_
    refine lv_iconst (v := 1) C.1.1 C.1.2.1 d_Ld_addMaker_54 (by decide) ?_
    refine lv_iadd C.1.1 C.1.2.1 d_Ld_addMaker_55 ?_
    refine lv_topi (fun x5 ex5 => ?_)
    replace h := lt_at ex5 h
    refine x_put (ws' := [(aN, .inr (0, [.int N_width, .int N_height, .long N_everywhere, .long N_firstColumn, .long N_lastColumn, .ref aN_grounds, .ref aN_airs, .ref aN_tolds, .ref aN_fees, .ref aN_lets, .int x5, .ref aN_kinds, .ref aN_cells, .ref aN_selves, .ref aN_cries, .int N_leaves, .ref aN_parts, .int N_pasts, .ref aN_past])), (aN_kinds, .inl (gI G, 6, .inl x1)), (aN_cells, .inl (gI G, 6, .inl x2)), (aN_selves, .inl (gI G, 6, .inl x3)), (aN_cries, .inl (gI G, 6, .inl x4))]) C hE hW fp_Ld_77 0 rfl rfl rfl (Nat.le_of_ble_eq_true rfl) rfl d_Ld_addMaker_56 (fun H locs hW => ?_)
    obtain rfl := Option.some.inj h
    exact x_vret C hW rfl rfl hQ d_Ld_addMaker_59
set_option maxHeartbeats 4000000 in
set_option maxRecDepth 100000 in
theorem c_Ld_part (l : Launch) (G : Gl) (aN : Nat) (aN_grounds : Nat) (aN_airs : Nat) (aN_tolds : Nat) (aN_fees : Nat) (aN_lets : Nat) (aN_kinds : Nat) (aN_cells : Nat) (aN_selves : Nat) (aN_cries : Nat) (aN_parts : Nat) (aN_past : Nat) (N_width : Int32) (N_height : Int32) (N_everywhere : Int64) (N_firstColumn : Int64) (N_lastColumn : Int64) (N_makers : Int32) (N_leaves : Int32) (N_pasts : Int32) (N_parts : Nat → Int32) (p1 : Int32) (p2 : Int32) {res : Int32} (h : f_Ld_part N_parts p1 p2 = some res) : Ct l y_Ld_part b_Ld_part 4 (some .int) 0 0 G [.ref aN, .int p1, .int p2] [(aN, .inr (0, [.int N_width, .int N_height, .long N_everywhere, .long N_firstColumn, .long N_lastColumn, .ref aN_grounds, .ref aN_airs, .ref aN_tolds, .ref aN_fees, .ref aN_lets, .int N_makers, .ref aN_kinds, .ref aN_cells, .ref aN_selves, .ref aN_cries, .int N_leaves, .ref aN_parts, .int N_pasts, .ref aN_past])), (aN_parts, .inl (gI G, 40, .inl N_parts))] (some (.int res)) [(aN, .inr (0, [.int N_width, .int N_height, .long N_everywhere, .long N_firstColumn, .long N_lastColumn, .ref aN_grounds, .ref aN_airs, .ref aN_tolds, .ref aN_fees, .ref aN_lets, .int N_makers, .ref aN_kinds, .ref aN_cells, .ref aN_selves, .ref aN_cries, .int N_leaves, .ref aN_parts, .int N_pasts, .ref aN_past])), (aN_parts, .inl (gI G, 40, .inl N_parts))] := by
  refine Ct.mk (by decide) (Nat.le_of_ble_eq_true rfl) ?_
  intro p e s m args below meth c ls A Q C hE hW hl hQ
  have C : Cx p s args m c meth "LentAir$Land" y_Ld_part b_Ld_part 4 (some .int) := C
  have hl : lv_has ls 4 [(0, .ref aN), (1, .int p1), (2, .int p2)] := hl
  unfold f_Ld_part at h
  refine lv_iload_n C.1.1 C.1.2.1 d_Ld_part_0 rfl (lv_at hl 1 rfl) ?_
  refine lv_iconst (v := 5) C.1.1 C.1.2.1 d_Ld_part_1 (by decide) ?_
  refine lv_imul C.1.1 C.1.2.1 d_Ld_part_2 ?_
  refine lv_iload_n C.1.1 C.1.2.1 d_Ld_part_3 rfl (lv_at hl 2 rfl) ?_
  refine lv_iadd C.1.1 C.1.2.1 d_Ld_part_4 ?_
  refine lv_topi (fun x1 ex1 => ?_)
  replace h := lt_at ex1 h
  refine lv_istore_n (lv' := [(3, .int x1), (0, .ref aN), (1, .int p1), (2, .int p2)]) C.1.1 C.1.2.1 d_Ld_part_5 rfl hl (by decide) rfl (fun ls hl => ?_)
  refine lv_iload_n C.1.1 C.1.2.1 d_Ld_part_6 rfl (lv_at hl 0 rfl) ?_
  refine lv_if_lt (tgt := 28) C.1.1 C.1.2.1 d_Ld_part_7 (by decide) (fun cc => ?_) (fun cc => ?_)
  · replace h := it_t cc h
    refine lv_iconst (v := (-1)) C.1.1 C.1.2.1 d_Ld_part_28 (by decide) ?_
    obtain rfl := Option.some.inj h
    exact x_iret C hW rfl rfl hQ d_Ld_part_29
  · replace h := it_f cc h
    refine lv_iload_n C.1.1 C.1.2.1 d_Ld_part_10 rfl (lv_at hl 0 rfl) ?_
    refine lv_aload_n C.1.1 C.1.2.1 d_Ld_part_11 rfl (lv_at hl 1 rfl) ?_
    refine x_get C hE hW fl_Ld_40 0 rfl rfl d_Ld_part_12 ?_
    refine x_alen (v := 40) C hE hW 1 0 rfl rfl (by exact (by decide : Int32.ofNat 40 = 40)) d_Ld_part_15 ?_
    refine lv_icmp_ge (tgt := 28) C.1.1 C.1.2.1 d_Ld_part_16 (by decide) (fun cc => ?_) (fun cc => ?_)
    · replace h := it_t cc h
      refine lv_iconst (v := (-1)) C.1.1 C.1.2.1 d_Ld_part_28 (by decide) ?_
      obtain rfl := Option.some.inj h
      exact x_iret C hW rfl rfl hQ d_Ld_part_29
    · replace h := it_f cc h
      refine lv_aload_n C.1.1 C.1.2.1 d_Ld_part_19 rfl (lv_at hl 1 rfl) ?_
      refine x_get C hE hW fl_Ld_40 0 rfl rfl d_Ld_part_20 ?_
      refine lv_iload_n C.1.1 C.1.2.1 d_Ld_part_23 rfl (lv_at hl 0 rfl) ?_
      obtain ⟨hg, h⟩ := gd_at h
      refine x_iald C hE hW 1 rfl (inB_in hg) d_Ld_part_24 ?_
      refine lv_goto (tgt := 29) C.1.1 C.1.2.1 d_Ld_part_25 (by decide) ?_
      obtain rfl := Option.some.inj h
      exact x_iret C hW rfl rfl hQ d_Ld_part_29
set_option maxHeartbeats 4000000 in
set_option maxRecDepth 100000 in
theorem c_Ld_isIn (l : Launch) (G : Gl) (aN : Nat) (aN_grounds : Nat) (aN_airs : Nat) (aN_tolds : Nat) (aN_fees : Nat) (aN_lets : Nat) (aN_kinds : Nat) (aN_cells : Nat) (aN_selves : Nat) (aN_cries : Nat) (aN_parts : Nat) (aN_past : Nat) (N_width : Int32) (N_height : Int32) (N_everywhere : Int64) (N_firstColumn : Int64) (N_lastColumn : Int64) (N_makers : Int32) (N_leaves : Int32) (N_pasts : Int32) (N_parts : Nat → Int32) (p1 : Int32) (p2 : Int32) {res : Int32} (h : f_Ld_isIn N_parts p1 p2 = some res) : Ct l y_Ld_isIn b_Ld_isIn 3 (some .boolean) 1 23 G [.ref aN, .int p1, .int p2] [(aN, .inr (0, [.int N_width, .int N_height, .long N_everywhere, .long N_firstColumn, .long N_lastColumn, .ref aN_grounds, .ref aN_airs, .ref aN_tolds, .ref aN_fees, .ref aN_lets, .int N_makers, .ref aN_kinds, .ref aN_cells, .ref aN_selves, .ref aN_cries, .int N_leaves, .ref aN_parts, .int N_pasts, .ref aN_past])), (aN_parts, .inl (gI G, 40, .inl N_parts))] (some (.int res)) [(aN, .inr (0, [.int N_width, .int N_height, .long N_everywhere, .long N_firstColumn, .long N_lastColumn, .ref aN_grounds, .ref aN_airs, .ref aN_tolds, .ref aN_fees, .ref aN_lets, .int N_makers, .ref aN_kinds, .ref aN_cells, .ref aN_selves, .ref aN_cries, .int N_leaves, .ref aN_parts, .int N_pasts, .ref aN_past])), (aN_parts, .inl (gI G, 40, .inl N_parts))] := by
  refine Ct.mk (by decide) (Nat.le_of_ble_eq_true rfl) ?_
  intro p e s m args below meth c ls A Q C hE hW hl hQ
  have C : Cx p s args m c meth "LentAir$Land" y_Ld_isIn b_Ld_isIn 3 (some .boolean) := C
  have hl : lv_has ls 3 [(0, .ref aN), (1, .int p1), (2, .int p2)] := hl
  unfold f_Ld_isIn at h
  refine lv_aload_n C.1.1 C.1.2.1 d_Ld_isIn_0 rfl (lv_at hl 0 rfl) ?_
  refine lv_iload_n C.1.1 C.1.2.1 d_Ld_isIn_1 rfl (lv_at hl 1 rfl) ?_
  refine lv_iconst (v := 2) C.1.1 C.1.2.1 d_Ld_isIn_2 (by decide) ?_
  obtain ⟨x1, hc2, h⟩ := bd_at h
  refine x_callV (ws' := [(aN, .inr (0, [.int N_width, .int N_height, .long N_everywhere, .long N_firstColumn, .long N_lastColumn, .ref aN_grounds, .ref aN_airs, .ref aN_tolds, .ref aN_fees, .ref aN_lets, .int N_makers, .ref aN_kinds, .ref aN_cells, .ref aN_selves, .ref aN_cries, .int N_leaves, .ref aN_parts, .int N_pasts, .ref aN_past])), (aN_parts, .inl (gI G, 40, .inl N_parts))]) (stk := [.int x1]) (rest := []) (As := [.int p1, .int 2]) (q0 := 0) C hE hW (c_Ld_part l G aN aN_grounds aN_airs aN_tolds aN_fees aN_lets aN_kinds aN_cells aN_selves aN_cries aN_parts aN_past N_width N_height N_everywhere N_firstColumn N_lastColumn N_makers N_leaves N_pasts N_parts p1 2 hc2) cv_Ld_part tw597 hl rfl rfl (Nat.le_of_ble_eq_true rfl) rfl rfl rfl ⟨Nat.le_of_ble_eq_true rfl, Nat.le_of_ble_eq_true rfl⟩ ⟨Nat.zero_le _, Nat.zero_le _⟩ [0, 1] [] [0, 1] rfl rfl rfl (by decide) rfl rfl rfl rfl d_Ld_isIn_3 (fun H locs hW => ?_)
  refine lv_iload_n C.1.1 C.1.2.1 d_Ld_isIn_6 rfl (lv_at hl 2 rfl) ?_
  refine lv_icmp_gt (tgt := 24) C.1.1 C.1.2.1 d_Ld_isIn_7 (by decide) (fun cc => ?_) (fun cc => ?_)
  · replace h := it_t cc h
    refine lv_iconst (v := 0) C.1.1 C.1.2.1 d_Ld_isIn_24 (by decide) ?_
    obtain rfl := Option.some.inj h
    exact x_zret C hW rfl rfl rfl hQ d_Ld_isIn_25
  · replace h := it_f cc h
    refine lv_iload_n C.1.1 C.1.2.1 d_Ld_isIn_10 rfl (lv_at hl 2 rfl) ?_
    refine lv_aload_n C.1.1 C.1.2.1 d_Ld_isIn_11 rfl (lv_at hl 0 rfl) ?_
    refine lv_iload_n C.1.1 C.1.2.1 d_Ld_isIn_12 rfl (lv_at hl 1 rfl) ?_
    refine lv_iconst (v := 3) C.1.1 C.1.2.1 d_Ld_isIn_13 (by decide) ?_
    obtain ⟨x3, hc4, h⟩ := bd_at h
    refine x_callV (ws' := [(aN, .inr (0, [.int N_width, .int N_height, .long N_everywhere, .long N_firstColumn, .long N_lastColumn, .ref aN_grounds, .ref aN_airs, .ref aN_tolds, .ref aN_fees, .ref aN_lets, .int N_makers, .ref aN_kinds, .ref aN_cells, .ref aN_selves, .ref aN_cries, .int N_leaves, .ref aN_parts, .int N_pasts, .ref aN_past])), (aN_parts, .inl (gI G, 40, .inl N_parts))]) (stk := [.int x3, .int p2]) (rest := [.int p2]) (As := [.int p1, .int 3]) (q0 := 0) C hE hW (c_Ld_part l G aN aN_grounds aN_airs aN_tolds aN_fees aN_lets aN_kinds aN_cells aN_selves aN_cries aN_parts aN_past N_width N_height N_everywhere N_firstColumn N_lastColumn N_makers N_leaves N_pasts N_parts p1 3 hc4) cv_Ld_part tw597 hl rfl rfl (Nat.le_of_ble_eq_true rfl) rfl rfl rfl ⟨Nat.le_of_ble_eq_true rfl, Nat.le_of_ble_eq_true rfl⟩ ⟨Nat.zero_le _, Nat.zero_le _⟩ [0, 1] [] [0, 1] rfl rfl rfl (by decide) rfl rfl rfl rfl d_Ld_isIn_14 (fun H locs hW => ?_)
    refine lv_icmp_gt (tgt := 24) C.1.1 C.1.2.1 d_Ld_isIn_17 (by decide) (fun cc => ?_) (fun cc => ?_)
    · replace h := it_t cc h
      refine lv_iconst (v := 0) C.1.1 C.1.2.1 d_Ld_isIn_24 (by decide) ?_
      obtain rfl := Option.some.inj h
      exact x_zret C hW rfl rfl rfl hQ d_Ld_isIn_25
    · replace h := it_f cc h
      refine lv_iconst (v := 1) C.1.1 C.1.2.1 d_Ld_isIn_20 (by decide) ?_
      refine lv_goto (tgt := 25) C.1.1 C.1.2.1 d_Ld_isIn_21 (by decide) ?_
      obtain rfl := Option.some.inj h
      exact x_zret C hW rfl rfl rfl hQ d_Ld_isIn_25
set_option maxHeartbeats 4000000 in
set_option maxRecDepth 100000 in
theorem c_Ld_addLeave (l : Launch) (G : Gl) (aN : Nat) (aN_grounds : Nat) (aN_airs : Nat) (aN_tolds : Nat) (aN_fees : Nat) (aN_lets : Nat) (aN_kinds : Nat) (aN_cells : Nat) (aN_selves : Nat) (aN_cries : Nat) (aN_parts : Nat) (aN_past : Nat) (N_width : Int32) (N_height : Int32) (N_everywhere : Int64) (N_firstColumn : Int64) (N_lastColumn : Int64) (N_makers : Int32) (N_leaves : Int32) (N_pasts : Int32) (N_parts : Nat → Int32) (p1 : Int32) (p2 : Int32) (p3 : Int32) (p4 : Int32) (p5 : Int32) {res : Int32 × (Nat → Int32)} (h : f_Ld_addLeave N_leaves N_parts p1 p2 p3 p4 p5 = some res) : Ct l y_Ld_addLeave b_Ld_addLeave 7 none 0 0 G [.ref aN, .int p1, .int p2, .int p3, .int p4, .int p5] [(aN, .inr (0, [.int N_width, .int N_height, .long N_everywhere, .long N_firstColumn, .long N_lastColumn, .ref aN_grounds, .ref aN_airs, .ref aN_tolds, .ref aN_fees, .ref aN_lets, .int N_makers, .ref aN_kinds, .ref aN_cells, .ref aN_selves, .ref aN_cries, .int N_leaves, .ref aN_parts, .int N_pasts, .ref aN_past])), (aN_parts, .inl (gI G, 40, .inl N_parts))] none [(aN, .inr (0, [.int N_width, .int N_height, .long N_everywhere, .long N_firstColumn, .long N_lastColumn, .ref aN_grounds, .ref aN_airs, .ref aN_tolds, .ref aN_fees, .ref aN_lets, .int N_makers, .ref aN_kinds, .ref aN_cells, .ref aN_selves, .ref aN_cries, .int (res.1), .ref aN_parts, .int N_pasts, .ref aN_past])), (aN_parts, .inl (gI G, 40, .inl (res.2)))] := by
  refine Ct.mk (by decide) (Nat.le_of_ble_eq_true rfl) ?_
  intro p e s m args below meth c ls A Q C hE hW hl hQ
  have C : Cx p s args m c meth "LentAir$Land" y_Ld_addLeave b_Ld_addLeave 7 none := C
  have hl : lv_has ls 7 [(0, .ref aN), (1, .int p1), (2, .int p2), (3, .int p3), (4, .int p4), (5, .int p5)] := hl
  unfold f_Ld_addLeave at h
  refine lv_aload_n C.1.1 C.1.2.1 d_Ld_addLeave_0 rfl (lv_at hl 0 rfl) ?_
  refine x_get C hE hW fl_Ld_80 0 rfl rfl d_Ld_addLeave_1 ?_
  refine lv_bipush (v := 8) C.1.1 C.1.2.1 d_Ld_addLeave_4 (by decide) ?_
  refine lv_icmp_ge (tgt := 79) C.1.1 C.1.2.1 d_Ld_addLeave_6 (by decide) (fun cc => ?_) (fun cc => ?_)
  · replace h := it_t cc h
    obtain rfl := Option.some.inj h
    exact x_vret C hW rfl rfl hQ d_Ld_addLeave_79
  · replace h := it_f cc h
    refine lv_aload_n C.1.1 C.1.2.1 d_Ld_addLeave_9 rfl (lv_at hl 0 rfl) ?_
    refine x_get C hE hW fl_Ld_80 0 rfl rfl d_Ld_addLeave_10 ?_
    refine lv_iconst (v := 5) C.1.1 C.1.2.1 d_Ld_addLeave_13 (by decide) ?_
    refine lv_imul C.1.1 C.1.2.1 d_Ld_addLeave_14 ?_
    refine lv_topi (fun x1 ex1 => ?_)
    replace h := lt_at ex1 h
    refine lv_istore (lv' := [(6, .int x1), (0, .ref aN), (1, .int p1), (2, .int p2), (3, .int p3), (4, .int p4), (5, .int p5)]) C.1.1 C.1.2.1 d_Ld_addLeave_15 hl (by decide) rfl (fun ls hl => ?_)
    refine lv_aload_n C.1.1 C.1.2.1 d_Ld_addLeave_17 rfl (lv_at hl 1 rfl) ?_
    refine x_get C hE hW fl_Ld_40 0 rfl rfl d_Ld_addLeave_18 ?_
    refine lv_iload C.1.1 C.1.2.1 d_Ld_addLeave_21 (lv_at hl 0 rfl) ?_
    refine lv_iconst (v := 0) C.1.1 C.1.2.1 d_Ld_addLeave_23 (by decide) ?_
    refine lv_iadd C.1.1 C.1.2.1 d_Ld_addLeave_24 ?_
    refine lv_iload_n C.1.1 C.1.2.1 d_Ld_addLeave_25 rfl (lv_at hl 2 rfl) ?_
    obtain ⟨hg, h⟩ := gd_at h
    obtain ⟨x2, ex2⟩ : ∃ y : Nat → Int32, y = upd N_parts (x1 + 0).toNatClampNeg p1 := ⟨_, rfl⟩
    replace h := lt_at ex2 h
    refine x_iast (ws' := [(aN, .inr (0, [.int N_width, .int N_height, .long N_everywhere, .long N_firstColumn, .long N_lastColumn, .ref aN_grounds, .ref aN_airs, .ref aN_tolds, .ref aN_fees, .ref aN_lets, .int N_makers, .ref aN_kinds, .ref aN_cells, .ref aN_selves, .ref aN_cries, .int N_leaves, .ref aN_parts, .int N_pasts, .ref aN_past])), (aN_parts, .inl (gI G, 40, .inl x2))]) C hE hW 1 rfl (inB_in hg) (by subst ex2; rfl) d_Ld_addLeave_26 (fun H locs hW => ?_)
    refine lv_aload_n C.1.1 C.1.2.1 d_Ld_addLeave_27 rfl (lv_at hl 1 rfl) ?_
    refine x_get C hE hW fl_Ld_40 0 rfl rfl d_Ld_addLeave_28 ?_
    refine lv_iload C.1.1 C.1.2.1 d_Ld_addLeave_31 (lv_at hl 0 rfl) ?_
    refine lv_iconst (v := 1) C.1.1 C.1.2.1 d_Ld_addLeave_33 (by decide) ?_
    refine lv_iadd C.1.1 C.1.2.1 d_Ld_addLeave_34 ?_
    refine lv_iload_n C.1.1 C.1.2.1 d_Ld_addLeave_35 rfl (lv_at hl 3 rfl) ?_
    obtain ⟨hg, h⟩ := gd_at h
    obtain ⟨x3, ex3⟩ : ∃ y : Nat → Int32, y = upd x2 (x1 + 1).toNatClampNeg p2 := ⟨_, rfl⟩
    replace h := lt_at ex3 h
    refine x_iast (ws' := [(aN, .inr (0, [.int N_width, .int N_height, .long N_everywhere, .long N_firstColumn, .long N_lastColumn, .ref aN_grounds, .ref aN_airs, .ref aN_tolds, .ref aN_fees, .ref aN_lets, .int N_makers, .ref aN_kinds, .ref aN_cells, .ref aN_selves, .ref aN_cries, .int N_leaves, .ref aN_parts, .int N_pasts, .ref aN_past])), (aN_parts, .inl (gI G, 40, .inl x3))]) C hE hW 1 rfl (inB_in hg) (by subst ex3; rfl) d_Ld_addLeave_36 (fun H locs hW => ?_)
    refine lv_aload_n C.1.1 C.1.2.1 d_Ld_addLeave_37 rfl (lv_at hl 1 rfl) ?_
    refine x_get C hE hW fl_Ld_40 0 rfl rfl d_Ld_addLeave_38 ?_
    refine lv_iload C.1.1 C.1.2.1 d_Ld_addLeave_41 (lv_at hl 0 rfl) ?_
    refine lv_iconst (v := 2) C.1.1 C.1.2.1 d_Ld_addLeave_43 (by decide) ?_
    refine lv_iadd C.1.1 C.1.2.1 d_Ld_addLeave_44 ?_
    refine lv_iload_n C.1.1 C.1.2.1 d_Ld_addLeave_45 rfl (lv_at hl 4 rfl) ?_
    obtain ⟨hg, h⟩ := gd_at h
    obtain ⟨x4, ex4⟩ : ∃ y : Nat → Int32, y = upd x3 (x1 + 2).toNatClampNeg p3 := ⟨_, rfl⟩
    replace h := lt_at ex4 h
    refine x_iast (ws' := [(aN, .inr (0, [.int N_width, .int N_height, .long N_everywhere, .long N_firstColumn, .long N_lastColumn, .ref aN_grounds, .ref aN_airs, .ref aN_tolds, .ref aN_fees, .ref aN_lets, .int N_makers, .ref aN_kinds, .ref aN_cells, .ref aN_selves, .ref aN_cries, .int N_leaves, .ref aN_parts, .int N_pasts, .ref aN_past])), (aN_parts, .inl (gI G, 40, .inl x4))]) C hE hW 1 rfl (inB_in hg) (by subst ex4; rfl) d_Ld_addLeave_46 (fun H locs hW => ?_)
    refine lv_aload_n C.1.1 C.1.2.1 d_Ld_addLeave_47 rfl (lv_at hl 1 rfl) ?_
    refine x_get C hE hW fl_Ld_40 0 rfl rfl d_Ld_addLeave_48 ?_
    refine lv_iload C.1.1 C.1.2.1 d_Ld_addLeave_51 (lv_at hl 0 rfl) ?_
    refine lv_iconst (v := 3) C.1.1 C.1.2.1 d_Ld_addLeave_53 (by decide) ?_
    refine lv_iadd C.1.1 C.1.2.1 d_Ld_addLeave_54 ?_
    refine lv_iload C.1.1 C.1.2.1 d_Ld_addLeave_55 (lv_at hl 5 rfl) ?_
    obtain ⟨hg, h⟩ := gd_at h
    obtain ⟨x5, ex5⟩ : ∃ y : Nat → Int32, y = upd x4 (x1 + 3).toNatClampNeg p4 := ⟨_, rfl⟩
    replace h := lt_at ex5 h
    refine x_iast (ws' := [(aN, .inr (0, [.int N_width, .int N_height, .long N_everywhere, .long N_firstColumn, .long N_lastColumn, .ref aN_grounds, .ref aN_airs, .ref aN_tolds, .ref aN_fees, .ref aN_lets, .int N_makers, .ref aN_kinds, .ref aN_cells, .ref aN_selves, .ref aN_cries, .int N_leaves, .ref aN_parts, .int N_pasts, .ref aN_past])), (aN_parts, .inl (gI G, 40, .inl x5))]) C hE hW 1 rfl (inB_in hg) (by subst ex5; rfl) d_Ld_addLeave_57 (fun H locs hW => ?_)
    refine lv_aload_n C.1.1 C.1.2.1 d_Ld_addLeave_58 rfl (lv_at hl 1 rfl) ?_
    refine x_get C hE hW fl_Ld_40 0 rfl rfl d_Ld_addLeave_59 ?_
    refine lv_iload C.1.1 C.1.2.1 d_Ld_addLeave_62 (lv_at hl 0 rfl) ?_
    refine lv_iconst (v := 4) C.1.1 C.1.2.1 d_Ld_addLeave_64 (by decide) ?_
    refine lv_iadd C.1.1 C.1.2.1 d_Ld_addLeave_65 ?_
    refine lv_iload C.1.1 C.1.2.1 d_Ld_addLeave_66 (lv_at hl 6 rfl) ?_
    obtain ⟨hg, h⟩ := gd_at h
    obtain ⟨x6, ex6⟩ : ∃ y : Nat → Int32, y = upd x5 (x1 + 4).toNatClampNeg p5 := ⟨_, rfl⟩
    replace h := lt_at ex6 h
    refine x_iast (ws' := [(aN, .inr (0, [.int N_width, .int N_height, .long N_everywhere, .long N_firstColumn, .long N_lastColumn, .ref aN_grounds, .ref aN_airs, .ref aN_tolds, .ref aN_fees, .ref aN_lets, .int N_makers, .ref aN_kinds, .ref aN_cells, .ref aN_selves, .ref aN_cries, .int N_leaves, .ref aN_parts, .int N_pasts, .ref aN_past])), (aN_parts, .inl (gI G, 40, .inl x6))]) C hE hW 1 rfl (inB_in hg) (by subst ex6; rfl) d_Ld_addLeave_68 (fun H locs hW => ?_)
    refine lv_aload_n C.1.1 C.1.2.1 d_Ld_addLeave_69 rfl (lv_at hl 1 rfl) ?_
    refine lv_dup C.1.1 C.1.2.1 d_Ld_addLeave_70 rfl ?_
    refine x_get C hE hW fl_Ld_80 0 rfl rfl d_Ld_addLeave_71 ?_
    refine lv_iconst (v := 1) C.1.1 C.1.2.1 d_Ld_addLeave_74 (by decide) ?_
    refine lv_iadd C.1.1 C.1.2.1 d_Ld_addLeave_75 ?_
    refine lv_topi (fun x7 ex7 => ?_)
    replace h := lt_at ex7 h
    refine x_put (ws' := [(aN, .inr (0, [.int N_width, .int N_height, .long N_everywhere, .long N_firstColumn, .long N_lastColumn, .ref aN_grounds, .ref aN_airs, .ref aN_tolds, .ref aN_fees, .ref aN_lets, .int N_makers, .ref aN_kinds, .ref aN_cells, .ref aN_selves, .ref aN_cries, .int x7, .ref aN_parts, .int N_pasts, .ref aN_past])), (aN_parts, .inl (gI G, 40, .inl x6))]) C hE hW fp_Ld_80 0 rfl rfl rfl (Nat.le_of_ble_eq_true rfl) rfl d_Ld_addLeave_76 (fun H locs hW => ?_)
    obtain rfl := Option.some.inj h
    exact x_vret C hW rfl rfl hQ d_Ld_addLeave_79
set_option maxHeartbeats 4000000 in
set_option maxRecDepth 100000 in
theorem c_Ld_dropLeave (l : Launch) (G : Gl) (aN : Nat) (aN_grounds : Nat) (aN_airs : Nat) (aN_tolds : Nat) (aN_fees : Nat) (aN_lets : Nat) (aN_kinds : Nat) (aN_cells : Nat) (aN_selves : Nat) (aN_cries : Nat) (aN_parts : Nat) (aN_past : Nat) (N_width : Int32) (N_height : Int32) (N_everywhere : Int64) (N_firstColumn : Int64) (N_lastColumn : Int64) (N_makers : Int32) (N_leaves : Int32) (N_pasts : Int32) (N_parts : Nat → Int32) (p1 : Int32) {res : Int32 × (Nat → Int32)} (h : f_Ld_dropLeave N_leaves N_parts p1 = some res) : Ct l y_Ld_dropLeave b_Ld_dropLeave 3 none 0 0 G [.ref aN, .int p1] [(aN, .inr (0, [.int N_width, .int N_height, .long N_everywhere, .long N_firstColumn, .long N_lastColumn, .ref aN_grounds, .ref aN_airs, .ref aN_tolds, .ref aN_fees, .ref aN_lets, .int N_makers, .ref aN_kinds, .ref aN_cells, .ref aN_selves, .ref aN_cries, .int N_leaves, .ref aN_parts, .int N_pasts, .ref aN_past])), (aN_parts, .inl (gI G, 40, .inl N_parts))] none [(aN, .inr (0, [.int N_width, .int N_height, .long N_everywhere, .long N_firstColumn, .long N_lastColumn, .ref aN_grounds, .ref aN_airs, .ref aN_tolds, .ref aN_fees, .ref aN_lets, .int N_makers, .ref aN_kinds, .ref aN_cells, .ref aN_selves, .ref aN_cries, .int (res.1), .ref aN_parts, .int N_pasts, .ref aN_past])), (aN_parts, .inl (gI G, 40, .inl (res.2)))] := by
  refine Ct.mk (by decide) (Nat.le_of_ble_eq_true rfl) ?_
  intro p e s m args below meth c ls A Q C hE hW hl hQ
  have C : Cx p s args m c meth "LentAir$Land" y_Ld_dropLeave b_Ld_dropLeave 3 none := C
  have hl : lv_has ls 3 [(0, .ref aN), (1, .int p1)] := hl
  unfold f_Ld_dropLeave at h
  refine lv_iload_n C.1.1 C.1.2.1 d_Ld_dropLeave_0 rfl (lv_at hl 1 rfl) ?_
  refine lv_if_lt (tgt := 58) C.1.1 C.1.2.1 d_Ld_dropLeave_1 (by decide) (fun cc => ?_) (fun cc => ?_)
  · replace h := it_t cc h
    obtain rfl := Option.some.inj h
    exact x_vret C hW rfl rfl hQ d_Ld_dropLeave_58
  · replace h := it_f cc h
    refine lv_iload_n C.1.1 C.1.2.1 d_Ld_dropLeave_4 rfl (lv_at hl 1 rfl) ?_
    refine lv_aload_n C.1.1 C.1.2.1 d_Ld_dropLeave_5 rfl (lv_at hl 0 rfl) ?_
    refine x_get C hE hW fl_Ld_80 0 rfl rfl d_Ld_dropLeave_6 ?_
    refine lv_icmp_ge (tgt := 58) C.1.1 C.1.2.1 d_Ld_dropLeave_9 (by decide) (fun cc => ?_) (fun cc => ?_)
    · replace h := it_t cc h
      obtain rfl := Option.some.inj h
      exact x_vret C hW rfl rfl hQ d_Ld_dropLeave_58
    · replace h := it_f cc h
      refine lv_iload_n C.1.1 C.1.2.1 d_Ld_dropLeave_12 rfl (lv_at hl 1 rfl) ?_
      refine lv_iconst (v := 5) C.1.1 C.1.2.1 d_Ld_dropLeave_13 (by decide) ?_
      refine lv_imul C.1.1 C.1.2.1 d_Ld_dropLeave_14 ?_
      refine lv_topi (fun x1 ex1 => ?_)
      replace h := lt_at ex1 h
      refine lv_istore_n (lv' := [(2, .int x1), (0, .ref aN), (1, .int p1)]) C.1.1 C.1.2.1 d_Ld_dropLeave_15 rfl hl (by decide) rfl (fun ls hl => ?_)
      refine jn_at (P := fun (x2 : Nat → Int32) => ∀ (H : Heap) (locs : List Loc) (ls : Array Slot), Wd G A s.heap H locs [(aN, .inr (0, [.int N_width, .int N_height, .long N_everywhere, .long N_firstColumn, .long N_lastColumn, .ref aN_grounds, .ref aN_airs, .ref aN_tolds, .ref aN_fees, .ref aN_lets, .int N_makers, .ref aN_kinds, .ref aN_cells, .ref aN_selves, .ref aN_cries, .int N_leaves, .ref aN_parts, .int N_pasts, .ref aN_past])), (aN_parts, .inl (gI G, 40, .inl x2))] → lv_has ls 3 [(0, .ref aN)] → W p l e (RM 0 0) s m args below meth c H locs 0 0 Q (F0 m 48 ls [])) h ?_ ?_
      · skip
        intro x2 h
        intro H locs ls hW hl
        refine lv_aload_n C.1.1 C.1.2.1 d_Ld_dropLeave_48 rfl (lv_at hl 0 rfl) ?_
        refine lv_dup C.1.1 C.1.2.1 d_Ld_dropLeave_49 rfl ?_
        refine x_get C hE hW fl_Ld_80 0 rfl rfl d_Ld_dropLeave_50 ?_
        refine lv_iconst (v := 1) C.1.1 C.1.2.1 d_Ld_dropLeave_53 (by decide) ?_
        refine lv_isub C.1.1 C.1.2.1 d_Ld_dropLeave_54 ?_
        refine lv_topi (fun x3 ex3 => ?_)
        replace h := lt_at ex3 h
        refine x_put (ws' := [(aN, .inr (0, [.int N_width, .int N_height, .long N_everywhere, .long N_firstColumn, .long N_lastColumn, .ref aN_grounds, .ref aN_airs, .ref aN_tolds, .ref aN_fees, .ref aN_lets, .int N_makers, .ref aN_kinds, .ref aN_cells, .ref aN_selves, .ref aN_cries, .int x3, .ref aN_parts, .int N_pasts, .ref aN_past])), (aN_parts, .inl (gI G, 40, .inl x2))]) C hE hW fp_Ld_80 0 rfl rfl rfl (Nat.le_of_ble_eq_true rfl) rfl d_Ld_dropLeave_55 (fun H locs hW => ?_)
        obtain rfl := Option.some.inj h
        exact x_vret C hW rfl rfl hQ d_Ld_dropLeave_58
      · intro J48 hJ48 h
        refine lp_at (P := fun ((x4, x5) : Int32 × (Nat → Int32)) => ∀ (H : Heap) (locs : List Loc) (ls : Array Slot), Wd G A s.heap H locs [(aN, .inr (0, [.int N_width, .int N_height, .long N_everywhere, .long N_firstColumn, .long N_lastColumn, .ref aN_grounds, .ref aN_airs, .ref aN_tolds, .ref aN_fees, .ref aN_lets, .int N_makers, .ref aN_kinds, .ref aN_cells, .ref aN_selves, .ref aN_cries, .int N_leaves, .ref aN_parts, .int N_pasts, .ref aN_past])), (aN_parts, .inl (gI G, 40, .inl x5))] → lv_has ls 3 [(0, .ref aN), (2, .int x4)] → W p l e (RM 0 0) s m args below meth c H locs 0 0 Q (F0 m 16 ls [])) ?_ FU _ h _ _ _ hW (lv_sub hl [1, 0] rfl)
        clear h hl hW
        intro rec16 ih16
        intro x h
        obtain ⟨x4, x5⟩ := x
        unfold f_Ld_dropLeave_L16 at h
        intro H locs ls hW hl
        refine lv_iload_n C.1.1 C.1.2.1 d_Ld_dropLeave_16 rfl (lv_at hl 1 rfl) ?_
        refine lv_aload_n C.1.1 C.1.2.1 d_Ld_dropLeave_17 rfl (lv_at hl 0 rfl) ?_
        refine x_get C hE hW fl_Ld_80 0 rfl rfl d_Ld_dropLeave_18 ?_
        refine lv_iconst (v := 1) C.1.1 C.1.2.1 d_Ld_dropLeave_21 (by decide) ?_
        refine lv_isub C.1.1 C.1.2.1 d_Ld_dropLeave_22 ?_
        refine lv_iconst (v := 5) C.1.1 C.1.2.1 d_Ld_dropLeave_23 (by decide) ?_
        refine lv_imul C.1.1 C.1.2.1 d_Ld_dropLeave_24 ?_
        refine lv_icmp_ge (tgt := 48) C.1.1 C.1.2.1 d_Ld_dropLeave_25 (by decide) (fun cc => ?_) (fun cc => ?_)
        · replace h := it_t cc h
          exact hJ48 _ h _ _ _ hW (lv_sub hl [0] rfl)
        · replace h := it_f cc h
          refine lv_aload_n C.1.1 C.1.2.1 d_Ld_dropLeave_28 rfl (lv_at hl 0 rfl) ?_
          refine x_get C hE hW fl_Ld_40 0 rfl rfl d_Ld_dropLeave_29 ?_
          refine lv_iload_n C.1.1 C.1.2.1 d_Ld_dropLeave_32 rfl (lv_at hl 1 rfl) ?_
          refine lv_aload_n C.1.1 C.1.2.1 d_Ld_dropLeave_33 rfl (lv_at hl 0 rfl) ?_
          refine x_get C hE hW fl_Ld_40 0 rfl rfl d_Ld_dropLeave_34 ?_
          refine lv_iload_n C.1.1 C.1.2.1 d_Ld_dropLeave_37 rfl (lv_at hl 1 rfl) ?_
          refine lv_iconst (v := 5) C.1.1 C.1.2.1 d_Ld_dropLeave_38 (by decide) ?_
          refine lv_iadd C.1.1 C.1.2.1 d_Ld_dropLeave_39 ?_
          obtain ⟨hg, h⟩ := gd_at h
          refine x_iald C hE hW 1 rfl (inB_in hg) d_Ld_dropLeave_40 ?_
          obtain ⟨hg, h⟩ := gd_at h
          obtain ⟨x6, ex6⟩ : ∃ y : Nat → Int32, y = upd x5 x4.toNatClampNeg (x5 (x4 + 5).toNatClampNeg) := ⟨_, rfl⟩
          replace h := lt_at ex6 h
          refine x_iast (ws' := [(aN, .inr (0, [.int N_width, .int N_height, .long N_everywhere, .long N_firstColumn, .long N_lastColumn, .ref aN_grounds, .ref aN_airs, .ref aN_tolds, .ref aN_fees, .ref aN_lets, .int N_makers, .ref aN_kinds, .ref aN_cells, .ref aN_selves, .ref aN_cries, .int N_leaves, .ref aN_parts, .int N_pasts, .ref aN_past])), (aN_parts, .inl (gI G, 40, .inl x6))]) C hE hW 1 rfl (inB_in hg) (by subst ex6; rfl) d_Ld_dropLeave_41 (fun H locs hW => ?_)
          obtain ⟨x7, ex7⟩ : ∃ y : Int32, y = x4 + 1 := ⟨_, rfl⟩
          replace h := lt_at ex7 h
          refine lv_iinc (v := x7) (lv' := [(2, .int x7), (0, .ref aN)]) C.1.1 C.1.2.1 d_Ld_dropLeave_42 hl (k := 1) rfl (by rw [ex7]; rfl) (by decide) rfl (fun ls hl => ?_)
          refine lv_goto (tgt := 16) C.1.1 C.1.2.1 d_Ld_dropLeave_45 (by decide) ?_
          exact ih16 _ h _ _ _ hW (lv_sub hl [1, 0] rfl)
set_option maxHeartbeats 4000000 in
set_option maxRecDepth 100000 in
theorem c_Ld_keepPast (l : Launch) (G : Gl) (aN : Nat) (aN_grounds : Nat) (aN_airs : Nat) (aN_tolds : Nat) (aN_fees : Nat) (aN_lets : Nat) (aN_kinds : Nat) (aN_cells : Nat) (aN_selves : Nat) (aN_cries : Nat) (aN_parts : Nat) (aN_past : Nat) (N_width : Int32) (N_height : Int32) (N_everywhere : Int64) (N_firstColumn : Int64) (N_lastColumn : Int64) (N_makers : Int32) (N_leaves : Int32) (N_pasts : Int32) (N_parts : Nat → Int32) (N_past : Nat → Int32) {res : Int32 × (Nat → Int32)} (h : f_Ld_keepPast N_leaves N_pasts N_parts N_past = some res) : Ct l y_Ld_keepPast b_Ld_keepPast 2 none 1 40 G [.ref aN] [(aN, .inr (0, [.int N_width, .int N_height, .long N_everywhere, .long N_firstColumn, .long N_lastColumn, .ref aN_grounds, .ref aN_airs, .ref aN_tolds, .ref aN_fees, .ref aN_lets, .int N_makers, .ref aN_kinds, .ref aN_cells, .ref aN_selves, .ref aN_cries, .int N_leaves, .ref aN_parts, .int N_pasts, .ref aN_past])), (aN_parts, .inl (gI G, 40, .inl N_parts)), (aN_past, .inl (gI G, 328, .inl N_past))] none [(aN, .inr (0, [.int N_width, .int N_height, .long N_everywhere, .long N_firstColumn, .long N_lastColumn, .ref aN_grounds, .ref aN_airs, .ref aN_tolds, .ref aN_fees, .ref aN_lets, .int N_makers, .ref aN_kinds, .ref aN_cells, .ref aN_selves, .ref aN_cries, .int N_leaves, .ref aN_parts, .int (res.1), .ref aN_past])), (aN_parts, .inl (gI G, 40, .inl N_parts)), (aN_past, .inl (gI G, 328, .inl (res.2)))] := by
  refine Ct.mk (by decide) (Nat.le_of_ble_eq_true rfl) ?_
  intro p e s m args below meth c ls A Q C hE hW hl hQ
  have C : Cx p s args m c meth "LentAir$Land" y_Ld_keepPast b_Ld_keepPast 2 none := C
  have hl : lv_has ls 2 [(0, .ref aN)] := hl
  unfold f_Ld_keepPast at h
  refine lv_aload_n C.1.1 C.1.2.1 d_Ld_keepPast_0 rfl (lv_at hl 0 rfl) ?_
  refine x_get C hE hW fl_Ld_83 0 rfl rfl d_Ld_keepPast_1 ?_
  refine lv_bipush (v := 8) C.1.1 C.1.2.1 d_Ld_keepPast_4 (by decide) ?_
  refine jn_at (P := fun ((x1, x2) : Int32 × (Nat → Int32)) => ∀ (H : Heap) (locs : List Loc) (ls : Array Slot), Wd G A s.heap H locs [(aN, .inr (0, [.int N_width, .int N_height, .long N_everywhere, .long N_firstColumn, .long N_lastColumn, .ref aN_grounds, .ref aN_airs, .ref aN_tolds, .ref aN_fees, .ref aN_lets, .int N_makers, .ref aN_kinds, .ref aN_cells, .ref aN_selves, .ref aN_cries, .int N_leaves, .ref aN_parts, .int x1, .ref aN_past])), (aN_parts, .inl (gI G, 40, .inl N_parts)), (aN_past, .inl (gI G, 328, .inl x2))] → lv_has ls 2 [(0, .ref aN)] → W p l e (RM 1 40) s m args below meth c H locs 0 0 Q (F0 m 32 ls [])) h ?_ ?_
  · skip
    intro x h
    obtain ⟨x1, x2⟩ := x
    intro H locs ls hW hl
    refine lv_aload_n C.1.1 C.1.2.1 d_Ld_keepPast_32 rfl (lv_at hl 0 rfl) ?_
    refine x_get C hE hW fl_Ld_83 0 rfl rfl d_Ld_keepPast_33 ?_
    refine lv_bipush (v := 41) C.1.1 C.1.2.1 d_Ld_keepPast_36 (by decide) ?_
    refine lv_imul C.1.1 C.1.2.1 d_Ld_keepPast_38 ?_
    refine lv_topi (fun x3 ex3 => ?_)
    replace h := lt_at ex3 h
    refine lv_istore_n (lv' := [(1, .int x3), (0, .ref aN)]) C.1.1 C.1.2.1 d_Ld_keepPast_39 rfl hl (by decide) rfl (fun ls hl => ?_)
    refine lv_aload_n C.1.1 C.1.2.1 d_Ld_keepPast_40 rfl (lv_at hl 1 rfl) ?_
    refine x_get C hE hW fl_Ld_43 0 rfl rfl d_Ld_keepPast_41 ?_
    refine lv_iload_n C.1.1 C.1.2.1 d_Ld_keepPast_44 rfl (lv_at hl 0 rfl) ?_
    refine lv_aload_n C.1.1 C.1.2.1 d_Ld_keepPast_45 rfl (lv_at hl 1 rfl) ?_
    refine x_get C hE hW fl_Ld_80 0 rfl rfl d_Ld_keepPast_46 ?_
    obtain ⟨hg, h⟩ := gd_at h
    obtain ⟨x4, ex4⟩ : ∃ y : Nat → Int32, y = upd x2 x3.toNatClampNeg N_leaves := ⟨_, rfl⟩
    replace h := lt_at ex4 h
    refine x_iast (ws' := [(aN, .inr (0, [.int N_width, .int N_height, .long N_everywhere, .long N_firstColumn, .long N_lastColumn, .ref aN_grounds, .ref aN_airs, .ref aN_tolds, .ref aN_fees, .ref aN_lets, .int N_makers, .ref aN_kinds, .ref aN_cells, .ref aN_selves, .ref aN_cries, .int N_leaves, .ref aN_parts, .int x1, .ref aN_past])), (aN_parts, .inl (gI G, 40, .inl N_parts)), (aN_past, .inl (gI G, 328, .inl x4))]) C hE hW 2 rfl (inB_in hg) (by subst ex4; rfl) d_Ld_keepPast_49 (fun H locs hW => ?_)
    refine lv_aload_n C.1.1 C.1.2.1 d_Ld_keepPast_50 rfl (lv_at hl 1 rfl) ?_
    refine x_get C hE hW fl_Ld_40 0 rfl rfl d_Ld_keepPast_51 ?_
    refine lv_iconst (v := 0) C.1.1 C.1.2.1 d_Ld_keepPast_54 (by decide) ?_
    refine lv_aload_n C.1.1 C.1.2.1 d_Ld_keepPast_55 rfl (lv_at hl 1 rfl) ?_
    refine x_get C hE hW fl_Ld_43 0 rfl rfl d_Ld_keepPast_56 ?_
    refine lv_iload_n C.1.1 C.1.2.1 d_Ld_keepPast_59 rfl (lv_at hl 0 rfl) ?_
    refine lv_iconst (v := 1) C.1.1 C.1.2.1 d_Ld_keepPast_60 (by decide) ?_
    refine lv_iadd C.1.1 C.1.2.1 d_Ld_keepPast_61 ?_
    refine lv_bipush (v := 40) C.1.1 C.1.2.1 d_Ld_keepPast_62 (by decide) ?_
    obtain ⟨hg, h⟩ := gd_at h
    obtain ⟨x5, ex5⟩ : ∃ y : Nat → Int32, y = va_cpy N_parts x4 (0 : Int32).toNatClampNeg (x3 + 1).toNatClampNeg (40 : Int32).toNatClampNeg := ⟨_, rfl⟩
    replace h := lt_at ex5 h
    refine x_copyi (ws' := [(aN, .inr (0, [.int N_width, .int N_height, .long N_everywhere, .long N_firstColumn, .long N_lastColumn, .ref aN_grounds, .ref aN_airs, .ref aN_tolds, .ref aN_fees, .ref aN_lets, .int N_makers, .ref aN_kinds, .ref aN_cells, .ref aN_selves, .ref aN_cries, .int N_leaves, .ref aN_parts, .int x1, .ref aN_past])), (aN_parts, .inl (gI G, 40, .inl N_parts)), (aN_past, .inl (gI G, 328, .inl x5))]) C hE hW hl tw372 1 2 rfl rfl (cpOk_at hg) (by subst ex5; rfl) (Nat.le_of_ble_eq_true rfl) (Nat.le_of_ble_eq_true rfl) d_Ld_keepPast_64 (fun H locs hW => ?_)
    refine lv_aload_n C.1.1 C.1.2.1 d_Ld_keepPast_67 rfl (lv_at hl 1 rfl) ?_
    refine lv_dup C.1.1 C.1.2.1 d_Ld_keepPast_68 rfl ?_
    refine x_get C hE hW fl_Ld_83 0 rfl rfl d_Ld_keepPast_69 ?_
    refine lv_iconst (v := 1) C.1.1 C.1.2.1 d_Ld_keepPast_72 (by decide) ?_
    refine lv_iadd C.1.1 C.1.2.1 d_Ld_keepPast_73 ?_
    refine lv_topi (fun x6 ex6 => ?_)
    replace h := lt_at ex6 h
    refine x_put (ws' := [(aN, .inr (0, [.int N_width, .int N_height, .long N_everywhere, .long N_firstColumn, .long N_lastColumn, .ref aN_grounds, .ref aN_airs, .ref aN_tolds, .ref aN_fees, .ref aN_lets, .int N_makers, .ref aN_kinds, .ref aN_cells, .ref aN_selves, .ref aN_cries, .int N_leaves, .ref aN_parts, .int x6, .ref aN_past])), (aN_parts, .inl (gI G, 40, .inl N_parts)), (aN_past, .inl (gI G, 328, .inl x5))]) C hE hW fp_Ld_83 0 rfl rfl rfl (Nat.le_of_ble_eq_true rfl) rfl d_Ld_keepPast_74 (fun H locs hW => ?_)
    obtain rfl := Option.some.inj h
    exact x_vret C hW rfl rfl hQ d_Ld_keepPast_77
  · intro J32 hJ32 h
    refine lv_icmp_lt (tgt := 32) C.1.1 C.1.2.1 d_Ld_keepPast_6 (by decide) (fun cc => ?_) (fun cc => ?_)
    · replace h := it_t cc h
      exact hJ32 _ h _ _ _ hW (lv_sub hl [0] rfl)
    · replace h := it_f cc h
      refine lv_aload_n C.1.1 C.1.2.1 d_Ld_keepPast_9 rfl (lv_at hl 0 rfl) ?_
      refine x_get C hE hW fl_Ld_43 0 rfl rfl d_Ld_keepPast_10 ?_
      refine lv_bipush (v := 41) C.1.1 C.1.2.1 d_Ld_keepPast_13 (by decide) ?_
      refine lv_aload_n C.1.1 C.1.2.1 d_Ld_keepPast_15 rfl (lv_at hl 0 rfl) ?_
      refine x_get C hE hW fl_Ld_43 0 rfl rfl d_Ld_keepPast_16 ?_
      refine lv_iconst (v := 0) C.1.1 C.1.2.1 d_Ld_keepPast_19 (by decide) ?_
      refine lv_sipush (v := 287) C.1.1 C.1.2.1 d_Ld_keepPast_20 (by decide) ?_
      obtain ⟨x7, ex7⟩ : ∃ y : Nat → Int32, y = va_cpy N_past N_past (41 : Int32).toNatClampNeg (0 : Int32).toNatClampNeg (287 : Int32).toNatClampNeg := ⟨_, rfl⟩
      replace h := lt_at ex7 h
      refine x_copyi (ws' := [(aN, .inr (0, [.int N_width, .int N_height, .long N_everywhere, .long N_firstColumn, .long N_lastColumn, .ref aN_grounds, .ref aN_airs, .ref aN_tolds, .ref aN_fees, .ref aN_lets, .int N_makers, .ref aN_kinds, .ref aN_cells, .ref aN_selves, .ref aN_cries, .int N_leaves, .ref aN_parts, .int N_pasts, .ref aN_past])), (aN_parts, .inl (gI G, 40, .inl N_parts)), (aN_past, .inl (gI G, 328, .inl x7))]) C hE hW hl tw372 2 2 rfl rfl (cpOk_at (by decide)) (by subst ex7; rfl) (Nat.le_of_ble_eq_true rfl) (Nat.le_of_ble_eq_true rfl) d_Ld_keepPast_23 (fun H locs hW => ?_)
      refine lv_aload_n C.1.1 C.1.2.1 d_Ld_keepPast_26 rfl (lv_at hl 0 rfl) ?_
      refine lv_bipush (v := 7) C.1.1 C.1.2.1 d_Ld_keepPast_27 (by decide) ?_
      refine x_put (ws' := [(aN, .inr (0, [.int N_width, .int N_height, .long N_everywhere, .long N_firstColumn, .long N_lastColumn, .ref aN_grounds, .ref aN_airs, .ref aN_tolds, .ref aN_fees, .ref aN_lets, .int N_makers, .ref aN_kinds, .ref aN_cells, .ref aN_selves, .ref aN_cries, .int N_leaves, .ref aN_parts, .int 7, .ref aN_past])), (aN_parts, .inl (gI G, 40, .inl N_parts)), (aN_past, .inl (gI G, 328, .inl x7))]) C hE hW fp_Ld_83 0 rfl rfl rfl (Nat.le_of_ble_eq_true rfl) rfl d_Ld_keepPast_29 (fun H locs hW => ?_)
      exact hJ32 _ h _ _ _ hW (lv_sub hl [0] rfl)
set_option maxHeartbeats 4000000 in
set_option maxRecDepth 100000 in
theorem c_Ld_goBack (l : Launch) (G : Gl) (aN : Nat) (aN_grounds : Nat) (aN_airs : Nat) (aN_tolds : Nat) (aN_fees : Nat) (aN_lets : Nat) (aN_kinds : Nat) (aN_cells : Nat) (aN_selves : Nat) (aN_cries : Nat) (aN_parts : Nat) (aN_past : Nat) (N_width : Int32) (N_height : Int32) (N_everywhere : Int64) (N_firstColumn : Int64) (N_lastColumn : Int64) (N_makers : Int32) (N_leaves : Int32) (N_pasts : Int32) (N_parts : Nat → Int32) (N_past : Nat → Int32) {res : Int32 × (Nat → Int32) × Int32} (h : f_Ld_goBack N_leaves N_pasts N_parts N_past = some res) : Ct l y_Ld_goBack b_Ld_goBack 2 none 1 40 G [.ref aN] [(aN, .inr (0, [.int N_width, .int N_height, .long N_everywhere, .long N_firstColumn, .long N_lastColumn, .ref aN_grounds, .ref aN_airs, .ref aN_tolds, .ref aN_fees, .ref aN_lets, .int N_makers, .ref aN_kinds, .ref aN_cells, .ref aN_selves, .ref aN_cries, .int N_leaves, .ref aN_parts, .int N_pasts, .ref aN_past])), (aN_parts, .inl (gI G, 40, .inl N_parts)), (aN_past, .inl (gI G, 328, .inl N_past))] none [(aN, .inr (0, [.int N_width, .int N_height, .long N_everywhere, .long N_firstColumn, .long N_lastColumn, .ref aN_grounds, .ref aN_airs, .ref aN_tolds, .ref aN_fees, .ref aN_lets, .int N_makers, .ref aN_kinds, .ref aN_cells, .ref aN_selves, .ref aN_cries, .int (res.1), .ref aN_parts, .int (res.2.2), .ref aN_past])), (aN_parts, .inl (gI G, 40, .inl (res.2.1))), (aN_past, .inl (gI G, 328, .inl N_past))] := by
  refine Ct.mk (by decide) (Nat.le_of_ble_eq_true rfl) ?_
  intro p e s m args below meth c ls A Q C hE hW hl hQ
  have C : Cx p s args m c meth "LentAir$Land" y_Ld_goBack b_Ld_goBack 2 none := C
  have hl : lv_has ls 2 [(0, .ref aN)] := hl
  unfold f_Ld_goBack at h
  refine lv_aload_n C.1.1 C.1.2.1 d_Ld_goBack_0 rfl (lv_at hl 0 rfl) ?_
  refine x_get C hE hW fl_Ld_83 0 rfl rfl d_Ld_goBack_1 ?_
  refine lv_if_le (tgt := 52) C.1.1 C.1.2.1 d_Ld_goBack_4 (by decide) (fun cc => ?_) (fun cc => ?_)
  · replace h := it_t cc h
    obtain rfl := Option.some.inj h
    exact x_vret C hW rfl rfl hQ d_Ld_goBack_52
  · replace h := it_f cc h
    refine lv_aload_n C.1.1 C.1.2.1 d_Ld_goBack_7 rfl (lv_at hl 0 rfl) ?_
    refine lv_dup C.1.1 C.1.2.1 d_Ld_goBack_8 rfl ?_
    refine x_get C hE hW fl_Ld_83 0 rfl rfl d_Ld_goBack_9 ?_
    refine lv_iconst (v := 1) C.1.1 C.1.2.1 d_Ld_goBack_12 (by decide) ?_
    refine lv_isub C.1.1 C.1.2.1 d_Ld_goBack_13 ?_
    refine lv_topi (fun x1 ex1 => ?_)
    replace h := lt_at ex1 h
    refine x_put (ws' := [(aN, .inr (0, [.int N_width, .int N_height, .long N_everywhere, .long N_firstColumn, .long N_lastColumn, .ref aN_grounds, .ref aN_airs, .ref aN_tolds, .ref aN_fees, .ref aN_lets, .int N_makers, .ref aN_kinds, .ref aN_cells, .ref aN_selves, .ref aN_cries, .int N_leaves, .ref aN_parts, .int x1, .ref aN_past])), (aN_parts, .inl (gI G, 40, .inl N_parts)), (aN_past, .inl (gI G, 328, .inl N_past))]) C hE hW fp_Ld_83 0 rfl rfl rfl (Nat.le_of_ble_eq_true rfl) rfl d_Ld_goBack_14 (fun H locs hW => ?_)
    refine lv_aload_n C.1.1 C.1.2.1 d_Ld_goBack_17 rfl (lv_at hl 0 rfl) ?_
    refine x_get C hE hW fl_Ld_83 0 rfl rfl d_Ld_goBack_18 ?_
    refine lv_bipush (v := 41) C.1.1 C.1.2.1 d_Ld_goBack_21 (by decide) ?_
    refine lv_imul C.1.1 C.1.2.1 d_Ld_goBack_23 ?_
    refine lv_topi (fun x2 ex2 => ?_)
    replace h := lt_at ex2 h
    refine lv_istore_n (lv' := [(1, .int x2), (0, .ref aN)]) C.1.1 C.1.2.1 d_Ld_goBack_24 rfl hl (by decide) rfl (fun ls hl => ?_)
    refine lv_aload_n C.1.1 C.1.2.1 d_Ld_goBack_25 rfl (lv_at hl 1 rfl) ?_
    refine lv_aload_n C.1.1 C.1.2.1 d_Ld_goBack_26 rfl (lv_at hl 1 rfl) ?_
    refine x_get C hE hW fl_Ld_43 0 rfl rfl d_Ld_goBack_27 ?_
    refine lv_iload_n C.1.1 C.1.2.1 d_Ld_goBack_30 rfl (lv_at hl 0 rfl) ?_
    obtain ⟨hg, h⟩ := gd_at h
    refine x_iald C hE hW 2 rfl (inB_in hg) d_Ld_goBack_31 ?_
    refine lv_topi (fun x3 ex3 => ?_)
    replace h := lt_at ex3 h
    refine x_put (ws' := [(aN, .inr (0, [.int N_width, .int N_height, .long N_everywhere, .long N_firstColumn, .long N_lastColumn, .ref aN_grounds, .ref aN_airs, .ref aN_tolds, .ref aN_fees, .ref aN_lets, .int N_makers, .ref aN_kinds, .ref aN_cells, .ref aN_selves, .ref aN_cries, .int x3, .ref aN_parts, .int x1, .ref aN_past])), (aN_parts, .inl (gI G, 40, .inl N_parts)), (aN_past, .inl (gI G, 328, .inl N_past))]) C hE hW fp_Ld_80 0 rfl rfl rfl (Nat.le_of_ble_eq_true rfl) rfl d_Ld_goBack_32 (fun H locs hW => ?_)
    refine lv_aload_n C.1.1 C.1.2.1 d_Ld_goBack_35 rfl (lv_at hl 1 rfl) ?_
    refine x_get C hE hW fl_Ld_43 0 rfl rfl d_Ld_goBack_36 ?_
    refine lv_iload_n C.1.1 C.1.2.1 d_Ld_goBack_39 rfl (lv_at hl 0 rfl) ?_
    refine lv_iconst (v := 1) C.1.1 C.1.2.1 d_Ld_goBack_40 (by decide) ?_
    refine lv_iadd C.1.1 C.1.2.1 d_Ld_goBack_41 ?_
    refine lv_aload_n C.1.1 C.1.2.1 d_Ld_goBack_42 rfl (lv_at hl 1 rfl) ?_
    refine x_get C hE hW fl_Ld_40 0 rfl rfl d_Ld_goBack_43 ?_
    refine lv_iconst (v := 0) C.1.1 C.1.2.1 d_Ld_goBack_46 (by decide) ?_
    refine lv_bipush (v := 40) C.1.1 C.1.2.1 d_Ld_goBack_47 (by decide) ?_
    obtain ⟨hg, h⟩ := gd_at h
    obtain ⟨x4, ex4⟩ : ∃ y : Nat → Int32, y = va_cpy N_past N_parts (x2 + 1).toNatClampNeg (0 : Int32).toNatClampNeg (40 : Int32).toNatClampNeg := ⟨_, rfl⟩
    replace h := lt_at ex4 h
    refine x_copyi (ws' := [(aN, .inr (0, [.int N_width, .int N_height, .long N_everywhere, .long N_firstColumn, .long N_lastColumn, .ref aN_grounds, .ref aN_airs, .ref aN_tolds, .ref aN_fees, .ref aN_lets, .int N_makers, .ref aN_kinds, .ref aN_cells, .ref aN_selves, .ref aN_cries, .int x3, .ref aN_parts, .int x1, .ref aN_past])), (aN_parts, .inl (gI G, 40, .inl x4)), (aN_past, .inl (gI G, 328, .inl N_past))]) C hE hW hl tw372 2 1 rfl rfl (cpOk_at hg) (by subst ex4; rfl) (Nat.le_of_ble_eq_true rfl) (Nat.le_of_ble_eq_true rfl) d_Ld_goBack_49 (fun H locs hW => ?_)
    obtain rfl := Option.some.inj h
    exact x_vret C hW rfl rfl hQ d_Ld_goBack_52

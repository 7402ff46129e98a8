set_option maxHeartbeats 4000000 in
set_option maxRecDepth 100000 in
theorem c_Sd_kind (l : Launch) (G : Gl) (aN : Nat) (aN_grounds : Nat) (aN_airs : Nat) (aN_tolds : Nat) (aN_fees : Nat) (aN_lets : Nat) (aN_kinds : Nat) (aN_cells : Nat) (aN_selves : Nat) (aN_cries : Nat) (aN_parts : Nat) (aN_past : Nat) (aS : Nat) (aS_may : Nat) (aS_ways : Nat) (aS_echo : Nat) (aS_echoes : Nat) (N_width : Int32) (N_height : Int32) (N_everywhere : Int64) (N_firstColumn : Int64) (N_lastColumn : Int64) (N_makers : Int32) (N_leaves : Int32) (N_pasts : Int32) (S_maker : Int32) (S_loud : Int32) (S_hour : Int32) (S_bought : Int32) (S_gone : Int32) (S_straight : Int64) (S_all : Int64) (N_kinds : Nat → Int32) {res : Int32} (h : f_Sd_kind N_makers S_maker N_kinds = some res) : Ct l y_Sd_kind b_Sd_kind 1 (some .int) 0 0 G [.ref aS] [(aN, .inr (0, [.int N_width, .int N_height, .long N_everywhere, .long N_firstColumn, .long N_lastColumn, .ref aN_grounds, .ref aN_airs, .ref aN_tolds, .ref aN_fees, .ref aN_lets, .int N_makers, .ref aN_kinds, .ref aN_cells, .ref aN_selves, .ref aN_cries, .int N_leaves, .ref aN_parts, .int N_pasts, .ref aN_past])), (aN_kinds, .inl (gI G, 6, .inl N_kinds)), (aS, .inr (2, [.ref aN, .int S_maker, .int S_loud, .int S_hour, .int S_bought, .int S_gone, .ref aS_may, .ref aS_ways, .ref aS_echo, .ref aS_echoes, .long S_straight, .long S_all]))] (some (.int res)) [(aN, .inr (0, [.int N_width, .int N_height, .long N_everywhere, .long N_firstColumn, .long N_lastColumn, .ref aN_grounds, .ref aN_airs, .ref aN_tolds, .ref aN_fees, .ref aN_lets, .int N_makers, .ref aN_kinds, .ref aN_cells, .ref aN_selves, .ref aN_cries, .int N_leaves, .ref aN_parts, .int N_pasts, .ref aN_past])), (aN_kinds, .inl (gI G, 6, .inl N_kinds)), (aS, .inr (2, [.ref aN, .int S_maker, .int S_loud, .int S_hour, .int S_bought, .int S_gone, .ref aS_may, .ref aS_ways, .ref aS_echo, .ref aS_echoes, .long S_straight, .long S_all]))] := by
  refine Ct.mk (by decide) (Nat.le_of_ble_eq_true rfl) ?_
  intro p e s m args below meth c ls A Q C hE hW hl hQ
  have C : Cx p s args m c meth "LentAir$Sound" y_Sd_kind b_Sd_kind 1 (some .int) := C
  have hl : lv_has ls 1 [(0, .ref aS)] := hl
  unfold f_Sd_kind at h
  refine lv_aload_n C.1.1 C.1.2.1 d_Sd_kind_0 rfl (lv_at hl 0 rfl) ?_
  refine x_get C hE hW fl_Sd_28 2 rfl rfl d_Sd_kind_1 ?_
  refine lv_if_lt (tgt := 36) C.1.1 C.1.2.1 d_Sd_kind_4 (by decide) (fun cc => ?_) (fun cc => ?_)
  · replace h := it_t cc h
    refine lv_iconst (v := 0) C.1.1 C.1.2.1 d_Sd_kind_36 (by decide) ?_
    obtain rfl := Option.some.inj h
    exact x_iret C hW rfl rfl hQ d_Sd_kind_37
  · replace h := it_f cc h
    refine lv_aload_n C.1.1 C.1.2.1 d_Sd_kind_7 rfl (lv_at hl 0 rfl) ?_
    refine x_get C hE hW fl_Sd_28 2 rfl rfl d_Sd_kind_8 ?_
    refine lv_aload_n C.1.1 C.1.2.1 d_Sd_kind_11 rfl (lv_at hl 0 rfl) ?_
    refine x_get C hE hW fl_Sd_24 2 rfl rfl d_Sd_kind_12 ?_
    refine x_get C hE hW fl_Sd_100 0 rfl rfl d_Sd_kind_15 ?_
    refine lv_icmp_ge (tgt := 36) C.1.1 C.1.2.1 d_Sd_kind_18 (by decide) (fun cc => ?_) (fun cc => ?_)
    · replace h := it_t cc h
      refine lv_iconst (v := 0) C.1.1 C.1.2.1 d_Sd_kind_36 (by decide) ?_
      obtain rfl := Option.some.inj h
      exact x_iret C hW rfl rfl hQ d_Sd_kind_37
    · replace h := it_f cc h
      refine lv_aload_n C.1.1 C.1.2.1 d_Sd_kind_21 rfl (lv_at hl 0 rfl) ?_
      refine x_get C hE hW fl_Sd_24 2 rfl rfl d_Sd_kind_22 ?_
      refine x_get C hE hW fl_Sd_103 0 rfl rfl d_Sd_kind_25 ?_
      refine lv_aload_n C.1.1 C.1.2.1 d_Sd_kind_28 rfl (lv_at hl 0 rfl) ?_
      refine x_get C hE hW fl_Sd_28 2 rfl rfl d_Sd_kind_29 ?_
      obtain ⟨hg, h⟩ := gd_at h
      refine x_iald C hE hW 1 rfl (inB_in hg) d_Sd_kind_32 ?_
      refine lv_goto (tgt := 37) C.1.1 C.1.2.1 d_Sd_kind_33 (by decide) ?_
      obtain rfl := Option.some.inj h
      exact x_iret C hW rfl rfl hQ d_Sd_kind_37
set_option maxHeartbeats 4000000 in
set_option maxRecDepth 100000 in
theorem c_Sd_freeUpTo (l : Launch) (G : Gl) (p1 : Int32) {res : Int32} (h : f_Sd_freeUpTo p1 = some res) : Ct l y_Sd_freeUpTo b_Sd_freeUpTo 1 (some .int) 0 0 G [.int p1] [] (some (.int res)) [] := by
  refine Ct.mk (by decide) (Nat.le_of_ble_eq_true rfl) ?_
  intro p e s m args below meth c ls A Q C hE hW hl hQ
  have C : Cx p s args m c meth "LentAir$Sound" y_Sd_freeUpTo b_Sd_freeUpTo 1 (some .int) := C
  have hl : lv_has ls 1 [(0, .int p1)] := hl
  unfold f_Sd_freeUpTo at h
  refine lv_iload_n C.1.1 C.1.2.1 d_Sd_freeUpTo_0 rfl (lv_at hl 0 rfl) ?_
  rcases Decidable.em (p1 = 4) with c4 | c4
  · replace h := it_t c4 h
    refine lv_lookup (tgt := 28) (off := 27) C.1.1 C.1.2.1 d_Sd_freeUpTo_1 (by decide) (by rw [c4]; rfl) (by decide) ?_
    refine lv_iconst (v := 3) C.1.1 C.1.2.1 d_Sd_freeUpTo_28 (by decide) ?_
    obtain rfl := Option.some.inj h
    exact x_iret C hW rfl rfl hQ d_Sd_freeUpTo_29
  · replace h := it_f c4 h
    rcases Decidable.em (p1 = 5) with c5 | c5
    · replace h := it_t c5 h
      refine lv_lookup (tgt := 30) (off := 29) C.1.1 C.1.2.1 d_Sd_freeUpTo_1 (by decide) (by rw [c5]; rfl) (by decide) ?_
      refine lv_bipush (v := 20) C.1.1 C.1.2.1 d_Sd_freeUpTo_30 (by decide) ?_
      obtain rfl := Option.some.inj h
      exact x_iret C hW rfl rfl hQ d_Sd_freeUpTo_32
    · replace h := it_f c5 h
      refine lv_lookup (tgt := 33) (off := 32) C.1.1 C.1.2.1 d_Sd_freeUpTo_1 (by decide) (lk_out (by intro q hq; simp at hq; rcases hq with rfl | rfl <;> intro e <;> first | exact c4 (tsw e) | exact c5 (tsw e))) (by decide) ?_
      refine lv_iconst (v := 0) C.1.1 C.1.2.1 d_Sd_freeUpTo_33 (by decide) ?_
      obtain rfl := Option.some.inj h
      exact x_iret C hW rfl rfl hQ d_Sd_freeUpTo_34
set_option maxHeartbeats 4000000 in
set_option maxRecDepth 100000 in
theorem c_Sd_allow (l : Launch) (G : Gl) (aN : Nat) (aN_grounds : Nat) (aN_airs : Nat) (aN_tolds : Nat) (aN_fees : Nat) (aN_lets : Nat) (aN_kinds : Nat) (aN_cells : Nat) (aN_selves : Nat) (aN_cries : Nat) (aN_parts : Nat) (aN_past : Nat) (aS : Nat) (aS_may : Nat) (aS_ways : Nat) (aS_echo : Nat) (aS_echoes : Nat) (N_width : Int32) (N_height : Int32) (N_everywhere : Int64) (N_firstColumn : Int64) (N_lastColumn : Int64) (N_makers : Int32) (N_leaves : Int32) (N_pasts : Int32) (S_maker : Int32) (S_loud : Int32) (S_hour : Int32) (S_bought : Int32) (S_gone : Int32) (S_straight : Int64) (S_all : Int64) (N_airs : Nat → Int64) (N_selves : Nat → Int32) (N_parts : Nat → Int32) (S_may : Nat → Int64) (p1 : Int32) (p2 : Int32) {res : (Nat → Int64)} (h : f_Sd_allow N_makers N_leaves S_maker S_hour S_bought S_gone N_airs N_selves N_parts S_may p1 p2 = some res) : Ct l y_Sd_allow b_Sd_allow 8 none 2 45 G [.ref aS, .int p1, .int p2] [(aN, .inr (0, [.int N_width, .int N_height, .long N_everywhere, .long N_firstColumn, .long N_lastColumn, .ref aN_grounds, .ref aN_airs, .ref aN_tolds, .ref aN_fees, .ref aN_lets, .int N_makers, .ref aN_kinds, .ref aN_cells, .ref aN_selves, .ref aN_cries, .int N_leaves, .ref aN_parts, .int N_pasts, .ref aN_past])), (aN_airs, .inl (gJ G, 6, .inr (.inl N_airs))), (aN_selves, .inl (gI G, 6, .inl N_selves)), (aN_parts, .inl (gI G, 40, .inl N_parts)), (aS, .inr (2, [.ref aN, .int S_maker, .int S_loud, .int S_hour, .int S_bought, .int S_gone, .ref aS_may, .ref aS_ways, .ref aS_echo, .ref aS_echoes, .long S_straight, .long S_all])), (aS_may, .inl (gJ G, 21, .inr (.inl S_may)))] none [(aN, .inr (0, [.int N_width, .int N_height, .long N_everywhere, .long N_firstColumn, .long N_lastColumn, .ref aN_grounds, .ref aN_airs, .ref aN_tolds, .ref aN_fees, .ref aN_lets, .int N_makers, .ref aN_kinds, .ref aN_cells, .ref aN_selves, .ref aN_cries, .int N_leaves, .ref aN_parts, .int N_pasts, .ref aN_past])), (aN_airs, .inl (gJ G, 6, .inr (.inl N_airs))), (aN_selves, .inl (gI G, 6, .inl N_selves)), (aN_parts, .inl (gI G, 40, .inl N_parts)), (aS, .inr (2, [.ref aN, .int S_maker, .int S_loud, .int S_hour, .int S_bought, .int S_gone, .ref aS_may, .ref aS_ways, .ref aS_echo, .ref aS_echoes, .long S_straight, .long S_all])), (aS_may, .inl (gJ G, 21, .inr (.inl res)))] := by
  refine Ct.mk (by decide) (Nat.le_of_ble_eq_true rfl) ?_
  intro p e s m args below meth c ls A Q C hE hW hl hQ
  have C : Cx p s args m c meth "LentAir$Sound" y_Sd_allow b_Sd_allow 8 none := C
  have hl : lv_has ls 8 [(0, .ref aS), (1, .int p1), (2, .int p2)] := hl
  unfold f_Sd_allow at h
  refine lv_aload_n C.1.1 C.1.2.1 d_Sd_allow_0 rfl (lv_at hl 0 rfl) ?_
  refine x_get C hE hW fl_Sd_9 4 rfl rfl d_Sd_allow_1 ?_
  refine lv_lconst (v := 0) C.1.1 C.1.2.1 d_Sd_allow_4 (by decide) ?_
  obtain ⟨x1, hc2, h⟩ := bd_at h
  refine x_callS (ws' := [(aN, .inr (0, [.int N_width, .int N_height, .long N_everywhere, .long N_firstColumn, .long N_lastColumn, .ref aN_grounds, .ref aN_airs, .ref aN_tolds, .ref aN_fees, .ref aN_lets, .int N_makers, .ref aN_kinds, .ref aN_cells, .ref aN_selves, .ref aN_cries, .int N_leaves, .ref aN_parts, .int N_pasts, .ref aN_past])), (aN_airs, .inl (gJ G, 6, .inr (.inl N_airs))), (aN_selves, .inl (gI G, 6, .inl N_selves)), (aN_parts, .inl (gI G, 40, .inl N_parts)), (aS, .inr (2, [.ref aN, .int S_maker, .int S_loud, .int S_hour, .int S_bought, .int S_gone, .ref aS_may, .ref aS_ways, .ref aS_echo, .ref aS_echoes, .long S_straight, .long S_all])), (aS_may, .inl (gJ G, 21, .inr (.inl x1)))]) (stk := []) (rest := []) (As := [.ref aS_may, .long 0]) C hE hW (c_JA_fillJ l G aS_may 21 S_may 0 hc2) cv_JA_fillJ tw585 hl rfl rfl (Nat.le_of_ble_eq_true rfl) ⟨Nat.le_of_ble_eq_true rfl, Nat.le_of_ble_eq_true rfl⟩ ⟨Nat.zero_le _, Nat.zero_le _⟩ [5] [0, 1, 2, 3, 4] [0, 1, 2, 3, 4, 5] rfl rfl rfl (by decide) rfl rfl rfl rfl d_Sd_allow_5 (fun H locs hW => ?_)
  refine lv_aload_n C.1.1 C.1.2.1 d_Sd_allow_8 rfl (lv_at hl 0 rfl) ?_
  refine x_get C hE hW fl_Sd_9 4 rfl rfl d_Sd_allow_9 ?_
  refine lv_bipush (v := 20) C.1.1 C.1.2.1 d_Sd_allow_12 (by decide) ?_
  refine lv_aload_n C.1.1 C.1.2.1 d_Sd_allow_14 rfl (lv_at hl 0 rfl) ?_
  refine x_get C hE hW fl_Sd_24 4 rfl rfl d_Sd_allow_15 ?_
  refine lv_iload_n C.1.1 C.1.2.1 d_Sd_allow_18 rfl (lv_at hl 1 rfl) ?_
  obtain ⟨x3, hc4, h⟩ := bd_at h
  refine x_callV (ws' := [(aN, .inr (0, [.int N_width, .int N_height, .long N_everywhere, .long N_firstColumn, .long N_lastColumn, .ref aN_grounds, .ref aN_airs, .ref aN_tolds, .ref aN_fees, .ref aN_lets, .int N_makers, .ref aN_kinds, .ref aN_cells, .ref aN_selves, .ref aN_cries, .int N_leaves, .ref aN_parts, .int N_pasts, .ref aN_past])), (aN_airs, .inl (gJ G, 6, .inr (.inl N_airs))), (aN_selves, .inl (gI G, 6, .inl N_selves)), (aN_parts, .inl (gI G, 40, .inl N_parts)), (aS, .inr (2, [.ref aN, .int S_maker, .int S_loud, .int S_hour, .int S_bought, .int S_gone, .ref aS_may, .ref aS_ways, .ref aS_echo, .ref aS_echoes, .long S_straight, .long S_all])), (aS_may, .inl (gJ G, 21, .inr (.inl x1)))]) (stk := [.long x3, .int 20, .ref aS_may]) (rest := [.int 20, .ref aS_may]) (As := [.int p1]) (q0 := 0) C hE hW (c_Ld_airOf l G aN aN_grounds aN_airs aN_tolds aN_fees aN_lets aN_kinds aN_cells aN_selves aN_cries aN_parts aN_past N_width N_height N_everywhere N_firstColumn N_lastColumn N_makers N_leaves N_pasts N_airs p1 hc4) cv_Ld_airOf tw588 hl rfl rfl (Nat.le_of_ble_eq_true rfl) rfl rfl rfl ⟨Nat.le_of_ble_eq_true rfl, Nat.le_of_ble_eq_true rfl⟩ ⟨Nat.zero_le _, Nat.zero_le _⟩ [0, 1] [2, 3, 4, 5] [4, 5, 0, 1, 2, 3] rfl rfl rfl (by decide) rfl rfl rfl rfl d_Sd_allow_19 (fun H locs hW => ?_)
  obtain ⟨x5, ex5⟩ : ∃ y : Nat → Int64, y = vp_updL x1 (20 : Int32).toNatClampNeg x3 := ⟨_, rfl⟩
  replace h := lt_at ex5 h
  refine x_last (ws' := [(aN, .inr (0, [.int N_width, .int N_height, .long N_everywhere, .long N_firstColumn, .long N_lastColumn, .ref aN_grounds, .ref aN_airs, .ref aN_tolds, .ref aN_fees, .ref aN_lets, .int N_makers, .ref aN_kinds, .ref aN_cells, .ref aN_selves, .ref aN_cries, .int N_leaves, .ref aN_parts, .int N_pasts, .ref aN_past])), (aN_airs, .inl (gJ G, 6, .inr (.inl N_airs))), (aN_selves, .inl (gI G, 6, .inl N_selves)), (aN_parts, .inl (gI G, 40, .inl N_parts)), (aS, .inr (2, [.ref aN, .int S_maker, .int S_loud, .int S_hour, .int S_bought, .int S_gone, .ref aS_may, .ref aS_ways, .ref aS_echo, .ref aS_echoes, .long S_straight, .long S_all])), (aS_may, .inl (gJ G, 21, .inr (.inl x5)))]) C hE hW 5 rfl (inB_in (by decide)) (by subst ex5; rfl) d_Sd_allow_22 (fun H locs hW => ?_)
  refine lv_iconst (v := 0) C.1.1 C.1.2.1 d_Sd_allow_23 (by decide) ?_
  refine lv_istore_n (lv' := [(3, .int 0), (0, .ref aS), (1, .int p1), (2, .int p2)]) C.1.1 C.1.2.1 d_Sd_allow_24 rfl hl (by decide) rfl (fun ls hl => ?_)
  refine jn_at (P := fun (x6 : Nat → Int64) => ∀ (H : Heap) (locs : List Loc) (ls : Array Slot), Wd G A s.heap H locs [(aN, .inr (0, [.int N_width, .int N_height, .long N_everywhere, .long N_firstColumn, .long N_lastColumn, .ref aN_grounds, .ref aN_airs, .ref aN_tolds, .ref aN_fees, .ref aN_lets, .int N_makers, .ref aN_kinds, .ref aN_cells, .ref aN_selves, .ref aN_cries, .int N_leaves, .ref aN_parts, .int N_pasts, .ref aN_past])), (aN_airs, .inl (gJ G, 6, .inr (.inl N_airs))), (aN_selves, .inl (gI G, 6, .inl N_selves)), (aN_parts, .inl (gI G, 40, .inl N_parts)), (aS, .inr (2, [.ref aN, .int S_maker, .int S_loud, .int S_hour, .int S_bought, .int S_gone, .ref aS_may, .ref aS_ways, .ref aS_echo, .ref aS_echoes, .long S_straight, .long S_all])), (aS_may, .inl (gJ G, 21, .inr (.inl x6)))] → lv_has ls 8 [(0, .ref aS), (1, .int p1), (2, .int p2)] → W p l e (RM 2 45) s m args below meth c H locs 0 0 Q (F0 m 82 ls [])) h ?_ ?_
  · skip
    intro x6 h
    intro H locs ls hW hl
    refine lv_iconst (v := 0) C.1.1 C.1.2.1 d_Sd_allow_82 (by decide) ?_
    refine lv_istore_n (lv' := [(3, .int 0), (0, .ref aS), (1, .int p1), (2, .int p2)]) C.1.1 C.1.2.1 d_Sd_allow_83 rfl hl (by decide) rfl (fun ls hl => ?_)
    refine jn_at (P := fun (x7 : Nat → Int64) => ∀ (H : Heap) (locs : List Loc) (ls : Array Slot), Wd G A s.heap H locs [(aN, .inr (0, [.int N_width, .int N_height, .long N_everywhere, .long N_firstColumn, .long N_lastColumn, .ref aN_grounds, .ref aN_airs, .ref aN_tolds, .ref aN_fees, .ref aN_lets, .int N_makers, .ref aN_kinds, .ref aN_cells, .ref aN_selves, .ref aN_cries, .int N_leaves, .ref aN_parts, .int N_pasts, .ref aN_past])), (aN_airs, .inl (gJ G, 6, .inr (.inl N_airs))), (aN_selves, .inl (gI G, 6, .inl N_selves)), (aN_parts, .inl (gI G, 40, .inl N_parts)), (aS, .inr (2, [.ref aN, .int S_maker, .int S_loud, .int S_hour, .int S_bought, .int S_gone, .ref aS_may, .ref aS_ways, .ref aS_echo, .ref aS_echoes, .long S_straight, .long S_all])), (aS_may, .inl (gJ G, 21, .inr (.inl x7)))] → lv_has ls 8 [(0, .ref aS)] → W p l e (RM 2 45) s m args below meth c H locs 0 0 Q (F0 m 244 ls [])) h ?_ ?_
    · skip
      intro x7 h
      intro H locs ls hW hl
      refine lv_bipush (v := 19) C.1.1 C.1.2.1 d_Sd_allow_244 (by decide) ?_
      refine lv_istore_n (lv' := [(3, .int 19), (0, .ref aS)]) C.1.1 C.1.2.1 d_Sd_allow_246 rfl hl (by decide) rfl (fun ls hl => ?_)
      refine lp_at (P := fun ((x8, x9) : Int32 × (Nat → Int64)) => ∀ (H : Heap) (locs : List Loc) (ls : Array Slot), Wd G A s.heap H locs [(aN, .inr (0, [.int N_width, .int N_height, .long N_everywhere, .long N_firstColumn, .long N_lastColumn, .ref aN_grounds, .ref aN_airs, .ref aN_tolds, .ref aN_fees, .ref aN_lets, .int N_makers, .ref aN_kinds, .ref aN_cells, .ref aN_selves, .ref aN_cries, .int N_leaves, .ref aN_parts, .int N_pasts, .ref aN_past])), (aN_airs, .inl (gJ G, 6, .inr (.inl N_airs))), (aN_selves, .inl (gI G, 6, .inl N_selves)), (aN_parts, .inl (gI G, 40, .inl N_parts)), (aS, .inr (2, [.ref aN, .int S_maker, .int S_loud, .int S_hour, .int S_bought, .int S_gone, .ref aS_may, .ref aS_ways, .ref aS_echo, .ref aS_echoes, .long S_straight, .long S_all])), (aS_may, .inl (gJ G, 21, .inr (.inl x9)))] → lv_has ls 8 [(0, .ref aS), (3, .int x8)] → W p l e (RM 2 45) s m args below meth c H locs 0 0 Q (F0 m 247 ls [])) ?_ FU _ h _ _ _ hW (lv_sub hl [1, 0] rfl)
      clear h hl hW
      intro rec247 ih247
      intro x h
      obtain ⟨x8, x9⟩ := x
      unfold f_Sd_allow_L247 at h
      intro H locs ls hW hl
      refine lv_iload_n C.1.1 C.1.2.1 d_Sd_allow_247 rfl (lv_at hl 1 rfl) ?_
      refine lv_if_le (tgt := 274) C.1.1 C.1.2.1 d_Sd_allow_248 (by decide) (fun cc => ?_) (fun cc => ?_)
      · replace h := it_t cc h
        obtain rfl := Option.some.inj h
        exact x_vret C hW rfl rfl hQ d_Sd_allow_274
      · replace h := it_f cc h
        refine lv_aload_n C.1.1 C.1.2.1 d_Sd_allow_251 rfl (lv_at hl 0 rfl) ?_
        refine x_get C hE hW fl_Sd_9 4 rfl rfl d_Sd_allow_252 ?_
        refine lv_iload_n C.1.1 C.1.2.1 d_Sd_allow_255 rfl (lv_at hl 1 rfl) ?_
        refine lv_dup2_11 C.1.1 C.1.2.1 d_Sd_allow_256 rfl rfl ?_
        obtain ⟨hg, h⟩ := gd_at h
        refine x_lald C hE hW 5 rfl (inB_in hg) d_Sd_allow_257 ?_
        refine lv_aload_n C.1.1 C.1.2.1 d_Sd_allow_258 rfl (lv_at hl 0 rfl) ?_
        refine x_get C hE hW fl_Sd_9 4 rfl rfl d_Sd_allow_259 ?_
        refine lv_iload_n C.1.1 C.1.2.1 d_Sd_allow_262 rfl (lv_at hl 1 rfl) ?_
        refine lv_iconst (v := 1) C.1.1 C.1.2.1 d_Sd_allow_263 (by decide) ?_
        refine lv_iadd C.1.1 C.1.2.1 d_Sd_allow_264 ?_
        obtain ⟨hg, h⟩ := gd_at h
        refine x_lald C hE hW 5 rfl (inB_in hg) d_Sd_allow_265 ?_
        refine lv_lor C.1.1 C.1.2.1 d_Sd_allow_266 ?_
        obtain ⟨hg, h⟩ := gd_at h
        obtain ⟨x10, ex10⟩ : ∃ y : Nat → Int64, y = vp_updL x9 x8.toNatClampNeg ((x9 x8.toNatClampNeg) ||| (x9 (x8 + 1).toNatClampNeg)) := ⟨_, rfl⟩
        replace h := lt_at ex10 h
        refine x_last (ws' := [(aN, .inr (0, [.int N_width, .int N_height, .long N_everywhere, .long N_firstColumn, .long N_lastColumn, .ref aN_grounds, .ref aN_airs, .ref aN_tolds, .ref aN_fees, .ref aN_lets, .int N_makers, .ref aN_kinds, .ref aN_cells, .ref aN_selves, .ref aN_cries, .int N_leaves, .ref aN_parts, .int N_pasts, .ref aN_past])), (aN_airs, .inl (gJ G, 6, .inr (.inl N_airs))), (aN_selves, .inl (gI G, 6, .inl N_selves)), (aN_parts, .inl (gI G, 40, .inl N_parts)), (aS, .inr (2, [.ref aN, .int S_maker, .int S_loud, .int S_hour, .int S_bought, .int S_gone, .ref aS_may, .ref aS_ways, .ref aS_echo, .ref aS_echoes, .long S_straight, .long S_all])), (aS_may, .inl (gJ G, 21, .inr (.inl x10)))]) C hE hW 5 rfl (inB_in hg) (by subst ex10; rfl) d_Sd_allow_267 (fun H locs hW => ?_)
        obtain ⟨x11, ex11⟩ : ∃ y : Int32, y = x8 + (-1) := ⟨_, rfl⟩
        replace h := lt_at ex11 h
        refine lv_iinc (v := x11) (lv' := [(3, .int x11), (0, .ref aS)]) C.1.1 C.1.2.1 d_Sd_allow_268 hl (k := 1) rfl (by rw [ex11]; rfl) (by decide) rfl (fun ls hl => ?_)
        refine lv_goto (tgt := 247) C.1.1 C.1.2.1 d_Sd_allow_271 (by decide) ?_
        exact ih247 _ h _ _ _ hW (lv_sub hl [1, 0] rfl)
    · intro J244 hJ244 h
      refine lp_at (P := fun ((x12, x13) : Int32 × (Nat → Int64)) => ∀ (H : Heap) (locs : List Loc) (ls : Array Slot), Wd G A s.heap H locs [(aN, .inr (0, [.int N_width, .int N_height, .long N_everywhere, .long N_firstColumn, .long N_lastColumn, .ref aN_grounds, .ref aN_airs, .ref aN_tolds, .ref aN_fees, .ref aN_lets, .int N_makers, .ref aN_kinds, .ref aN_cells, .ref aN_selves, .ref aN_cries, .int N_leaves, .ref aN_parts, .int N_pasts, .ref aN_past])), (aN_airs, .inl (gJ G, 6, .inr (.inl N_airs))), (aN_selves, .inl (gI G, 6, .inl N_selves)), (aN_parts, .inl (gI G, 40, .inl N_parts)), (aS, .inr (2, [.ref aN, .int S_maker, .int S_loud, .int S_hour, .int S_bought, .int S_gone, .ref aS_may, .ref aS_ways, .ref aS_echo, .ref aS_echoes, .long S_straight, .long S_all])), (aS_may, .inl (gJ G, 21, .inr (.inl x13)))] → lv_has ls 8 [(0, .ref aS), (1, .int p1), (2, .int p2), (3, .int x12)] → W p l e (RM 2 45) s m args below meth c H locs 0 0 Q (F0 m 84 ls [])) ?_ FU _ h _ _ _ hW (lv_sub hl [1, 2, 3, 0] rfl)
      clear h hl hW
      intro rec84 ih84
      intro x h
      obtain ⟨x12, x13⟩ := x
      unfold f_Sd_allow_L84 at h
      intro H locs ls hW hl
      refine lv_iload_n C.1.1 C.1.2.1 d_Sd_allow_84 rfl (lv_at hl 3 rfl) ?_
      refine lv_aload_n C.1.1 C.1.2.1 d_Sd_allow_85 rfl (lv_at hl 0 rfl) ?_
      refine x_get C hE hW fl_Sd_24 4 rfl rfl d_Sd_allow_86 ?_
      refine x_get C hE hW fl_Sd_136 0 rfl rfl d_Sd_allow_89 ?_
      refine lv_icmp_ge (tgt := 244) C.1.1 C.1.2.1 d_Sd_allow_92 (by decide) (fun cc => ?_) (fun cc => ?_)
      · replace h := it_t cc h
        exact hJ244 _ h _ _ _ hW (lv_sub hl [0] rfl)
      · replace h := it_f cc h
        refine lv_aload_n C.1.1 C.1.2.1 d_Sd_allow_95 rfl (lv_at hl 0 rfl) ?_
        refine x_get C hE hW fl_Sd_24 4 rfl rfl d_Sd_allow_96 ?_
        refine lv_iload_n C.1.1 C.1.2.1 d_Sd_allow_99 rfl (lv_at hl 3 rfl) ?_
        refine lv_iconst (v := 0) C.1.1 C.1.2.1 d_Sd_allow_100 (by decide) ?_
        obtain ⟨x14, hc15, h⟩ := bd_at h
        refine x_callV (ws' := [(aN, .inr (0, [.int N_width, .int N_height, .long N_everywhere, .long N_firstColumn, .long N_lastColumn, .ref aN_grounds, .ref aN_airs, .ref aN_tolds, .ref aN_fees, .ref aN_lets, .int N_makers, .ref aN_kinds, .ref aN_cells, .ref aN_selves, .ref aN_cries, .int N_leaves, .ref aN_parts, .int N_pasts, .ref aN_past])), (aN_airs, .inl (gJ G, 6, .inr (.inl N_airs))), (aN_selves, .inl (gI G, 6, .inl N_selves)), (aN_parts, .inl (gI G, 40, .inl N_parts)), (aS, .inr (2, [.ref aN, .int S_maker, .int S_loud, .int S_hour, .int S_bought, .int S_gone, .ref aS_may, .ref aS_ways, .ref aS_echo, .ref aS_echoes, .long S_straight, .long S_all])), (aS_may, .inl (gJ G, 21, .inr (.inl x13)))]) (stk := [.int x14]) (rest := []) (As := [.int x12, .int 0]) (q0 := 0) C hE hW (c_Ld_part l G aN aN_grounds aN_airs aN_tolds aN_fees aN_lets aN_kinds aN_cells aN_selves aN_cries aN_parts aN_past N_width N_height N_everywhere N_firstColumn N_lastColumn N_makers N_leaves N_pasts N_parts x12 0 hc15) cv_Ld_part tw592 hl rfl rfl (Nat.le_of_ble_eq_true rfl) rfl rfl rfl ⟨Nat.le_of_ble_eq_true rfl, Nat.le_of_ble_eq_true rfl⟩ ⟨Nat.zero_le _, Nat.zero_le _⟩ [0, 3] [1, 2, 4, 5] [4, 0, 1, 5, 2, 3] rfl rfl rfl (by decide) rfl rfl rfl rfl d_Sd_allow_101 (fun H locs hW => ?_)
        refine lv_istore (lv' := [(4, .int x14), (0, .ref aS), (1, .int p1), (2, .int p2), (3, .int x12)]) C.1.1 C.1.2.1 d_Sd_allow_104 hl (by decide) rfl (fun ls hl => ?_)
        refine lv_aload_n C.1.1 C.1.2.1 d_Sd_allow_106 rfl (lv_at hl 1 rfl) ?_
        refine x_get C hE hW fl_Sd_24 4 rfl rfl d_Sd_allow_107 ?_
        refine lv_iload_n C.1.1 C.1.2.1 d_Sd_allow_110 rfl (lv_at hl 4 rfl) ?_
        refine lv_iconst (v := 4) C.1.1 C.1.2.1 d_Sd_allow_111 (by decide) ?_
        obtain ⟨x16, hc17, h⟩ := bd_at h
        refine x_callV (ws' := [(aN, .inr (0, [.int N_width, .int N_height, .long N_everywhere, .long N_firstColumn, .long N_lastColumn, .ref aN_grounds, .ref aN_airs, .ref aN_tolds, .ref aN_fees, .ref aN_lets, .int N_makers, .ref aN_kinds, .ref aN_cells, .ref aN_selves, .ref aN_cries, .int N_leaves, .ref aN_parts, .int N_pasts, .ref aN_past])), (aN_airs, .inl (gJ G, 6, .inr (.inl N_airs))), (aN_selves, .inl (gI G, 6, .inl N_selves)), (aN_parts, .inl (gI G, 40, .inl N_parts)), (aS, .inr (2, [.ref aN, .int S_maker, .int S_loud, .int S_hour, .int S_bought, .int S_gone, .ref aS_may, .ref aS_ways, .ref aS_echo, .ref aS_echoes, .long S_straight, .long S_all])), (aS_may, .inl (gJ G, 21, .inr (.inl x13)))]) (stk := [.int x16]) (rest := []) (As := [.int x12, .int 4]) (q0 := 0) C hE hW (c_Ld_part l G aN aN_grounds aN_airs aN_tolds aN_fees aN_lets aN_kinds aN_cells aN_selves aN_cries aN_parts aN_past N_width N_height N_everywhere N_firstColumn N_lastColumn N_makers N_leaves N_pasts N_parts x12 4 hc17) cv_Ld_part tw592 hl rfl rfl (Nat.le_of_ble_eq_true rfl) rfl rfl rfl ⟨Nat.le_of_ble_eq_true rfl, Nat.le_of_ble_eq_true rfl⟩ ⟨Nat.zero_le _, Nat.zero_le _⟩ [0, 3] [1, 2, 4, 5] [4, 0, 1, 5, 2, 3] rfl rfl rfl (by decide) rfl rfl rfl rfl d_Sd_allow_112 (fun H locs hW => ?_)
        refine lv_istore (lv' := [(5, .int x16), (4, .int x14), (0, .ref aS), (1, .int p1), (2, .int p2), (3, .int x12)]) C.1.1 C.1.2.1 d_Sd_allow_115 hl (by decide) rfl (fun ls hl => ?_)
        refine lv_iload_n C.1.1 C.1.2.1 d_Sd_allow_117 rfl (lv_at hl 4 rfl) ?_
        refine lv_iconst (v := (-1)) C.1.1 C.1.2.1 d_Sd_allow_118 (by decide) ?_
        refine jn_at (P := fun (x18 : Int32) => ∀ (H : Heap) (locs : List Loc) (ls : Array Slot), Wd G A s.heap H locs [(aN, .inr (0, [.int N_width, .int N_height, .long N_everywhere, .long N_firstColumn, .long N_lastColumn, .ref aN_grounds, .ref aN_airs, .ref aN_tolds, .ref aN_fees, .ref aN_lets, .int N_makers, .ref aN_kinds, .ref aN_cells, .ref aN_selves, .ref aN_cries, .int N_leaves, .ref aN_parts, .int N_pasts, .ref aN_past])), (aN_airs, .inl (gJ G, 6, .inr (.inl N_airs))), (aN_selves, .inl (gI G, 6, .inl N_selves)), (aN_parts, .inl (gI G, 40, .inl N_parts)), (aS, .inr (2, [.ref aN, .int S_maker, .int S_loud, .int S_hour, .int S_bought, .int S_gone, .ref aS_may, .ref aS_ways, .ref aS_echo, .ref aS_echoes, .long S_straight, .long S_all])), (aS_may, .inl (gJ G, 21, .inr (.inl x13)))] → lv_has ls 8 [(0, .ref aS), (1, .int p1), (2, .int p2), (3, .int x12), (5, .int x16)] → W p l e (RM 2 45) s m args below meth c H locs 0 0 Q (F0 m 154 ls [.int x18])) h ?_ ?_
        · skip
          intro x18 h
          intro H locs ls hW hl
          refine lv_istore (lv' := [(6, .int x18), (0, .ref aS), (1, .int p1), (2, .int p2), (3, .int x12), (5, .int x16)]) C.1.1 C.1.2.1 d_Sd_allow_154 hl (by decide) rfl (fun ls hl => ?_)
          refine lv_aload_n C.1.1 C.1.2.1 d_Sd_allow_156 rfl (lv_at hl 1 rfl) ?_
          refine x_get C hE hW fl_Sd_41 4 rfl rfl d_Sd_allow_157 ?_
          refine lv_iload_n C.1.1 C.1.2.1 d_Sd_allow_160 rfl (lv_at hl 4 rfl) ?_
          refine lv_ishr C.1.1 C.1.2.1 d_Sd_allow_161 ?_
          refine lv_iconst (v := 1) C.1.1 C.1.2.1 d_Sd_allow_162 (by decide) ?_
          refine lv_iand C.1.1 C.1.2.1 d_Sd_allow_163 ?_
          refine jn_at (P := fun (x19 : Int32) => ∀ (H : Heap) (locs : List Loc) (ls : Array Slot), Wd G A s.heap H locs [(aN, .inr (0, [.int N_width, .int N_height, .long N_everywhere, .long N_firstColumn, .long N_lastColumn, .ref aN_grounds, .ref aN_airs, .ref aN_tolds, .ref aN_fees, .ref aN_lets, .int N_makers, .ref aN_kinds, .ref aN_cells, .ref aN_selves, .ref aN_cries, .int N_leaves, .ref aN_parts, .int N_pasts, .ref aN_past])), (aN_airs, .inl (gJ G, 6, .inr (.inl N_airs))), (aN_selves, .inl (gI G, 6, .inl N_selves)), (aN_parts, .inl (gI G, 40, .inl N_parts)), (aS, .inr (2, [.ref aN, .int S_maker, .int S_loud, .int S_hour, .int S_bought, .int S_gone, .ref aS_may, .ref aS_ways, .ref aS_echo, .ref aS_echoes, .long S_straight, .long S_all])), (aS_may, .inl (gJ G, 21, .inr (.inl x13)))] → lv_has ls 8 [(0, .ref aS), (1, .int p1), (2, .int p2), (3, .int x12), (5, .int x16), (6, .int x18)] → W p l e (RM 2 45) s m args below meth c H locs 0 0 Q (F0 m 187 ls [.int x19])) h ?_ ?_
          · skip
            intro x19 h
            intro H locs ls hW hl
            refine lv_istore (lv' := [(7, .int x19), (0, .ref aS), (1, .int p1), (2, .int p2), (3, .int x12), (5, .int x16), (6, .int x18)]) C.1.1 C.1.2.1 d_Sd_allow_187 hl (by decide) rfl (fun ls hl => ?_)
            refine lv_iload C.1.1 C.1.2.1 d_Sd_allow_189 (lv_at hl 6 rfl) ?_
            refine jn_at (P := fun (x20 : Nat → Int64) => ∀ (H : Heap) (locs : List Loc) (ls : Array Slot), Wd G A s.heap H locs [(aN, .inr (0, [.int N_width, .int N_height, .long N_everywhere, .long N_firstColumn, .long N_lastColumn, .ref aN_grounds, .ref aN_airs, .ref aN_tolds, .ref aN_fees, .ref aN_lets, .int N_makers, .ref aN_kinds, .ref aN_cells, .ref aN_selves, .ref aN_cries, .int N_leaves, .ref aN_parts, .int N_pasts, .ref aN_past])), (aN_airs, .inl (gJ G, 6, .inr (.inl N_airs))), (aN_selves, .inl (gI G, 6, .inl N_selves)), (aN_parts, .inl (gI G, 40, .inl N_parts)), (aS, .inr (2, [.ref aN, .int S_maker, .int S_loud, .int S_hour, .int S_bought, .int S_gone, .ref aS_may, .ref aS_ways, .ref aS_echo, .ref aS_echoes, .long S_straight, .long S_all])), (aS_may, .inl (gJ G, 21, .inr (.inl x20)))] → lv_has ls 8 [(0, .ref aS), (1, .int p1), (2, .int p2), (3, .int x12)] → W p l e (RM 2 45) s m args below meth c H locs 0 0 Q (F0 m 238 ls [])) h ?_ ?_
            · skip
              intro x20 h
              intro H locs ls hW hl
              obtain ⟨x21, ex21⟩ : ∃ y : Int32, y = x12 + 1 := ⟨_, rfl⟩
              replace h := lt_at ex21 h
              refine lv_iinc (v := x21) (lv' := [(3, .int x21), (0, .ref aS), (1, .int p1), (2, .int p2)]) C.1.1 C.1.2.1 d_Sd_allow_238 hl (k := 3) rfl (by rw [ex21]; rfl) (by decide) rfl (fun ls hl => ?_)
              refine lv_goto (tgt := 84) C.1.1 C.1.2.1 d_Sd_allow_241 (by decide) ?_
              exact ih84 _ h _ _ _ hW (lv_sub hl [1, 2, 3, 0] rfl)
            · intro J238 hJ238 h
              refine lv_if_eq (tgt := 238) C.1.1 C.1.2.1 d_Sd_allow_191 (by decide) (fun cc => ?_) (fun cc => ?_)
              · replace h := it_t cc h
                exact hJ238 _ h _ _ _ hW (lv_sub hl [1, 2, 3, 4] rfl)
              · replace h := it_f cc h
                refine lv_iload C.1.1 C.1.2.1 d_Sd_allow_194 (lv_at hl 0 rfl) ?_
                refine lv_if_eq (tgt := 238) C.1.1 C.1.2.1 d_Sd_allow_196 (by decide) (fun cc => ?_) (fun cc => ?_)
                · replace h := it_t cc h
                  exact hJ238 _ h _ _ _ hW (lv_sub hl [1, 2, 3, 4] rfl)
                · replace h := it_f cc h
                  refine lv_iload C.1.1 C.1.2.1 d_Sd_allow_199 (lv_at hl 5 rfl) ?_
                  refine lv_iconst (v := 1) C.1.1 C.1.2.1 d_Sd_allow_201 (by decide) ?_
                  refine lv_icmp_lt (tgt := 238) C.1.1 C.1.2.1 d_Sd_allow_202 (by decide) (fun cc => ?_) (fun cc => ?_)
                  · replace h := it_t cc h
                    exact hJ238 _ h _ _ _ hW (lv_sub hl [1, 2, 3, 4] rfl)
                  · replace h := it_f cc h
                    refine lv_iload C.1.1 C.1.2.1 d_Sd_allow_205 (lv_at hl 5 rfl) ?_
                    refine lv_bipush (v := 20) C.1.1 C.1.2.1 d_Sd_allow_207 (by decide) ?_
                    refine lv_icmp_gt (tgt := 238) C.1.1 C.1.2.1 d_Sd_allow_209 (by decide) (fun cc => ?_) (fun cc => ?_)
                    · replace h := it_t cc h
                      exact hJ238 _ h _ _ _ hW (lv_sub hl [1, 2, 3, 4] rfl)
                    · replace h := it_f cc h
                      refine lv_aload_n C.1.1 C.1.2.1 d_Sd_allow_212 rfl (lv_at hl 1 rfl) ?_
                      refine x_get C hE hW fl_Sd_9 4 rfl rfl d_Sd_allow_213 ?_
                      refine lv_iload C.1.1 C.1.2.1 d_Sd_allow_216 (lv_at hl 5 rfl) ?_
                      refine lv_dup2_11 C.1.1 C.1.2.1 d_Sd_allow_218 rfl rfl ?_
                      obtain ⟨hg, h⟩ := gd_at h
                      refine x_lald C hE hW 5 rfl (inB_in hg) d_Sd_allow_219 ?_
                      refine lv_aload_n C.1.1 C.1.2.1 d_Sd_allow_220 rfl (lv_at hl 1 rfl) ?_
                      refine x_get C hE hW fl_Sd_24 4 rfl rfl d_Sd_allow_221 ?_
                      refine lv_aload_n C.1.1 C.1.2.1 d_Sd_allow_224 rfl (lv_at hl 1 rfl) ?_
                      refine x_get C hE hW fl_Sd_24 4 rfl rfl d_Sd_allow_225 ?_
                      refine lv_iload_n C.1.1 C.1.2.1 d_Sd_allow_228 rfl (lv_at hl 4 rfl) ?_
                      refine lv_iconst (v := 1) C.1.1 C.1.2.1 d_Sd_allow_229 (by decide) ?_
                      obtain ⟨x22, hc23, h⟩ := bd_at h
                      refine x_callV (ws' := [(aN, .inr (0, [.int N_width, .int N_height, .long N_everywhere, .long N_firstColumn, .long N_lastColumn, .ref aN_grounds, .ref aN_airs, .ref aN_tolds, .ref aN_fees, .ref aN_lets, .int N_makers, .ref aN_kinds, .ref aN_cells, .ref aN_selves, .ref aN_cries, .int N_leaves, .ref aN_parts, .int N_pasts, .ref aN_past])), (aN_airs, .inl (gJ G, 6, .inr (.inl N_airs))), (aN_selves, .inl (gI G, 6, .inl N_selves)), (aN_parts, .inl (gI G, 40, .inl N_parts)), (aS, .inr (2, [.ref aN, .int S_maker, .int S_loud, .int S_hour, .int S_bought, .int S_gone, .ref aS_may, .ref aS_ways, .ref aS_echo, .ref aS_echoes, .long S_straight, .long S_all])), (aS_may, .inl (gJ G, 21, .inr (.inl x13)))]) (stk := [.int x22, .ref aN, .long (x13 x16.toNatClampNeg), .int x16, .ref aS_may]) (rest := [.ref aN, .long (x13 x16.toNatClampNeg), .int x16, .ref aS_may]) (As := [.int x12, .int 1]) (q0 := 0) C hE hW (c_Ld_part l G aN aN_grounds aN_airs aN_tolds aN_fees aN_lets aN_kinds aN_cells aN_selves aN_cries aN_parts aN_past N_width N_height N_everywhere N_firstColumn N_lastColumn N_makers N_leaves N_pasts N_parts x12 1 hc23) cv_Ld_part tw592 hl rfl rfl (Nat.le_of_ble_eq_true rfl) rfl rfl rfl ⟨Nat.le_of_ble_eq_true rfl, Nat.le_of_ble_eq_true rfl⟩ ⟨Nat.zero_le _, Nat.zero_le _⟩ [0, 3] [1, 2, 4, 5] [4, 0, 1, 5, 2, 3] rfl rfl rfl (by decide) rfl rfl rfl rfl d_Sd_allow_230 (fun H locs hW => ?_)
                      obtain ⟨x24, hc25, h⟩ := bd_at h
                      refine x_callV (ws' := [(aN, .inr (0, [.int N_width, .int N_height, .long N_everywhere, .long N_firstColumn, .long N_lastColumn, .ref aN_grounds, .ref aN_airs, .ref aN_tolds, .ref aN_fees, .ref aN_lets, .int N_makers, .ref aN_kinds, .ref aN_cells, .ref aN_selves, .ref aN_cries, .int N_leaves, .ref aN_parts, .int N_pasts, .ref aN_past])), (aN_airs, .inl (gJ G, 6, .inr (.inl N_airs))), (aN_selves, .inl (gI G, 6, .inl N_selves)), (aN_parts, .inl (gI G, 40, .inl N_parts)), (aS, .inr (2, [.ref aN, .int S_maker, .int S_loud, .int S_hour, .int S_bought, .int S_gone, .ref aS_may, .ref aS_ways, .ref aS_echo, .ref aS_echoes, .long S_straight, .long S_all])), (aS_may, .inl (gJ G, 21, .inr (.inl x13)))]) (stk := [.long x24, .long (x13 x16.toNatClampNeg), .int x16, .ref aS_may]) (rest := [.long (x13 x16.toNatClampNeg), .int x16, .ref aS_may]) (As := [.int x22]) (q0 := 0) C hE hW (c_Ld_airOf l G aN aN_grounds aN_airs aN_tolds aN_fees aN_lets aN_kinds aN_cells aN_selves aN_cries aN_parts aN_past N_width N_height N_everywhere N_firstColumn N_lastColumn N_makers N_leaves N_pasts N_airs x22 hc25) cv_Ld_airOf tw588 hl rfl rfl (Nat.le_of_ble_eq_true rfl) rfl rfl rfl ⟨Nat.le_of_ble_eq_true rfl, Nat.le_of_ble_eq_true rfl⟩ ⟨Nat.zero_le _, Nat.zero_le _⟩ [0, 1] [2, 3, 4, 5] [4, 5, 0, 1, 2, 3] rfl rfl rfl (by decide) rfl rfl rfl rfl d_Sd_allow_233 (fun H locs hW => ?_)
                      refine lv_lor C.1.1 C.1.2.1 d_Sd_allow_236 ?_
                      obtain ⟨hg, h⟩ := gd_at h
                      obtain ⟨x26, ex26⟩ : ∃ y : Nat → Int64, y = vp_updL x13 x16.toNatClampNeg ((x13 x16.toNatClampNeg) ||| x24) := ⟨_, rfl⟩
                      replace h := lt_at ex26 h
                      refine x_last (ws' := [(aN, .inr (0, [.int N_width, .int N_height, .long N_everywhere, .long N_firstColumn, .long N_lastColumn, .ref aN_grounds, .ref aN_airs, .ref aN_tolds, .ref aN_fees, .ref aN_lets, .int N_makers, .ref aN_kinds, .ref aN_cells, .ref aN_selves, .ref aN_cries, .int N_leaves, .ref aN_parts, .int N_pasts, .ref aN_past])), (aN_airs, .inl (gJ G, 6, .inr (.inl N_airs))), (aN_selves, .inl (gI G, 6, .inl N_selves)), (aN_parts, .inl (gI G, 40, .inl N_parts)), (aS, .inr (2, [.ref aN, .int S_maker, .int S_loud, .int S_hour, .int S_bought, .int S_gone, .ref aS_may, .ref aS_ways, .ref aS_echo, .ref aS_echoes, .long S_straight, .long S_all])), (aS_may, .inl (gJ G, 21, .inr (.inl x26)))]) C hE hW 5 rfl (inB_in hg) (by subst ex26; rfl) d_Sd_allow_237 (fun H locs hW => ?_)
                      exact hJ238 _ h _ _ _ hW (lv_sub hl [1, 2, 3, 4] rfl)
          · intro J187 hJ187 h
            refine jn_at (P := fun (_ : Unit) => ∀ (H : Heap) (locs : List Loc) (ls : Array Slot), Wd G A s.heap H locs [(aN, .inr (0, [.int N_width, .int N_height, .long N_everywhere, .long N_firstColumn, .long N_lastColumn, .ref aN_grounds, .ref aN_airs, .ref aN_tolds, .ref aN_fees, .ref aN_lets, .int N_makers, .ref aN_kinds, .ref aN_cells, .ref aN_selves, .ref aN_cries, .int N_leaves, .ref aN_parts, .int N_pasts, .ref aN_past])), (aN_airs, .inl (gJ G, 6, .inr (.inl N_airs))), (aN_selves, .inl (gI G, 6, .inl N_selves)), (aN_parts, .inl (gI G, 40, .inl N_parts)), (aS, .inr (2, [.ref aN, .int S_maker, .int S_loud, .int S_hour, .int S_bought, .int S_gone, .ref aS_may, .ref aS_ways, .ref aS_echo, .ref aS_echoes, .long S_straight, .long S_all])), (aS_may, .inl (gJ G, 21, .inr (.inl x13)))] → lv_has ls 8 [(0, .ref aS), (1, .int p1), (2, .int p2), (3, .int x12), (5, .int x16), (6, .int x18)] → W p l e (RM 2 45) s m args below meth c H locs 0 0 Q (F0 m 186 ls [])) h ?_ ?_
            · skip
              intro _ h
              intro H locs ls hW hl
              refine lv_iconst (v := 0) C.1.1 C.1.2.1 d_Sd_allow_186 (by decide) ?_
              exact hJ187 _ h _ _ _ hW (lv_sub hl [0, 1, 2, 3, 4, 5] rfl)
            · intro J186 hJ186 h
              refine lv_if_ne (tgt := 186) C.1.1 C.1.2.1 d_Sd_allow_164 (by decide) (fun cc => ?_) (fun cc => ?_)
              · replace h := it_f cc h
                exact hJ186 _ h _ _ _ hW (lv_sub hl [1, 2, 3, 4, 5, 0] rfl)
              · replace h := it_t cc h
                refine lv_aload_n C.1.1 C.1.2.1 d_Sd_allow_167 rfl (lv_at hl 1 rfl) ?_
                refine x_get C hE hW fl_Sd_24 4 rfl rfl d_Sd_allow_168 ?_
                refine lv_iload_n C.1.1 C.1.2.1 d_Sd_allow_171 rfl (lv_at hl 4 rfl) ?_
                refine lv_aload_n C.1.1 C.1.2.1 d_Sd_allow_172 rfl (lv_at hl 1 rfl) ?_
                refine x_get C hE hW fl_Sd_35 4 rfl rfl d_Sd_allow_173 ?_
                obtain ⟨x27, hc28, h⟩ := bd_at h
                refine x_callV (ws' := [(aN, .inr (0, [.int N_width, .int N_height, .long N_everywhere, .long N_firstColumn, .long N_lastColumn, .ref aN_grounds, .ref aN_airs, .ref aN_tolds, .ref aN_fees, .ref aN_lets, .int N_makers, .ref aN_kinds, .ref aN_cells, .ref aN_selves, .ref aN_cries, .int N_leaves, .ref aN_parts, .int N_pasts, .ref aN_past])), (aN_airs, .inl (gJ G, 6, .inr (.inl N_airs))), (aN_selves, .inl (gI G, 6, .inl N_selves)), (aN_parts, .inl (gI G, 40, .inl N_parts)), (aS, .inr (2, [.ref aN, .int S_maker, .int S_loud, .int S_hour, .int S_bought, .int S_gone, .ref aS_may, .ref aS_ways, .ref aS_echo, .ref aS_echoes, .long S_straight, .long S_all])), (aS_may, .inl (gJ G, 21, .inr (.inl x13)))]) (stk := [.int x27]) (rest := []) (As := [.int x12, .int S_hour]) (q0 := 0) C hE hW (c_Ld_isIn l G aN aN_grounds aN_airs aN_tolds aN_fees aN_lets aN_kinds aN_cells aN_selves aN_cries aN_parts aN_past N_width N_height N_everywhere N_firstColumn N_lastColumn N_makers N_leaves N_pasts N_parts x12 S_hour hc28) cv_Ld_isIn tw593 hl rfl rfl (Nat.le_of_ble_eq_true rfl) rfl rfl rfl ⟨Nat.le_of_ble_eq_true rfl, Nat.le_of_ble_eq_true rfl⟩ ⟨Nat.zero_le _, Nat.zero_le _⟩ [0, 3] [1, 2, 4, 5] [4, 0, 1, 5, 2, 3] rfl rfl rfl (by decide) rfl rfl rfl rfl d_Sd_allow_176 (fun H locs hW => ?_)
                refine lv_if_eq (tgt := 186) C.1.1 C.1.2.1 d_Sd_allow_179 (by decide) (fun cc => ?_) (fun cc => ?_)
                · replace h := it_t cc h
                  exact hJ186 _ h _ _ _ hW (lv_sub hl [1, 2, 3, 4, 5, 0] rfl)
                · replace h := it_f cc h
                  refine lv_iconst (v := 1) C.1.1 C.1.2.1 d_Sd_allow_182 (by decide) ?_
                  refine lv_goto (tgt := 187) C.1.1 C.1.2.1 d_Sd_allow_183 (by decide) ?_
                  exact hJ187 _ h _ _ _ hW (lv_sub hl [1, 2, 3, 4, 5, 0] rfl)
        · intro J154 hJ154 h
          refine lv_icmp_ne (tgt := 143) C.1.1 C.1.2.1 d_Sd_allow_119 (by decide) (fun cc => ?_) (fun cc => ?_)
          · replace h := it_f cc h
            refine lv_iload C.1.1 C.1.2.1 d_Sd_allow_143 (lv_at hl 1 rfl) ?_
            refine lv_iload_n C.1.1 C.1.2.1 d_Sd_allow_145 rfl (lv_at hl 4 rfl) ?_
            refine lv_icmp_ne (tgt := 153) C.1.1 C.1.2.1 d_Sd_allow_146 (by decide) (fun cc => ?_) (fun cc => ?_)
            · replace h := it_f cc h
              refine lv_iconst (v := 0) C.1.1 C.1.2.1 d_Sd_allow_153 (by decide) ?_
              exact hJ154 _ h _ _ _ hW (lv_sub hl [2, 3, 4, 5, 0] rfl)
            · replace h := it_t cc h
              refine lv_iconst (v := 1) C.1.1 C.1.2.1 d_Sd_allow_149 (by decide) ?_
              refine lv_goto (tgt := 154) C.1.1 C.1.2.1 d_Sd_allow_150 (by decide) ?_
              exact hJ154 _ h _ _ _ hW (lv_sub hl [2, 3, 4, 5, 0] rfl)
          · replace h := it_t cc h
            refine lv_aload_n C.1.1 C.1.2.1 d_Sd_allow_122 rfl (lv_at hl 2 rfl) ?_
            refine x_get C hE hW fl_Sd_24 4 rfl rfl d_Sd_allow_123 ?_
            refine lv_iload C.1.1 C.1.2.1 d_Sd_allow_126 (lv_at hl 1 rfl) ?_
            obtain ⟨x29, hc30, h⟩ := bd_at h
            refine x_callV (ws' := [(aN, .inr (0, [.int N_width, .int N_height, .long N_everywhere, .long N_firstColumn, .long N_lastColumn, .ref aN_grounds, .ref aN_airs, .ref aN_tolds, .ref aN_fees, .ref aN_lets, .int N_makers, .ref aN_kinds, .ref aN_cells, .ref aN_selves, .ref aN_cries, .int N_leaves, .ref aN_parts, .int N_pasts, .ref aN_past])), (aN_airs, .inl (gJ G, 6, .inr (.inl N_airs))), (aN_selves, .inl (gI G, 6, .inl N_selves)), (aN_parts, .inl (gI G, 40, .inl N_parts)), (aS, .inr (2, [.ref aN, .int S_maker, .int S_loud, .int S_hour, .int S_bought, .int S_gone, .ref aS_may, .ref aS_ways, .ref aS_echo, .ref aS_echoes, .long S_straight, .long S_all])), (aS_may, .inl (gJ G, 21, .inr (.inl x13)))]) (stk := [.int x29]) (rest := []) (As := [.int x14]) (q0 := 0) C hE hW (c_Ld_selfOf l G aN aN_grounds aN_airs aN_tolds aN_fees aN_lets aN_kinds aN_cells aN_selves aN_cries aN_parts aN_past N_width N_height N_everywhere N_firstColumn N_lastColumn N_makers N_leaves N_pasts N_selves x14 hc30) cv_Ld_selfOf tw577 hl rfl rfl (Nat.le_of_ble_eq_true rfl) rfl rfl rfl ⟨Nat.le_of_ble_eq_true rfl, Nat.le_of_ble_eq_true rfl⟩ ⟨Nat.zero_le _, Nat.zero_le _⟩ [0, 2] [1, 3, 4, 5] [4, 0, 5, 1, 2, 3] rfl rfl rfl (by decide) rfl rfl rfl rfl d_Sd_allow_128 (fun H locs hW => ?_)
            refine lv_iload_n C.1.1 C.1.2.1 d_Sd_allow_131 rfl (lv_at hl 3 rfl) ?_
            refine lv_icmp_ne (tgt := 139) C.1.1 C.1.2.1 d_Sd_allow_132 (by decide) (fun cc => ?_) (fun cc => ?_)
            · replace h := it_f cc h
              refine lv_iconst (v := 0) C.1.1 C.1.2.1 d_Sd_allow_139 (by decide) ?_
              refine lv_goto (tgt := 154) C.1.1 C.1.2.1 d_Sd_allow_140 (by decide) ?_
              exact hJ154 _ h _ _ _ hW (lv_sub hl [2, 3, 4, 5, 0] rfl)
            · replace h := it_t cc h
              refine lv_iconst (v := 1) C.1.1 C.1.2.1 d_Sd_allow_135 (by decide) ?_
              refine lv_goto (tgt := 154) C.1.1 C.1.2.1 d_Sd_allow_136 (by decide) ?_
              exact hJ154 _ h _ _ _ hW (lv_sub hl [2, 3, 4, 5, 0] rfl)
  · intro J82 hJ82 h
    refine lp_at (P := fun ((x31, x32) : Int32 × (Nat → Int64)) => ∀ (H : Heap) (locs : List Loc) (ls : Array Slot), Wd G A s.heap H locs [(aN, .inr (0, [.int N_width, .int N_height, .long N_everywhere, .long N_firstColumn, .long N_lastColumn, .ref aN_grounds, .ref aN_airs, .ref aN_tolds, .ref aN_fees, .ref aN_lets, .int N_makers, .ref aN_kinds, .ref aN_cells, .ref aN_selves, .ref aN_cries, .int N_leaves, .ref aN_parts, .int N_pasts, .ref aN_past])), (aN_airs, .inl (gJ G, 6, .inr (.inl N_airs))), (aN_selves, .inl (gI G, 6, .inl N_selves)), (aN_parts, .inl (gI G, 40, .inl N_parts)), (aS, .inr (2, [.ref aN, .int S_maker, .int S_loud, .int S_hour, .int S_bought, .int S_gone, .ref aS_may, .ref aS_ways, .ref aS_echo, .ref aS_echoes, .long S_straight, .long S_all])), (aS_may, .inl (gJ G, 21, .inr (.inl x32)))] → lv_has ls 8 [(0, .ref aS), (1, .int p1), (2, .int p2), (3, .int x31)] → W p l e (RM 2 45) s m args below meth c H locs 0 0 Q (F0 m 25 ls [])) ?_ FU _ h _ _ _ hW (lv_sub hl [1, 2, 3, 0] rfl)
    clear h hl hW
    intro rec25 ih25
    intro x h
    obtain ⟨x31, x32⟩ := x
    unfold f_Sd_allow_L25 at h
    intro H locs ls hW hl
    refine lv_iload_n C.1.1 C.1.2.1 d_Sd_allow_25 rfl (lv_at hl 3 rfl) ?_
    refine lv_bipush (v := 6) C.1.1 C.1.2.1 d_Sd_allow_26 (by decide) ?_
    refine lv_icmp_ge (tgt := 82) C.1.1 C.1.2.1 d_Sd_allow_28 (by decide) (fun cc => ?_) (fun cc => ?_)
    · replace h := it_t cc h
      exact hJ82 _ h _ _ _ hW (lv_sub hl [0, 1, 2] rfl)
    · replace h := it_f cc h
      refine lv_aload_n C.1.1 C.1.2.1 d_Sd_allow_31 rfl (lv_at hl 0 rfl) ?_
      refine x_get C hE hW fl_Sd_38 4 rfl rfl d_Sd_allow_32 ?_
      refine lv_iload_n C.1.1 C.1.2.1 d_Sd_allow_35 rfl (lv_at hl 3 rfl) ?_
      refine lv_ishr C.1.1 C.1.2.1 d_Sd_allow_36 ?_
      refine lv_iconst (v := 1) C.1.1 C.1.2.1 d_Sd_allow_37 (by decide) ?_
      refine lv_iand C.1.1 C.1.2.1 d_Sd_allow_38 ?_
      refine jn_at (P := fun (x33 : Nat → Int64) => ∀ (H : Heap) (locs : List Loc) (ls : Array Slot), Wd G A s.heap H locs [(aN, .inr (0, [.int N_width, .int N_height, .long N_everywhere, .long N_firstColumn, .long N_lastColumn, .ref aN_grounds, .ref aN_airs, .ref aN_tolds, .ref aN_fees, .ref aN_lets, .int N_makers, .ref aN_kinds, .ref aN_cells, .ref aN_selves, .ref aN_cries, .int N_leaves, .ref aN_parts, .int N_pasts, .ref aN_past])), (aN_airs, .inl (gJ G, 6, .inr (.inl N_airs))), (aN_selves, .inl (gI G, 6, .inl N_selves)), (aN_parts, .inl (gI G, 40, .inl N_parts)), (aS, .inr (2, [.ref aN, .int S_maker, .int S_loud, .int S_hour, .int S_bought, .int S_gone, .ref aS_may, .ref aS_ways, .ref aS_echo, .ref aS_echoes, .long S_straight, .long S_all])), (aS_may, .inl (gJ G, 21, .inr (.inl x33)))] → lv_has ls 8 [(0, .ref aS), (1, .int p1), (2, .int p2), (3, .int x31)] → W p l e (RM 2 45) s m args below meth c H locs 0 0 Q (F0 m 76 ls [])) h ?_ ?_
      · skip
        intro x33 h
        intro H locs ls hW hl
        obtain ⟨x34, ex34⟩ : ∃ y : Int32, y = x31 + 1 := ⟨_, rfl⟩
        replace h := lt_at ex34 h
        refine lv_iinc (v := x34) (lv' := [(3, .int x34), (0, .ref aS), (1, .int p1), (2, .int p2)]) C.1.1 C.1.2.1 d_Sd_allow_76 hl (k := 3) rfl (by rw [ex34]; rfl) (by decide) rfl (fun ls hl => ?_)
        refine lv_goto (tgt := 25) C.1.1 C.1.2.1 d_Sd_allow_79 (by decide) ?_
        exact ih25 _ h _ _ _ hW (lv_sub hl [1, 2, 3, 0] rfl)
      · intro J76 hJ76 h
        refine lv_if_eq (tgt := 76) C.1.1 C.1.2.1 d_Sd_allow_39 (by decide) (fun cc => ?_) (fun cc => ?_)
        · replace h := it_t cc h
          exact hJ76 _ h _ _ _ hW (lv_sub hl [0, 1, 2, 3] rfl)
        · replace h := it_f cc h
          refine lv_iload_n C.1.1 C.1.2.1 d_Sd_allow_42 rfl (lv_at hl 1 rfl) ?_
          refine lv_aload_n C.1.1 C.1.2.1 d_Sd_allow_43 rfl (lv_at hl 0 rfl) ?_
          refine x_get C hE hW fl_Sd_24 4 rfl rfl d_Sd_allow_44 ?_
          refine lv_aload_n C.1.1 C.1.2.1 d_Sd_allow_47 rfl (lv_at hl 0 rfl) ?_
          refine x_get C hE hW fl_Sd_28 4 rfl rfl d_Sd_allow_48 ?_
          obtain ⟨x35, hc36, h⟩ := bd_at h
          refine x_callV (ws' := [(aN, .inr (0, [.int N_width, .int N_height, .long N_everywhere, .long N_firstColumn, .long N_lastColumn, .ref aN_grounds, .ref aN_airs, .ref aN_tolds, .ref aN_fees, .ref aN_lets, .int N_makers, .ref aN_kinds, .ref aN_cells, .ref aN_selves, .ref aN_cries, .int N_leaves, .ref aN_parts, .int N_pasts, .ref aN_past])), (aN_airs, .inl (gJ G, 6, .inr (.inl N_airs))), (aN_selves, .inl (gI G, 6, .inl N_selves)), (aN_parts, .inl (gI G, 40, .inl N_parts)), (aS, .inr (2, [.ref aN, .int S_maker, .int S_loud, .int S_hour, .int S_bought, .int S_gone, .ref aS_may, .ref aS_ways, .ref aS_echo, .ref aS_echoes, .long S_straight, .long S_all])), (aS_may, .inl (gJ G, 21, .inr (.inl x32)))]) (stk := [.int x35, .int p1]) (rest := [.int p1]) (As := [.int S_maker]) (q0 := 0) C hE hW (c_Ld_selfOf l G aN aN_grounds aN_airs aN_tolds aN_fees aN_lets aN_kinds aN_cells aN_selves aN_cries aN_parts aN_past N_width N_height N_everywhere N_firstColumn N_lastColumn N_makers N_leaves N_pasts N_selves S_maker hc36) cv_Ld_selfOf tw577 hl rfl rfl (Nat.le_of_ble_eq_true rfl) rfl rfl rfl ⟨Nat.le_of_ble_eq_true rfl, Nat.le_of_ble_eq_true rfl⟩ ⟨Nat.zero_le _, Nat.zero_le _⟩ [0, 2] [1, 3, 4, 5] [4, 0, 5, 1, 2, 3] rfl rfl rfl (by decide) rfl rfl rfl rfl d_Sd_allow_51 (fun H locs hW => ?_)
          refine lv_icmp_ne (tgt := 76) C.1.1 C.1.2.1 d_Sd_allow_54 (by decide) (fun cc => ?_) (fun cc => ?_)
          · replace h := it_f cc h
            exact hJ76 _ h _ _ _ hW (lv_sub hl [0, 1, 2, 3] rfl)
          · replace h := it_t cc h
            refine lv_aload_n C.1.1 C.1.2.1 d_Sd_allow_57 rfl (lv_at hl 0 rfl) ?_
            refine x_get C hE hW fl_Sd_9 4 rfl rfl d_Sd_allow_58 ?_
            refine lv_bipush (v := 20) C.1.1 C.1.2.1 d_Sd_allow_61 (by decide) ?_
            refine lv_dup2_11 C.1.1 C.1.2.1 d_Sd_allow_63 rfl rfl ?_
            refine x_lald C hE hW 5 rfl (inB_in (by decide)) d_Sd_allow_64 ?_
            refine lv_aload_n C.1.1 C.1.2.1 d_Sd_allow_65 rfl (lv_at hl 0 rfl) ?_
            refine x_get C hE hW fl_Sd_24 4 rfl rfl d_Sd_allow_66 ?_
            refine x_get C hE hW fl_Sd_87 0 rfl rfl d_Sd_allow_69 ?_
            refine lv_iload_n C.1.1 C.1.2.1 d_Sd_allow_72 rfl (lv_at hl 3 rfl) ?_
            obtain ⟨hg, h⟩ := gd_at h
            refine x_lald C hE hW 1 rfl (inB_in hg) d_Sd_allow_73 ?_
            refine lv_lor C.1.1 C.1.2.1 d_Sd_allow_74 ?_
            obtain ⟨x37, ex37⟩ : ∃ y : Nat → Int64, y = vp_updL x32 (20 : Int32).toNatClampNeg ((x32 (20 : Int32).toNatClampNeg) ||| (N_airs x31.toNatClampNeg)) := ⟨_, rfl⟩
            replace h := lt_at ex37 h
            refine x_last (ws' := [(aN, .inr (0, [.int N_width, .int N_height, .long N_everywhere, .long N_firstColumn, .long N_lastColumn, .ref aN_grounds, .ref aN_airs, .ref aN_tolds, .ref aN_fees, .ref aN_lets, .int N_makers, .ref aN_kinds, .ref aN_cells, .ref aN_selves, .ref aN_cries, .int N_leaves, .ref aN_parts, .int N_pasts, .ref aN_past])), (aN_airs, .inl (gJ G, 6, .inr (.inl N_airs))), (aN_selves, .inl (gI G, 6, .inl N_selves)), (aN_parts, .inl (gI G, 40, .inl N_parts)), (aS, .inr (2, [.ref aN, .int S_maker, .int S_loud, .int S_hour, .int S_bought, .int S_gone, .ref aS_may, .ref aS_ways, .ref aS_echo, .ref aS_echoes, .long S_straight, .long S_all])), (aS_may, .inl (gJ G, 21, .inr (.inl x37)))]) C hE hW 5 rfl (inB_in (by decide)) (by subst ex37; rfl) d_Sd_allow_75 (fun H locs hW => ?_)
            exact hJ76 _ h _ _ _ hW (lv_sub hl [0, 1, 2, 3] rfl)
set_option maxHeartbeats 4000000 in
set_option maxRecDepth 100000 in
theorem c_Sd_place (l : Launch) (G : Gl) (aN : Nat) (aN_grounds : Nat) (aN_airs : Nat) (aN_tolds : Nat) (aN_fees : Nat) (aN_lets : Nat) (aN_kinds : Nat) (aN_cells : Nat) (aN_selves : Nat) (aN_cries : Nat) (aN_parts : Nat) (aN_past : Nat) (aS : Nat) (aS_may : Nat) (aS_ways : Nat) (aS_echo : Nat) (aS_echoes : Nat) (N_width : Int32) (N_height : Int32) (N_everywhere : Int64) (N_firstColumn : Int64) (N_lastColumn : Int64) (N_makers : Int32) (N_leaves : Int32) (N_pasts : Int32) (S_maker : Int32) (S_loud : Int32) (S_hour : Int32) (S_bought : Int32) (S_gone : Int32) (S_straight : Int64) (S_all : Int64) (N_cells : Nat → Int32) {res : Int64} (h : f_Sd_place N_makers S_maker N_cells = some res) : Ct l y_Sd_place b_Sd_place 1 (some .long) 0 0 G [.ref aS] [(aN, .inr (0, [.int N_width, .int N_height, .long N_everywhere, .long N_firstColumn, .long N_lastColumn, .ref aN_grounds, .ref aN_airs, .ref aN_tolds, .ref aN_fees, .ref aN_lets, .int N_makers, .ref aN_kinds, .ref aN_cells, .ref aN_selves, .ref aN_cries, .int N_leaves, .ref aN_parts, .int N_pasts, .ref aN_past])), (aN_cells, .inl (gI G, 6, .inl N_cells)), (aS, .inr (2, [.ref aN, .int S_maker, .int S_loud, .int S_hour, .int S_bought, .int S_gone, .ref aS_may, .ref aS_ways, .ref aS_echo, .ref aS_echoes, .long S_straight, .long S_all]))] (some (.long res)) [(aN, .inr (0, [.int N_width, .int N_height, .long N_everywhere, .long N_firstColumn, .long N_lastColumn, .ref aN_grounds, .ref aN_airs, .ref aN_tolds, .ref aN_fees, .ref aN_lets, .int N_makers, .ref aN_kinds, .ref aN_cells, .ref aN_selves, .ref aN_cries, .int N_leaves, .ref aN_parts, .int N_pasts, .ref aN_past])), (aN_cells, .inl (gI G, 6, .inl N_cells)), (aS, .inr (2, [.ref aN, .int S_maker, .int S_loud, .int S_hour, .int S_bought, .int S_gone, .ref aS_may, .ref aS_ways, .ref aS_echo, .ref aS_echoes, .long S_straight, .long S_all]))] := by
  refine Ct.mk (by decide) (Nat.le_of_ble_eq_true rfl) ?_
  intro p e s m args below meth c ls A Q C hE hW hl hQ
  have C : Cx p s args m c meth "LentAir$Sound" y_Sd_place b_Sd_place 1 (some .long) := C
  have hl : lv_has ls 1 [(0, .ref aS)] := hl
  unfold f_Sd_place at h
  refine lv_aload_n C.1.1 C.1.2.1 d_Sd_place_0 rfl (lv_at hl 0 rfl) ?_
  refine x_get C hE hW fl_Sd_28 2 rfl rfl d_Sd_place_1 ?_
  refine lv_if_lt (tgt := 38) C.1.1 C.1.2.1 d_Sd_place_4 (by decide) (fun cc => ?_) (fun cc => ?_)
  · replace h := it_t cc h
    refine lv_lconst (v := 0) C.1.1 C.1.2.1 d_Sd_place_38 (by decide) ?_
    obtain rfl := Option.some.inj h
    exact x_lret C hW rfl rfl hQ d_Sd_place_39
  · replace h := it_f cc h
    refine lv_aload_n C.1.1 C.1.2.1 d_Sd_place_7 rfl (lv_at hl 0 rfl) ?_
    refine x_get C hE hW fl_Sd_28 2 rfl rfl d_Sd_place_8 ?_
    refine lv_aload_n C.1.1 C.1.2.1 d_Sd_place_11 rfl (lv_at hl 0 rfl) ?_
    refine x_get C hE hW fl_Sd_24 2 rfl rfl d_Sd_place_12 ?_
    refine x_get C hE hW fl_Sd_100 0 rfl rfl d_Sd_place_15 ?_
    refine lv_icmp_ge (tgt := 38) C.1.1 C.1.2.1 d_Sd_place_18 (by decide) (fun cc => ?_) (fun cc => ?_)
    · replace h := it_t cc h
      refine lv_lconst (v := 0) C.1.1 C.1.2.1 d_Sd_place_38 (by decide) ?_
      obtain rfl := Option.some.inj h
      exact x_lret C hW rfl rfl hQ d_Sd_place_39
    · replace h := it_f cc h
      refine lv_lconst (v := 1) C.1.1 C.1.2.1 d_Sd_place_21 (by decide) ?_
      refine lv_aload_n C.1.1 C.1.2.1 d_Sd_place_22 rfl (lv_at hl 0 rfl) ?_
      refine x_get C hE hW fl_Sd_24 2 rfl rfl d_Sd_place_23 ?_
      refine x_get C hE hW fl_Sd_107 0 rfl rfl d_Sd_place_26 ?_
      refine lv_aload_n C.1.1 C.1.2.1 d_Sd_place_29 rfl (lv_at hl 0 rfl) ?_
      refine x_get C hE hW fl_Sd_28 2 rfl rfl d_Sd_place_30 ?_
      obtain ⟨hg, h⟩ := gd_at h
      refine x_iald C hE hW 1 rfl (inB_in hg) d_Sd_place_33 ?_
      refine lv_lshl C.1.1 C.1.2.1 d_Sd_place_34 rfl ?_
      refine lv_goto (tgt := 39) C.1.1 C.1.2.1 d_Sd_place_35 (by decide) ?_
      obtain rfl := Option.some.inj h
      exact x_lret C hW rfl rfl hQ d_Sd_place_39
set_option maxHeartbeats 4000000 in
set_option maxRecDepth 100000 in
theorem c_Sd_lessByStep (l : Launch) (G : Gl) (p1 : Int32) {res : Int32} (h : f_Sd_lessByStep p1 = some res) : Ct l y_Sd_lessByStep b_Sd_lessByStep 1 (some .int) 0 0 G [.int p1] [] (some (.int res)) [] := by
  refine Ct.mk (by decide) (Nat.le_of_ble_eq_true rfl) ?_
  intro p e s m args below meth c ls A Q C hE hW hl hQ
  have C : Cx p s args m c meth "LentAir$Sound" y_Sd_lessByStep b_Sd_lessByStep 1 (some .int) := C
  have hl : lv_has ls 1 [(0, .int p1)] := hl
  unfold f_Sd_lessByStep at h
  refine lv_iload_n C.1.1 C.1.2.1 d_Sd_lessByStep_0 rfl (lv_at hl 0 rfl) ?_
  refine lv_iconst (v := 2) C.1.1 C.1.2.1 d_Sd_lessByStep_1 (by decide) ?_
  refine jn_at (P := fun (_ : Unit) => ∀ (H : Heap) (locs : List Loc) (ls : Array Slot), Wd G A s.heap H locs [] → lv_has ls 1 [] → W p l e (RM 0 0) s m args below meth c H locs 0 0 Q (F0 m 10 ls [])) h ?_ ?_
  · skip
    intro _ h
    intro H locs ls hW hl
    refine lv_iconst (v := 2) C.1.1 C.1.2.1 d_Sd_lessByStep_10 (by decide) ?_
    refine lv_goto (tgt := 15) C.1.1 C.1.2.1 d_Sd_lessByStep_11 (by decide) ?_
    obtain rfl := Option.some.inj h
    exact x_iret C hW rfl rfl hQ d_Sd_lessByStep_15
  · intro J10 hJ10 h
    refine lv_icmp_eq (tgt := 10) C.1.1 C.1.2.1 d_Sd_lessByStep_2 (by decide) (fun cc => ?_) (fun cc => ?_)
    · replace h := it_t cc h
      exact hJ10 _ h _ _ _ hW (lv_sub hl [] rfl)
    · replace h := it_f cc h
      refine lv_iload_n C.1.1 C.1.2.1 d_Sd_lessByStep_5 rfl (lv_at hl 0 rfl) ?_
      refine lv_iconst (v := 3) C.1.1 C.1.2.1 d_Sd_lessByStep_6 (by decide) ?_
      refine lv_icmp_ne (tgt := 14) C.1.1 C.1.2.1 d_Sd_lessByStep_7 (by decide) (fun cc => ?_) (fun cc => ?_)
      · replace h := it_f cc h
        refine lv_iconst (v := 1) C.1.1 C.1.2.1 d_Sd_lessByStep_14 (by decide) ?_
        obtain rfl := Option.some.inj h
        exact x_iret C hW rfl rfl hQ d_Sd_lessByStep_15
      · replace h := it_t cc h
        exact hJ10 _ h _ _ _ hW (lv_sub hl [] rfl)
set_option maxHeartbeats 4000000 in
set_option maxRecDepth 100000 in
theorem c_Sd_lessFromHedge (l : Launch) (G : Gl) (p1 : Int32) {res : Int32} (h : f_Sd_lessFromHedge p1 = some res) : Ct l y_Sd_lessFromHedge b_Sd_lessFromHedge 1 (some .int) 0 0 G [.int p1] [] (some (.int res)) [] := by
  refine Ct.mk (by decide) (Nat.le_of_ble_eq_true rfl) ?_
  intro p e s m args below meth c ls A Q C hE hW hl hQ
  have C : Cx p s args m c meth "LentAir$Sound" y_Sd_lessFromHedge b_Sd_lessFromHedge 1 (some .int) := C
  have hl : lv_has ls 1 [(0, .int p1)] := hl
  unfold f_Sd_lessFromHedge at h
  refine lv_iload_n C.1.1 C.1.2.1 d_Sd_lessFromHedge_0 rfl (lv_at hl 0 rfl) ?_
  rcases Decidable.em (p1 = 1) with c1 | c1
  · replace h := it_t c1 h
    refine lv_tableIn (tgt := 36) C.1.1 C.1.2.1 d_Sd_lessFromHedge_1 (by rw [c1]; decide) (by rw [c1]; decide) (by rw [c1]; rfl) (by decide) ?_
    refine lv_iconst (v := 2) C.1.1 C.1.2.1 d_Sd_lessFromHedge_36 (by decide) ?_
    obtain rfl := Option.some.inj h
    exact x_iret C hW rfl rfl hQ d_Sd_lessFromHedge_37
  · replace h := it_f c1 h
    rcases Decidable.em (p1 = 4) with c4 | c4
    · replace h := it_t c4 h
      refine lv_tableIn (tgt := 36) C.1.1 C.1.2.1 d_Sd_lessFromHedge_1 (by rw [c4]; decide) (by rw [c4]; decide) (by rw [c4]; rfl) (by decide) ?_
      refine lv_iconst (v := 2) C.1.1 C.1.2.1 d_Sd_lessFromHedge_36 (by decide) ?_
      obtain rfl := Option.some.inj h
      exact x_iret C hW rfl rfl hQ d_Sd_lessFromHedge_37
    · replace h := it_f c4 h
      rcases Decidable.em (p1 = 5) with c5 | c5
      · replace h := it_t c5 h
        refine lv_tableIn (tgt := 38) C.1.1 C.1.2.1 d_Sd_lessFromHedge_1 (by rw [c5]; decide) (by rw [c5]; decide) (by rw [c5]; rfl) (by decide) ?_
        refine lv_iconst (v := 1) C.1.1 C.1.2.1 d_Sd_lessFromHedge_38 (by decide) ?_
        obtain rfl := Option.some.inj h
        exact x_iret C hW rfl rfl hQ d_Sd_lessFromHedge_39
      · replace h := it_f c5 h
        rcases Decidable.em (p1 = 2) with c2 | c2
        · refine lv_tableIn (tgt := 40) C.1.1 C.1.2.1 d_Sd_lessFromHedge_1 (by rw [c2]; decide) (by rw [c2]; decide) (by rw [c2]; rfl) (by decide) ?_
          refine lv_iconst (v := 0) C.1.1 C.1.2.1 d_Sd_lessFromHedge_40 (by decide) ?_
          obtain rfl := Option.some.inj h
          exact x_iret C hW rfl rfl hQ d_Sd_lessFromHedge_41
        · skip
          rcases Decidable.em (p1 = 3) with c3 | c3
          · refine lv_tableIn (tgt := 40) C.1.1 C.1.2.1 d_Sd_lessFromHedge_1 (by rw [c3]; decide) (by rw [c3]; decide) (by rw [c3]; rfl) (by decide) ?_
            refine lv_iconst (v := 0) C.1.1 C.1.2.1 d_Sd_lessFromHedge_40 (by decide) ?_
            obtain rfl := Option.some.inj h
            exact x_iret C hW rfl rfl hQ d_Sd_lessFromHedge_41
          · skip
            have htb : p1.toInt < 1 ∨ 5 < p1.toInt := by
              refine tsw_out (fun z h1 h2 e => ?_)
              have hz : z = 1 ∨ z = 2 ∨ z = 3 ∨ z = 4 ∨ z = 5 := by omega
              rcases hz with rfl | rfl | rfl | rfl | rfl
              · exact c1 (tsw e)
              · exact c2 (tsw e)
              · exact c3 (tsw e)
              · exact c4 (tsw e)
              · exact c5 (tsw e)
            refine lv_tableOut (tgt := 40) C.1.1 C.1.2.1 d_Sd_lessFromHedge_1 htb (by decide) ?_
            refine lv_iconst (v := 0) C.1.1 C.1.2.1 d_Sd_lessFromHedge_40 (by decide) ?_
            obtain rfl := Option.some.inj h
            exact x_iret C hW rfl rfl hQ d_Sd_lessFromHedge_41
set_option maxHeartbeats 4000000 in
set_option maxRecDepth 100000 in
theorem c_Sd_step (l : Launch) (G : Gl) (aN : Nat) (aN_grounds : Nat) (aN_airs : Nat) (aN_tolds : Nat) (aN_fees : Nat) (aN_lets : Nat) (aN_kinds : Nat) (aN_cells : Nat) (aN_selves : Nat) (aN_cries : Nat) (aN_parts : Nat) (aN_past : Nat) (aS : Nat) (aS_may : Nat) (aS_ways : Nat) (aS_echo : Nat) (aS_echoes : Nat) (aP : Nat) (N_width : Int32) (N_height : Int32) (N_everywhere : Int64) (N_firstColumn : Int64) (N_lastColumn : Int64) (N_makers : Int32) (N_leaves : Int32) (N_pasts : Int32) (S_maker : Int32) (S_loud : Int32) (S_hour : Int32) (S_bought : Int32) (S_gone : Int32) (S_straight : Int64) (S_all : Int64) (nP : Nat) (S_may : Nat → Int64) (P_c : Nat → Int64) (p2 : Int64) (p3 : Int32) (p4 : Int32) {res : (Nat → Int64)} (h : f_Sd_step N_width N_everywhere N_firstColumn N_lastColumn nP S_may P_c p2 p3 p4 = some res) : Ct l y_Sd_step b_Sd_step 7 none 1 24 G [.ref aS, .ref aP, .long p2, .int p3, .int p4] [(aN, .inr (0, [.int N_width, .int N_height, .long N_everywhere, .long N_firstColumn, .long N_lastColumn, .ref aN_grounds, .ref aN_airs, .ref aN_tolds, .ref aN_fees, .ref aN_lets, .int N_makers, .ref aN_kinds, .ref aN_cells, .ref aN_selves, .ref aN_cries, .int N_leaves, .ref aN_parts, .int N_pasts, .ref aN_past])), (aS, .inr (2, [.ref aN, .int S_maker, .int S_loud, .int S_hour, .int S_bought, .int S_gone, .ref aS_may, .ref aS_ways, .ref aS_echo, .ref aS_echoes, .long S_straight, .long S_all])), (aS_may, .inl (gJ G, 21, .inr (.inl S_may))), (aP, .inl (gJ G, nP, .inr (.inl P_c)))] none [(aN, .inr (0, [.int N_width, .int N_height, .long N_everywhere, .long N_firstColumn, .long N_lastColumn, .ref aN_grounds, .ref aN_airs, .ref aN_tolds, .ref aN_fees, .ref aN_lets, .int N_makers, .ref aN_kinds, .ref aN_cells, .ref aN_selves, .ref aN_cries, .int N_leaves, .ref aN_parts, .int N_pasts, .ref aN_past])), (aS, .inr (2, [.ref aN, .int S_maker, .int S_loud, .int S_hour, .int S_bought, .int S_gone, .ref aS_may, .ref aS_ways, .ref aS_echo, .ref aS_echoes, .long S_straight, .long S_all])), (aS_may, .inl (gJ G, 21, .inr (.inl S_may))), (aP, .inl (gJ G, nP, .inr (.inl res)))] := by
  refine Ct.mk (by decide) (Nat.le_of_ble_eq_true rfl) ?_
  intro p e s m args below meth c ls A Q C hE hW hl hQ
  have C : Cx p s args m c meth "LentAir$Sound" y_Sd_step b_Sd_step 7 none := C
  have hl : lv_has ls 7 [(0, .ref aS), (1, .ref aP), (2, .long p2), (4, .int p3), (5, .int p4)] := hl
  unfold f_Sd_step at h
  refine lv_iload C.1.1 C.1.2.1 d_Sd_step_0 (lv_at hl 3 rfl) ?_
  refine lv_iload C.1.1 C.1.2.1 d_Sd_step_2 (lv_at hl 4 rfl) ?_
  refine lv_isub C.1.1 C.1.2.1 d_Sd_step_4 ?_
  refine lv_topi (fun x1 ex1 => ?_)
  replace h := lt_at ex1 h
  refine lv_istore (lv' := [(6, .int x1), (0, .ref aS), (1, .ref aP), (2, .long p2), (4, .int p3), (5, .int p4)]) C.1.1 C.1.2.1 d_Sd_step_5 hl (by decide) rfl (fun ls hl => ?_)
  refine lv_lload_n C.1.1 C.1.2.1 d_Sd_step_7 rfl (lv_at hl 3 rfl) ?_
  refine lv_lconst (v := 0) C.1.1 C.1.2.1 d_Sd_step_8 (by decide) ?_
  refine W.lcmp C.1.1 C.1.2.1 d_Sd_step_9 ?_
  refine lv_if_eq (tgt := 63) C.1.1 C.1.2.1 d_Sd_step_10 (by decide) (fun cc => ?_) (fun cc => ?_)
  · replace h := it_t cc h
    obtain rfl := Option.some.inj h
    exact x_vret C hW rfl rfl hQ d_Sd_step_63
  · replace h := it_f cc h
    refine lv_iload C.1.1 C.1.2.1 d_Sd_step_13 (lv_at hl 5 rfl) ?_
    refine lv_if_le (tgt := 63) C.1.1 C.1.2.1 d_Sd_step_15 (by decide) (fun cc => ?_) (fun cc => ?_)
    · replace h := it_t cc h
      obtain rfl := Option.some.inj h
      exact x_vret C hW rfl rfl hQ d_Sd_step_63
    · replace h := it_f cc h
      refine lv_iload C.1.1 C.1.2.1 d_Sd_step_18 (lv_at hl 0 rfl) ?_
      refine lv_if_le (tgt := 63) C.1.1 C.1.2.1 d_Sd_step_20 (by decide) (fun cc => ?_) (fun cc => ?_)
      · replace h := it_t cc h
        obtain rfl := Option.some.inj h
        exact x_vret C hW rfl rfl hQ d_Sd_step_63
      · replace h := it_f cc h
        refine lv_iload C.1.1 C.1.2.1 d_Sd_step_23 (lv_at hl 0 rfl) ?_
        refine lv_aload_n C.1.1 C.1.2.1 d_Sd_step_25 rfl (lv_at hl 2 rfl) ?_
        refine x_alen (v := Int32.ofNat nP) C hE hW 3 1 rfl rfl rfl d_Sd_step_26 ?_
        refine lv_icmp_ge (tgt := 63) C.1.1 C.1.2.1 d_Sd_step_27 (by decide) (fun cc => ?_) (fun cc => ?_)
        · replace h := it_t cc h
          obtain rfl := Option.some.inj h
          exact x_vret C hW rfl rfl hQ d_Sd_step_63
        · replace h := it_f cc h
          refine lv_iload C.1.1 C.1.2.1 d_Sd_step_30 (lv_at hl 0 rfl) ?_
          refine lv_aload_n C.1.1 C.1.2.1 d_Sd_step_32 rfl (lv_at hl 1 rfl) ?_
          refine x_get C hE hW fl_Sd_9 1 rfl rfl d_Sd_step_33 ?_
          refine x_alen (v := 21) C hE hW 2 1 rfl rfl (by exact (by decide : Int32.ofNat 21 = 21)) d_Sd_step_36 ?_
          refine lv_icmp_ge (tgt := 63) C.1.1 C.1.2.1 d_Sd_step_37 (by decide) (fun cc => ?_) (fun cc => ?_)
          · replace h := it_t cc h
            obtain rfl := Option.some.inj h
            exact x_vret C hW rfl rfl hQ d_Sd_step_63
          · replace h := it_f cc h
            refine lv_aload_n C.1.1 C.1.2.1 d_Sd_step_40 rfl (lv_at hl 2 rfl) ?_
            refine lv_iload C.1.1 C.1.2.1 d_Sd_step_41 (lv_at hl 0 rfl) ?_
            refine lv_dup2_11 C.1.1 C.1.2.1 d_Sd_step_43 rfl rfl ?_
            obtain ⟨hg, h⟩ := gd_at h
            refine x_lald C hE hW 3 rfl (inB_in hg) d_Sd_step_44 ?_
            refine lv_aload_n C.1.1 C.1.2.1 d_Sd_step_45 rfl (lv_at hl 1 rfl) ?_
            refine x_get C hE hW fl_Sd_24 1 rfl rfl d_Sd_step_46 ?_
            refine lv_lload_n C.1.1 C.1.2.1 d_Sd_step_49 rfl (lv_at hl 3 rfl) ?_
            obtain ⟨x2, hc3, h⟩ := bd_at h
            refine x_callV (ws' := [(aN, .inr (0, [.int N_width, .int N_height, .long N_everywhere, .long N_firstColumn, .long N_lastColumn, .ref aN_grounds, .ref aN_airs, .ref aN_tolds, .ref aN_fees, .ref aN_lets, .int N_makers, .ref aN_kinds, .ref aN_cells, .ref aN_selves, .ref aN_cries, .int N_leaves, .ref aN_parts, .int N_pasts, .ref aN_past])), (aS, .inr (2, [.ref aN, .int S_maker, .int S_loud, .int S_hour, .int S_bought, .int S_gone, .ref aS_may, .ref aS_ways, .ref aS_echo, .ref aS_echoes, .long S_straight, .long S_all])), (aS_may, .inl (gJ G, 21, .inr (.inl S_may))), (aP, .inl (gJ G, nP, .inr (.inl P_c)))]) (stk := [.long x2, .long (P_c x1.toNatClampNeg), .int x1, .ref aP]) (rest := [.long (P_c x1.toNatClampNeg), .int x1, .ref aP]) (As := [.long p2]) (q0 := 0) C hE hW (c_Ld_beside l G aN aN_grounds aN_airs aN_tolds aN_fees aN_lets aN_kinds aN_cells aN_selves aN_cries aN_parts aN_past N_width N_height N_everywhere N_firstColumn N_lastColumn N_makers N_leaves N_pasts p2 hc3) cv_Ld_beside tw617 hl rfl rfl (Nat.le_of_ble_eq_true rfl) rfl rfl rfl ⟨Nat.le_of_ble_eq_true rfl, Nat.le_of_ble_eq_true rfl⟩ ⟨Nat.zero_le _, Nat.zero_le _⟩ [0] [1, 2, 3] [3, 0, 1, 2] rfl rfl rfl (by decide) rfl rfl rfl rfl d_Sd_step_50 (fun H locs hW => ?_)
            refine lv_aload_n C.1.1 C.1.2.1 d_Sd_step_53 rfl (lv_at hl 1 rfl) ?_
            refine x_get C hE hW fl_Sd_9 1 rfl rfl d_Sd_step_54 ?_
            refine lv_iload C.1.1 C.1.2.1 d_Sd_step_57 (lv_at hl 0 rfl) ?_
            obtain ⟨hg, h⟩ := gd_at h
            refine x_lald C hE hW 2 rfl (inB_in hg) d_Sd_step_59 ?_
            refine lv_land C.1.1 C.1.2.1 d_Sd_step_60 ?_
            refine lv_lor C.1.1 C.1.2.1 d_Sd_step_61 ?_
            obtain ⟨hg, h⟩ := gd_at h
            obtain ⟨x4, ex4⟩ : ∃ y : Nat → Int64, y = vp_updL P_c x1.toNatClampNeg ((P_c x1.toNatClampNeg) ||| (x2 &&& (S_may x1.toNatClampNeg))) := ⟨_, rfl⟩
            replace h := lt_at ex4 h
            refine x_last (ws' := [(aN, .inr (0, [.int N_width, .int N_height, .long N_everywhere, .long N_firstColumn, .long N_lastColumn, .ref aN_grounds, .ref aN_airs, .ref aN_tolds, .ref aN_fees, .ref aN_lets, .int N_makers, .ref aN_kinds, .ref aN_cells, .ref aN_selves, .ref aN_cries, .int N_leaves, .ref aN_parts, .int N_pasts, .ref aN_past])), (aS, .inr (2, [.ref aN, .int S_maker, .int S_loud, .int S_hour, .int S_bought, .int S_gone, .ref aS_may, .ref aS_ways, .ref aS_echo, .ref aS_echoes, .long S_straight, .long S_all])), (aS_may, .inl (gJ G, 21, .inr (.inl S_may))), (aP, .inl (gJ G, nP, .inr (.inl x4)))]) C hE hW 3 rfl (inB_in hg) (by subst ex4; rfl) d_Sd_step_62 (fun H locs hW => ?_)
            obtain rfl := Option.some.inj h
            exact x_vret C hW rfl rfl hQ d_Sd_step_63
set_option maxHeartbeats 4000000 in
set_option maxRecDepth 100000 in
theorem c_Sd_spread (l : Launch) (G : Gl) (aN : Nat) (aN_grounds : Nat) (aN_airs : Nat) (aN_tolds : Nat) (aN_fees : Nat) (aN_lets : Nat) (aN_kinds : Nat) (aN_cells : Nat) (aN_selves : Nat) (aN_cries : Nat) (aN_parts : Nat) (aN_past : Nat) (aS : Nat) (aS_may : Nat) (aS_ways : Nat) (aS_echo : Nat) (aS_echoes : Nat) (aP : Nat) (N_width : Int32) (N_height : Int32) (N_everywhere : Int64) (N_firstColumn : Int64) (N_lastColumn : Int64) (N_makers : Int32) (N_leaves : Int32) (N_pasts : Int32) (S_maker : Int32) (S_loud : Int32) (S_hour : Int32) (S_bought : Int32) (S_gone : Int32) (S_straight : Int64) (S_all : Int64) (nP : Nat) (N_grounds : Nat → Int64) (S_may : Nat → Int64) (P_c : Nat → Int64) (p2 : Int32) (p3 : Int32) {res : (Nat → Int64)} (h : f_Sd_spread N_width N_everywhere N_firstColumn N_lastColumn nP N_grounds S_may P_c p2 p3 = some res) : Ct l y_Sd_spread b_Sd_spread 7 none 2 50 G [.ref aS, .ref aP, .int p2, .int p3] [(aN, .inr (0, [.int N_width, .int N_height, .long N_everywhere, .long N_firstColumn, .long N_lastColumn, .ref aN_grounds, .ref aN_airs, .ref aN_tolds, .ref aN_fees, .ref aN_lets, .int N_makers, .ref aN_kinds, .ref aN_cells, .ref aN_selves, .ref aN_cries, .int N_leaves, .ref aN_parts, .int N_pasts, .ref aN_past])), (aN_grounds, .inl (gJ G, 3, .inr (.inl N_grounds))), (aS, .inr (2, [.ref aN, .int S_maker, .int S_loud, .int S_hour, .int S_bought, .int S_gone, .ref aS_may, .ref aS_ways, .ref aS_echo, .ref aS_echoes, .long S_straight, .long S_all])), (aS_may, .inl (gJ G, 21, .inr (.inl S_may))), (aP, .inl (gJ G, nP, .inr (.inl P_c)))] none [(aN, .inr (0, [.int N_width, .int N_height, .long N_everywhere, .long N_firstColumn, .long N_lastColumn, .ref aN_grounds, .ref aN_airs, .ref aN_tolds, .ref aN_fees, .ref aN_lets, .int N_makers, .ref aN_kinds, .ref aN_cells, .ref aN_selves, .ref aN_cries, .int N_leaves, .ref aN_parts, .int N_pasts, .ref aN_past])), (aN_grounds, .inl (gJ G, 3, .inr (.inl N_grounds))), (aS, .inr (2, [.ref aN, .int S_maker, .int S_loud, .int S_hour, .int S_bought, .int S_gone, .ref aS_may, .ref aS_ways, .ref aS_echo, .ref aS_echoes, .long S_straight, .long S_all])), (aS_may, .inl (gJ G, 21, .inr (.inl S_may))), (aP, .inl (gJ G, nP, .inr (.inl res)))] := by
  refine Ct.mk (by decide) (Nat.le_of_ble_eq_true rfl) ?_
  intro p e s m args below meth c ls A Q C hE hW hl hQ
  have C : Cx p s args m c meth "LentAir$Sound" y_Sd_spread b_Sd_spread 7 none := C
  have hl : lv_has ls 7 [(0, .ref aS), (1, .ref aP), (2, .int p2), (3, .int p3)] := hl
  unfold f_Sd_spread at h
  refine lv_aload_n C.1.1 C.1.2.1 d_Sd_spread_0 rfl (lv_at hl 0 rfl) ?_
  refine x_get C hE hW fl_Sd_24 2 rfl rfl d_Sd_spread_1 ?_
  refine x_get C hE hW fl_Sd_110 0 rfl rfl d_Sd_spread_4 ?_
  refine lv_iconst (v := 1) C.1.1 C.1.2.1 d_Sd_spread_7 (by decide) ?_
  refine x_lald C hE hW 1 rfl (inB_in (by decide)) d_Sd_spread_8 ?_
  refine lv_topl (fun x1 ex1 => ?_)
  replace h := lt_at ex1 h
  refine lv_lstore (lv' := [(4, .long x1), (0, .ref aS), (1, .ref aP), (2, .int p2), (3, .int p3)]) C.1.1 C.1.2.1 d_Sd_spread_9 hl (by decide) rfl (fun ls hl => ?_)
  refine lv_aload_n C.1.1 C.1.2.1 d_Sd_spread_11 rfl (lv_at hl 2 rfl) ?_
  refine x_alen (v := Int32.ofNat nP) C hE hW 4 1 rfl rfl rfl d_Sd_spread_12 ?_
  refine lv_iconst (v := 1) C.1.1 C.1.2.1 d_Sd_spread_13 (by decide) ?_
  refine lv_isub C.1.1 C.1.2.1 d_Sd_spread_14 ?_
  refine lv_topi (fun x2 ex2 => ?_)
  replace h := lt_at ex2 h
  refine lv_istore (lv' := [(6, .int x2), (4, .long x1), (0, .ref aS), (1, .ref aP), (2, .int p2), (3, .int p3)]) C.1.1 C.1.2.1 d_Sd_spread_15 hl (by decide) rfl (fun ls hl => ?_)
  refine lp_at (P := fun ((x3, x4) : Int32 × (Nat → Int64)) => ∀ (H : Heap) (locs : List Loc) (ls : Array Slot), Wd G A s.heap H locs [(aN, .inr (0, [.int N_width, .int N_height, .long N_everywhere, .long N_firstColumn, .long N_lastColumn, .ref aN_grounds, .ref aN_airs, .ref aN_tolds, .ref aN_fees, .ref aN_lets, .int N_makers, .ref aN_kinds, .ref aN_cells, .ref aN_selves, .ref aN_cries, .int N_leaves, .ref aN_parts, .int N_pasts, .ref aN_past])), (aN_grounds, .inl (gJ G, 3, .inr (.inl N_grounds))), (aS, .inr (2, [.ref aN, .int S_maker, .int S_loud, .int S_hour, .int S_bought, .int S_gone, .ref aS_may, .ref aS_ways, .ref aS_echo, .ref aS_echoes, .long S_straight, .long S_all])), (aS_may, .inl (gJ G, 21, .inr (.inl S_may))), (aP, .inl (gJ G, nP, .inr (.inl x4)))] → lv_has ls 7 [(0, .ref aS), (1, .ref aP), (2, .int p2), (3, .int p3), (4, .long x1), (6, .int x3)] → W p l e (RM 2 50) s m args below meth c H locs 0 0 Q (F0 m 17 ls [])) ?_ FU _ h _ _ _ hW (lv_sub hl [2, 3, 4, 5, 1, 0] rfl)
  clear h hl hW
  intro rec17 ih17
  intro x h
  obtain ⟨x3, x4⟩ := x
  unfold f_Sd_spread_L17 at h
  intro H locs ls hW hl
  refine lv_iload C.1.1 C.1.2.1 d_Sd_spread_17 (lv_at hl 5 rfl) ?_
  refine lv_if_le (tgt := 71) C.1.1 C.1.2.1 d_Sd_spread_19 (by decide) (fun cc => ?_) (fun cc => ?_)
  · replace h := it_t cc h
    obtain rfl := Option.some.inj h
    exact x_vret C hW rfl rfl hQ d_Sd_spread_71
  · replace h := it_f cc h
    refine lv_aload_n C.1.1 C.1.2.1 d_Sd_spread_22 rfl (lv_at hl 1 rfl) ?_
    refine lv_iload C.1.1 C.1.2.1 d_Sd_spread_23 (lv_at hl 5 rfl) ?_
    obtain ⟨hg, h⟩ := gd_at h
    refine x_lald C hE hW 4 rfl (inB_in hg) d_Sd_spread_25 ?_
    refine lv_lconst (v := 0) C.1.1 C.1.2.1 d_Sd_spread_26 (by decide) ?_
    refine W.lcmp C.1.1 C.1.2.1 d_Sd_spread_27 ?_
    refine jn_at (P := fun (x5 : Nat → Int64) => ∀ (H : Heap) (locs : List Loc) (ls : Array Slot), Wd G A s.heap H locs [(aN, .inr (0, [.int N_width, .int N_height, .long N_everywhere, .long N_firstColumn, .long N_lastColumn, .ref aN_grounds, .ref aN_airs, .ref aN_tolds, .ref aN_fees, .ref aN_lets, .int N_makers, .ref aN_kinds, .ref aN_cells, .ref aN_selves, .ref aN_cries, .int N_leaves, .ref aN_parts, .int N_pasts, .ref aN_past])), (aN_grounds, .inl (gJ G, 3, .inr (.inl N_grounds))), (aS, .inr (2, [.ref aN, .int S_maker, .int S_loud, .int S_hour, .int S_bought, .int S_gone, .ref aS_may, .ref aS_ways, .ref aS_echo, .ref aS_echoes, .long S_straight, .long S_all])), (aS_may, .inl (gJ G, 21, .inr (.inl S_may))), (aP, .inl (gJ G, nP, .inr (.inl x5)))] → lv_has ls 7 [(0, .ref aS), (1, .ref aP), (2, .int p2), (3, .int p3), (4, .long x1), (6, .int x3)] → W p l e (RM 2 50) s m args below meth c H locs 0 0 Q (F0 m 65 ls [])) h ?_ ?_
    · skip
      intro x5 h
      intro H locs ls hW hl
      obtain ⟨x6, ex6⟩ : ∃ y : Int32, y = x3 + (-1) := ⟨_, rfl⟩
      replace h := lt_at ex6 h
      refine lv_iinc (v := x6) (lv' := [(6, .int x6), (0, .ref aS), (1, .ref aP), (2, .int p2), (3, .int p3), (4, .long x1)]) C.1.1 C.1.2.1 d_Sd_spread_65 hl (k := 5) rfl (by rw [ex6]; rfl) (by decide) rfl (fun ls hl => ?_)
      refine lv_goto (tgt := 17) C.1.1 C.1.2.1 d_Sd_spread_68 (by decide) ?_
      exact ih17 _ h _ _ _ hW (lv_sub hl [1, 2, 3, 4, 5, 0] rfl)
    · intro J65 hJ65 h
      refine lv_if_eq (tgt := 65) C.1.1 C.1.2.1 d_Sd_spread_28 (by decide) (fun cc => ?_) (fun cc => ?_)
      · replace h := it_t cc h
        exact hJ65 _ h _ _ _ hW (lv_sub hl [0, 1, 2, 3, 4, 5] rfl)
      · replace h := it_f cc h
        refine lv_aload_n C.1.1 C.1.2.1 d_Sd_spread_31 rfl (lv_at hl 0 rfl) ?_
        refine lv_aload_n C.1.1 C.1.2.1 d_Sd_spread_32 rfl (lv_at hl 1 rfl) ?_
        refine lv_aload_n C.1.1 C.1.2.1 d_Sd_spread_33 rfl (lv_at hl 1 rfl) ?_
        refine lv_iload C.1.1 C.1.2.1 d_Sd_spread_34 (lv_at hl 5 rfl) ?_
        obtain ⟨hg, h⟩ := gd_at h
        refine x_lald C hE hW 4 rfl (inB_in hg) d_Sd_spread_36 ?_
        refine lv_lload C.1.1 C.1.2.1 d_Sd_spread_37 (lv_at hl 4 rfl) ?_
        refine lv_ldc2 (own := "LentAir$Sound") (v := (-1)) C.1.1 C.1.2.1 C.1.2.2.2.1 (C.w tw598) d_Sd_spread_39 ?_
        refine lv_lxor C.1.1 C.1.2.1 d_Sd_spread_42 ?_
        refine lv_land C.1.1 C.1.2.1 d_Sd_spread_43 ?_
        refine lv_iload C.1.1 C.1.2.1 d_Sd_spread_44 (lv_at hl 5 rfl) ?_
        refine lv_iload_n C.1.1 C.1.2.1 d_Sd_spread_46 rfl (lv_at hl 2 rfl) ?_
        obtain ⟨x7, hc8, h⟩ := bd_at h
        refine x_callV (ws' := [(aN, .inr (0, [.int N_width, .int N_height, .long N_everywhere, .long N_firstColumn, .long N_lastColumn, .ref aN_grounds, .ref aN_airs, .ref aN_tolds, .ref aN_fees, .ref aN_lets, .int N_makers, .ref aN_kinds, .ref aN_cells, .ref aN_selves, .ref aN_cries, .int N_leaves, .ref aN_parts, .int N_pasts, .ref aN_past])), (aN_grounds, .inl (gJ G, 3, .inr (.inl N_grounds))), (aS, .inr (2, [.ref aN, .int S_maker, .int S_loud, .int S_hour, .int S_bought, .int S_gone, .ref aS_may, .ref aS_ways, .ref aS_echo, .ref aS_echoes, .long S_straight, .long S_all])), (aS_may, .inl (gJ G, 21, .inr (.inl S_may))), (aP, .inl (gJ G, nP, .inr (.inl x7)))]) (stk := []) (rest := []) (As := [.ref aP, .long ((x4 x3.toNatClampNeg) &&& (x1 ^^^ (-1))), .int x3, .int p2]) (q0 := 2) C hE hW (c_Sd_step l G aN aN_grounds aN_airs aN_tolds aN_fees aN_lets aN_kinds aN_cells aN_selves aN_cries aN_parts aN_past aS aS_may aS_ways aS_echo aS_echoes aP N_width N_height N_everywhere N_firstColumn N_lastColumn N_makers N_leaves N_pasts S_maker S_loud S_hour S_bought S_gone S_straight S_all nP S_may x4 ((x4 x3.toNatClampNeg) &&& (x1 ^^^ (-1))) x3 p2 hc8) cv_Sd_step tw613 hl rfl rfl (Nat.le_of_ble_eq_true rfl) rfl rfl rfl ⟨Nat.le_of_ble_eq_true rfl, Nat.le_of_ble_eq_true rfl⟩ ⟨Nat.zero_le _, Nat.zero_le _⟩ [0, 2, 3, 4] [1] [1, 0, 2, 3, 4] rfl rfl rfl (by decide) rfl rfl rfl rfl d_Sd_spread_47 (fun H locs hW => ?_)
        refine lv_aload_n C.1.1 C.1.2.1 d_Sd_spread_50 rfl (lv_at hl 0 rfl) ?_
        refine lv_aload_n C.1.1 C.1.2.1 d_Sd_spread_51 rfl (lv_at hl 1 rfl) ?_
        refine lv_aload_n C.1.1 C.1.2.1 d_Sd_spread_52 rfl (lv_at hl 1 rfl) ?_
        refine lv_iload C.1.1 C.1.2.1 d_Sd_spread_53 (lv_at hl 5 rfl) ?_
        obtain ⟨hg, h⟩ := gd_at h
        refine x_lald C hE hW 4 rfl (inB_in hg) d_Sd_spread_55 ?_
        refine lv_lload C.1.1 C.1.2.1 d_Sd_spread_56 (lv_at hl 4 rfl) ?_
        refine lv_land C.1.1 C.1.2.1 d_Sd_spread_58 ?_
        refine lv_iload C.1.1 C.1.2.1 d_Sd_spread_59 (lv_at hl 5 rfl) ?_
        refine lv_iload_n C.1.1 C.1.2.1 d_Sd_spread_61 rfl (lv_at hl 3 rfl) ?_
        obtain ⟨x9, hc10, h⟩ := bd_at h
        refine x_callV (ws' := [(aN, .inr (0, [.int N_width, .int N_height, .long N_everywhere, .long N_firstColumn, .long N_lastColumn, .ref aN_grounds, .ref aN_airs, .ref aN_tolds, .ref aN_fees, .ref aN_lets, .int N_makers, .ref aN_kinds, .ref aN_cells, .ref aN_selves, .ref aN_cries, .int N_leaves, .ref aN_parts, .int N_pasts, .ref aN_past])), (aN_grounds, .inl (gJ G, 3, .inr (.inl N_grounds))), (aS, .inr (2, [.ref aN, .int S_maker, .int S_loud, .int S_hour, .int S_bought, .int S_gone, .ref aS_may, .ref aS_ways, .ref aS_echo, .ref aS_echoes, .long S_straight, .long S_all])), (aS_may, .inl (gJ G, 21, .inr (.inl S_may))), (aP, .inl (gJ G, nP, .inr (.inl x9)))]) (stk := []) (rest := []) (As := [.ref aP, .long ((x7 x3.toNatClampNeg) &&& x1), .int x3, .int p3]) (q0 := 2) C hE hW (c_Sd_step l G aN aN_grounds aN_airs aN_tolds aN_fees aN_lets aN_kinds aN_cells aN_selves aN_cries aN_parts aN_past aS aS_may aS_ways aS_echo aS_echoes aP N_width N_height N_everywhere N_firstColumn N_lastColumn N_makers N_leaves N_pasts S_maker S_loud S_hour S_bought S_gone S_straight S_all nP S_may x7 ((x7 x3.toNatClampNeg) &&& x1) x3 p3 hc10) cv_Sd_step tw613 hl rfl rfl (Nat.le_of_ble_eq_true rfl) rfl rfl rfl ⟨Nat.le_of_ble_eq_true rfl, Nat.le_of_ble_eq_true rfl⟩ ⟨Nat.zero_le _, Nat.zero_le _⟩ [0, 2, 3, 4] [1] [1, 0, 2, 3, 4] rfl rfl rfl (by decide) rfl rfl rfl rfl d_Sd_spread_62 (fun H locs hW => ?_)
        exact hJ65 _ h _ _ _ hW (lv_sub hl [0, 1, 2, 3, 4, 5] rfl)
set_option maxHeartbeats 4000000 in
set_option maxRecDepth 100000 in
theorem c_Sd_union (l : Launch) (G : Gl) (aP : Nat) (nP : Nat) (P_c : Nat → Int64) {res : Int64} (h : f_Sd_union nP P_c = some res) : Ct l y_Sd_union b_Sd_union 4 (some .long) 0 0 G [.ref aP] [(aP, .inl (gJ G, nP, .inr (.inl P_c)))] (some (.long res)) [(aP, .inl (gJ G, nP, .inr (.inl P_c)))] := by
  refine Ct.mk (by decide) (Nat.le_of_ble_eq_true rfl) ?_
  intro p e s m args below meth c ls A Q C hE hW hl hQ
  have C : Cx p s args m c meth "LentAir$Sound" y_Sd_union b_Sd_union 4 (some .long) := C
  have hl : lv_has ls 4 [(0, .ref aP)] := hl
  unfold f_Sd_union at h
  refine lv_lconst (v := 0) C.1.1 C.1.2.1 d_Sd_union_0 (by decide) ?_
  refine lv_lstore_n (lv' := [(1, .long 0), (0, .ref aP)]) C.1.1 C.1.2.1 d_Sd_union_1 rfl hl (by decide) rfl (fun ls hl => ?_)
  refine lv_iconst (v := 1) C.1.1 C.1.2.1 d_Sd_union_2 (by decide) ?_
  refine lv_istore_n (lv' := [(3, .int 1), (1, .long 0), (0, .ref aP)]) C.1.1 C.1.2.1 d_Sd_union_3 rfl hl (by decide) rfl (fun ls hl => ?_)
  refine lp_at (P := fun ((x1, x2) : Int64 × Int32) => ∀ (H : Heap) (locs : List Loc) (ls : Array Slot), Wd G A s.heap H locs [(aP, .inl (gJ G, nP, .inr (.inl P_c)))] → lv_has ls 4 [(0, .ref aP), (1, .long x1), (3, .int x2)] → W p l e (RM 0 0) s m args below meth c H locs 0 0 Q (F0 m 4 ls [])) ?_ FU _ h _ _ _ hW (lv_sub hl [2, 1, 0] rfl)
  clear h hl hW
  intro rec4 ih4
  intro x h
  obtain ⟨x1, x2⟩ := x
  unfold f_Sd_union_L4 at h
  intro H locs ls hW hl
  refine lv_iload_n C.1.1 C.1.2.1 d_Sd_union_4 rfl (lv_at hl 2 rfl) ?_
  refine lv_aload_n C.1.1 C.1.2.1 d_Sd_union_5 rfl (lv_at hl 0 rfl) ?_
  refine x_alen (v := Int32.ofNat nP) C hE hW 0 1 rfl rfl rfl d_Sd_union_6 ?_
  refine lv_icmp_ge (tgt := 22) C.1.1 C.1.2.1 d_Sd_union_7 (by decide) (fun cc => ?_) (fun cc => ?_)
  · replace h := it_t cc h
    refine lv_lload_n C.1.1 C.1.2.1 d_Sd_union_22 rfl (lv_at hl 1 rfl) ?_
    obtain rfl := Option.some.inj h
    exact x_lret C hW rfl rfl hQ d_Sd_union_23
  · replace h := it_f cc h
    refine lv_lload_n C.1.1 C.1.2.1 d_Sd_union_10 rfl (lv_at hl 1 rfl) ?_
    refine lv_aload_n C.1.1 C.1.2.1 d_Sd_union_11 rfl (lv_at hl 0 rfl) ?_
    refine lv_iload_n C.1.1 C.1.2.1 d_Sd_union_12 rfl (lv_at hl 2 rfl) ?_
    obtain ⟨hg, h⟩ := gd_at h
    refine x_lald C hE hW 0 rfl (inB_in hg) d_Sd_union_13 ?_
    refine lv_lor C.1.1 C.1.2.1 d_Sd_union_14 ?_
    refine lv_topl (fun x3 ex3 => ?_)
    replace h := lt_at ex3 h
    refine lv_lstore_n (lv' := [(1, .long x3), (0, .ref aP), (3, .int x2)]) C.1.1 C.1.2.1 d_Sd_union_15 rfl hl (by decide) rfl (fun ls hl => ?_)
    obtain ⟨x4, ex4⟩ : ∃ y : Int32, y = x2 + 1 := ⟨_, rfl⟩
    replace h := lt_at ex4 h
    refine lv_iinc (v := x4) (lv' := [(3, .int x4), (1, .long x3), (0, .ref aP)]) C.1.1 C.1.2.1 d_Sd_union_16 hl (k := 2) rfl (by rw [ex4]; rfl) (by decide) rfl (fun ls hl => ?_)
    refine lv_goto (tgt := 4) C.1.1 C.1.2.1 d_Sd_union_19 (by decide) ?_
    exact ih4 _ h _ _ _ hW (lv_sub hl [2, 1, 0] rfl)
set_option maxHeartbeats 4000000 in
set_option maxRecDepth 100000 in
theorem c_Sd_goStraight (l : Launch) (G : Gl) (aN : Nat) (aN_grounds : Nat) (aN_airs : Nat) (aN_tolds : Nat) (aN_fees : Nat) (aN_lets : Nat) (aN_kinds : Nat) (aN_cells : Nat) (aN_selves : Nat) (aN_cries : Nat) (aN_parts : Nat) (aN_past : Nat) (aS : Nat) (aS_may : Nat) (aS_ways : Nat) (aS_echo : Nat) (aS_echoes : Nat) (N_width : Int32) (N_height : Int32) (N_everywhere : Int64) (N_firstColumn : Int64) (N_lastColumn : Int64) (N_makers : Int32) (N_leaves : Int32) (N_pasts : Int32) (S_maker : Int32) (S_loud : Int32) (S_hour : Int32) (S_bought : Int32) (S_gone : Int32) (S_straight : Int64) (S_all : Int64) (N_grounds : Nat → Int64) (N_airs : Nat → Int64) (N_kinds : Nat → Int32) (N_cells : Nat → Int32) (N_selves : Nat → Int32) (N_parts : Nat → Int32) (S_may : Nat → Int64) (S_ways : Nat → Int64) (p1 : Int32) {res : (Nat → Int64) × (Nat → Int64) × Int64} (h : f_Sd_goStraight N_width N_everywhere N_firstColumn N_lastColumn N_makers N_leaves S_maker S_loud S_hour S_bought S_gone N_grounds N_airs N_kinds N_cells N_selves N_parts S_may S_ways p1 = some res) : Ct l y_Sd_goStraight b_Sd_goStraight 4 none 3 76 G [.ref aS, .int p1] [(aN, .inr (0, [.int N_width, .int N_height, .long N_everywhere, .long N_firstColumn, .long N_lastColumn, .ref aN_grounds, .ref aN_airs, .ref aN_tolds, .ref aN_fees, .ref aN_lets, .int N_makers, .ref aN_kinds, .ref aN_cells, .ref aN_selves, .ref aN_cries, .int N_leaves, .ref aN_parts, .int N_pasts, .ref aN_past])), (aN_grounds, .inl (gJ G, 3, .inr (.inl N_grounds))), (aN_airs, .inl (gJ G, 6, .inr (.inl N_airs))), (aN_kinds, .inl (gI G, 6, .inl N_kinds)), (aN_cells, .inl (gI G, 6, .inl N_cells)), (aN_selves, .inl (gI G, 6, .inl N_selves)), (aN_parts, .inl (gI G, 40, .inl N_parts)), (aS, .inr (2, [.ref aN, .int S_maker, .int S_loud, .int S_hour, .int S_bought, .int S_gone, .ref aS_may, .ref aS_ways, .ref aS_echo, .ref aS_echoes, .long S_straight, .long S_all])), (aS_may, .inl (gJ G, 21, .inr (.inl S_may))), (aS_ways, .inl (gJ G, 21, .inr (.inl S_ways)))] none [(aN, .inr (0, [.int N_width, .int N_height, .long N_everywhere, .long N_firstColumn, .long N_lastColumn, .ref aN_grounds, .ref aN_airs, .ref aN_tolds, .ref aN_fees, .ref aN_lets, .int N_makers, .ref aN_kinds, .ref aN_cells, .ref aN_selves, .ref aN_cries, .int N_leaves, .ref aN_parts, .int N_pasts, .ref aN_past])), (aN_grounds, .inl (gJ G, 3, .inr (.inl N_grounds))), (aN_airs, .inl (gJ G, 6, .inr (.inl N_airs))), (aN_kinds, .inl (gI G, 6, .inl N_kinds)), (aN_cells, .inl (gI G, 6, .inl N_cells)), (aN_selves, .inl (gI G, 6, .inl N_selves)), (aN_parts, .inl (gI G, 40, .inl N_parts)), (aS, .inr (2, [.ref aN, .int S_maker, .int S_loud, .int S_hour, .int S_bought, .int S_gone, .ref aS_may, .ref aS_ways, .ref aS_echo, .ref aS_echoes, .long (res.2.2), .long S_all])), (aS_may, .inl (gJ G, 21, .inr (.inl (res.1)))), (aS_ways, .inl (gJ G, 21, .inr (.inl (res.2.1))))] := by
  refine Ct.mk (by decide) (Nat.le_of_ble_eq_true rfl) ?_
  intro p e s m args below meth c ls A Q C hE hW hl hQ
  have C : Cx p s args m c meth "LentAir$Sound" y_Sd_goStraight b_Sd_goStraight 4 none := C
  have hl : lv_has ls 4 [(0, .ref aS), (1, .int p1)] := hl
  unfold f_Sd_goStraight at h
  refine lv_aload_n C.1.1 C.1.2.1 d_Sd_goStraight_0 rfl (lv_at hl 0 rfl) ?_
  obtain ⟨x1, hc2, h⟩ := bd_at h
  refine x_callV (ws' := [(aN, .inr (0, [.int N_width, .int N_height, .long N_everywhere, .long N_firstColumn, .long N_lastColumn, .ref aN_grounds, .ref aN_airs, .ref aN_tolds, .ref aN_fees, .ref aN_lets, .int N_makers, .ref aN_kinds, .ref aN_cells, .ref aN_selves, .ref aN_cries, .int N_leaves, .ref aN_parts, .int N_pasts, .ref aN_past])), (aN_grounds, .inl (gJ G, 3, .inr (.inl N_grounds))), (aN_airs, .inl (gJ G, 6, .inr (.inl N_airs))), (aN_kinds, .inl (gI G, 6, .inl N_kinds)), (aN_cells, .inl (gI G, 6, .inl N_cells)), (aN_selves, .inl (gI G, 6, .inl N_selves)), (aN_parts, .inl (gI G, 40, .inl N_parts)), (aS, .inr (2, [.ref aN, .int S_maker, .int S_loud, .int S_hour, .int S_bought, .int S_gone, .ref aS_may, .ref aS_ways, .ref aS_echo, .ref aS_echoes, .long S_straight, .long S_all])), (aS_may, .inl (gJ G, 21, .inr (.inl S_may))), (aS_ways, .inl (gJ G, 21, .inr (.inl S_ways)))]) (stk := [.int x1]) (rest := []) (As := []) (q0 := 7) C hE hW (c_Sd_kind l G aN aN_grounds aN_airs aN_tolds aN_fees aN_lets aN_kinds aN_cells aN_selves aN_cries aN_parts aN_past aS aS_may aS_ways aS_echo aS_echoes N_width N_height N_everywhere N_firstColumn N_lastColumn N_makers N_leaves N_pasts S_maker S_loud S_hour S_bought S_gone S_straight S_all N_kinds hc2) cv_Sd_kind tw566 hl rfl rfl (Nat.le_of_ble_eq_true rfl) rfl rfl rfl ⟨Nat.le_of_ble_eq_true rfl, Nat.le_of_ble_eq_true rfl⟩ ⟨Nat.zero_le _, Nat.zero_le _⟩ [0, 3, 7] [1, 2, 4, 5, 6, 8, 9] [7, 0, 1, 8, 2, 3, 4, 9, 5, 6] rfl rfl rfl (by decide) rfl rfl rfl rfl d_Sd_goStraight_1 (fun H locs hW => ?_)
  refine lv_istore_n (lv' := [(2, .int x1), (0, .ref aS), (1, .int p1)]) C.1.1 C.1.2.1 d_Sd_goStraight_4 rfl hl (by decide) rfl (fun ls hl => ?_)
  refine lv_aload_n C.1.1 C.1.2.1 d_Sd_goStraight_5 rfl (lv_at hl 1 rfl) ?_
  refine lv_aload_n C.1.1 C.1.2.1 d_Sd_goStraight_6 rfl (lv_at hl 1 rfl) ?_
  refine x_get C hE hW fl_Sd_24 7 rfl rfl d_Sd_goStraight_7 ?_
  refine lv_aload_n C.1.1 C.1.2.1 d_Sd_goStraight_10 rfl (lv_at hl 1 rfl) ?_
  refine x_get C hE hW fl_Sd_28 7 rfl rfl d_Sd_goStraight_11 ?_
  obtain ⟨x3, hc4, h⟩ := bd_at h
  refine x_callV (ws' := [(aN, .inr (0, [.int N_width, .int N_height, .long N_everywhere, .long N_firstColumn, .long N_lastColumn, .ref aN_grounds, .ref aN_airs, .ref aN_tolds, .ref aN_fees, .ref aN_lets, .int N_makers, .ref aN_kinds, .ref aN_cells, .ref aN_selves, .ref aN_cries, .int N_leaves, .ref aN_parts, .int N_pasts, .ref aN_past])), (aN_grounds, .inl (gJ G, 3, .inr (.inl N_grounds))), (aN_airs, .inl (gJ G, 6, .inr (.inl N_airs))), (aN_kinds, .inl (gI G, 6, .inl N_kinds)), (aN_cells, .inl (gI G, 6, .inl N_cells)), (aN_selves, .inl (gI G, 6, .inl N_selves)), (aN_parts, .inl (gI G, 40, .inl N_parts)), (aS, .inr (2, [.ref aN, .int S_maker, .int S_loud, .int S_hour, .int S_bought, .int S_gone, .ref aS_may, .ref aS_ways, .ref aS_echo, .ref aS_echoes, .long S_straight, .long S_all])), (aS_may, .inl (gJ G, 21, .inr (.inl S_may))), (aS_ways, .inl (gJ G, 21, .inr (.inl S_ways)))]) (stk := [.int x3, .ref aS]) (rest := [.ref aS]) (As := [.int S_maker]) (q0 := 0) C hE hW (c_Ld_selfOf l G aN aN_grounds aN_airs aN_tolds aN_fees aN_lets aN_kinds aN_cells aN_selves aN_cries aN_parts aN_past N_width N_height N_everywhere N_firstColumn N_lastColumn N_makers N_leaves N_pasts N_selves S_maker hc4) cv_Ld_selfOf tw577 hl rfl rfl (Nat.le_of_ble_eq_true rfl) rfl rfl rfl ⟨Nat.le_of_ble_eq_true rfl, Nat.le_of_ble_eq_true rfl⟩ ⟨Nat.zero_le _, Nat.zero_le _⟩ [0, 5] [1, 2, 3, 4, 6, 7, 8, 9] [8, 0, 1, 2, 3, 9, 4, 5, 6, 7] rfl rfl rfl (by decide) rfl rfl rfl rfl d_Sd_goStraight_14 (fun H locs hW => ?_)
  refine lv_aload_n C.1.1 C.1.2.1 d_Sd_goStraight_17 rfl (lv_at hl 1 rfl) ?_
  refine x_get C hE hW fl_Sd_28 7 rfl rfl d_Sd_goStraight_18 ?_
  obtain ⟨x5, hc6, h⟩ := bd_at h
  refine x_callV (ws' := [(aN, .inr (0, [.int N_width, .int N_height, .long N_everywhere, .long N_firstColumn, .long N_lastColumn, .ref aN_grounds, .ref aN_airs, .ref aN_tolds, .ref aN_fees, .ref aN_lets, .int N_makers, .ref aN_kinds, .ref aN_cells, .ref aN_selves, .ref aN_cries, .int N_leaves, .ref aN_parts, .int N_pasts, .ref aN_past])), (aN_grounds, .inl (gJ G, 3, .inr (.inl N_grounds))), (aN_airs, .inl (gJ G, 6, .inr (.inl N_airs))), (aN_kinds, .inl (gI G, 6, .inl N_kinds)), (aN_cells, .inl (gI G, 6, .inl N_cells)), (aN_selves, .inl (gI G, 6, .inl N_selves)), (aN_parts, .inl (gI G, 40, .inl N_parts)), (aS, .inr (2, [.ref aN, .int S_maker, .int S_loud, .int S_hour, .int S_bought, .int S_gone, .ref aS_may, .ref aS_ways, .ref aS_echo, .ref aS_echoes, .long S_straight, .long S_all])), (aS_may, .inl (gJ G, 21, .inr (.inl x5))), (aS_ways, .inl (gJ G, 21, .inr (.inl S_ways)))]) (stk := []) (rest := []) (As := [.int x3, .int S_maker]) (q0 := 7) C hE hW (c_Sd_allow l G aN aN_grounds aN_airs aN_tolds aN_fees aN_lets aN_kinds aN_cells aN_selves aN_cries aN_parts aN_past aS aS_may aS_ways aS_echo aS_echoes N_width N_height N_everywhere N_firstColumn N_lastColumn N_makers N_leaves N_pasts S_maker S_loud S_hour S_bought S_gone S_straight S_all N_airs N_selves N_parts S_may x3 S_maker hc6) cv_Sd_allow tw581 hl rfl rfl (Nat.le_of_ble_eq_true rfl) rfl rfl rfl ⟨Nat.le_of_ble_eq_true rfl, Nat.le_of_ble_eq_true rfl⟩ ⟨Nat.zero_le _, Nat.zero_le _⟩ [0, 2, 5, 6, 7, 8] [1, 3, 4, 9] [4, 0, 5, 1, 2, 6, 7, 8, 9, 3] rfl rfl rfl (by decide) rfl rfl rfl rfl d_Sd_goStraight_21 (fun H locs hW => ?_)
  refine lv_iconst (v := 1) C.1.1 C.1.2.1 d_Sd_goStraight_24 (by decide) ?_
  refine lv_istore_n (lv' := [(3, .int 1), (2, .int x1), (0, .ref aS), (1, .int p1)]) C.1.1 C.1.2.1 d_Sd_goStraight_25 rfl hl (by decide) rfl (fun ls hl => ?_)
  refine jn_at (P := fun (x7 : Nat → Int64) => ∀ (H : Heap) (locs : List Loc) (ls : Array Slot), Wd G A s.heap H locs [(aN, .inr (0, [.int N_width, .int N_height, .long N_everywhere, .long N_firstColumn, .long N_lastColumn, .ref aN_grounds, .ref aN_airs, .ref aN_tolds, .ref aN_fees, .ref aN_lets, .int N_makers, .ref aN_kinds, .ref aN_cells, .ref aN_selves, .ref aN_cries, .int N_leaves, .ref aN_parts, .int N_pasts, .ref aN_past])), (aN_grounds, .inl (gJ G, 3, .inr (.inl N_grounds))), (aN_airs, .inl (gJ G, 6, .inr (.inl N_airs))), (aN_kinds, .inl (gI G, 6, .inl N_kinds)), (aN_cells, .inl (gI G, 6, .inl N_cells)), (aN_selves, .inl (gI G, 6, .inl N_selves)), (aN_parts, .inl (gI G, 40, .inl N_parts)), (aS, .inr (2, [.ref aN, .int S_maker, .int S_loud, .int S_hour, .int S_bought, .int S_gone, .ref aS_may, .ref aS_ways, .ref aS_echo, .ref aS_echoes, .long S_straight, .long S_all])), (aS_may, .inl (gJ G, 21, .inr (.inl x7))), (aS_ways, .inl (gJ G, 21, .inr (.inl S_ways)))] → lv_has ls 4 [(0, .ref aS), (2, .int x1)] → W p l e (RM 3 76) s m args below meth c H locs 0 0 Q (F0 m 83 ls [])) h ?_ ?_
  · skip
    intro x7 h
    intro H locs ls hW hl
    refine lv_aload_n C.1.1 C.1.2.1 d_Sd_goStraight_83 rfl (lv_at hl 0 rfl) ?_
    refine x_get C hE hW fl_Sd_15 7 rfl rfl d_Sd_goStraight_84 ?_
    refine lv_lconst (v := 0) C.1.1 C.1.2.1 d_Sd_goStraight_87 (by decide) ?_
    obtain ⟨x8, hc9, h⟩ := bd_at h
    refine x_callS (ws' := [(aN, .inr (0, [.int N_width, .int N_height, .long N_everywhere, .long N_firstColumn, .long N_lastColumn, .ref aN_grounds, .ref aN_airs, .ref aN_tolds, .ref aN_fees, .ref aN_lets, .int N_makers, .ref aN_kinds, .ref aN_cells, .ref aN_selves, .ref aN_cries, .int N_leaves, .ref aN_parts, .int N_pasts, .ref aN_past])), (aN_grounds, .inl (gJ G, 3, .inr (.inl N_grounds))), (aN_airs, .inl (gJ G, 6, .inr (.inl N_airs))), (aN_kinds, .inl (gI G, 6, .inl N_kinds)), (aN_cells, .inl (gI G, 6, .inl N_cells)), (aN_selves, .inl (gI G, 6, .inl N_selves)), (aN_parts, .inl (gI G, 40, .inl N_parts)), (aS, .inr (2, [.ref aN, .int S_maker, .int S_loud, .int S_hour, .int S_bought, .int S_gone, .ref aS_may, .ref aS_ways, .ref aS_echo, .ref aS_echoes, .long S_straight, .long S_all])), (aS_may, .inl (gJ G, 21, .inr (.inl x7))), (aS_ways, .inl (gJ G, 21, .inr (.inl x8)))]) (stk := []) (rest := []) (As := [.ref aS_ways, .long 0]) C hE hW (c_JA_fillJ l G aS_ways 21 S_ways 0 hc9) cv_JA_fillJ tw585 hl rfl rfl (Nat.le_of_ble_eq_true rfl) ⟨Nat.le_of_ble_eq_true rfl, Nat.le_of_ble_eq_true rfl⟩ ⟨Nat.zero_le _, Nat.zero_le _⟩ [9] [0, 1, 2, 3, 4, 5, 6, 7, 8] [0, 1, 2, 3, 4, 5, 6, 7, 8, 9] rfl rfl rfl (by decide) rfl rfl rfl rfl d_Sd_goStraight_88 (fun H locs hW => ?_)
    refine lv_aload_n C.1.1 C.1.2.1 d_Sd_goStraight_91 rfl (lv_at hl 0 rfl) ?_
    refine x_get C hE hW fl_Sd_32 7 rfl rfl d_Sd_goStraight_92 ?_
    refine lv_iconst (v := 1) C.1.1 C.1.2.1 d_Sd_goStraight_95 (by decide) ?_
    refine jn_at (P := fun (x10 : Nat → Int64) => ∀ (H : Heap) (locs : List Loc) (ls : Array Slot), Wd G A s.heap H locs [(aN, .inr (0, [.int N_width, .int N_height, .long N_everywhere, .long N_firstColumn, .long N_lastColumn, .ref aN_grounds, .ref aN_airs, .ref aN_tolds, .ref aN_fees, .ref aN_lets, .int N_makers, .ref aN_kinds, .ref aN_cells, .ref aN_selves, .ref aN_cries, .int N_leaves, .ref aN_parts, .int N_pasts, .ref aN_past])), (aN_grounds, .inl (gJ G, 3, .inr (.inl N_grounds))), (aN_airs, .inl (gJ G, 6, .inr (.inl N_airs))), (aN_kinds, .inl (gI G, 6, .inl N_kinds)), (aN_cells, .inl (gI G, 6, .inl N_cells)), (aN_selves, .inl (gI G, 6, .inl N_selves)), (aN_parts, .inl (gI G, 40, .inl N_parts)), (aS, .inr (2, [.ref aN, .int S_maker, .int S_loud, .int S_hour, .int S_bought, .int S_gone, .ref aS_may, .ref aS_ways, .ref aS_echo, .ref aS_echoes, .long S_straight, .long S_all])), (aS_may, .inl (gJ G, 21, .inr (.inl x7))), (aS_ways, .inl (gJ G, 21, .inr (.inl x10)))] → lv_has ls 4 [(0, .ref aS), (2, .int x1)] → W p l e (RM 3 76) s m args below meth c H locs 0 0 Q (F0 m 121 ls [])) h ?_ ?_
    · skip
      intro x10 h
      intro H locs ls hW hl
      refine lv_aload_n C.1.1 C.1.2.1 d_Sd_goStraight_121 rfl (lv_at hl 0 rfl) ?_
      refine lv_aload_n C.1.1 C.1.2.1 d_Sd_goStraight_122 rfl (lv_at hl 0 rfl) ?_
      refine x_get C hE hW fl_Sd_15 7 rfl rfl d_Sd_goStraight_123 ?_
      refine lv_iload_n C.1.1 C.1.2.1 d_Sd_goStraight_126 rfl (lv_at hl 1 rfl) ?_
      obtain ⟨x11, hc12, h⟩ := bd_at h
      refine x_callS (ws' := [(aN, .inr (0, [.int N_width, .int N_height, .long N_everywhere, .long N_firstColumn, .long N_lastColumn, .ref aN_grounds, .ref aN_airs, .ref aN_tolds, .ref aN_fees, .ref aN_lets, .int N_makers, .ref aN_kinds, .ref aN_cells, .ref aN_selves, .ref aN_cries, .int N_leaves, .ref aN_parts, .int N_pasts, .ref aN_past])), (aN_grounds, .inl (gJ G, 3, .inr (.inl N_grounds))), (aN_airs, .inl (gJ G, 6, .inr (.inl N_airs))), (aN_kinds, .inl (gI G, 6, .inl N_kinds)), (aN_cells, .inl (gI G, 6, .inl N_cells)), (aN_selves, .inl (gI G, 6, .inl N_selves)), (aN_parts, .inl (gI G, 40, .inl N_parts)), (aS, .inr (2, [.ref aN, .int S_maker, .int S_loud, .int S_hour, .int S_bought, .int S_gone, .ref aS_may, .ref aS_ways, .ref aS_echo, .ref aS_echoes, .long S_straight, .long S_all])), (aS_may, .inl (gJ G, 21, .inr (.inl x7))), (aS_ways, .inl (gJ G, 21, .inr (.inl x10)))]) (stk := [.int x11, .ref aS_ways, .ref aS]) (rest := [.ref aS_ways, .ref aS]) (As := [.int x1]) C hE hW (c_Sd_lessByStep l G x1 hc12) cv_Sd_lessByStep tw603 hl rfl rfl (Nat.le_of_ble_eq_true rfl) ⟨Nat.le_of_ble_eq_true rfl, Nat.le_of_ble_eq_true rfl⟩ ⟨Nat.zero_le _, Nat.zero_le _⟩ [] [0, 1, 2, 3, 4, 5, 6, 7, 8, 9] [0, 1, 2, 3, 4, 5, 6, 7, 8, 9] rfl rfl rfl (by decide) rfl rfl rfl rfl d_Sd_goStraight_127 (fun H locs hW => ?_)
      refine lv_iload_n C.1.1 C.1.2.1 d_Sd_goStraight_130 rfl (lv_at hl 1 rfl) ?_
      obtain ⟨x13, hc14, h⟩ := bd_at h
      refine x_callS (ws' := [(aN, .inr (0, [.int N_width, .int N_height, .long N_everywhere, .long N_firstColumn, .long N_lastColumn, .ref aN_grounds, .ref aN_airs, .ref aN_tolds, .ref aN_fees, .ref aN_lets, .int N_makers, .ref aN_kinds, .ref aN_cells, .ref aN_selves, .ref aN_cries, .int N_leaves, .ref aN_parts, .int N_pasts, .ref aN_past])), (aN_grounds, .inl (gJ G, 3, .inr (.inl N_grounds))), (aN_airs, .inl (gJ G, 6, .inr (.inl N_airs))), (aN_kinds, .inl (gI G, 6, .inl N_kinds)), (aN_cells, .inl (gI G, 6, .inl N_cells)), (aN_selves, .inl (gI G, 6, .inl N_selves)), (aN_parts, .inl (gI G, 40, .inl N_parts)), (aS, .inr (2, [.ref aN, .int S_maker, .int S_loud, .int S_hour, .int S_bought, .int S_gone, .ref aS_may, .ref aS_ways, .ref aS_echo, .ref aS_echoes, .long S_straight, .long S_all])), (aS_may, .inl (gJ G, 21, .inr (.inl x7))), (aS_ways, .inl (gJ G, 21, .inr (.inl x10)))]) (stk := [.int x13, .int x11, .ref aS_ways, .ref aS]) (rest := [.int x11, .ref aS_ways, .ref aS]) (As := [.int x1]) C hE hW (c_Sd_lessFromHedge l G x1 hc14) cv_Sd_lessFromHedge tw606 hl rfl rfl (Nat.le_of_ble_eq_true rfl) ⟨Nat.le_of_ble_eq_true rfl, Nat.le_of_ble_eq_true rfl⟩ ⟨Nat.zero_le _, Nat.zero_le _⟩ [] [0, 1, 2, 3, 4, 5, 6, 7, 8, 9] [0, 1, 2, 3, 4, 5, 6, 7, 8, 9] rfl rfl rfl (by decide) rfl rfl rfl rfl d_Sd_goStraight_131 (fun H locs hW => ?_)
      obtain ⟨x15, hc16, h⟩ := bd_at h
      refine x_callV (ws' := [(aN, .inr (0, [.int N_width, .int N_height, .long N_everywhere, .long N_firstColumn, .long N_lastColumn, .ref aN_grounds, .ref aN_airs, .ref aN_tolds, .ref aN_fees, .ref aN_lets, .int N_makers, .ref aN_kinds, .ref aN_cells, .ref aN_selves, .ref aN_cries, .int N_leaves, .ref aN_parts, .int N_pasts, .ref aN_past])), (aN_grounds, .inl (gJ G, 3, .inr (.inl N_grounds))), (aN_airs, .inl (gJ G, 6, .inr (.inl N_airs))), (aN_kinds, .inl (gI G, 6, .inl N_kinds)), (aN_cells, .inl (gI G, 6, .inl N_cells)), (aN_selves, .inl (gI G, 6, .inl N_selves)), (aN_parts, .inl (gI G, 40, .inl N_parts)), (aS, .inr (2, [.ref aN, .int S_maker, .int S_loud, .int S_hour, .int S_bought, .int S_gone, .ref aS_may, .ref aS_ways, .ref aS_echo, .ref aS_echoes, .long S_straight, .long S_all])), (aS_may, .inl (gJ G, 21, .inr (.inl x7))), (aS_ways, .inl (gJ G, 21, .inr (.inl x15)))]) (stk := []) (rest := []) (As := [.ref aS_ways, .int x11, .int x13]) (q0 := 7) C hE hW (c_Sd_spread l G aN aN_grounds aN_airs aN_tolds aN_fees aN_lets aN_kinds aN_cells aN_selves aN_cries aN_parts aN_past aS aS_may aS_ways aS_echo aS_echoes aS_ways N_width N_height N_everywhere N_firstColumn N_lastColumn N_makers N_leaves N_pasts S_maker S_loud S_hour S_bought S_gone S_straight S_all 21 N_grounds x7 x10 x11 x13 hc16) cv_Sd_spread tw609 hl rfl rfl (Nat.le_of_ble_eq_true rfl) rfl rfl rfl ⟨Nat.le_of_ble_eq_true rfl, Nat.le_of_ble_eq_true rfl⟩ ⟨Nat.zero_le _, Nat.zero_le _⟩ [0, 1, 7, 8, 9] [2, 3, 4, 5, 6] [5, 6, 0, 1, 2, 3, 4, 7, 8, 9] rfl rfl rfl (by decide) rfl rfl rfl rfl d_Sd_goStraight_134 (fun H locs hW => ?_)
      refine lv_aload_n C.1.1 C.1.2.1 d_Sd_goStraight_137 rfl (lv_at hl 0 rfl) ?_
      refine lv_aload_n C.1.1 C.1.2.1 d_Sd_goStraight_138 rfl (lv_at hl 0 rfl) ?_
      refine x_get C hE hW fl_Sd_15 7 rfl rfl d_Sd_goStraight_139 ?_
      obtain ⟨x17, hc18, h⟩ := bd_at h
      refine x_callS (ws' := [(aN, .inr (0, [.int N_width, .int N_height, .long N_everywhere, .long N_firstColumn, .long N_lastColumn, .ref aN_grounds, .ref aN_airs, .ref aN_tolds, .ref aN_fees, .ref aN_lets, .int N_makers, .ref aN_kinds, .ref aN_cells, .ref aN_selves, .ref aN_cries, .int N_leaves, .ref aN_parts, .int N_pasts, .ref aN_past])), (aN_grounds, .inl (gJ G, 3, .inr (.inl N_grounds))), (aN_airs, .inl (gJ G, 6, .inr (.inl N_airs))), (aN_kinds, .inl (gI G, 6, .inl N_kinds)), (aN_cells, .inl (gI G, 6, .inl N_cells)), (aN_selves, .inl (gI G, 6, .inl N_selves)), (aN_parts, .inl (gI G, 40, .inl N_parts)), (aS, .inr (2, [.ref aN, .int S_maker, .int S_loud, .int S_hour, .int S_bought, .int S_gone, .ref aS_may, .ref aS_ways, .ref aS_echo, .ref aS_echoes, .long S_straight, .long S_all])), (aS_may, .inl (gJ G, 21, .inr (.inl x7))), (aS_ways, .inl (gJ G, 21, .inr (.inl x15)))]) (stk := [.long x17, .ref aS]) (rest := [.ref aS]) (As := [.ref aS_ways]) C hE hW (c_Sd_union l G aS_ways 21 x15 hc18) cv_Sd_union tw621 hl rfl rfl (Nat.le_of_ble_eq_true rfl) ⟨Nat.le_of_ble_eq_true rfl, Nat.le_of_ble_eq_true rfl⟩ ⟨Nat.zero_le _, Nat.zero_le _⟩ [9] [0, 1, 2, 3, 4, 5, 6, 7, 8] [0, 1, 2, 3, 4, 5, 6, 7, 8, 9] rfl rfl rfl (by decide) rfl rfl rfl rfl d_Sd_goStraight_142 (fun H locs hW => ?_)
      refine x_put (ws' := [(aN, .inr (0, [.int N_width, .int N_height, .long N_everywhere, .long N_firstColumn, .long N_lastColumn, .ref aN_grounds, .ref aN_airs, .ref aN_tolds, .ref aN_fees, .ref aN_lets, .int N_makers, .ref aN_kinds, .ref aN_cells, .ref aN_selves, .ref aN_cries, .int N_leaves, .ref aN_parts, .int N_pasts, .ref aN_past])), (aN_grounds, .inl (gJ G, 3, .inr (.inl N_grounds))), (aN_airs, .inl (gJ G, 6, .inr (.inl N_airs))), (aN_kinds, .inl (gI G, 6, .inl N_kinds)), (aN_cells, .inl (gI G, 6, .inl N_cells)), (aN_selves, .inl (gI G, 6, .inl N_selves)), (aN_parts, .inl (gI G, 40, .inl N_parts)), (aS, .inr (2, [.ref aN, .int S_maker, .int S_loud, .int S_hour, .int S_bought, .int S_gone, .ref aS_may, .ref aS_ways, .ref aS_echo, .ref aS_echoes, .long x17, .long S_all])), (aS_may, .inl (gJ G, 21, .inr (.inl x7))), (aS_ways, .inl (gJ G, 21, .inr (.inl x15)))]) C hE hW fp_Sd_76 7 rfl rfl rfl (Nat.le_of_ble_eq_true rfl) rfl d_Sd_goStraight_145 (fun H locs hW => ?_)
      obtain rfl := Option.some.inj h
      exact x_vret C hW rfl rfl hQ d_Sd_goStraight_148
    · intro J121 hJ121 h
      refine lv_icmp_lt (tgt := 121) C.1.1 C.1.2.1 d_Sd_goStraight_96 (by decide) (fun cc => ?_) (fun cc => ?_)
      · replace h := it_t cc h
        exact hJ121 _ h _ _ _ hW (lv_sub hl [0, 1] rfl)
      · replace h := it_f cc h
        refine lv_aload_n C.1.1 C.1.2.1 d_Sd_goStraight_99 rfl (lv_at hl 0 rfl) ?_
        refine x_get C hE hW fl_Sd_32 7 rfl rfl d_Sd_goStraight_100 ?_
        refine lv_bipush (v := 20) C.1.1 C.1.2.1 d_Sd_goStraight_103 (by decide) ?_
        refine lv_icmp_gt (tgt := 121) C.1.1 C.1.2.1 d_Sd_goStraight_105 (by decide) (fun cc => ?_) (fun cc => ?_)
        · replace h := it_t cc h
          exact hJ121 _ h _ _ _ hW (lv_sub hl [0, 1] rfl)
        · replace h := it_f cc h
          refine lv_aload_n C.1.1 C.1.2.1 d_Sd_goStraight_108 rfl (lv_at hl 0 rfl) ?_
          refine x_get C hE hW fl_Sd_15 7 rfl rfl d_Sd_goStraight_109 ?_
          refine lv_aload_n C.1.1 C.1.2.1 d_Sd_goStraight_112 rfl (lv_at hl 0 rfl) ?_
          refine x_get C hE hW fl_Sd_32 7 rfl rfl d_Sd_goStraight_113 ?_
          refine lv_aload_n C.1.1 C.1.2.1 d_Sd_goStraight_116 rfl (lv_at hl 0 rfl) ?_
          obtain ⟨x19, hc20, h⟩ := bd_at h
          refine x_callV (ws' := [(aN, .inr (0, [.int N_width, .int N_height, .long N_everywhere, .long N_firstColumn, .long N_lastColumn, .ref aN_grounds, .ref aN_airs, .ref aN_tolds, .ref aN_fees, .ref aN_lets, .int N_makers, .ref aN_kinds, .ref aN_cells, .ref aN_selves, .ref aN_cries, .int N_leaves, .ref aN_parts, .int N_pasts, .ref aN_past])), (aN_grounds, .inl (gJ G, 3, .inr (.inl N_grounds))), (aN_airs, .inl (gJ G, 6, .inr (.inl N_airs))), (aN_kinds, .inl (gI G, 6, .inl N_kinds)), (aN_cells, .inl (gI G, 6, .inl N_cells)), (aN_selves, .inl (gI G, 6, .inl N_selves)), (aN_parts, .inl (gI G, 40, .inl N_parts)), (aS, .inr (2, [.ref aN, .int S_maker, .int S_loud, .int S_hour, .int S_bought, .int S_gone, .ref aS_may, .ref aS_ways, .ref aS_echo, .ref aS_echoes, .long S_straight, .long S_all])), (aS_may, .inl (gJ G, 21, .inr (.inl x7))), (aS_ways, .inl (gJ G, 21, .inr (.inl x8)))]) (stk := [.long x19, .int S_loud, .ref aS_ways]) (rest := [.int S_loud, .ref aS_ways]) (As := []) (q0 := 7) C hE hW (c_Sd_place l G aN aN_grounds aN_airs aN_tolds aN_fees aN_lets aN_kinds aN_cells aN_selves aN_cries aN_parts aN_past aS aS_may aS_ways aS_echo aS_echoes N_width N_height N_everywhere N_firstColumn N_lastColumn N_makers N_leaves N_pasts S_maker S_loud S_hour S_bought S_gone S_straight S_all N_cells hc20) cv_Sd_place tw599 hl rfl rfl (Nat.le_of_ble_eq_true rfl) rfl rfl rfl ⟨Nat.le_of_ble_eq_true rfl, Nat.le_of_ble_eq_true rfl⟩ ⟨Nat.zero_le _, Nat.zero_le _⟩ [0, 4, 7] [1, 2, 3, 5, 6, 8, 9] [7, 0, 1, 2, 8, 3, 4, 9, 5, 6] rfl rfl rfl (by decide) rfl rfl rfl rfl d_Sd_goStraight_117 (fun H locs hW => ?_)
          obtain ⟨hg, h⟩ := gd_at h
          obtain ⟨x21, ex21⟩ : ∃ y : Nat → Int64, y = vp_updL x8 S_loud.toNatClampNeg x19 := ⟨_, rfl⟩
          replace h := lt_at ex21 h
          refine x_last (ws' := [(aN, .inr (0, [.int N_width, .int N_height, .long N_everywhere, .long N_firstColumn, .long N_lastColumn, .ref aN_grounds, .ref aN_airs, .ref aN_tolds, .ref aN_fees, .ref aN_lets, .int N_makers, .ref aN_kinds, .ref aN_cells, .ref aN_selves, .ref aN_cries, .int N_leaves, .ref aN_parts, .int N_pasts, .ref aN_past])), (aN_grounds, .inl (gJ G, 3, .inr (.inl N_grounds))), (aN_airs, .inl (gJ G, 6, .inr (.inl N_airs))), (aN_kinds, .inl (gI G, 6, .inl N_kinds)), (aN_cells, .inl (gI G, 6, .inl N_cells)), (aN_selves, .inl (gI G, 6, .inl N_selves)), (aN_parts, .inl (gI G, 40, .inl N_parts)), (aS, .inr (2, [.ref aN, .int S_maker, .int S_loud, .int S_hour, .int S_bought, .int S_gone, .ref aS_may, .ref aS_ways, .ref aS_echo, .ref aS_echoes, .long S_straight, .long S_all])), (aS_may, .inl (gJ G, 21, .inr (.inl x7))), (aS_ways, .inl (gJ G, 21, .inr (.inl x21)))]) C hE hW 9 rfl (inB_in hg) (by subst ex21; rfl) d_Sd_goStraight_120 (fun H locs hW => ?_)
          exact hJ121 _ h _ _ _ hW (lv_sub hl [0, 1] rfl)
  · intro J83 hJ83 h
    refine lp_at (P := fun ((x22, x23) : Int32 × (Nat → Int64)) => ∀ (H : Heap) (locs : List Loc) (ls : Array Slot), Wd G A s.heap H locs [(aN, .inr (0, [.int N_width, .int N_height, .long N_everywhere, .long N_firstColumn, .long N_lastColumn, .ref aN_grounds, .ref aN_airs, .ref aN_tolds, .ref aN_fees, .ref aN_lets, .int N_makers, .ref aN_kinds, .ref aN_cells, .ref aN_selves, .ref aN_cries, .int N_leaves, .ref aN_parts, .int N_pasts, .ref aN_past])), (aN_grounds, .inl (gJ G, 3, .inr (.inl N_grounds))), (aN_airs, .inl (gJ G, 6, .inr (.inl N_airs))), (aN_kinds, .inl (gI G, 6, .inl N_kinds)), (aN_cells, .inl (gI G, 6, .inl N_cells)), (aN_selves, .inl (gI G, 6, .inl N_selves)), (aN_parts, .inl (gI G, 40, .inl N_parts)), (aS, .inr (2, [.ref aN, .int S_maker, .int S_loud, .int S_hour, .int S_bought, .int S_gone, .ref aS_may, .ref aS_ways, .ref aS_echo, .ref aS_echoes, .long S_straight, .long S_all])), (aS_may, .inl (gJ G, 21, .inr (.inl x23))), (aS_ways, .inl (gJ G, 21, .inr (.inl S_ways)))] → lv_has ls 4 [(0, .ref aS), (1, .int p1), (2, .int x1), (3, .int x22)] → W p l e (RM 3 76) s m args below meth c H locs 0 0 Q (F0 m 26 ls [])) ?_ FU _ h _ _ _ hW (lv_sub hl [2, 3, 1, 0] rfl)
    clear h hl hW
    intro rec26 ih26
    intro x h
    obtain ⟨x22, x23⟩ := x
    unfold f_Sd_goStraight_L26 at h
    intro H locs ls hW hl
    refine lv_iload_n C.1.1 C.1.2.1 d_Sd_goStraight_26 rfl (lv_at hl 3 rfl) ?_
    refine lv_bipush (v := 20) C.1.1 C.1.2.1 d_Sd_goStraight_27 (by decide) ?_
    refine lv_icmp_gt (tgt := 83) C.1.1 C.1.2.1 d_Sd_goStraight_29 (by decide) (fun cc => ?_) (fun cc => ?_)
    · replace h := it_t cc h
      exact hJ83 _ h _ _ _ hW (lv_sub hl [0, 2] rfl)
    · replace h := it_f cc h
      refine lv_iload_n C.1.1 C.1.2.1 d_Sd_goStraight_32 rfl (lv_at hl 3 rfl) ?_
      refine lv_iload_n C.1.1 C.1.2.1 d_Sd_goStraight_33 rfl (lv_at hl 1 rfl) ?_
      refine jn_at (P := fun (x24 : Nat → Int64) => ∀ (H : Heap) (locs : List Loc) (ls : Array Slot), Wd G A s.heap H locs [(aN, .inr (0, [.int N_width, .int N_height, .long N_everywhere, .long N_firstColumn, .long N_lastColumn, .ref aN_grounds, .ref aN_airs, .ref aN_tolds, .ref aN_fees, .ref aN_lets, .int N_makers, .ref aN_kinds, .ref aN_cells, .ref aN_selves, .ref aN_cries, .int N_leaves, .ref aN_parts, .int N_pasts, .ref aN_past])), (aN_grounds, .inl (gJ G, 3, .inr (.inl N_grounds))), (aN_airs, .inl (gJ G, 6, .inr (.inl N_airs))), (aN_kinds, .inl (gI G, 6, .inl N_kinds)), (aN_cells, .inl (gI G, 6, .inl N_cells)), (aN_selves, .inl (gI G, 6, .inl N_selves)), (aN_parts, .inl (gI G, 40, .inl N_parts)), (aS, .inr (2, [.ref aN, .int S_maker, .int S_loud, .int S_hour, .int S_bought, .int S_gone, .ref aS_may, .ref aS_ways, .ref aS_echo, .ref aS_echoes, .long S_straight, .long S_all])), (aS_may, .inl (gJ G, 21, .inr (.inl x24))), (aS_ways, .inl (gJ G, 21, .inr (.inl S_ways)))] → lv_has ls 4 [(0, .ref aS), (1, .int p1), (2, .int x1), (3, .int x22)] → W p l e (RM 3 76) s m args below meth c H locs 0 0 Q (F0 m 50 ls [])) h ?_ ?_
      · skip
        intro x24 h
        intro H locs ls hW hl
        refine lv_iload_n C.1.1 C.1.2.1 d_Sd_goStraight_50 rfl (lv_at hl 2 rfl) ?_
        refine lv_iconst (v := 3) C.1.1 C.1.2.1 d_Sd_goStraight_51 (by decide) ?_
        refine jn_at (P := fun (x25 : Nat → Int64) => ∀ (H : Heap) (locs : List Loc) (ls : Array Slot), Wd G A s.heap H locs [(aN, .inr (0, [.int N_width, .int N_height, .long N_everywhere, .long N_firstColumn, .long N_lastColumn, .ref aN_grounds, .ref aN_airs, .ref aN_tolds, .ref aN_fees, .ref aN_lets, .int N_makers, .ref aN_kinds, .ref aN_cells, .ref aN_selves, .ref aN_cries, .int N_leaves, .ref aN_parts, .int N_pasts, .ref aN_past])), (aN_grounds, .inl (gJ G, 3, .inr (.inl N_grounds))), (aN_airs, .inl (gJ G, 6, .inr (.inl N_airs))), (aN_kinds, .inl (gI G, 6, .inl N_kinds)), (aN_cells, .inl (gI G, 6, .inl N_cells)), (aN_selves, .inl (gI G, 6, .inl N_selves)), (aN_parts, .inl (gI G, 40, .inl N_parts)), (aS, .inr (2, [.ref aN, .int S_maker, .int S_loud, .int S_hour, .int S_bought, .int S_gone, .ref aS_may, .ref aS_ways, .ref aS_echo, .ref aS_echoes, .long S_straight, .long S_all])), (aS_may, .inl (gJ G, 21, .inr (.inl x25))), (aS_ways, .inl (gJ G, 21, .inr (.inl S_ways)))] → lv_has ls 4 [(0, .ref aS), (1, .int p1), (2, .int x1), (3, .int x22)] → W p l e (RM 3 76) s m args below meth c H locs 0 0 Q (F0 m 77 ls [])) h ?_ ?_
        · skip
          intro x25 h
          intro H locs ls hW hl
          obtain ⟨x26, ex26⟩ : ∃ y : Int32, y = x22 + 1 := ⟨_, rfl⟩
          replace h := lt_at ex26 h
          refine lv_iinc (v := x26) (lv' := [(3, .int x26), (0, .ref aS), (1, .int p1), (2, .int x1)]) C.1.1 C.1.2.1 d_Sd_goStraight_77 hl (k := 3) rfl (by rw [ex26]; rfl) (by decide) rfl (fun ls hl => ?_)
          refine lv_goto (tgt := 26) C.1.1 C.1.2.1 d_Sd_goStraight_80 (by decide) ?_
          exact ih26 _ h _ _ _ hW (lv_sub hl [1, 2, 3, 0] rfl)
        · intro J77 hJ77 h
          refine lv_icmp_ne (tgt := 77) C.1.1 C.1.2.1 d_Sd_goStraight_52 (by decide) (fun cc => ?_) (fun cc => ?_)
          · replace h := it_f cc h
            exact hJ77 _ h _ _ _ hW (lv_sub hl [0, 1, 2, 3] rfl)
          · replace h := it_t cc h
            refine lv_aload_n C.1.1 C.1.2.1 d_Sd_goStraight_55 rfl (lv_at hl 0 rfl) ?_
            refine x_get C hE hW fl_Sd_9 7 rfl rfl d_Sd_goStraight_56 ?_
            refine lv_iload_n C.1.1 C.1.2.1 d_Sd_goStraight_59 rfl (lv_at hl 3 rfl) ?_
            refine lv_dup2_11 C.1.1 C.1.2.1 d_Sd_goStraight_60 rfl rfl ?_
            obtain ⟨hg, h⟩ := gd_at h
            refine x_lald C hE hW 8 rfl (inB_in hg) d_Sd_goStraight_61 ?_
            refine lv_aload_n C.1.1 C.1.2.1 d_Sd_goStraight_62 rfl (lv_at hl 0 rfl) ?_
            refine x_get C hE hW fl_Sd_24 7 rfl rfl d_Sd_goStraight_63 ?_
            refine x_get C hE hW fl_Sd_110 0 rfl rfl d_Sd_goStraight_66 ?_
            refine lv_iconst (v := 1) C.1.1 C.1.2.1 d_Sd_goStraight_69 (by decide) ?_
            refine x_lald C hE hW 1 rfl (inB_in (by decide)) d_Sd_goStraight_70 ?_
            refine lv_ldc2 (own := "LentAir$Sound") (v := (-1)) C.1.1 C.1.2.1 C.1.2.2.2.1 (C.w tw598) d_Sd_goStraight_71 ?_
            refine lv_lxor C.1.1 C.1.2.1 d_Sd_goStraight_74 ?_
            refine lv_land C.1.1 C.1.2.1 d_Sd_goStraight_75 ?_
            obtain ⟨hg, h⟩ := gd_at h
            obtain ⟨x27, ex27⟩ : ∃ y : Nat → Int64, y = vp_updL x24 x22.toNatClampNeg ((x24 x22.toNatClampNeg) &&& ((N_grounds (1 : Int32).toNatClampNeg) ^^^ (-1))) := ⟨_, rfl⟩
            replace h := lt_at ex27 h
            refine x_last (ws' := [(aN, .inr (0, [.int N_width, .int N_height, .long N_everywhere, .long N_firstColumn, .long N_lastColumn, .ref aN_grounds, .ref aN_airs, .ref aN_tolds, .ref aN_fees, .ref aN_lets, .int N_makers, .ref aN_kinds, .ref aN_cells, .ref aN_selves, .ref aN_cries, .int N_leaves, .ref aN_parts, .int N_pasts, .ref aN_past])), (aN_grounds, .inl (gJ G, 3, .inr (.inl N_grounds))), (aN_airs, .inl (gJ G, 6, .inr (.inl N_airs))), (aN_kinds, .inl (gI G, 6, .inl N_kinds)), (aN_cells, .inl (gI G, 6, .inl N_cells)), (aN_selves, .inl (gI G, 6, .inl N_selves)), (aN_parts, .inl (gI G, 40, .inl N_parts)), (aS, .inr (2, [.ref aN, .int S_maker, .int S_loud, .int S_hour, .int S_bought, .int S_gone, .ref aS_may, .ref aS_ways, .ref aS_echo, .ref aS_echoes, .long S_straight, .long S_all])), (aS_may, .inl (gJ G, 21, .inr (.inl x27))), (aS_ways, .inl (gJ G, 21, .inr (.inl S_ways)))]) C hE hW 8 rfl (inB_in hg) (by subst ex27; rfl) d_Sd_goStraight_76 (fun H locs hW => ?_)
            exact hJ77 _ h _ _ _ hW (lv_sub hl [0, 1, 2, 3] rfl)
      · intro J50 hJ50 h
        refine lv_icmp_gt (tgt := 50) C.1.1 C.1.2.1 d_Sd_goStraight_34 (by decide) (fun cc => ?_) (fun cc => ?_)
        · replace h := it_t cc h
          exact hJ50 _ h _ _ _ hW (lv_sub hl [0, 1, 2, 3] rfl)
        · replace h := it_f cc h
          refine lv_aload_n C.1.1 C.1.2.1 d_Sd_goStraight_37 rfl (lv_at hl 0 rfl) ?_
          refine x_get C hE hW fl_Sd_9 7 rfl rfl d_Sd_goStraight_38 ?_
          refine lv_iload_n C.1.1 C.1.2.1 d_Sd_goStraight_41 rfl (lv_at hl 3 rfl) ?_
          refine lv_aload_n C.1.1 C.1.2.1 d_Sd_goStraight_42 rfl (lv_at hl 0 rfl) ?_
          refine x_get C hE hW fl_Sd_24 7 rfl rfl d_Sd_goStraight_43 ?_
          refine x_get C hE hW fl_Sd_123 0 rfl rfl d_Sd_goStraight_46 ?_
          obtain ⟨hg, h⟩ := gd_at h
          obtain ⟨x28, ex28⟩ : ∃ y : Nat → Int64, y = vp_updL x23 x22.toNatClampNeg N_everywhere := ⟨_, rfl⟩
          replace h := lt_at ex28 h
          refine x_last (ws' := [(aN, .inr (0, [.int N_width, .int N_height, .long N_everywhere, .long N_firstColumn, .long N_lastColumn, .ref aN_grounds, .ref aN_airs, .ref aN_tolds, .ref aN_fees, .ref aN_lets, .int N_makers, .ref aN_kinds, .ref aN_cells, .ref aN_selves, .ref aN_cries, .int N_leaves, .ref aN_parts, .int N_pasts, .ref aN_past])), (aN_grounds, .inl (gJ G, 3, .inr (.inl N_grounds))), (aN_airs, .inl (gJ G, 6, .inr (.inl N_airs))), (aN_kinds, .inl (gI G, 6, .inl N_kinds)), (aN_cells, .inl (gI G, 6, .inl N_cells)), (aN_selves, .inl (gI G, 6, .inl N_selves)), (aN_parts, .inl (gI G, 40, .inl N_parts)), (aS, .inr (2, [.ref aN, .int S_maker, .int S_loud, .int S_hour, .int S_bought, .int S_gone, .ref aS_may, .ref aS_ways, .ref aS_echo, .ref aS_echoes, .long S_straight, .long S_all])), (aS_may, .inl (gJ G, 21, .inr (.inl x28))), (aS_ways, .inl (gJ G, 21, .inr (.inl S_ways)))]) C hE hW 8 rfl (inB_in hg) (by subst ex28; rfl) d_Sd_goStraight_49 (fun H locs hW => ?_)
          exact hJ50 _ h _ _ _ hW (lv_sub hl [0, 1, 2, 3] rfl)
set_option maxHeartbeats 4000000 in
set_option maxRecDepth 100000 in
theorem c_Sd_cliffs (l : Launch) (G : Gl) (aN : Nat) (aN_grounds : Nat) (aN_airs : Nat) (aN_tolds : Nat) (aN_fees : Nat) (aN_lets : Nat) (aN_kinds : Nat) (aN_cells : Nat) (aN_selves : Nat) (aN_cries : Nat) (aN_parts : Nat) (aN_past : Nat) (aS : Nat) (aS_may : Nat) (aS_ways : Nat) (aS_echo : Nat) (aS_echoes : Nat) (N_width : Int32) (N_height : Int32) (N_everywhere : Int64) (N_firstColumn : Int64) (N_lastColumn : Int64) (N_makers : Int32) (N_leaves : Int32) (N_pasts : Int32) (S_maker : Int32) (S_loud : Int32) (S_hour : Int32) (S_bought : Int32) (S_gone : Int32) (S_straight : Int64) (S_all : Int64) (N_grounds : Nat → Int64) (N_cells : Nat → Int32) {res : Int64} (h : f_Sd_cliffs N_makers S_maker S_straight N_grounds N_cells = some res) : Ct l y_Sd_cliffs b_Sd_cliffs 1 (some .long) 1 20 G [.ref aS] [(aN, .inr (0, [.int N_width, .int N_height, .long N_everywhere, .long N_firstColumn, .long N_lastColumn, .ref aN_grounds, .ref aN_airs, .ref aN_tolds, .ref aN_fees, .ref aN_lets, .int N_makers, .ref aN_kinds, .ref aN_cells, .ref aN_selves, .ref aN_cries, .int N_leaves, .ref aN_parts, .int N_pasts, .ref aN_past])), (aN_grounds, .inl (gJ G, 3, .inr (.inl N_grounds))), (aN_cells, .inl (gI G, 6, .inl N_cells)), (aS, .inr (2, [.ref aN, .int S_maker, .int S_loud, .int S_hour, .int S_bought, .int S_gone, .ref aS_may, .ref aS_ways, .ref aS_echo, .ref aS_echoes, .long S_straight, .long S_all]))] (some (.long res)) [(aN, .inr (0, [.int N_width, .int N_height, .long N_everywhere, .long N_firstColumn, .long N_lastColumn, .ref aN_grounds, .ref aN_airs, .ref aN_tolds, .ref aN_fees, .ref aN_lets, .int N_makers, .ref aN_kinds, .ref aN_cells, .ref aN_selves, .ref aN_cries, .int N_leaves, .ref aN_parts, .int N_pasts, .ref aN_past])), (aN_grounds, .inl (gJ G, 3, .inr (.inl N_grounds))), (aN_cells, .inl (gI G, 6, .inl N_cells)), (aS, .inr (2, [.ref aN, .int S_maker, .int S_loud, .int S_hour, .int S_bought, .int S_gone, .ref aS_may, .ref aS_ways, .ref aS_echo, .ref aS_echoes, .long S_straight, .long S_all]))] := by
  refine Ct.mk (by decide) (Nat.le_of_ble_eq_true rfl) ?_
  intro p e s m args below meth c ls A Q C hE hW hl hQ
  have C : Cx p s args m c meth "LentAir$Sound" y_Sd_cliffs b_Sd_cliffs 1 (some .long) := C
  have hl : lv_has ls 1 [(0, .ref aS)] := hl
  unfold f_Sd_cliffs at h
  refine lv_aload_n C.1.1 C.1.2.1 d_Sd_cliffs_0 rfl (lv_at hl 0 rfl) ?_
  refine x_get C hE hW fl_Sd_76 3 rfl rfl d_Sd_cliffs_1 ?_
  refine lv_aload_n C.1.1 C.1.2.1 d_Sd_cliffs_4 rfl (lv_at hl 0 rfl) ?_
  refine x_get C hE hW fl_Sd_24 3 rfl rfl d_Sd_cliffs_5 ?_
  refine x_get C hE hW fl_Sd_110 0 rfl rfl d_Sd_cliffs_8 ?_
  refine lv_iconst (v := 2) C.1.1 C.1.2.1 d_Sd_cliffs_11 (by decide) ?_
  refine x_lald C hE hW 1 rfl (inB_in (by decide)) d_Sd_cliffs_12 ?_
  refine lv_land C.1.1 C.1.2.1 d_Sd_cliffs_13 ?_
  refine lv_aload_n C.1.1 C.1.2.1 d_Sd_cliffs_14 rfl (lv_at hl 0 rfl) ?_
  obtain ⟨x1, hc2, h⟩ := bd_at h
  refine x_callV (ws' := [(aN, .inr (0, [.int N_width, .int N_height, .long N_everywhere, .long N_firstColumn, .long N_lastColumn, .ref aN_grounds, .ref aN_airs, .ref aN_tolds, .ref aN_fees, .ref aN_lets, .int N_makers, .ref aN_kinds, .ref aN_cells, .ref aN_selves, .ref aN_cries, .int N_leaves, .ref aN_parts, .int N_pasts, .ref aN_past])), (aN_grounds, .inl (gJ G, 3, .inr (.inl N_grounds))), (aN_cells, .inl (gI G, 6, .inl N_cells)), (aS, .inr (2, [.ref aN, .int S_maker, .int S_loud, .int S_hour, .int S_bought, .int S_gone, .ref aS_may, .ref aS_ways, .ref aS_echo, .ref aS_echoes, .long S_straight, .long S_all]))]) (stk := [.long x1, .long (S_straight &&& (N_grounds (2 : Int32).toNatClampNeg))]) (rest := [.long (S_straight &&& (N_grounds (2 : Int32).toNatClampNeg))]) (As := []) (q0 := 3) C hE hW (c_Sd_place l G aN aN_grounds aN_airs aN_tolds aN_fees aN_lets aN_kinds aN_cells aN_selves aN_cries aN_parts aN_past aS aS_may aS_ways aS_echo aS_echoes N_width N_height N_everywhere N_firstColumn N_lastColumn N_makers N_leaves N_pasts S_maker S_loud S_hour S_bought S_gone S_straight S_all N_cells hc2) cv_Sd_place tw599 hl rfl rfl (Nat.le_of_ble_eq_true rfl) rfl rfl rfl ⟨Nat.le_of_ble_eq_true rfl, Nat.le_of_ble_eq_true rfl⟩ ⟨Nat.zero_le _, Nat.zero_le _⟩ [0, 2, 3] [1] [1, 0, 2, 3] rfl rfl rfl (by decide) rfl rfl rfl rfl d_Sd_cliffs_15 (fun H locs hW => ?_)
  refine lv_ldc2 (own := "LentAir$Sound") (v := (-1)) C.1.1 C.1.2.1 C.1.2.2.2.1 (C.w tw598) d_Sd_cliffs_18 ?_
  refine lv_lxor C.1.1 C.1.2.1 d_Sd_cliffs_21 ?_
  refine lv_land C.1.1 C.1.2.1 d_Sd_cliffs_22 ?_
  obtain rfl := Option.some.inj h
  exact x_lret C hW rfl rfl hQ d_Sd_cliffs_23
set_option maxHeartbeats 4000000 in
set_option maxRecDepth 100000 in
theorem c_Sd_giveBack (l : Launch) (G : Gl) (aN : Nat) (aN_grounds : Nat) (aN_airs : Nat) (aN_tolds : Nat) (aN_fees : Nat) (aN_lets : Nat) (aN_kinds : Nat) (aN_cells : Nat) (aN_selves : Nat) (aN_cries : Nat) (aN_parts : Nat) (aN_past : Nat) (aS : Nat) (aS_may : Nat) (aS_ways : Nat) (aS_echo : Nat) (aS_echoes : Nat) (N_width : Int32) (N_height : Int32) (N_everywhere : Int64) (N_firstColumn : Int64) (N_lastColumn : Int64) (N_makers : Int32) (N_leaves : Int32) (N_pasts : Int32) (S_maker : Int32) (S_loud : Int32) (S_hour : Int32) (S_bought : Int32) (S_gone : Int32) (S_straight : Int64) (S_all : Int64) (N_grounds : Nat → Int64) (N_airs : Nat → Int64) (N_selves : Nat → Int32) (N_parts : Nat → Int32) (S_may : Nat → Int64) (S_ways : Nat → Int64) (S_echo : Nat → Int64) (S_echoes : Nat → Int64) (p1 : Int64) (p2 : Int32) {res : (Nat → Int64) × (Nat → Int64) × (Nat → Int64)} (h : f_Sd_giveBack N_width N_everywhere N_firstColumn N_lastColumn N_makers N_leaves S_maker S_hour S_bought S_gone N_grounds N_airs N_selves N_parts S_may S_ways S_echo S_echoes p1 p2 = some res) : Ct l y_Sd_giveBack b_Sd_giveBack 7 none 3 76 G [.ref aS, .long p1, .int p2] [(aN, .inr (0, [.int N_width, .int N_height, .long N_everywhere, .long N_firstColumn, .long N_lastColumn, .ref aN_grounds, .ref aN_airs, .ref aN_tolds, .ref aN_fees, .ref aN_lets, .int N_makers, .ref aN_kinds, .ref aN_cells, .ref aN_selves, .ref aN_cries, .int N_leaves, .ref aN_parts, .int N_pasts, .ref aN_past])), (aN_grounds, .inl (gJ G, 3, .inr (.inl N_grounds))), (aN_airs, .inl (gJ G, 6, .inr (.inl N_airs))), (aN_selves, .inl (gI G, 6, .inl N_selves)), (aN_parts, .inl (gI G, 40, .inl N_parts)), (aS, .inr (2, [.ref aN, .int S_maker, .int S_loud, .int S_hour, .int S_bought, .int S_gone, .ref aS_may, .ref aS_ways, .ref aS_echo, .ref aS_echoes, .long S_straight, .long S_all])), (aS_may, .inl (gJ G, 21, .inr (.inl S_may))), (aS_ways, .inl (gJ G, 21, .inr (.inl S_ways))), (aS_echo, .inl (gJ G, 21, .inr (.inl S_echo))), (aS_echoes, .inl (gJ G, 21, .inr (.inl S_echoes)))] none [(aN, .inr (0, [.int N_width, .int N_height, .long N_everywhere, .long N_firstColumn, .long N_lastColumn, .ref aN_grounds, .ref aN_airs, .ref aN_tolds, .ref aN_fees, .ref aN_lets, .int N_makers, .ref aN_kinds, .ref aN_cells, .ref aN_selves, .ref aN_cries, .int N_leaves, .ref aN_parts, .int N_pasts, .ref aN_past])), (aN_grounds, .inl (gJ G, 3, .inr (.inl N_grounds))), (aN_airs, .inl (gJ G, 6, .inr (.inl N_airs))), (aN_selves, .inl (gI G, 6, .inl N_selves)), (aN_parts, .inl (gI G, 40, .inl N_parts)), (aS, .inr (2, [.ref aN, .int S_maker, .int S_loud, .int S_hour, .int S_bought, .int S_gone, .ref aS_may, .ref aS_ways, .ref aS_echo, .ref aS_echoes, .long S_straight, .long S_all])), (aS_may, .inl (gJ G, 21, .inr (.inl (res.1)))), (aS_ways, .inl (gJ G, 21, .inr (.inl S_ways))), (aS_echo, .inl (gJ G, 21, .inr (.inl (res.2.1)))), (aS_echoes, .inl (gJ G, 21, .inr (.inl (res.2.2))))] := by
  refine Ct.mk (by decide) (Nat.le_of_ble_eq_true rfl) ?_
  intro p e s m args below meth c ls A Q C hE hW hl hQ
  have C : Cx p s args m c meth "LentAir$Sound" y_Sd_giveBack b_Sd_giveBack 7 none := C
  have hl : lv_has ls 7 [(0, .ref aS), (1, .long p1), (3, .int p2)] := hl
  unfold f_Sd_giveBack at h
  refine lv_lload_n C.1.1 C.1.2.1 d_Sd_giveBack_0 rfl (lv_at hl 1 rfl) ?_
  refine lv_lconst (v := 0) C.1.1 C.1.2.1 d_Sd_giveBack_1 (by decide) ?_
  refine W.lcmp C.1.1 C.1.2.1 d_Sd_giveBack_2 ?_
  refine lv_if_ne (tgt := 7) C.1.1 C.1.2.1 d_Sd_giveBack_3 (by decide) (fun cc => ?_) (fun cc => ?_)
  · replace h := it_f cc h
    refine lv_aload_n C.1.1 C.1.2.1 d_Sd_giveBack_7 rfl (lv_at hl 0 rfl) ?_
    refine x_get C hE hW fl_Sd_18 5 rfl rfl d_Sd_giveBack_8 ?_
    refine lv_lconst (v := 0) C.1.1 C.1.2.1 d_Sd_giveBack_11 (by decide) ?_
    obtain ⟨x1, hc2, h⟩ := bd_at h
    refine x_callS (ws' := [(aN, .inr (0, [.int N_width, .int N_height, .long N_everywhere, .long N_firstColumn, .long N_lastColumn, .ref aN_grounds, .ref aN_airs, .ref aN_tolds, .ref aN_fees, .ref aN_lets, .int N_makers, .ref aN_kinds, .ref aN_cells, .ref aN_selves, .ref aN_cries, .int N_leaves, .ref aN_parts, .int N_pasts, .ref aN_past])), (aN_grounds, .inl (gJ G, 3, .inr (.inl N_grounds))), (aN_airs, .inl (gJ G, 6, .inr (.inl N_airs))), (aN_selves, .inl (gI G, 6, .inl N_selves)), (aN_parts, .inl (gI G, 40, .inl N_parts)), (aS, .inr (2, [.ref aN, .int S_maker, .int S_loud, .int S_hour, .int S_bought, .int S_gone, .ref aS_may, .ref aS_ways, .ref aS_echo, .ref aS_echoes, .long S_straight, .long S_all])), (aS_may, .inl (gJ G, 21, .inr (.inl S_may))), (aS_ways, .inl (gJ G, 21, .inr (.inl S_ways))), (aS_echo, .inl (gJ G, 21, .inr (.inl x1))), (aS_echoes, .inl (gJ G, 21, .inr (.inl S_echoes)))]) (stk := []) (rest := []) (As := [.ref aS_echo, .long 0]) C hE hW (c_JA_fillJ l G aS_echo 21 S_echo 0 hc2) cv_JA_fillJ tw585 hl rfl rfl (Nat.le_of_ble_eq_true rfl) ⟨Nat.le_of_ble_eq_true rfl, Nat.le_of_ble_eq_true rfl⟩ ⟨Nat.zero_le _, Nat.zero_le _⟩ [8] [0, 1, 2, 3, 4, 5, 6, 7, 9] [0, 1, 2, 3, 4, 5, 6, 7, 9, 8] rfl rfl rfl (by decide) rfl rfl rfl rfl d_Sd_giveBack_12 (fun H locs hW => ?_)
    refine lv_lload_n C.1.1 C.1.2.1 d_Sd_giveBack_15 rfl (lv_at hl 1 rfl) ?_
    refine lv_lstore (lv' := [(4, .long p1), (0, .ref aS), (1, .long p1), (3, .int p2)]) C.1.1 C.1.2.1 d_Sd_giveBack_16 hl (by decide) rfl (fun ls hl => ?_)
    refine lv_bipush (v := 20) C.1.1 C.1.2.1 d_Sd_giveBack_18 (by decide) ?_
    refine lv_istore (lv' := [(6, .int 20), (4, .long p1), (0, .ref aS), (1, .long p1), (3, .int p2)]) C.1.1 C.1.2.1 d_Sd_giveBack_20 hl (by decide) rfl (fun ls hl => ?_)
    refine jn_at (P := fun (x3 : Nat → Int64) => ∀ (H : Heap) (locs : List Loc) (ls : Array Slot), Wd G A s.heap H locs [(aN, .inr (0, [.int N_width, .int N_height, .long N_everywhere, .long N_firstColumn, .long N_lastColumn, .ref aN_grounds, .ref aN_airs, .ref aN_tolds, .ref aN_fees, .ref aN_lets, .int N_makers, .ref aN_kinds, .ref aN_cells, .ref aN_selves, .ref aN_cries, .int N_leaves, .ref aN_parts, .int N_pasts, .ref aN_past])), (aN_grounds, .inl (gJ G, 3, .inr (.inl N_grounds))), (aN_airs, .inl (gJ G, 6, .inr (.inl N_airs))), (aN_selves, .inl (gI G, 6, .inl N_selves)), (aN_parts, .inl (gI G, 40, .inl N_parts)), (aS, .inr (2, [.ref aN, .int S_maker, .int S_loud, .int S_hour, .int S_bought, .int S_gone, .ref aS_may, .ref aS_ways, .ref aS_echo, .ref aS_echoes, .long S_straight, .long S_all])), (aS_may, .inl (gJ G, 21, .inr (.inl S_may))), (aS_ways, .inl (gJ G, 21, .inr (.inl S_ways))), (aS_echo, .inl (gJ G, 21, .inr (.inl x3))), (aS_echoes, .inl (gJ G, 21, .inr (.inl S_echoes)))] → lv_has ls 7 [(0, .ref aS), (3, .int p2)] → W p l e (RM 3 76) s m args below meth c H locs 0 0 Q (F0 m 72 ls [])) h ?_ ?_
    · skip
      intro x3 h
      intro H locs ls hW hl
      refine lv_aload_n C.1.1 C.1.2.1 d_Sd_giveBack_72 rfl (lv_at hl 0 rfl) ?_
      refine lv_iload_n C.1.1 C.1.2.1 d_Sd_giveBack_73 rfl (lv_at hl 1 rfl) ?_
      refine lv_iconst (v := (-1)) C.1.1 C.1.2.1 d_Sd_giveBack_74 (by decide) ?_
      obtain ⟨x4, hc5, h⟩ := bd_at h
      refine x_callV (ws' := [(aN, .inr (0, [.int N_width, .int N_height, .long N_everywhere, .long N_firstColumn, .long N_lastColumn, .ref aN_grounds, .ref aN_airs, .ref aN_tolds, .ref aN_fees, .ref aN_lets, .int N_makers, .ref aN_kinds, .ref aN_cells, .ref aN_selves, .ref aN_cries, .int N_leaves, .ref aN_parts, .int N_pasts, .ref aN_past])), (aN_grounds, .inl (gJ G, 3, .inr (.inl N_grounds))), (aN_airs, .inl (gJ G, 6, .inr (.inl N_airs))), (aN_selves, .inl (gI G, 6, .inl N_selves)), (aN_parts, .inl (gI G, 40, .inl N_parts)), (aS, .inr (2, [.ref aN, .int S_maker, .int S_loud, .int S_hour, .int S_bought, .int S_gone, .ref aS_may, .ref aS_ways, .ref aS_echo, .ref aS_echoes, .long S_straight, .long S_all])), (aS_may, .inl (gJ G, 21, .inr (.inl x4))), (aS_ways, .inl (gJ G, 21, .inr (.inl S_ways))), (aS_echo, .inl (gJ G, 21, .inr (.inl x3))), (aS_echoes, .inl (gJ G, 21, .inr (.inl S_echoes)))]) (stk := []) (rest := []) (As := [.int p2, .int (-1)]) (q0 := 5) C hE hW (c_Sd_allow l G aN aN_grounds aN_airs aN_tolds aN_fees aN_lets aN_kinds aN_cells aN_selves aN_cries aN_parts aN_past aS aS_may aS_ways aS_echo aS_echoes N_width N_height N_everywhere N_firstColumn N_lastColumn N_makers N_leaves N_pasts S_maker S_loud S_hour S_bought S_gone S_straight S_all N_airs N_selves N_parts S_may p2 (-1) hc5) cv_Sd_allow tw581 hl rfl rfl (Nat.le_of_ble_eq_true rfl) rfl rfl rfl ⟨Nat.le_of_ble_eq_true rfl, Nat.le_of_ble_eq_true rfl⟩ ⟨Nat.zero_le _, Nat.zero_le _⟩ [0, 2, 3, 4, 5, 6] [1, 7, 8, 9] [4, 0, 5, 6, 7, 8, 9, 1, 2, 3] rfl rfl rfl (by decide) rfl rfl rfl rfl d_Sd_giveBack_75 (fun H locs hW => ?_)
      refine lv_aload_n C.1.1 C.1.2.1 d_Sd_giveBack_78 rfl (lv_at hl 0 rfl) ?_
      refine lv_aload_n C.1.1 C.1.2.1 d_Sd_giveBack_79 rfl (lv_at hl 0 rfl) ?_
      refine x_get C hE hW fl_Sd_18 5 rfl rfl d_Sd_giveBack_80 ?_
      refine lv_iconst (v := 1) C.1.1 C.1.2.1 d_Sd_giveBack_83 (by decide) ?_
      refine lv_iconst (v := 0) C.1.1 C.1.2.1 d_Sd_giveBack_84 (by decide) ?_
      obtain ⟨x6, hc7, h⟩ := bd_at h
      refine x_callV (ws' := [(aN, .inr (0, [.int N_width, .int N_height, .long N_everywhere, .long N_firstColumn, .long N_lastColumn, .ref aN_grounds, .ref aN_airs, .ref aN_tolds, .ref aN_fees, .ref aN_lets, .int N_makers, .ref aN_kinds, .ref aN_cells, .ref aN_selves, .ref aN_cries, .int N_leaves, .ref aN_parts, .int N_pasts, .ref aN_past])), (aN_grounds, .inl (gJ G, 3, .inr (.inl N_grounds))), (aN_airs, .inl (gJ G, 6, .inr (.inl N_airs))), (aN_selves, .inl (gI G, 6, .inl N_selves)), (aN_parts, .inl (gI G, 40, .inl N_parts)), (aS, .inr (2, [.ref aN, .int S_maker, .int S_loud, .int S_hour, .int S_bought, .int S_gone, .ref aS_may, .ref aS_ways, .ref aS_echo, .ref aS_echoes, .long S_straight, .long S_all])), (aS_may, .inl (gJ G, 21, .inr (.inl x4))), (aS_ways, .inl (gJ G, 21, .inr (.inl S_ways))), (aS_echo, .inl (gJ G, 21, .inr (.inl x6))), (aS_echoes, .inl (gJ G, 21, .inr (.inl S_echoes)))]) (stk := []) (rest := []) (As := [.ref aS_echo, .int 1, .int 0]) (q0 := 5) C hE hW (c_Sd_spread l G aN aN_grounds aN_airs aN_tolds aN_fees aN_lets aN_kinds aN_cells aN_selves aN_cries aN_parts aN_past aS aS_may aS_ways aS_echo aS_echoes aS_echo N_width N_height N_everywhere N_firstColumn N_lastColumn N_makers N_leaves N_pasts S_maker S_loud S_hour S_bought S_gone S_straight S_all 21 N_grounds x4 x3 1 0 hc7) cv_Sd_spread tw609 hl rfl rfl (Nat.le_of_ble_eq_true rfl) rfl rfl rfl ⟨Nat.le_of_ble_eq_true rfl, Nat.le_of_ble_eq_true rfl⟩ ⟨Nat.zero_le _, Nat.zero_le _⟩ [0, 1, 5, 6, 8] [2, 3, 4, 7, 9] [5, 6, 0, 1, 2, 7, 8, 3, 9, 4] rfl rfl rfl (by decide) rfl rfl rfl rfl d_Sd_giveBack_85 (fun H locs hW => ?_)
      refine lv_iconst (v := 1) C.1.1 C.1.2.1 d_Sd_giveBack_88 (by decide) ?_
      refine lv_istore (lv' := [(6, .int 1), (0, .ref aS), (3, .int p2)]) C.1.1 C.1.2.1 d_Sd_giveBack_89 hl (by decide) rfl (fun ls hl => ?_)
      refine lp_at (P := fun ((x8, x9) : Int32 × (Nat → Int64)) => ∀ (H : Heap) (locs : List Loc) (ls : Array Slot), Wd G A s.heap H locs [(aN, .inr (0, [.int N_width, .int N_height, .long N_everywhere, .long N_firstColumn, .long N_lastColumn, .ref aN_grounds, .ref aN_airs, .ref aN_tolds, .ref aN_fees, .ref aN_lets, .int N_makers, .ref aN_kinds, .ref aN_cells, .ref aN_selves, .ref aN_cries, .int N_leaves, .ref aN_parts, .int N_pasts, .ref aN_past])), (aN_grounds, .inl (gJ G, 3, .inr (.inl N_grounds))), (aN_airs, .inl (gJ G, 6, .inr (.inl N_airs))), (aN_selves, .inl (gI G, 6, .inl N_selves)), (aN_parts, .inl (gI G, 40, .inl N_parts)), (aS, .inr (2, [.ref aN, .int S_maker, .int S_loud, .int S_hour, .int S_bought, .int S_gone, .ref aS_may, .ref aS_ways, .ref aS_echo, .ref aS_echoes, .long S_straight, .long S_all])), (aS_may, .inl (gJ G, 21, .inr (.inl x4))), (aS_ways, .inl (gJ G, 21, .inr (.inl S_ways))), (aS_echo, .inl (gJ G, 21, .inr (.inl x6))), (aS_echoes, .inl (gJ G, 21, .inr (.inl x9)))] → lv_has ls 7 [(0, .ref aS), (6, .int x8)] → W p l e (RM 3 76) s m args below meth c H locs 0 0 Q (F0 m 91 ls [])) ?_ FU _ h _ _ _ hW (lv_sub hl [1, 0] rfl)
      clear h hl hW
      intro rec91 ih91
      intro x h
      obtain ⟨x8, x9⟩ := x
      unfold f_Sd_giveBack_L91 at h
      intro H locs ls hW hl
      refine lv_iload C.1.1 C.1.2.1 d_Sd_giveBack_91 (lv_at hl 1 rfl) ?_
      refine lv_bipush (v := 20) C.1.1 C.1.2.1 d_Sd_giveBack_93 (by decide) ?_
      refine lv_icmp_gt (tgt := 121) C.1.1 C.1.2.1 d_Sd_giveBack_95 (by decide) (fun cc => ?_) (fun cc => ?_)
      · replace h := it_t cc h
        obtain rfl := Option.some.inj h
        exact x_vret C hW rfl rfl hQ d_Sd_giveBack_121
      · replace h := it_f cc h
        refine lv_aload_n C.1.1 C.1.2.1 d_Sd_giveBack_98 rfl (lv_at hl 0 rfl) ?_
        refine x_get C hE hW fl_Sd_21 5 rfl rfl d_Sd_giveBack_99 ?_
        refine lv_iload C.1.1 C.1.2.1 d_Sd_giveBack_102 (lv_at hl 1 rfl) ?_
        refine lv_dup2_11 C.1.1 C.1.2.1 d_Sd_giveBack_104 rfl rfl ?_
        obtain ⟨hg, h⟩ := gd_at h
        refine x_lald C hE hW 9 rfl (inB_in hg) d_Sd_giveBack_105 ?_
        refine lv_aload_n C.1.1 C.1.2.1 d_Sd_giveBack_106 rfl (lv_at hl 0 rfl) ?_
        refine x_get C hE hW fl_Sd_18 5 rfl rfl d_Sd_giveBack_107 ?_
        refine lv_iload C.1.1 C.1.2.1 d_Sd_giveBack_110 (lv_at hl 1 rfl) ?_
        obtain ⟨hg, h⟩ := gd_at h
        refine x_lald C hE hW 8 rfl (inB_in hg) d_Sd_giveBack_112 ?_
        refine lv_lor C.1.1 C.1.2.1 d_Sd_giveBack_113 ?_
        obtain ⟨hg, h⟩ := gd_at h
        obtain ⟨x10, ex10⟩ : ∃ y : Nat → Int64, y = vp_updL x9 x8.toNatClampNeg ((x9 x8.toNatClampNeg) ||| (x6 x8.toNatClampNeg)) := ⟨_, rfl⟩
        replace h := lt_at ex10 h
        refine x_last (ws' := [(aN, .inr (0, [.int N_width, .int N_height, .long N_everywhere, .long N_firstColumn, .long N_lastColumn, .ref aN_grounds, .ref aN_airs, .ref aN_tolds, .ref aN_fees, .ref aN_lets, .int N_makers, .ref aN_kinds, .ref aN_cells, .ref aN_selves, .ref aN_cries, .int N_leaves, .ref aN_parts, .int N_pasts, .ref aN_past])), (aN_grounds, .inl (gJ G, 3, .inr (.inl N_grounds))), (aN_airs, .inl (gJ G, 6, .inr (.inl N_airs))), (aN_selves, .inl (gI G, 6, .inl N_selves)), (aN_parts, .inl (gI G, 40, .inl N_parts)), (aS, .inr (2, [.ref aN, .int S_maker, .int S_loud, .int S_hour, .int S_bought, .int S_gone, .ref aS_may, .ref aS_ways, .ref aS_echo, .ref aS_echoes, .long S_straight, .long S_all])), (aS_may, .inl (gJ G, 21, .inr (.inl x4))), (aS_ways, .inl (gJ G, 21, .inr (.inl S_ways))), (aS_echo, .inl (gJ G, 21, .inr (.inl x6))), (aS_echoes, .inl (gJ G, 21, .inr (.inl x10)))]) C hE hW 9 rfl (inB_in hg) (by subst ex10; rfl) d_Sd_giveBack_114 (fun H locs hW => ?_)
        obtain ⟨x11, ex11⟩ : ∃ y : Int32, y = x8 + 1 := ⟨_, rfl⟩
        replace h := lt_at ex11 h
        refine lv_iinc (v := x11) (lv' := [(6, .int x11), (0, .ref aS)]) C.1.1 C.1.2.1 d_Sd_giveBack_115 hl (k := 1) rfl (by rw [ex11]; rfl) (by decide) rfl (fun ls hl => ?_)
        refine lv_goto (tgt := 91) C.1.1 C.1.2.1 d_Sd_giveBack_118 (by decide) ?_
        exact ih91 _ h _ _ _ hW (lv_sub hl [1, 0] rfl)
    · intro J72 hJ72 h
      refine lp_at (P := fun ((x12, x13, x14) : Int64 × Int32 × (Nat → Int64)) => ∀ (H : Heap) (locs : List Loc) (ls : Array Slot), Wd G A s.heap H locs [(aN, .inr (0, [.int N_width, .int N_height, .long N_everywhere, .long N_firstColumn, .long N_lastColumn, .ref aN_grounds, .ref aN_airs, .ref aN_tolds, .ref aN_fees, .ref aN_lets, .int N_makers, .ref aN_kinds, .ref aN_cells, .ref aN_selves, .ref aN_cries, .int N_leaves, .ref aN_parts, .int N_pasts, .ref aN_past])), (aN_grounds, .inl (gJ G, 3, .inr (.inl N_grounds))), (aN_airs, .inl (gJ G, 6, .inr (.inl N_airs))), (aN_selves, .inl (gI G, 6, .inl N_selves)), (aN_parts, .inl (gI G, 40, .inl N_parts)), (aS, .inr (2, [.ref aN, .int S_maker, .int S_loud, .int S_hour, .int S_bought, .int S_gone, .ref aS_may, .ref aS_ways, .ref aS_echo, .ref aS_echoes, .long S_straight, .long S_all])), (aS_may, .inl (gJ G, 21, .inr (.inl S_may))), (aS_ways, .inl (gJ G, 21, .inr (.inl S_ways))), (aS_echo, .inl (gJ G, 21, .inr (.inl x14))), (aS_echoes, .inl (gJ G, 21, .inr (.inl S_echoes)))] → lv_has ls 7 [(0, .ref aS), (3, .int p2), (4, .long x12), (6, .int x13)] → W p l e (RM 3 76) s m args below meth c H locs 0 0 Q (F0 m 22 ls [])) ?_ FU _ h _ _ _ hW (lv_sub hl [2, 4, 1, 0] rfl)
      clear h hl hW
      intro rec22 ih22
      intro x h
      obtain ⟨x12, x13, x14⟩ := x
      unfold f_Sd_giveBack_L22 at h
      intro H locs ls hW hl
      refine lv_iload C.1.1 C.1.2.1 d_Sd_giveBack_22 (lv_at hl 3 rfl) ?_
      refine lv_iconst (v := 1) C.1.1 C.1.2.1 d_Sd_giveBack_24 (by decide) ?_
      refine lv_icmp_le (tgt := 72) C.1.1 C.1.2.1 d_Sd_giveBack_25 (by decide) (fun cc => ?_) (fun cc => ?_)
      · replace h := it_t cc h
        exact hJ72 _ h _ _ _ hW (lv_sub hl [0, 1] rfl)
      · replace h := it_f cc h
        refine lv_aload_n C.1.1 C.1.2.1 d_Sd_giveBack_28 rfl (lv_at hl 0 rfl) ?_
        refine x_get C hE hW fl_Sd_18 5 rfl rfl d_Sd_giveBack_29 ?_
        refine lv_iload C.1.1 C.1.2.1 d_Sd_giveBack_32 (lv_at hl 3 rfl) ?_
        refine lv_iconst (v := 2) C.1.1 C.1.2.1 d_Sd_giveBack_34 (by decide) ?_
        refine lv_idiv C.1.1 C.1.2.1 d_Sd_giveBack_35 (by decide) ?_
        refine lv_dup2_11 C.1.1 C.1.2.1 d_Sd_giveBack_36 rfl rfl ?_
        obtain ⟨hg, h⟩ := gd_at h
        refine x_lald C hE hW 8 rfl (inB_in hg) d_Sd_giveBack_37 ?_
        refine lv_aload_n C.1.1 C.1.2.1 d_Sd_giveBack_38 rfl (lv_at hl 0 rfl) ?_
        refine x_get C hE hW fl_Sd_15 5 rfl rfl d_Sd_giveBack_39 ?_
        refine lv_iload C.1.1 C.1.2.1 d_Sd_giveBack_42 (lv_at hl 3 rfl) ?_
        obtain ⟨hg, h⟩ := gd_at h
        refine x_lald C hE hW 7 rfl (inB_in hg) d_Sd_giveBack_44 ?_
        refine lv_lload C.1.1 C.1.2.1 d_Sd_giveBack_45 (lv_at hl 2 rfl) ?_
        refine lv_land C.1.1 C.1.2.1 d_Sd_giveBack_47 ?_
        refine lv_lor C.1.1 C.1.2.1 d_Sd_giveBack_48 ?_
        obtain ⟨hg, h⟩ := gd_at h
        obtain ⟨x15, ex15⟩ : ∃ y : Nat → Int64, y = vp_updL x14 (x13 / 2).toNatClampNeg ((x14 (x13 / 2).toNatClampNeg) ||| ((S_ways x13.toNatClampNeg) &&& x12)) := ⟨_, rfl⟩
        replace h := lt_at ex15 h
        refine x_last (ws' := [(aN, .inr (0, [.int N_width, .int N_height, .long N_everywhere, .long N_firstColumn, .long N_lastColumn, .ref aN_grounds, .ref aN_airs, .ref aN_tolds, .ref aN_fees, .ref aN_lets, .int N_makers, .ref aN_kinds, .ref aN_cells, .ref aN_selves, .ref aN_cries, .int N_leaves, .ref aN_parts, .int N_pasts, .ref aN_past])), (aN_grounds, .inl (gJ G, 3, .inr (.inl N_grounds))), (aN_airs, .inl (gJ G, 6, .inr (.inl N_airs))), (aN_selves, .inl (gI G, 6, .inl N_selves)), (aN_parts, .inl (gI G, 40, .inl N_parts)), (aS, .inr (2, [.ref aN, .int S_maker, .int S_loud, .int S_hour, .int S_bought, .int S_gone, .ref aS_may, .ref aS_ways, .ref aS_echo, .ref aS_echoes, .long S_straight, .long S_all])), (aS_may, .inl (gJ G, 21, .inr (.inl S_may))), (aS_ways, .inl (gJ G, 21, .inr (.inl S_ways))), (aS_echo, .inl (gJ G, 21, .inr (.inl x15))), (aS_echoes, .inl (gJ G, 21, .inr (.inl S_echoes)))]) C hE hW 8 rfl (inB_in hg) (by subst ex15; rfl) d_Sd_giveBack_49 (fun H locs hW => ?_)
        refine lv_lload C.1.1 C.1.2.1 d_Sd_giveBack_50 (lv_at hl 2 rfl) ?_
        refine lv_aload_n C.1.1 C.1.2.1 d_Sd_giveBack_52 rfl (lv_at hl 0 rfl) ?_
        refine x_get C hE hW fl_Sd_15 5 rfl rfl d_Sd_giveBack_53 ?_
        refine lv_iload C.1.1 C.1.2.1 d_Sd_giveBack_56 (lv_at hl 3 rfl) ?_
        obtain ⟨hg, h⟩ := gd_at h
        refine x_lald C hE hW 7 rfl (inB_in hg) d_Sd_giveBack_58 ?_
        refine lv_ldc2 (own := "LentAir$Sound") (v := (-1)) C.1.1 C.1.2.1 C.1.2.2.2.1 (C.w tw598) d_Sd_giveBack_59 ?_
        refine lv_lxor C.1.1 C.1.2.1 d_Sd_giveBack_62 ?_
        refine lv_land C.1.1 C.1.2.1 d_Sd_giveBack_63 ?_
        refine lv_topl (fun x16 ex16 => ?_)
        replace h := lt_at ex16 h
        refine lv_lstore (lv' := [(4, .long x16), (0, .ref aS), (3, .int p2), (6, .int x13)]) C.1.1 C.1.2.1 d_Sd_giveBack_64 hl (by decide) rfl (fun ls hl => ?_)
        obtain ⟨x17, ex17⟩ : ∃ y : Int32, y = x13 + (-1) := ⟨_, rfl⟩
        replace h := lt_at ex17 h
        refine lv_iinc (v := x17) (lv' := [(6, .int x17), (4, .long x16), (0, .ref aS), (3, .int p2)]) C.1.1 C.1.2.1 d_Sd_giveBack_66 hl (k := 3) rfl (by rw [ex17]; rfl) (by decide) rfl (fun ls hl => ?_)
        refine lv_goto (tgt := 22) C.1.1 C.1.2.1 d_Sd_giveBack_69 (by decide) ?_
        exact ih22 _ h _ _ _ hW (lv_sub hl [2, 3, 1, 0] rfl)
  · replace h := it_t cc h
    obtain rfl := Option.some.inj h
    exact x_vret C hW rfl rfl hQ d_Sd_giveBack_6
set_option maxHeartbeats 4000000 in
set_option maxRecDepth 100000 in
theorem c_Sd_make (l : Launch) (G : Gl) (aN : Nat) (aN_grounds : Nat) (aN_airs : Nat) (aN_tolds : Nat) (aN_fees : Nat) (aN_lets : Nat) (aN_kinds : Nat) (aN_cells : Nat) (aN_selves : Nat) (aN_cries : Nat) (aN_parts : Nat) (aN_past : Nat) (aS : Nat) (aS_may : Nat) (aS_ways : Nat) (aS_echo : Nat) (aS_echoes : Nat) (N_width : Int32) (N_height : Int32) (N_everywhere : Int64) (N_firstColumn : Int64) (N_lastColumn : Int64) (N_makers : Int32) (N_leaves : Int32) (N_pasts : Int32) (S_land : Nat) (S_maker : Int32) (S_loud : Int32) (S_hour : Int32) (S_bought : Int32) (S_gone : Int32) (S_straight : Int64) (S_all : Int64) (N_grounds : Nat → Int64) (N_airs : Nat → Int64) (N_kinds : Nat → Int32) (N_cells : Nat → Int32) (N_selves : Nat → Int32) (N_parts : Nat → Int32) (S_may : Nat → Int64) (S_ways : Nat → Int64) (S_echo : Nat → Int64) (S_echoes : Nat → Int64) (p2 : Int32) (p3 : Int32) (p4 : Int32) (p5 : Int32) (p6 : Int32) {res : Int32 × Int32 × Int32 × Int32 × Int32 × (Nat → Int64) × (Nat → Int64) × (Nat → Int64) × (Nat → Int64) × Int64 × Int64} (h : f_Sd_make N_width N_everywhere N_firstColumn N_lastColumn N_makers N_leaves N_grounds N_airs N_kinds N_cells N_selves N_parts S_may S_ways S_echo S_echoes p2 p3 p4 p5 p6 = some res) : Ct l y_Sd_make b_Sd_make 8 none 4 102 G [.ref aS, .ref aN, .int p2, .int p3, .int p4, .int p5, .int p6] [(aN, .inr (0, [.int N_width, .int N_height, .long N_everywhere, .long N_firstColumn, .long N_lastColumn, .ref aN_grounds, .ref aN_airs, .ref aN_tolds, .ref aN_fees, .ref aN_lets, .int N_makers, .ref aN_kinds, .ref aN_cells, .ref aN_selves, .ref aN_cries, .int N_leaves, .ref aN_parts, .int N_pasts, .ref aN_past])), (aN_grounds, .inl (gJ G, 3, .inr (.inl N_grounds))), (aN_airs, .inl (gJ G, 6, .inr (.inl N_airs))), (aN_kinds, .inl (gI G, 6, .inl N_kinds)), (aN_cells, .inl (gI G, 6, .inl N_cells)), (aN_selves, .inl (gI G, 6, .inl N_selves)), (aN_parts, .inl (gI G, 40, .inl N_parts)), (aS, .inr (2, [.ref S_land, .int S_maker, .int S_loud, .int S_hour, .int S_bought, .int S_gone, .ref aS_may, .ref aS_ways, .ref aS_echo, .ref aS_echoes, .long S_straight, .long S_all])), (aS_may, .inl (gJ G, 21, .inr (.inl S_may))), (aS_ways, .inl (gJ G, 21, .inr (.inl S_ways))), (aS_echo, .inl (gJ G, 21, .inr (.inl S_echo))), (aS_echoes, .inl (gJ G, 21, .inr (.inl S_echoes)))] none [(aN, .inr (0, [.int N_width, .int N_height, .long N_everywhere, .long N_firstColumn, .long N_lastColumn, .ref aN_grounds, .ref aN_airs, .ref aN_tolds, .ref aN_fees, .ref aN_lets, .int N_makers, .ref aN_kinds, .ref aN_cells, .ref aN_selves, .ref aN_cries, .int N_leaves, .ref aN_parts, .int N_pasts, .ref aN_past])), (aN_grounds, .inl (gJ G, 3, .inr (.inl N_grounds))), (aN_airs, .inl (gJ G, 6, .inr (.inl N_airs))), (aN_kinds, .inl (gI G, 6, .inl N_kinds)), (aN_cells, .inl (gI G, 6, .inl N_cells)), (aN_selves, .inl (gI G, 6, .inl N_selves)), (aN_parts, .inl (gI G, 40, .inl N_parts)), (aS, .inr (2, [.ref aN, .int (res.1), .int (res.2.1), .int (res.2.2.1), .int (res.2.2.2.1), .int (res.2.2.2.2.1), .ref aS_may, .ref aS_ways, .ref aS_echo, .ref aS_echoes, .long (res.2.2.2.2.2.2.2.2.2.1), .long (res.2.2.2.2.2.2.2.2.2.2)])), (aS_may, .inl (gJ G, 21, .inr (.inl (res.2.2.2.2.2.1)))), (aS_ways, .inl (gJ G, 21, .inr (.inl (res.2.2.2.2.2.2.1)))), (aS_echo, .inl (gJ G, 21, .inr (.inl (res.2.2.2.2.2.2.2.1)))), (aS_echoes, .inl (gJ G, 21, .inr (.inl (res.2.2.2.2.2.2.2.2.1))))] := by
  refine Ct.mk (by decide) (Nat.le_of_ble_eq_true rfl) ?_
  intro p e s m args below meth c ls A Q C hE hW hl hQ
  have C : Cx p s args m c meth "LentAir$Sound" y_Sd_make b_Sd_make 8 none := C
  have hl : lv_has ls 8 [(0, .ref aS), (1, .ref aN), (2, .int p2), (3, .int p3), (4, .int p4), (5, .int p5), (6, .int p6)] := hl
  unfold f_Sd_make at h
  refine lv_aload_n C.1.1 C.1.2.1 d_Sd_make_0 rfl (lv_at hl 0 rfl) ?_
  refine lv_aload_n C.1.1 C.1.2.1 d_Sd_make_1 rfl (lv_at hl 1 rfl) ?_
  refine x_put (ws' := [(aN, .inr (0, [.int N_width, .int N_height, .long N_everywhere, .long N_firstColumn, .long N_lastColumn, .ref aN_grounds, .ref aN_airs, .ref aN_tolds, .ref aN_fees, .ref aN_lets, .int N_makers, .ref aN_kinds, .ref aN_cells, .ref aN_selves, .ref aN_cries, .int N_leaves, .ref aN_parts, .int N_pasts, .ref aN_past])), (aN_grounds, .inl (gJ G, 3, .inr (.inl N_grounds))), (aN_airs, .inl (gJ G, 6, .inr (.inl N_airs))), (aN_kinds, .inl (gI G, 6, .inl N_kinds)), (aN_cells, .inl (gI G, 6, .inl N_cells)), (aN_selves, .inl (gI G, 6, .inl N_selves)), (aN_parts, .inl (gI G, 40, .inl N_parts)), (aS, .inr (2, [.ref aN, .int S_maker, .int S_loud, .int S_hour, .int S_bought, .int S_gone, .ref aS_may, .ref aS_ways, .ref aS_echo, .ref aS_echoes, .long S_straight, .long S_all])), (aS_may, .inl (gJ G, 21, .inr (.inl S_may))), (aS_ways, .inl (gJ G, 21, .inr (.inl S_ways))), (aS_echo, .inl (gJ G, 21, .inr (.inl S_echo))), (aS_echoes, .inl (gJ G, 21, .inr (.inl S_echoes)))]) C hE hW fp_Sd_24 7 rfl rfl rfl (Nat.le_of_ble_eq_true rfl) rfl d_Sd_make_2 (fun H locs hW => ?_)
  refine lv_aload_n C.1.1 C.1.2.1 d_Sd_make_5 rfl (lv_at hl 0 rfl) ?_
  refine lv_iload_n C.1.1 C.1.2.1 d_Sd_make_6 rfl (lv_at hl 2 rfl) ?_
  refine x_put (ws' := [(aN, .inr (0, [.int N_width, .int N_height, .long N_everywhere, .long N_firstColumn, .long N_lastColumn, .ref aN_grounds, .ref aN_airs, .ref aN_tolds, .ref aN_fees, .ref aN_lets, .int N_makers, .ref aN_kinds, .ref aN_cells, .ref aN_selves, .ref aN_cries, .int N_leaves, .ref aN_parts, .int N_pasts, .ref aN_past])), (aN_grounds, .inl (gJ G, 3, .inr (.inl N_grounds))), (aN_airs, .inl (gJ G, 6, .inr (.inl N_airs))), (aN_kinds, .inl (gI G, 6, .inl N_kinds)), (aN_cells, .inl (gI G, 6, .inl N_cells)), (aN_selves, .inl (gI G, 6, .inl N_selves)), (aN_parts, .inl (gI G, 40, .inl N_parts)), (aS, .inr (2, [.ref aN, .int p2, .int S_loud, .int S_hour, .int S_bought, .int S_gone, .ref aS_may, .ref aS_ways, .ref aS_echo, .ref aS_echoes, .long S_straight, .long S_all])), (aS_may, .inl (gJ G, 21, .inr (.inl S_may))), (aS_ways, .inl (gJ G, 21, .inr (.inl S_ways))), (aS_echo, .inl (gJ G, 21, .inr (.inl S_echo))), (aS_echoes, .inl (gJ G, 21, .inr (.inl S_echoes)))]) C hE hW fp_Sd_28 7 rfl rfl rfl (Nat.le_of_ble_eq_true rfl) rfl d_Sd_make_7 (fun H locs hW => ?_)
  refine lv_aload_n C.1.1 C.1.2.1 d_Sd_make_10 rfl (lv_at hl 0 rfl) ?_
  refine lv_iload_n C.1.1 C.1.2.1 d_Sd_make_11 rfl (lv_at hl 3 rfl) ?_
  refine x_put (ws' := [(aN, .inr (0, [.int N_width, .int N_height, .long N_everywhere, .long N_firstColumn, .long N_lastColumn, .ref aN_grounds, .ref aN_airs, .ref aN_tolds, .ref aN_fees, .ref aN_lets, .int N_makers, .ref aN_kinds, .ref aN_cells, .ref aN_selves, .ref aN_cries, .int N_leaves, .ref aN_parts, .int N_pasts, .ref aN_past])), (aN_grounds, .inl (gJ G, 3, .inr (.inl N_grounds))), (aN_airs, .inl (gJ G, 6, .inr (.inl N_airs))), (aN_kinds, .inl (gI G, 6, .inl N_kinds)), (aN_cells, .inl (gI G, 6, .inl N_cells)), (aN_selves, .inl (gI G, 6, .inl N_selves)), (aN_parts, .inl (gI G, 40, .inl N_parts)), (aS, .inr (2, [.ref aN, .int p2, .int p3, .int S_hour, .int S_bought, .int S_gone, .ref aS_may, .ref aS_ways, .ref aS_echo, .ref aS_echoes, .long S_straight, .long S_all])), (aS_may, .inl (gJ G, 21, .inr (.inl S_may))), (aS_ways, .inl (gJ G, 21, .inr (.inl S_ways))), (aS_echo, .inl (gJ G, 21, .inr (.inl S_echo))), (aS_echoes, .inl (gJ G, 21, .inr (.inl S_echoes)))]) C hE hW fp_Sd_32 7 rfl rfl rfl (Nat.le_of_ble_eq_true rfl) rfl d_Sd_make_12 (fun H locs hW => ?_)
  refine lv_aload_n C.1.1 C.1.2.1 d_Sd_make_15 rfl (lv_at hl 0 rfl) ?_
  refine lv_iload C.1.1 C.1.2.1 d_Sd_make_16 (lv_at hl 4 rfl) ?_
  refine x_put (ws' := [(aN, .inr (0, [.int N_width, .int N_height, .long N_everywhere, .long N_firstColumn, .long N_lastColumn, .ref aN_grounds, .ref aN_airs, .ref aN_tolds, .ref aN_fees, .ref aN_lets, .int N_makers, .ref aN_kinds, .ref aN_cells, .ref aN_selves, .ref aN_cries, .int N_leaves, .ref aN_parts, .int N_pasts, .ref aN_past])), (aN_grounds, .inl (gJ G, 3, .inr (.inl N_grounds))), (aN_airs, .inl (gJ G, 6, .inr (.inl N_airs))), (aN_kinds, .inl (gI G, 6, .inl N_kinds)), (aN_cells, .inl (gI G, 6, .inl N_cells)), (aN_selves, .inl (gI G, 6, .inl N_selves)), (aN_parts, .inl (gI G, 40, .inl N_parts)), (aS, .inr (2, [.ref aN, .int p2, .int p3, .int p4, .int S_bought, .int S_gone, .ref aS_may, .ref aS_ways, .ref aS_echo, .ref aS_echoes, .long S_straight, .long S_all])), (aS_may, .inl (gJ G, 21, .inr (.inl S_may))), (aS_ways, .inl (gJ G, 21, .inr (.inl S_ways))), (aS_echo, .inl (gJ G, 21, .inr (.inl S_echo))), (aS_echoes, .inl (gJ G, 21, .inr (.inl S_echoes)))]) C hE hW fp_Sd_35 7 rfl rfl rfl (Nat.le_of_ble_eq_true rfl) rfl d_Sd_make_18 (fun H locs hW => ?_)
  refine lv_aload_n C.1.1 C.1.2.1 d_Sd_make_21 rfl (lv_at hl 0 rfl) ?_
  refine lv_iload C.1.1 C.1.2.1 d_Sd_make_22 (lv_at hl 5 rfl) ?_
  refine x_put (ws' := [(aN, .inr (0, [.int N_width, .int N_height, .long N_everywhere, .long N_firstColumn, .long N_lastColumn, .ref aN_grounds, .ref aN_airs, .ref aN_tolds, .ref aN_fees, .ref aN_lets, .int N_makers, .ref aN_kinds, .ref aN_cells, .ref aN_selves, .ref aN_cries, .int N_leaves, .ref aN_parts, .int N_pasts, .ref aN_past])), (aN_grounds, .inl (gJ G, 3, .inr (.inl N_grounds))), (aN_airs, .inl (gJ G, 6, .inr (.inl N_airs))), (aN_kinds, .inl (gI G, 6, .inl N_kinds)), (aN_cells, .inl (gI G, 6, .inl N_cells)), (aN_selves, .inl (gI G, 6, .inl N_selves)), (aN_parts, .inl (gI G, 40, .inl N_parts)), (aS, .inr (2, [.ref aN, .int p2, .int p3, .int p4, .int p5, .int S_gone, .ref aS_may, .ref aS_ways, .ref aS_echo, .ref aS_echoes, .long S_straight, .long S_all])), (aS_may, .inl (gJ G, 21, .inr (.inl S_may))), (aS_ways, .inl (gJ G, 21, .inr (.inl S_ways))), (aS_echo, .inl (gJ G, 21, .inr (.inl S_echo))), (aS_echoes, .inl (gJ G, 21, .inr (.inl S_echoes)))]) C hE hW fp_Sd_38 7 rfl rfl rfl (Nat.le_of_ble_eq_true rfl) rfl d_Sd_make_24 (fun H locs hW => ?_)
  refine lv_aload_n C.1.1 C.1.2.1 d_Sd_make_27 rfl (lv_at hl 0 rfl) ?_
  refine lv_iload C.1.1 C.1.2.1 d_Sd_make_28 (lv_at hl 6 rfl) ?_
  refine x_put (ws' := [(aN, .inr (0, [.int N_width, .int N_height, .long N_everywhere, .long N_firstColumn, .long N_lastColumn, .ref aN_grounds, .ref aN_airs, .ref aN_tolds, .ref aN_fees, .ref aN_lets, .int N_makers, .ref aN_kinds, .ref aN_cells, .ref aN_selves, .ref aN_cries, .int N_leaves, .ref aN_parts, .int N_pasts, .ref aN_past])), (aN_grounds, .inl (gJ G, 3, .inr (.inl N_grounds))), (aN_airs, .inl (gJ G, 6, .inr (.inl N_airs))), (aN_kinds, .inl (gI G, 6, .inl N_kinds)), (aN_cells, .inl (gI G, 6, .inl N_cells)), (aN_selves, .inl (gI G, 6, .inl N_selves)), (aN_parts, .inl (gI G, 40, .inl N_parts)), (aS, .inr (2, [.ref aN, .int p2, .int p3, .int p4, .int p5, .int p6, .ref aS_may, .ref aS_ways, .ref aS_echo, .ref aS_echoes, .long S_straight, .long S_all])), (aS_may, .inl (gJ G, 21, .inr (.inl S_may))), (aS_ways, .inl (gJ G, 21, .inr (.inl S_ways))), (aS_echo, .inl (gJ G, 21, .inr (.inl S_echo))), (aS_echoes, .inl (gJ G, 21, .inr (.inl S_echoes)))]) C hE hW fp_Sd_41 7 rfl rfl rfl (Nat.le_of_ble_eq_true rfl) rfl d_Sd_make_30 (fun H locs hW => ?_)
  refine lv_aload_n C.1.1 C.1.2.1 d_Sd_make_33 rfl (lv_at hl 0 rfl) ?_
  refine lv_aload_n C.1.1 C.1.2.1 d_Sd_make_34 rfl (lv_at hl 0 rfl) ?_
  obtain ⟨x1, hc2, h⟩ := bd_at h
  refine x_callV (ws' := [(aN, .inr (0, [.int N_width, .int N_height, .long N_everywhere, .long N_firstColumn, .long N_lastColumn, .ref aN_grounds, .ref aN_airs, .ref aN_tolds, .ref aN_fees, .ref aN_lets, .int N_makers, .ref aN_kinds, .ref aN_cells, .ref aN_selves, .ref aN_cries, .int N_leaves, .ref aN_parts, .int N_pasts, .ref aN_past])), (aN_grounds, .inl (gJ G, 3, .inr (.inl N_grounds))), (aN_airs, .inl (gJ G, 6, .inr (.inl N_airs))), (aN_kinds, .inl (gI G, 6, .inl N_kinds)), (aN_cells, .inl (gI G, 6, .inl N_cells)), (aN_selves, .inl (gI G, 6, .inl N_selves)), (aN_parts, .inl (gI G, 40, .inl N_parts)), (aS, .inr (2, [.ref aN, .int p2, .int p3, .int p4, .int p5, .int p6, .ref aS_may, .ref aS_ways, .ref aS_echo, .ref aS_echoes, .long S_straight, .long S_all])), (aS_may, .inl (gJ G, 21, .inr (.inl S_may))), (aS_ways, .inl (gJ G, 21, .inr (.inl S_ways))), (aS_echo, .inl (gJ G, 21, .inr (.inl S_echo))), (aS_echoes, .inl (gJ G, 21, .inr (.inl S_echoes)))]) (stk := [.int x1, .ref aS]) (rest := [.ref aS]) (As := []) (q0 := 7) C hE hW (c_Sd_kind l G aN aN_grounds aN_airs aN_tolds aN_fees aN_lets aN_kinds aN_cells aN_selves aN_cries aN_parts aN_past aS aS_may aS_ways aS_echo aS_echoes N_width N_height N_everywhere N_firstColumn N_lastColumn N_makers N_leaves N_pasts p2 p3 p4 p5 p6 S_straight S_all N_kinds hc2) cv_Sd_kind tw566 hl rfl rfl (Nat.le_of_ble_eq_true rfl) rfl rfl rfl ⟨Nat.le_of_ble_eq_true rfl, Nat.le_of_ble_eq_true rfl⟩ ⟨Nat.zero_le _, Nat.zero_le _⟩ [0, 3, 7] [1, 2, 4, 5, 6, 8, 9, 10, 11] [9, 0, 1, 10, 2, 3, 4, 11, 5, 6, 7, 8] rfl rfl rfl (by decide) rfl rfl rfl rfl d_Sd_make_35 (fun H locs hW => ?_)
  obtain ⟨x3, hc4, h⟩ := bd_at h
  refine x_callS (ws' := [(aN, .inr (0, [.int N_width, .int N_height, .long N_everywhere, .long N_firstColumn, .long N_lastColumn, .ref aN_grounds, .ref aN_airs, .ref aN_tolds, .ref aN_fees, .ref aN_lets, .int N_makers, .ref aN_kinds, .ref aN_cells, .ref aN_selves, .ref aN_cries, .int N_leaves, .ref aN_parts, .int N_pasts, .ref aN_past])), (aN_grounds, .inl (gJ G, 3, .inr (.inl N_grounds))), (aN_airs, .inl (gJ G, 6, .inr (.inl N_airs))), (aN_kinds, .inl (gI G, 6, .inl N_kinds)), (aN_cells, .inl (gI G, 6, .inl N_cells)), (aN_selves, .inl (gI G, 6, .inl N_selves)), (aN_parts, .inl (gI G, 40, .inl N_parts)), (aS, .inr (2, [.ref aN, .int p2, .int p3, .int p4, .int p5, .int p6, .ref aS_may, .ref aS_ways, .ref aS_echo, .ref aS_echoes, .long S_straight, .long S_all])), (aS_may, .inl (gJ G, 21, .inr (.inl S_may))), (aS_ways, .inl (gJ G, 21, .inr (.inl S_ways))), (aS_echo, .inl (gJ G, 21, .inr (.inl S_echo))), (aS_echoes, .inl (gJ G, 21, .inr (.inl S_echoes)))]) (stk := [.int x3, .ref aS]) (rest := [.ref aS]) (As := [.int x1]) C hE hW (c_Sd_freeUpTo l G x1 hc4) cv_Sd_freeUpTo tw570 hl rfl rfl (Nat.le_of_ble_eq_true rfl) ⟨Nat.le_of_ble_eq_true rfl, Nat.le_of_ble_eq_true rfl⟩ ⟨Nat.zero_le _, Nat.zero_le _⟩ [] [0, 1, 2, 3, 4, 5, 6, 7, 8, 9, 10, 11] [0, 1, 2, 3, 4, 5, 6, 7, 8, 9, 10, 11] rfl rfl rfl (by decide) rfl rfl rfl rfl d_Sd_make_38 (fun H locs hW => ?_)
  obtain ⟨⟨x5, x6, x7⟩, hc8, h⟩ := bd_at h
  refine x_callV (ws' := [(aN, .inr (0, [.int N_width, .int N_height, .long N_everywhere, .long N_firstColumn, .long N_lastColumn, .ref aN_grounds, .ref aN_airs, .ref aN_tolds, .ref aN_fees, .ref aN_lets, .int N_makers, .ref aN_kinds, .ref aN_cells, .ref aN_selves, .ref aN_cries, .int N_leaves, .ref aN_parts, .int N_pasts, .ref aN_past])), (aN_grounds, .inl (gJ G, 3, .inr (.inl N_grounds))), (aN_airs, .inl (gJ G, 6, .inr (.inl N_airs))), (aN_kinds, .inl (gI G, 6, .inl N_kinds)), (aN_cells, .inl (gI G, 6, .inl N_cells)), (aN_selves, .inl (gI G, 6, .inl N_selves)), (aN_parts, .inl (gI G, 40, .inl N_parts)), (aS, .inr (2, [.ref aN, .int p2, .int p3, .int p4, .int p5, .int p6, .ref aS_may, .ref aS_ways, .ref aS_echo, .ref aS_echoes, .long x7, .long S_all])), (aS_may, .inl (gJ G, 21, .inr (.inl x5))), (aS_ways, .inl (gJ G, 21, .inr (.inl x6))), (aS_echo, .inl (gJ G, 21, .inr (.inl S_echo))), (aS_echoes, .inl (gJ G, 21, .inr (.inl S_echoes)))]) (stk := []) (rest := []) (As := [.int x3]) (q0 := 7) C hE hW (c_Sd_goStraight l G aN aN_grounds aN_airs aN_tolds aN_fees aN_lets aN_kinds aN_cells aN_selves aN_cries aN_parts aN_past aS aS_may aS_ways aS_echo aS_echoes N_width N_height N_everywhere N_firstColumn N_lastColumn N_makers N_leaves N_pasts p2 p3 p4 p5 p6 S_straight S_all N_grounds N_airs N_kinds N_cells N_selves N_parts S_may S_ways x3 hc8) cv_Sd_goStraight tw573 hl rfl rfl (Nat.le_of_ble_eq_true rfl) rfl rfl rfl ⟨Nat.le_of_ble_eq_true rfl, Nat.le_of_ble_eq_true rfl⟩ ⟨Nat.zero_le _, Nat.zero_le _⟩ [0, 1, 2, 3, 4, 5, 6, 7, 8, 9] [10, 11] [2, 3, 4, 5, 6, 7, 8, 9, 10, 11, 0, 1] rfl rfl rfl (by decide) rfl rfl rfl rfl d_Sd_make_41 (fun H locs hW => ?_)
  refine lv_aload_n C.1.1 C.1.2.1 d_Sd_make_44 rfl (lv_at hl 0 rfl) ?_
  refine x_get C hE hW fl_Sd_21 7 rfl rfl d_Sd_make_45 ?_
  refine lv_lconst (v := 0) C.1.1 C.1.2.1 d_Sd_make_48 (by decide) ?_
  obtain ⟨x9, hc10, h⟩ := bd_at h
  refine x_callS (ws' := [(aN, .inr (0, [.int N_width, .int N_height, .long N_everywhere, .long N_firstColumn, .long N_lastColumn, .ref aN_grounds, .ref aN_airs, .ref aN_tolds, .ref aN_fees, .ref aN_lets, .int N_makers, .ref aN_kinds, .ref aN_cells, .ref aN_selves, .ref aN_cries, .int N_leaves, .ref aN_parts, .int N_pasts, .ref aN_past])), (aN_grounds, .inl (gJ G, 3, .inr (.inl N_grounds))), (aN_airs, .inl (gJ G, 6, .inr (.inl N_airs))), (aN_kinds, .inl (gI G, 6, .inl N_kinds)), (aN_cells, .inl (gI G, 6, .inl N_cells)), (aN_selves, .inl (gI G, 6, .inl N_selves)), (aN_parts, .inl (gI G, 40, .inl N_parts)), (aS, .inr (2, [.ref aN, .int p2, .int p3, .int p4, .int p5, .int p6, .ref aS_may, .ref aS_ways, .ref aS_echo, .ref aS_echoes, .long x7, .long S_all])), (aS_may, .inl (gJ G, 21, .inr (.inl x5))), (aS_ways, .inl (gJ G, 21, .inr (.inl x6))), (aS_echo, .inl (gJ G, 21, .inr (.inl S_echo))), (aS_echoes, .inl (gJ G, 21, .inr (.inl x9)))]) (stk := []) (rest := []) (As := [.ref aS_echoes, .long 0]) C hE hW (c_JA_fillJ l G aS_echoes 21 S_echoes 0 hc10) cv_JA_fillJ tw585 hl rfl rfl (Nat.le_of_ble_eq_true rfl) ⟨Nat.le_of_ble_eq_true rfl, Nat.le_of_ble_eq_true rfl⟩ ⟨Nat.zero_le _, Nat.zero_le _⟩ [11] [0, 1, 2, 3, 4, 5, 6, 7, 8, 9, 10] [0, 1, 2, 3, 4, 5, 6, 7, 8, 9, 10, 11] rfl rfl rfl (by decide) rfl rfl rfl rfl d_Sd_make_49 (fun H locs hW => ?_)
  refine lv_iconst (v := 0) C.1.1 C.1.2.1 d_Sd_make_52 (by decide) ?_
  refine lv_istore (lv' := [(7, .int 0), (0, .ref aS), (1, .ref aN), (2, .int p2), (3, .int p3), (4, .int p4), (5, .int p5), (6, .int p6)]) C.1.1 C.1.2.1 d_Sd_make_53 hl (by decide) rfl (fun ls hl => ?_)
  refine jn_at (P := fun ((x11, x12, x13) : (Nat → Int64) × (Nat → Int64) × (Nat → Int64)) => ∀ (H : Heap) (locs : List Loc) (ls : Array Slot), Wd G A s.heap H locs [(aN, .inr (0, [.int N_width, .int N_height, .long N_everywhere, .long N_firstColumn, .long N_lastColumn, .ref aN_grounds, .ref aN_airs, .ref aN_tolds, .ref aN_fees, .ref aN_lets, .int N_makers, .ref aN_kinds, .ref aN_cells, .ref aN_selves, .ref aN_cries, .int N_leaves, .ref aN_parts, .int N_pasts, .ref aN_past])), (aN_grounds, .inl (gJ G, 3, .inr (.inl N_grounds))), (aN_airs, .inl (gJ G, 6, .inr (.inl N_airs))), (aN_kinds, .inl (gI G, 6, .inl N_kinds)), (aN_cells, .inl (gI G, 6, .inl N_cells)), (aN_selves, .inl (gI G, 6, .inl N_selves)), (aN_parts, .inl (gI G, 40, .inl N_parts)), (aS, .inr (2, [.ref aN, .int p2, .int p3, .int p4, .int p5, .int p6, .ref aS_may, .ref aS_ways, .ref aS_echo, .ref aS_echoes, .long x7, .long S_all])), (aS_may, .inl (gJ G, 21, .inr (.inl x11))), (aS_ways, .inl (gJ G, 21, .inr (.inl x6))), (aS_echo, .inl (gJ G, 21, .inr (.inl x12))), (aS_echoes, .inl (gJ G, 21, .inr (.inl x13)))] → lv_has ls 8 [(0, .ref aS)] → W p l e (RM 4 102) s m args below meth c H locs 0 0 Q (F0 m 88 ls [])) h ?_ ?_
  · skip
    intro x h
    obtain ⟨x11, x12, x13⟩ := x
    intro H locs ls hW hl
    refine lv_aload_n C.1.1 C.1.2.1 d_Sd_make_88 rfl (lv_at hl 0 rfl) ?_
    refine lv_aload_n C.1.1 C.1.2.1 d_Sd_make_89 rfl (lv_at hl 0 rfl) ?_
    refine x_get C hE hW fl_Sd_76 7 rfl rfl d_Sd_make_90 ?_
    refine lv_aload_n C.1.1 C.1.2.1 d_Sd_make_93 rfl (lv_at hl 0 rfl) ?_
    refine x_get C hE hW fl_Sd_21 7 rfl rfl d_Sd_make_94 ?_
    obtain ⟨x14, hc15, h⟩ := bd_at h
    refine x_callS (ws' := [(aN, .inr (0, [.int N_width, .int N_height, .long N_everywhere, .long N_firstColumn, .long N_lastColumn, .ref aN_grounds, .ref aN_airs, .ref aN_tolds, .ref aN_fees, .ref aN_lets, .int N_makers, .ref aN_kinds, .ref aN_cells, .ref aN_selves, .ref aN_cries, .int N_leaves, .ref aN_parts, .int N_pasts, .ref aN_past])), (aN_grounds, .inl (gJ G, 3, .inr (.inl N_grounds))), (aN_airs, .inl (gJ G, 6, .inr (.inl N_airs))), (aN_kinds, .inl (gI G, 6, .inl N_kinds)), (aN_cells, .inl (gI G, 6, .inl N_cells)), (aN_selves, .inl (gI G, 6, .inl N_selves)), (aN_parts, .inl (gI G, 40, .inl N_parts)), (aS, .inr (2, [.ref aN, .int p2, .int p3, .int p4, .int p5, .int p6, .ref aS_may, .ref aS_ways, .ref aS_echo, .ref aS_echoes, .long x7, .long S_all])), (aS_may, .inl (gJ G, 21, .inr (.inl x11))), (aS_ways, .inl (gJ G, 21, .inr (.inl x6))), (aS_echo, .inl (gJ G, 21, .inr (.inl x12))), (aS_echoes, .inl (gJ G, 21, .inr (.inl x13)))]) (stk := [.long x14, .long x7, .ref aS]) (rest := [.long x7, .ref aS]) (As := [.ref aS_echoes]) C hE hW (c_Sd_union l G aS_echoes 21 x13 hc15) cv_Sd_union tw621 hl rfl rfl (Nat.le_of_ble_eq_true rfl) ⟨Nat.le_of_ble_eq_true rfl, Nat.le_of_ble_eq_true rfl⟩ ⟨Nat.zero_le _, Nat.zero_le _⟩ [11] [0, 1, 2, 3, 4, 5, 6, 7, 8, 9, 10] [0, 1, 2, 3, 4, 5, 6, 7, 8, 9, 10, 11] rfl rfl rfl (by decide) rfl rfl rfl rfl d_Sd_make_97 (fun H locs hW => ?_)
    refine lv_lor C.1.1 C.1.2.1 d_Sd_make_100 ?_
    refine lv_topl (fun x16 ex16 => ?_)
    replace h := lt_at ex16 h
    refine x_put (ws' := [(aN, .inr (0, [.int N_width, .int N_height, .long N_everywhere, .long N_firstColumn, .long N_lastColumn, .ref aN_grounds, .ref aN_airs, .ref aN_tolds, .ref aN_fees, .ref aN_lets, .int N_makers, .ref aN_kinds, .ref aN_cells, .ref aN_selves, .ref aN_cries, .int N_leaves, .ref aN_parts, .int N_pasts, .ref aN_past])), (aN_grounds, .inl (gJ G, 3, .inr (.inl N_grounds))), (aN_airs, .inl (gJ G, 6, .inr (.inl N_airs))), (aN_kinds, .inl (gI G, 6, .inl N_kinds)), (aN_cells, .inl (gI G, 6, .inl N_cells)), (aN_selves, .inl (gI G, 6, .inl N_selves)), (aN_parts, .inl (gI G, 40, .inl N_parts)), (aS, .inr (2, [.ref aN, .int p2, .int p3, .int p4, .int p5, .int p6, .ref aS_may, .ref aS_ways, .ref aS_echo, .ref aS_echoes, .long x7, .long x16])), (aS_may, .inl (gJ G, 21, .inr (.inl x11))), (aS_ways, .inl (gJ G, 21, .inr (.inl x6))), (aS_echo, .inl (gJ G, 21, .inr (.inl x12))), (aS_echoes, .inl (gJ G, 21, .inr (.inl x13)))]) C hE hW fp_Sd_84 7 rfl rfl rfl (Nat.le_of_ble_eq_true rfl) rfl d_Sd_make_101 (fun H locs hW => ?_)
    obtain rfl := Option.some.inj h
    exact x_vret C hW rfl rfl hQ d_Sd_make_104
  · intro J88 hJ88 h
    refine lp_at (P := fun ((x17, x18, x19, x20) : Int32 × (Nat → Int64) × (Nat → Int64) × (Nat → Int64)) => ∀ (H : Heap) (locs : List Loc) (ls : Array Slot), Wd G A s.heap H locs [(aN, .inr (0, [.int N_width, .int N_height, .long N_everywhere, .long N_firstColumn, .long N_lastColumn, .ref aN_grounds, .ref aN_airs, .ref aN_tolds, .ref aN_fees, .ref aN_lets, .int N_makers, .ref aN_kinds, .ref aN_cells, .ref aN_selves, .ref aN_cries, .int N_leaves, .ref aN_parts, .int N_pasts, .ref aN_past])), (aN_grounds, .inl (gJ G, 3, .inr (.inl N_grounds))), (aN_airs, .inl (gJ G, 6, .inr (.inl N_airs))), (aN_kinds, .inl (gI G, 6, .inl N_kinds)), (aN_cells, .inl (gI G, 6, .inl N_cells)), (aN_selves, .inl (gI G, 6, .inl N_selves)), (aN_parts, .inl (gI G, 40, .inl N_parts)), (aS, .inr (2, [.ref aN, .int p2, .int p3, .int p4, .int p5, .int p6, .ref aS_may, .ref aS_ways, .ref aS_echo, .ref aS_echoes, .long x7, .long S_all])), (aS_may, .inl (gJ G, 21, .inr (.inl x18))), (aS_ways, .inl (gJ G, 21, .inr (.inl x6))), (aS_echo, .inl (gJ G, 21, .inr (.inl x19))), (aS_echoes, .inl (gJ G, 21, .inr (.inl x20)))] → lv_has ls 8 [(0, .ref aS), (7, .int x17)] → W p l e (RM 4 102) s m args below meth c H locs 0 0 Q (F0 m 55 ls [])) ?_ FU _ h _ _ _ hW (lv_sub hl [1, 0] rfl)
    clear h hl hW
    intro rec55 ih55
    intro x h
    obtain ⟨x17, x18, x19, x20⟩ := x
    unfold f_Sd_make_L55 at h
    intro H locs ls hW hl
    refine lv_iload C.1.1 C.1.2.1 d_Sd_make_55 (lv_at hl 1 rfl) ?_
    refine lv_bipush (v := 6) C.1.1 C.1.2.1 d_Sd_make_57 (by decide) ?_
    refine lv_icmp_ge (tgt := 88) C.1.1 C.1.2.1 d_Sd_make_59 (by decide) (fun cc => ?_) (fun cc => ?_)
    · replace h := it_t cc h
      exact hJ88 _ h _ _ _ hW (lv_sub hl [0] rfl)
    · replace h := it_f cc h
      refine lv_aload_n C.1.1 C.1.2.1 d_Sd_make_62 rfl (lv_at hl 0 rfl) ?_
      refine lv_aload_n C.1.1 C.1.2.1 d_Sd_make_63 rfl (lv_at hl 0 rfl) ?_
      obtain ⟨x21, hc22, h⟩ := bd_at h
      refine x_callV (ws' := [(aN, .inr (0, [.int N_width, .int N_height, .long N_everywhere, .long N_firstColumn, .long N_lastColumn, .ref aN_grounds, .ref aN_airs, .ref aN_tolds, .ref aN_fees, .ref aN_lets, .int N_makers, .ref aN_kinds, .ref aN_cells, .ref aN_selves, .ref aN_cries, .int N_leaves, .ref aN_parts, .int N_pasts, .ref aN_past])), (aN_grounds, .inl (gJ G, 3, .inr (.inl N_grounds))), (aN_airs, .inl (gJ G, 6, .inr (.inl N_airs))), (aN_kinds, .inl (gI G, 6, .inl N_kinds)), (aN_cells, .inl (gI G, 6, .inl N_cells)), (aN_selves, .inl (gI G, 6, .inl N_selves)), (aN_parts, .inl (gI G, 40, .inl N_parts)), (aS, .inr (2, [.ref aN, .int p2, .int p3, .int p4, .int p5, .int p6, .ref aS_may, .ref aS_ways, .ref aS_echo, .ref aS_echoes, .long x7, .long S_all])), (aS_may, .inl (gJ G, 21, .inr (.inl x18))), (aS_ways, .inl (gJ G, 21, .inr (.inl x6))), (aS_echo, .inl (gJ G, 21, .inr (.inl x19))), (aS_echoes, .inl (gJ G, 21, .inr (.inl x20)))]) (stk := [.long x21, .ref aS]) (rest := [.ref aS]) (As := []) (q0 := 7) C hE hW (c_Sd_cliffs l G aN aN_grounds aN_airs aN_tolds aN_fees aN_lets aN_kinds aN_cells aN_selves aN_cries aN_parts aN_past aS aS_may aS_ways aS_echo aS_echoes N_width N_height N_everywhere N_firstColumn N_lastColumn N_makers N_leaves N_pasts p2 p3 p4 p5 p6 x7 S_all N_grounds N_cells hc22) cv_Sd_cliffs tw624 hl rfl rfl (Nat.le_of_ble_eq_true rfl) rfl rfl rfl ⟨Nat.le_of_ble_eq_true rfl, Nat.le_of_ble_eq_true rfl⟩ ⟨Nat.zero_le _, Nat.zero_le _⟩ [0, 1, 4, 7] [2, 3, 5, 6, 8, 9, 10, 11] [8, 9, 0, 1, 10, 2, 3, 11, 4, 5, 6, 7] rfl rfl rfl (by decide) rfl rfl rfl rfl d_Sd_make_64 (fun H locs hW => ?_)
      refine lv_aload_n C.1.1 C.1.2.1 d_Sd_make_67 rfl (lv_at hl 0 rfl) ?_
      refine x_get C hE hW fl_Sd_24 7 rfl rfl d_Sd_make_68 ?_
      refine lv_iload C.1.1 C.1.2.1 d_Sd_make_71 (lv_at hl 1 rfl) ?_
      obtain ⟨x23, hc24, h⟩ := bd_at h
      refine x_callV (ws' := [(aN, .inr (0, [.int N_width, .int N_height, .long N_everywhere, .long N_firstColumn, .long N_lastColumn, .ref aN_grounds, .ref aN_airs, .ref aN_tolds, .ref aN_fees, .ref aN_lets, .int N_makers, .ref aN_kinds, .ref aN_cells, .ref aN_selves, .ref aN_cries, .int N_leaves, .ref aN_parts, .int N_pasts, .ref aN_past])), (aN_grounds, .inl (gJ G, 3, .inr (.inl N_grounds))), (aN_airs, .inl (gJ G, 6, .inr (.inl N_airs))), (aN_kinds, .inl (gI G, 6, .inl N_kinds)), (aN_cells, .inl (gI G, 6, .inl N_cells)), (aN_selves, .inl (gI G, 6, .inl N_selves)), (aN_parts, .inl (gI G, 40, .inl N_parts)), (aS, .inr (2, [.ref aN, .int p2, .int p3, .int p4, .int p5, .int p6, .ref aS_may, .ref aS_ways, .ref aS_echo, .ref aS_echoes, .long x7, .long S_all])), (aS_may, .inl (gJ G, 21, .inr (.inl x18))), (aS_ways, .inl (gJ G, 21, .inr (.inl x6))), (aS_echo, .inl (gJ G, 21, .inr (.inl x19))), (aS_echoes, .inl (gJ G, 21, .inr (.inl x20)))]) (stk := [.long x23, .long x21, .ref aS]) (rest := [.long x21, .ref aS]) (As := [.int x17]) (q0 := 0) C hE hW (c_Ld_airOf l G aN aN_grounds aN_airs aN_tolds aN_fees aN_lets aN_kinds aN_cells aN_selves aN_cries aN_parts aN_past N_width N_height N_everywhere N_firstColumn N_lastColumn N_makers N_leaves N_pasts N_airs x17 hc24) cv_Ld_airOf tw588 hl rfl rfl (Nat.le_of_ble_eq_true rfl) rfl rfl rfl ⟨Nat.le_of_ble_eq_true rfl, Nat.le_of_ble_eq_true rfl⟩ ⟨Nat.zero_le _, Nat.zero_le _⟩ [0, 2] [1, 3, 4, 5, 6, 7, 8, 9, 10, 11] [10, 0, 11, 1, 2, 3, 4, 5, 6, 7, 8, 9] rfl rfl rfl (by decide) rfl rfl rfl rfl d_Sd_make_73 (fun H locs hW => ?_)
      refine lv_land C.1.1 C.1.2.1 d_Sd_make_76 ?_
      refine lv_iload C.1.1 C.1.2.1 d_Sd_make_77 (lv_at hl 1 rfl) ?_
      obtain ⟨⟨x25, x26, x27⟩, hc28, h⟩ := bd_at h
      refine x_callV (ws' := [(aN, .inr (0, [.int N_width, .int N_height, .long N_everywhere, .long N_firstColumn, .long N_lastColumn, .ref aN_grounds, .ref aN_airs, .ref aN_tolds, .ref aN_fees, .ref aN_lets, .int N_makers, .ref aN_kinds, .ref aN_cells, .ref aN_selves, .ref aN_cries, .int N_leaves, .ref aN_parts, .int N_pasts, .ref aN_past])), (aN_grounds, .inl (gJ G, 3, .inr (.inl N_grounds))), (aN_airs, .inl (gJ G, 6, .inr (.inl N_airs))), (aN_kinds, .inl (gI G, 6, .inl N_kinds)), (aN_cells, .inl (gI G, 6, .inl N_cells)), (aN_selves, .inl (gI G, 6, .inl N_selves)), (aN_parts, .inl (gI G, 40, .inl N_parts)), (aS, .inr (2, [.ref aN, .int p2, .int p3, .int p4, .int p5, .int p6, .ref aS_may, .ref aS_ways, .ref aS_echo, .ref aS_echoes, .long x7, .long S_all])), (aS_may, .inl (gJ G, 21, .inr (.inl x25))), (aS_ways, .inl (gJ G, 21, .inr (.inl x6))), (aS_echo, .inl (gJ G, 21, .inr (.inl x26))), (aS_echoes, .inl (gJ G, 21, .inr (.inl x27)))]) (stk := []) (rest := []) (As := [.long (x21 &&& x23), .int x17]) (q0 := 7) C hE hW (c_Sd_giveBack l G aN aN_grounds aN_airs aN_tolds aN_fees aN_lets aN_kinds aN_cells aN_selves aN_cries aN_parts aN_past aS aS_may aS_ways aS_echo aS_echoes N_width N_height N_everywhere N_firstColumn N_lastColumn N_makers N_leaves N_pasts p2 p3 p4 p5 p6 x7 S_all N_grounds N_airs N_selves N_parts x18 x6 x19 x20 (x21 &&& x23) x17 hc28) cv_Sd_giveBack tw628 hl rfl rfl (Nat.le_of_ble_eq_true rfl) rfl rfl rfl ⟨Nat.le_of_ble_eq_true rfl, Nat.le_of_ble_eq_true rfl⟩ ⟨Nat.zero_le _, Nat.zero_le _⟩ [0, 1, 2, 5, 6, 7, 8, 9, 10, 11] [3, 4] [2, 3, 4, 0, 1, 5, 6, 7, 8, 9, 10, 11] rfl rfl rfl (by decide) rfl rfl rfl rfl d_Sd_make_79 (fun H locs hW => ?_)
      obtain ⟨x29, ex29⟩ : ∃ y : Int32, y = x17 + 1 := ⟨_, rfl⟩
      replace h := lt_at ex29 h
      refine lv_iinc (v := x29) (lv' := [(7, .int x29), (0, .ref aS)]) C.1.1 C.1.2.1 d_Sd_make_82 hl (k := 1) rfl (by rw [ex29]; rfl) (by decide) rfl (fun ls hl => ?_)
      refine lv_goto (tgt := 55) C.1.1 C.1.2.1 d_Sd_make_85 (by decide) ?_
      exact ih55 _ h _ _ _ hW (lv_sub hl [1, 0] rfl)
set_option maxHeartbeats 4000000 in
set_option maxRecDepth 100000 in
theorem c_Sd_straightIfFree (l : Launch) (G : Gl) (aN : Nat) (aN_grounds : Nat) (aN_airs : Nat) (aN_tolds : Nat) (aN_fees : Nat) (aN_lets : Nat) (aN_kinds : Nat) (aN_cells : Nat) (aN_selves : Nat) (aN_cries : Nat) (aN_parts : Nat) (aN_past : Nat) (aS : Nat) (aS_may : Nat) (aS_ways : Nat) (aS_echo : Nat) (aS_echoes : Nat) (N_width : Int32) (N_height : Int32) (N_everywhere : Int64) (N_firstColumn : Int64) (N_lastColumn : Int64) (N_makers : Int32) (N_leaves : Int32) (N_pasts : Int32) (S_maker : Int32) (S_loud : Int32) (S_hour : Int32) (S_bought : Int32) (S_gone : Int32) (S_straight : Int64) (S_all : Int64) (N_grounds : Nat → Int64) (N_airs : Nat → Int64) (N_kinds : Nat → Int32) (N_cells : Nat → Int32) (N_selves : Nat → Int32) (N_parts : Nat → Int32) (S_may : Nat → Int64) (S_ways : Nat → Int64) {res : Int64 × (Nat → Int64) × (Nat → Int64) × Int64} (h : f_Sd_straightIfFree N_width N_everywhere N_firstColumn N_lastColumn N_makers N_leaves S_maker S_loud S_hour S_bought S_gone N_grounds N_airs N_kinds N_cells N_selves N_parts S_may S_ways = some res) : Ct l y_Sd_straightIfFree b_Sd_straightIfFree 1 (some .long) 4 99 G [.ref aS] [(aN, .inr (0, [.int N_width, .int N_height, .long N_everywhere, .long N_firstColumn, .long N_lastColumn, .ref aN_grounds, .ref aN_airs, .ref aN_tolds, .ref aN_fees, .ref aN_lets, .int N_makers, .ref aN_kinds, .ref aN_cells, .ref aN_selves, .ref aN_cries, .int N_leaves, .ref aN_parts, .int N_pasts, .ref aN_past])), (aN_grounds, .inl (gJ G, 3, .inr (.inl N_grounds))), (aN_airs, .inl (gJ G, 6, .inr (.inl N_airs))), (aN_kinds, .inl (gI G, 6, .inl N_kinds)), (aN_cells, .inl (gI G, 6, .inl N_cells)), (aN_selves, .inl (gI G, 6, .inl N_selves)), (aN_parts, .inl (gI G, 40, .inl N_parts)), (aS, .inr (2, [.ref aN, .int S_maker, .int S_loud, .int S_hour, .int S_bought, .int S_gone, .ref aS_may, .ref aS_ways, .ref aS_echo, .ref aS_echoes, .long S_straight, .long S_all])), (aS_may, .inl (gJ G, 21, .inr (.inl S_may))), (aS_ways, .inl (gJ G, 21, .inr (.inl S_ways)))] (some (.long res.1)) [(aN, .inr (0, [.int N_width, .int N_height, .long N_everywhere, .long N_firstColumn, .long N_lastColumn, .ref aN_grounds, .ref aN_airs, .ref aN_tolds, .ref aN_fees, .ref aN_lets, .int N_makers, .ref aN_kinds, .ref aN_cells, .ref aN_selves, .ref aN_cries, .int N_leaves, .ref aN_parts, .int N_pasts, .ref aN_past])), (aN_grounds, .inl (gJ G, 3, .inr (.inl N_grounds))), (aN_airs, .inl (gJ G, 6, .inr (.inl N_airs))), (aN_kinds, .inl (gI G, 6, .inl N_kinds)), (aN_cells, .inl (gI G, 6, .inl N_cells)), (aN_selves, .inl (gI G, 6, .inl N_selves)), (aN_parts, .inl (gI G, 40, .inl N_parts)), (aS, .inr (2, [.ref aN, .int S_maker, .int S_loud, .int S_hour, .int S_bought, .int S_gone, .ref aS_may, .ref aS_ways, .ref aS_echo, .ref aS_echoes, .long (res.2.2.2), .long S_all])), (aS_may, .inl (gJ G, 21, .inr (.inl (res.2.1)))), (aS_ways, .inl (gJ G, 21, .inr (.inl (res.2.2.1))))] := by
  refine Ct.mk (by decide) (Nat.le_of_ble_eq_true rfl) ?_
  intro p e s m args below meth c ls A Q C hE hW hl hQ
  have C : Cx p s args m c meth "LentAir$Sound" y_Sd_straightIfFree b_Sd_straightIfFree 1 (some .long) := C
  have hl : lv_has ls 1 [(0, .ref aS)] := hl
  unfold f_Sd_straightIfFree at h
  refine lv_aload_n C.1.1 C.1.2.1 d_Sd_straightIfFree_0 rfl (lv_at hl 0 rfl) ?_
  refine lv_bipush (v := 20) C.1.1 C.1.2.1 d_Sd_straightIfFree_1 (by decide) ?_
  obtain ⟨⟨x1, x2, x3⟩, hc4, h⟩ := bd_at h
  refine x_callV (ws' := [(aN, .inr (0, [.int N_width, .int N_height, .long N_everywhere, .long N_firstColumn, .long N_lastColumn, .ref aN_grounds, .ref aN_airs, .ref aN_tolds, .ref aN_fees, .ref aN_lets, .int N_makers, .ref aN_kinds, .ref aN_cells, .ref aN_selves, .ref aN_cries, .int N_leaves, .ref aN_parts, .int N_pasts, .ref aN_past])), (aN_grounds, .inl (gJ G, 3, .inr (.inl N_grounds))), (aN_airs, .inl (gJ G, 6, .inr (.inl N_airs))), (aN_kinds, .inl (gI G, 6, .inl N_kinds)), (aN_cells, .inl (gI G, 6, .inl N_cells)), (aN_selves, .inl (gI G, 6, .inl N_selves)), (aN_parts, .inl (gI G, 40, .inl N_parts)), (aS, .inr (2, [.ref aN, .int S_maker, .int S_loud, .int S_hour, .int S_bought, .int S_gone, .ref aS_may, .ref aS_ways, .ref aS_echo, .ref aS_echoes, .long x3, .long S_all])), (aS_may, .inl (gJ G, 21, .inr (.inl x1))), (aS_ways, .inl (gJ G, 21, .inr (.inl x2)))]) (stk := []) (rest := []) (As := [.int 20]) (q0 := 7) C hE hW (c_Sd_goStraight l G aN aN_grounds aN_airs aN_tolds aN_fees aN_lets aN_kinds aN_cells aN_selves aN_cries aN_parts aN_past aS aS_may aS_ways aS_echo aS_echoes N_width N_height N_everywhere N_firstColumn N_lastColumn N_makers N_leaves N_pasts S_maker S_loud S_hour S_bought S_gone S_straight S_all N_grounds N_airs N_kinds N_cells N_selves N_parts S_may S_ways 20 hc4) cv_Sd_goStraight tw573 hl rfl rfl (Nat.le_of_ble_eq_true rfl) rfl rfl rfl ⟨Nat.le_of_ble_eq_true rfl, Nat.le_of_ble_eq_true rfl⟩ ⟨Nat.zero_le _, Nat.zero_le _⟩ [0, 1, 2, 3, 4, 5, 6, 7, 8, 9] [] [0, 1, 2, 3, 4, 5, 6, 7, 8, 9] rfl rfl rfl (by decide) rfl rfl rfl rfl d_Sd_straightIfFree_3 (fun H locs hW => ?_)
  refine lv_aload_n C.1.1 C.1.2.1 d_Sd_straightIfFree_6 rfl (lv_at hl 0 rfl) ?_
  refine x_get C hE hW fl_Sd_76 7 rfl rfl d_Sd_straightIfFree_7 ?_
  obtain rfl := Option.some.inj h
  exact x_lret C hW rfl rfl hQ d_Sd_straightIfFree_10
set_option maxHeartbeats 4000000 in
set_option maxRecDepth 100000 in
theorem c_Sd_carriers (l : Launch) (G : Gl) (aN : Nat) (aN_grounds : Nat) (aN_airs : Nat) (aN_tolds : Nat) (aN_fees : Nat) (aN_lets : Nat) (aN_kinds : Nat) (aN_cells : Nat) (aN_selves : Nat) (aN_cries : Nat) (aN_parts : Nat) (aN_past : Nat) (aS : Nat) (aS_may : Nat) (aS_ways : Nat) (aS_echo : Nat) (aS_echoes : Nat) (N_width : Int32) (N_height : Int32) (N_everywhere : Int64) (N_firstColumn : Int64) (N_lastColumn : Int64) (N_makers : Int32) (N_leaves : Int32) (N_pasts : Int32) (S_maker : Int32) (S_loud : Int32) (S_hour : Int32) (S_bought : Int32) (S_gone : Int32) (S_straight : Int64) (S_all : Int64) (N_grounds : Nat → Int64) (N_airs : Nat → Int64) (N_cells : Nat → Int32) (N_selves : Nat → Int32) (N_parts : Nat → Int32) (S_may : Nat → Int64) (S_ways : Nat → Int64) (S_echo : Nat → Int64) (S_echoes : Nat → Int64) {res : Int64 × (Nat → Int64) × (Nat → Int64) × (Nat → Int64)} (h : f_Sd_carriers N_width N_everywhere N_firstColumn N_lastColumn N_makers N_leaves S_maker S_hour S_bought S_gone S_straight N_grounds N_airs N_cells N_selves N_parts S_may S_ways S_echo S_echoes = some res) : Ct l y_Sd_carriers b_Sd_carriers 6 (some .long) 4 102 G [.ref aS] [(aN, .inr (0, [.int N_width, .int N_height, .long N_everywhere, .long N_firstColumn, .long N_lastColumn, .ref aN_grounds, .ref aN_airs, .ref aN_tolds, .ref aN_fees, .ref aN_lets, .int N_makers, .ref aN_kinds, .ref aN_cells, .ref aN_selves, .ref aN_cries, .int N_leaves, .ref aN_parts, .int N_pasts, .ref aN_past])), (aN_grounds, .inl (gJ G, 3, .inr (.inl N_grounds))), (aN_airs, .inl (gJ G, 6, .inr (.inl N_airs))), (aN_cells, .inl (gI G, 6, .inl N_cells)), (aN_selves, .inl (gI G, 6, .inl N_selves)), (aN_parts, .inl (gI G, 40, .inl N_parts)), (aS, .inr (2, [.ref aN, .int S_maker, .int S_loud, .int S_hour, .int S_bought, .int S_gone, .ref aS_may, .ref aS_ways, .ref aS_echo, .ref aS_echoes, .long S_straight, .long S_all])), (aS_may, .inl (gJ G, 21, .inr (.inl S_may))), (aS_ways, .inl (gJ G, 21, .inr (.inl S_ways))), (aS_echo, .inl (gJ G, 21, .inr (.inl S_echo))), (aS_echoes, .inl (gJ G, 21, .inr (.inl S_echoes)))] (some (.long res.1)) [(aN, .inr (0, [.int N_width, .int N_height, .long N_everywhere, .long N_firstColumn, .long N_lastColumn, .ref aN_grounds, .ref aN_airs, .ref aN_tolds, .ref aN_fees, .ref aN_lets, .int N_makers, .ref aN_kinds, .ref aN_cells, .ref aN_selves, .ref aN_cries, .int N_leaves, .ref aN_parts, .int N_pasts, .ref aN_past])), (aN_grounds, .inl (gJ G, 3, .inr (.inl N_grounds))), (aN_airs, .inl (gJ G, 6, .inr (.inl N_airs))), (aN_cells, .inl (gI G, 6, .inl N_cells)), (aN_selves, .inl (gI G, 6, .inl N_selves)), (aN_parts, .inl (gI G, 40, .inl N_parts)), (aS, .inr (2, [.ref aN, .int S_maker, .int S_loud, .int S_hour, .int S_bought, .int S_gone, .ref aS_may, .ref aS_ways, .ref aS_echo, .ref aS_echoes, .long S_straight, .long S_all])), (aS_may, .inl (gJ G, 21, .inr (.inl (res.2.1)))), (aS_ways, .inl (gJ G, 21, .inr (.inl S_ways))), (aS_echo, .inl (gJ G, 21, .inr (.inl (res.2.2.1)))), (aS_echoes, .inl (gJ G, 21, .inr (.inl (res.2.2.2))))] := by
  refine Ct.mk (by decide) (Nat.le_of_ble_eq_true rfl) ?_
  intro p e s m args below meth c ls A Q C hE hW hl hQ
  have C : Cx p s args m c meth "LentAir$Sound" y_Sd_carriers b_Sd_carriers 6 (some .long) := C
  have hl : lv_has ls 6 [(0, .ref aS)] := hl
  unfold f_Sd_carriers at h
  refine lv_lconst (v := 0) C.1.1 C.1.2.1 d_Sd_carriers_0 (by decide) ?_
  refine lv_lstore_n (lv' := [(1, .long 0), (0, .ref aS)]) C.1.1 C.1.2.1 d_Sd_carriers_1 rfl hl (by decide) rfl (fun ls hl => ?_)
  refine lv_iconst (v := 0) C.1.1 C.1.2.1 d_Sd_carriers_2 (by decide) ?_
  refine lv_istore_n (lv' := [(3, .int 0), (1, .long 0), (0, .ref aS)]) C.1.1 C.1.2.1 d_Sd_carriers_3 rfl hl (by decide) rfl (fun ls hl => ?_)
  refine lp_at (P := fun ((x1, x2, x3, x4, x5) : Int64 × Int32 × (Nat → Int64) × (Nat → Int64) × (Nat → Int64)) => ∀ (H : Heap) (locs : List Loc) (ls : Array Slot), Wd G A s.heap H locs [(aN, .inr (0, [.int N_width, .int N_height, .long N_everywhere, .long N_firstColumn, .long N_lastColumn, .ref aN_grounds, .ref aN_airs, .ref aN_tolds, .ref aN_fees, .ref aN_lets, .int N_makers, .ref aN_kinds, .ref aN_cells, .ref aN_selves, .ref aN_cries, .int N_leaves, .ref aN_parts, .int N_pasts, .ref aN_past])), (aN_grounds, .inl (gJ G, 3, .inr (.inl N_grounds))), (aN_airs, .inl (gJ G, 6, .inr (.inl N_airs))), (aN_cells, .inl (gI G, 6, .inl N_cells)), (aN_selves, .inl (gI G, 6, .inl N_selves)), (aN_parts, .inl (gI G, 40, .inl N_parts)), (aS, .inr (2, [.ref aN, .int S_maker, .int S_loud, .int S_hour, .int S_bought, .int S_gone, .ref aS_may, .ref aS_ways, .ref aS_echo, .ref aS_echoes, .long S_straight, .long S_all])), (aS_may, .inl (gJ G, 21, .inr (.inl x3))), (aS_ways, .inl (gJ G, 21, .inr (.inl S_ways))), (aS_echo, .inl (gJ G, 21, .inr (.inl x4))), (aS_echoes, .inl (gJ G, 21, .inr (.inl x5)))] → lv_has ls 6 [(0, .ref aS), (1, .long x1), (3, .int x2)] → W p l e (RM 4 102) s m args below meth c H locs 0 0 Q (F0 m 4 ls [])) ?_ FU _ h _ _ _ hW (lv_sub hl [2, 1, 0] rfl)
  clear h hl hW
  intro rec4 ih4
  intro x h
  obtain ⟨x1, x2, x3, x4, x5⟩ := x
  unfold f_Sd_carriers_L4 at h
  intro H locs ls hW hl
  refine lv_iload_n C.1.1 C.1.2.1 d_Sd_carriers_4 rfl (lv_at hl 2 rfl) ?_
  refine lv_bipush (v := 36) C.1.1 C.1.2.1 d_Sd_carriers_5 (by decide) ?_
  refine lv_icmp_ge (tgt := 84) C.1.1 C.1.2.1 d_Sd_carriers_7 (by decide) (fun cc => ?_) (fun cc => ?_)
  · replace h := it_t cc h
    refine lv_lload_n C.1.1 C.1.2.1 d_Sd_carriers_84 rfl (lv_at hl 1 rfl) ?_
    obtain rfl := Option.some.inj h
    exact x_lret C hW rfl rfl hQ d_Sd_carriers_85
  · replace h := it_f cc h
    refine lv_lconst (v := 1) C.1.1 C.1.2.1 d_Sd_carriers_10 (by decide) ?_
    refine lv_iload_n C.1.1 C.1.2.1 d_Sd_carriers_11 rfl (lv_at hl 2 rfl) ?_
    refine lv_lshl C.1.1 C.1.2.1 d_Sd_carriers_12 rfl ?_
    refine lv_aload_n C.1.1 C.1.2.1 d_Sd_carriers_13 rfl (lv_at hl 0 rfl) ?_
    obtain ⟨x6, hc7, h⟩ := bd_at h
    refine x_callV (ws' := [(aN, .inr (0, [.int N_width, .int N_height, .long N_everywhere, .long N_firstColumn, .long N_lastColumn, .ref aN_grounds, .ref aN_airs, .ref aN_tolds, .ref aN_fees, .ref aN_lets, .int N_makers, .ref aN_kinds, .ref aN_cells, .ref aN_selves, .ref aN_cries, .int N_leaves, .ref aN_parts, .int N_pasts, .ref aN_past])), (aN_grounds, .inl (gJ G, 3, .inr (.inl N_grounds))), (aN_airs, .inl (gJ G, 6, .inr (.inl N_airs))), (aN_cells, .inl (gI G, 6, .inl N_cells)), (aN_selves, .inl (gI G, 6, .inl N_selves)), (aN_parts, .inl (gI G, 40, .inl N_parts)), (aS, .inr (2, [.ref aN, .int S_maker, .int S_loud, .int S_hour, .int S_bought, .int S_gone, .ref aS_may, .ref aS_ways, .ref aS_echo, .ref aS_echoes, .long S_straight, .long S_all])), (aS_may, .inl (gJ G, 21, .inr (.inl x3))), (aS_ways, .inl (gJ G, 21, .inr (.inl S_ways))), (aS_echo, .inl (gJ G, 21, .inr (.inl x4))), (aS_echoes, .inl (gJ G, 21, .inr (.inl x5)))]) (stk := [.long x6, .long ((1 : Int64) <<< (x2.toInt64 &&& 63))]) (rest := [.long ((1 : Int64) <<< (x2.toInt64 &&& 63))]) (As := []) (q0 := 6) C hE hW (c_Sd_cliffs l G aN aN_grounds aN_airs aN_tolds aN_fees aN_lets aN_kinds aN_cells aN_selves aN_cries aN_parts aN_past aS aS_may aS_ways aS_echo aS_echoes N_width N_height N_everywhere N_firstColumn N_lastColumn N_makers N_leaves N_pasts S_maker S_loud S_hour S_bought S_gone S_straight S_all N_grounds N_cells hc7) cv_Sd_cliffs tw624 hl rfl rfl (Nat.le_of_ble_eq_true rfl) rfl rfl rfl ⟨Nat.le_of_ble_eq_true rfl, Nat.le_of_ble_eq_true rfl⟩ ⟨Nat.zero_le _, Nat.zero_le _⟩ [0, 1, 3, 6] [2, 4, 5, 7, 8, 9, 10] [7, 8, 0, 9, 1, 2, 10, 3, 4, 5, 6] rfl rfl rfl (by decide) rfl rfl rfl rfl d_Sd_carriers_14 (fun H locs hW => ?_)
    refine lv_land C.1.1 C.1.2.1 d_Sd_carriers_17 ?_
    refine lv_topl (fun x8 ex8 => ?_)
    replace h := lt_at ex8 h
    refine lv_lstore (lv' := [(4, .long x8), (0, .ref aS), (1, .long x1), (3, .int x2)]) C.1.1 C.1.2.1 d_Sd_carriers_18 hl (by decide) rfl (fun ls hl => ?_)
    refine lv_lload C.1.1 C.1.2.1 d_Sd_carriers_20 (lv_at hl 0 rfl) ?_
    refine lv_lconst (v := 0) C.1.1 C.1.2.1 d_Sd_carriers_22 (by decide) ?_
    refine W.lcmp C.1.1 C.1.2.1 d_Sd_carriers_23 ?_
    refine jn_at (P := fun ((x9, x10, x11, x12) : Int64 × (Nat → Int64) × (Nat → Int64) × (Nat → Int64)) => ∀ (H : Heap) (locs : List Loc) (ls : Array Slot), Wd G A s.heap H locs [(aN, .inr (0, [.int N_width, .int N_height, .long N_everywhere, .long N_firstColumn, .long N_lastColumn, .ref aN_grounds, .ref aN_airs, .ref aN_tolds, .ref aN_fees, .ref aN_lets, .int N_makers, .ref aN_kinds, .ref aN_cells, .ref aN_selves, .ref aN_cries, .int N_leaves, .ref aN_parts, .int N_pasts, .ref aN_past])), (aN_grounds, .inl (gJ G, 3, .inr (.inl N_grounds))), (aN_airs, .inl (gJ G, 6, .inr (.inl N_airs))), (aN_cells, .inl (gI G, 6, .inl N_cells)), (aN_selves, .inl (gI G, 6, .inl N_selves)), (aN_parts, .inl (gI G, 40, .inl N_parts)), (aS, .inr (2, [.ref aN, .int S_maker, .int S_loud, .int S_hour, .int S_bought, .int S_gone, .ref aS_may, .ref aS_ways, .ref aS_echo, .ref aS_echoes, .long S_straight, .long S_all])), (aS_may, .inl (gJ G, 21, .inr (.inl x10))), (aS_ways, .inl (gJ G, 21, .inr (.inl S_ways))), (aS_echo, .inl (gJ G, 21, .inr (.inl x11))), (aS_echoes, .inl (gJ G, 21, .inr (.inl x12)))] → lv_has ls 6 [(0, .ref aS), (1, .long x9), (3, .int x2)] → W p l e (RM 4 102) s m args below meth c H locs 0 0 Q (F0 m 78 ls [])) h ?_ ?_
    · skip
      intro x h
      obtain ⟨x9, x10, x11, x12⟩ := x
      intro H locs ls hW hl
      obtain ⟨x13, ex13⟩ : ∃ y : Int32, y = x2 + 1 := ⟨_, rfl⟩
      replace h := lt_at ex13 h
      refine lv_iinc (v := x13) (lv' := [(3, .int x13), (0, .ref aS), (1, .long x9)]) C.1.1 C.1.2.1 d_Sd_carriers_78 hl (k := 2) rfl (by rw [ex13]; rfl) (by decide) rfl (fun ls hl => ?_)
      refine lv_goto (tgt := 4) C.1.1 C.1.2.1 d_Sd_carriers_81 (by decide) ?_
      exact ih4 _ h _ _ _ hW (lv_sub hl [1, 2, 0] rfl)
    · intro J78 hJ78 h
      refine lv_if_eq (tgt := 78) C.1.1 C.1.2.1 d_Sd_carriers_24 (by decide) (fun cc => ?_) (fun cc => ?_)
      · replace h := it_t cc h
        exact hJ78 _ h _ _ _ hW (lv_sub hl [1, 2, 3] rfl)
      · replace h := it_f cc h
        refine lv_aload_n C.1.1 C.1.2.1 d_Sd_carriers_27 rfl (lv_at hl 1 rfl) ?_
        refine x_get C hE hW fl_Sd_21 6 rfl rfl d_Sd_carriers_28 ?_
        refine lv_lconst (v := 0) C.1.1 C.1.2.1 d_Sd_carriers_31 (by decide) ?_
        obtain ⟨x14, hc15, h⟩ := bd_at h
        refine x_callS (ws' := [(aN, .inr (0, [.int N_width, .int N_height, .long N_everywhere, .long N_firstColumn, .long N_lastColumn, .ref aN_grounds, .ref aN_airs, .ref aN_tolds, .ref aN_fees, .ref aN_lets, .int N_makers, .ref aN_kinds, .ref aN_cells, .ref aN_selves, .ref aN_cries, .int N_leaves, .ref aN_parts, .int N_pasts, .ref aN_past])), (aN_grounds, .inl (gJ G, 3, .inr (.inl N_grounds))), (aN_airs, .inl (gJ G, 6, .inr (.inl N_airs))), (aN_cells, .inl (gI G, 6, .inl N_cells)), (aN_selves, .inl (gI G, 6, .inl N_selves)), (aN_parts, .inl (gI G, 40, .inl N_parts)), (aS, .inr (2, [.ref aN, .int S_maker, .int S_loud, .int S_hour, .int S_bought, .int S_gone, .ref aS_may, .ref aS_ways, .ref aS_echo, .ref aS_echoes, .long S_straight, .long S_all])), (aS_may, .inl (gJ G, 21, .inr (.inl x3))), (aS_ways, .inl (gJ G, 21, .inr (.inl S_ways))), (aS_echo, .inl (gJ G, 21, .inr (.inl x4))), (aS_echoes, .inl (gJ G, 21, .inr (.inl x14)))]) (stk := []) (rest := []) (As := [.ref aS_echoes, .long 0]) C hE hW (c_JA_fillJ l G aS_echoes 21 x5 0 hc15) cv_JA_fillJ tw585 hl rfl rfl (Nat.le_of_ble_eq_true rfl) ⟨Nat.le_of_ble_eq_true rfl, Nat.le_of_ble_eq_true rfl⟩ ⟨Nat.zero_le _, Nat.zero_le _⟩ [10] [0, 1, 2, 3, 4, 5, 6, 7, 8, 9] [0, 1, 2, 3, 4, 5, 6, 7, 8, 9, 10] rfl rfl rfl (by decide) rfl rfl rfl rfl d_Sd_carriers_32 (fun H locs hW => ?_)
        refine lv_aload_n C.1.1 C.1.2.1 d_Sd_carriers_35 rfl (lv_at hl 1 rfl) ?_
        refine lv_lload C.1.1 C.1.2.1 d_Sd_carriers_36 (lv_at hl 0 rfl) ?_
        refine lv_aload_n C.1.1 C.1.2.1 d_Sd_carriers_38 rfl (lv_at hl 1 rfl) ?_
        refine x_get C hE hW fl_Sd_24 6 rfl rfl d_Sd_carriers_39 ?_
        refine x_get C hE hW fl_Sd_87 0 rfl rfl d_Sd_carriers_42 ?_
        refine lv_iload_n C.1.1 C.1.2.1 d_Sd_carriers_45 rfl (lv_at hl 3 rfl) ?_
        obtain ⟨x16, hc17, h⟩ := bd_at h
        refine x_callS (ws' := [(aN, .inr (0, [.int N_width, .int N_height, .long N_everywhere, .long N_firstColumn, .long N_lastColumn, .ref aN_grounds, .ref aN_airs, .ref aN_tolds, .ref aN_fees, .ref aN_lets, .int N_makers, .ref aN_kinds, .ref aN_cells, .ref aN_selves, .ref aN_cries, .int N_leaves, .ref aN_parts, .int N_pasts, .ref aN_past])), (aN_grounds, .inl (gJ G, 3, .inr (.inl N_grounds))), (aN_airs, .inl (gJ G, 6, .inr (.inl N_airs))), (aN_cells, .inl (gI G, 6, .inl N_cells)), (aN_selves, .inl (gI G, 6, .inl N_selves)), (aN_parts, .inl (gI G, 40, .inl N_parts)), (aS, .inr (2, [.ref aN, .int S_maker, .int S_loud, .int S_hour, .int S_bought, .int S_gone, .ref aS_may, .ref aS_ways, .ref aS_echo, .ref aS_echoes, .long S_straight, .long S_all])), (aS_may, .inl (gJ G, 21, .inr (.inl x3))), (aS_ways, .inl (gJ G, 21, .inr (.inl S_ways))), (aS_echo, .inl (gJ G, 21, .inr (.inl x4))), (aS_echoes, .inl (gJ G, 21, .inr (.inl x14)))]) (stk := [.int x16, .long x8, .ref aS]) (rest := [.long x8, .ref aS]) (As := [.ref aN_airs, .int x2]) C hE hW (c_Ld_rowOf l G aN_airs 6 N_airs x2 hc17) cv_Ld_rowOf tw681 hl rfl rfl (Nat.le_of_ble_eq_true rfl) ⟨Nat.le_of_ble_eq_true rfl, Nat.le_of_ble_eq_true rfl⟩ ⟨Nat.zero_le _, Nat.zero_le _⟩ [2] [0, 1, 3, 4, 5, 6, 7, 8, 9, 10] [0, 1, 10, 2, 3, 4, 5, 6, 7, 8, 9] rfl rfl rfl (by decide) rfl rfl rfl rfl d_Sd_carriers_46 (fun H locs hW => ?_)
        obtain ⟨⟨x18, x19, x20⟩, hc21, h⟩ := bd_at h
        refine x_callV (ws' := [(aN, .inr (0, [.int N_width, .int N_height, .long N_everywhere, .long N_firstColumn, .long N_lastColumn, .ref aN_grounds, .ref aN_airs, .ref aN_tolds, .ref aN_fees, .ref aN_lets, .int N_makers, .ref aN_kinds, .ref aN_cells, .ref aN_selves, .ref aN_cries, .int N_leaves, .ref aN_parts, .int N_pasts, .ref aN_past])), (aN_grounds, .inl (gJ G, 3, .inr (.inl N_grounds))), (aN_airs, .inl (gJ G, 6, .inr (.inl N_airs))), (aN_cells, .inl (gI G, 6, .inl N_cells)), (aN_selves, .inl (gI G, 6, .inl N_selves)), (aN_parts, .inl (gI G, 40, .inl N_parts)), (aS, .inr (2, [.ref aN, .int S_maker, .int S_loud, .int S_hour, .int S_bought, .int S_gone, .ref aS_may, .ref aS_ways, .ref aS_echo, .ref aS_echoes, .long S_straight, .long S_all])), (aS_may, .inl (gJ G, 21, .inr (.inl x18))), (aS_ways, .inl (gJ G, 21, .inr (.inl S_ways))), (aS_echo, .inl (gJ G, 21, .inr (.inl x19))), (aS_echoes, .inl (gJ G, 21, .inr (.inl x20)))]) (stk := []) (rest := []) (As := [.long x8, .int x16]) (q0 := 6) C hE hW (c_Sd_giveBack l G aN aN_grounds aN_airs aN_tolds aN_fees aN_lets aN_kinds aN_cells aN_selves aN_cries aN_parts aN_past aS aS_may aS_ways aS_echo aS_echoes N_width N_height N_everywhere N_firstColumn N_lastColumn N_makers N_leaves N_pasts S_maker S_loud S_hour S_bought S_gone S_straight S_all N_grounds N_airs N_selves N_parts x3 S_ways x4 x14 x8 x16 hc21) cv_Sd_giveBack tw628 hl rfl rfl (Nat.le_of_ble_eq_true rfl) rfl rfl rfl ⟨Nat.le_of_ble_eq_true rfl, Nat.le_of_ble_eq_true rfl⟩ ⟨Nat.zero_le _, Nat.zero_le _⟩ [0, 1, 2, 4, 5, 6, 7, 8, 9, 10] [3] [1, 2, 3, 0, 4, 5, 6, 7, 8, 9, 10] rfl rfl rfl (by decide) rfl rfl rfl rfl d_Sd_carriers_49 (fun H locs hW => ?_)
        refine lv_aload_n C.1.1 C.1.2.1 d_Sd_carriers_52 rfl (lv_at hl 1 rfl) ?_
        refine x_get C hE hW fl_Sd_21 6 rfl rfl d_Sd_carriers_53 ?_
        obtain ⟨x22, hc23, h⟩ := bd_at h
        refine x_callS (ws' := [(aN, .inr (0, [.int N_width, .int N_height, .long N_everywhere, .long N_firstColumn, .long N_lastColumn, .ref aN_grounds, .ref aN_airs, .ref aN_tolds, .ref aN_fees, .ref aN_lets, .int N_makers, .ref aN_kinds, .ref aN_cells, .ref aN_selves, .ref aN_cries, .int N_leaves, .ref aN_parts, .int N_pasts, .ref aN_past])), (aN_grounds, .inl (gJ G, 3, .inr (.inl N_grounds))), (aN_airs, .inl (gJ G, 6, .inr (.inl N_airs))), (aN_cells, .inl (gI G, 6, .inl N_cells)), (aN_selves, .inl (gI G, 6, .inl N_selves)), (aN_parts, .inl (gI G, 40, .inl N_parts)), (aS, .inr (2, [.ref aN, .int S_maker, .int S_loud, .int S_hour, .int S_bought, .int S_gone, .ref aS_may, .ref aS_ways, .ref aS_echo, .ref aS_echoes, .long S_straight, .long S_all])), (aS_may, .inl (gJ G, 21, .inr (.inl x18))), (aS_ways, .inl (gJ G, 21, .inr (.inl S_ways))), (aS_echo, .inl (gJ G, 21, .inr (.inl x19))), (aS_echoes, .inl (gJ G, 21, .inr (.inl x20)))]) (stk := [.long x22]) (rest := []) (As := [.ref aS_echoes]) C hE hW (c_Sd_union l G aS_echoes 21 x20 hc23) cv_Sd_union tw621 hl rfl rfl (Nat.le_of_ble_eq_true rfl) ⟨Nat.le_of_ble_eq_true rfl, Nat.le_of_ble_eq_true rfl⟩ ⟨Nat.zero_le _, Nat.zero_le _⟩ [10] [0, 1, 2, 3, 4, 5, 6, 7, 8, 9] [0, 1, 2, 3, 4, 5, 6, 7, 8, 9, 10] rfl rfl rfl (by decide) rfl rfl rfl rfl d_Sd_carriers_56 (fun H locs hW => ?_)
        refine lv_aload_n C.1.1 C.1.2.1 d_Sd_carriers_59 rfl (lv_at hl 1 rfl) ?_
        refine x_get C hE hW fl_Sd_76 6 rfl rfl d_Sd_carriers_60 ?_
        refine lv_ldc2 (own := "LentAir$Sound") (v := (-1)) C.1.1 C.1.2.1 C.1.2.2.2.1 (C.w tw598) d_Sd_carriers_63 ?_
        refine lv_lxor C.1.1 C.1.2.1 d_Sd_carriers_66 ?_
        refine lv_land C.1.1 C.1.2.1 d_Sd_carriers_67 ?_
        refine lv_lconst (v := 0) C.1.1 C.1.2.1 d_Sd_carriers_68 (by decide) ?_
        refine W.lcmp C.1.1 C.1.2.1 d_Sd_carriers_69 ?_
        refine lv_if_eq (tgt := 78) C.1.1 C.1.2.1 d_Sd_carriers_70 (by decide) (fun cc => ?_) (fun cc => ?_)
        · replace h := it_t cc h
          exact hJ78 _ h _ _ _ hW (lv_sub hl [1, 2, 3] rfl)
        · replace h := it_f cc h
          refine lv_lload_n C.1.1 C.1.2.1 d_Sd_carriers_73 rfl (lv_at hl 2 rfl) ?_
          refine lv_lload C.1.1 C.1.2.1 d_Sd_carriers_74 (lv_at hl 0 rfl) ?_
          refine lv_lor C.1.1 C.1.2.1 d_Sd_carriers_76 ?_
          refine lv_topl (fun x24 ex24 => ?_)
          replace h := lt_at ex24 h
          refine lv_lstore_n (lv' := [(1, .long x24), (4, .long x8), (0, .ref aS), (3, .int x2)]) C.1.1 C.1.2.1 d_Sd_carriers_77 rfl hl (by decide) rfl (fun ls hl => ?_)
          exact hJ78 _ h _ _ _ hW (lv_sub hl [2, 0, 3] rfl)
set_option maxHeartbeats 4000000 in
set_option maxRecDepth 100000 in
theorem c_Sd_loudIn (l : Launch) (G : Gl) (aS : Nat) (aS_may : Nat) (aS_ways : Nat) (aS_echo : Nat) (aS_echoes : Nat) (S_land : Nat) (S_maker : Int32) (S_loud : Int32) (S_hour : Int32) (S_bought : Int32) (S_gone : Int32) (S_straight : Int64) (S_all : Int64) (S_ways : Nat → Int64) (S_echoes : Nat → Int64) (p1 : Int32) {res : Int32} (h : f_Sd_loudIn S_ways S_echoes p1 = some res) : Ct l y_Sd_loudIn b_Sd_loudIn 3 (some .int) 1 22 G [.ref aS, .int p1] [(aS, .inr (2, [.ref S_land, .int S_maker, .int S_loud, .int S_hour, .int S_bought, .int S_gone, .ref aS_may, .ref aS_ways, .ref aS_echo, .ref aS_echoes, .long S_straight, .long S_all])), (aS_ways, .inl (gJ G, 21, .inr (.inl S_ways))), (aS_echoes, .inl (gJ G, 21, .inr (.inl S_echoes)))] (some (.int res)) [(aS, .inr (2, [.ref S_land, .int S_maker, .int S_loud, .int S_hour, .int S_bought, .int S_gone, .ref aS_may, .ref aS_ways, .ref aS_echo, .ref aS_echoes, .long S_straight, .long S_all])), (aS_ways, .inl (gJ G, 21, .inr (.inl S_ways))), (aS_echoes, .inl (gJ G, 21, .inr (.inl S_echoes)))] := by
  refine Ct.mk (by decide) (Nat.le_of_ble_eq_true rfl) ?_
  intro p e s m args below meth c ls A Q C hE hW hl hQ
  have C : Cx p s args m c meth "LentAir$Sound" y_Sd_loudIn b_Sd_loudIn 3 (some .int) := C
  have hl : lv_has ls 3 [(0, .ref aS), (1, .int p1)] := hl
  unfold f_Sd_loudIn at h
  refine lv_bipush (v := 20) C.1.1 C.1.2.1 d_Sd_loudIn_0 (by decide) ?_
  refine lv_istore_n (lv' := [(2, .int 20), (0, .ref aS), (1, .int p1)]) C.1.1 C.1.2.1 d_Sd_loudIn_2 rfl hl (by decide) rfl (fun ls hl => ?_)
  refine lp_at (P := fun (x1 : Int32) => ∀ (H : Heap) (locs : List Loc) (ls : Array Slot), Wd G A s.heap H locs [(aS, .inr (2, [.ref S_land, .int S_maker, .int S_loud, .int S_hour, .int S_bought, .int S_gone, .ref aS_may, .ref aS_ways, .ref aS_echo, .ref aS_echoes, .long S_straight, .long S_all])), (aS_ways, .inl (gJ G, 21, .inr (.inl S_ways))), (aS_echoes, .inl (gJ G, 21, .inr (.inl S_echoes)))] → lv_has ls 3 [(0, .ref aS), (1, .int p1), (2, .int x1)] → W p l e (RM 1 22) s m args below meth c H locs 0 0 Q (F0 m 3 ls [])) ?_ FU _ h _ _ _ hW (lv_sub hl [1, 2, 0] rfl)
  clear h hl hW
  intro rec3 ih3
  intro x1 h
  unfold f_Sd_loudIn_L3 at h
  intro H locs ls hW hl
  refine lv_iload_n C.1.1 C.1.2.1 d_Sd_loudIn_3 rfl (lv_at hl 2 rfl) ?_
  refine lv_if_le (tgt := 35) C.1.1 C.1.2.1 d_Sd_loudIn_4 (by decide) (fun cc => ?_) (fun cc => ?_)
  · replace h := it_t cc h
    refine lv_iconst (v := 0) C.1.1 C.1.2.1 d_Sd_loudIn_35 (by decide) ?_
    obtain rfl := Option.some.inj h
    exact x_iret C hW rfl rfl hQ d_Sd_loudIn_36
  · replace h := it_f cc h
    refine lv_aload_n C.1.1 C.1.2.1 d_Sd_loudIn_7 rfl (lv_at hl 0 rfl) ?_
    refine x_get C hE hW fl_Sd_15 0 rfl rfl d_Sd_loudIn_8 ?_
    refine lv_iload_n C.1.1 C.1.2.1 d_Sd_loudIn_11 rfl (lv_at hl 2 rfl) ?_
    obtain ⟨hg, h⟩ := gd_at h
    refine x_lald C hE hW 1 rfl (inB_in hg) d_Sd_loudIn_12 ?_
    refine lv_aload_n C.1.1 C.1.2.1 d_Sd_loudIn_13 rfl (lv_at hl 0 rfl) ?_
    refine x_get C hE hW fl_Sd_21 0 rfl rfl d_Sd_loudIn_14 ?_
    refine lv_iload_n C.1.1 C.1.2.1 d_Sd_loudIn_17 rfl (lv_at hl 2 rfl) ?_
    obtain ⟨hg, h⟩ := gd_at h
    refine x_lald C hE hW 2 rfl (inB_in hg) d_Sd_loudIn_18 ?_
    refine lv_lor C.1.1 C.1.2.1 d_Sd_loudIn_19 ?_
    refine lv_iload_n C.1.1 C.1.2.1 d_Sd_loudIn_20 rfl (lv_at hl 1 rfl) ?_
    obtain ⟨x2, hc3, h⟩ := bd_at h
    refine x_callN (ws' := [(aS, .inr (2, [.ref S_land, .int S_maker, .int S_loud, .int S_hour, .int S_bought, .int S_gone, .ref aS_may, .ref aS_ways, .ref aS_echo, .ref aS_echoes, .long S_straight, .long S_all])), (aS_ways, .inl (gJ G, 21, .inr (.inl S_ways))), (aS_echoes, .inl (gJ G, 21, .inr (.inl S_echoes)))]) (stk := [.int x2]) (rest := []) (As := [.long ((S_ways x1.toNatClampNeg) ||| (S_echoes x1.toNatClampNeg)), .int p1]) C hE hW (c_Ai_hasCell l G ((S_ways x1.toNatClampNeg) ||| (S_echoes x1.toNatClampNeg)) p1 hc3) cv_Ai_hasCell hE.2.2.1 hl rfl rfl (Nat.le_of_ble_eq_true rfl) ⟨Nat.le_of_ble_eq_true rfl, Nat.le_of_ble_eq_true rfl⟩ ⟨Nat.zero_le _, Nat.zero_le _⟩ [] [0, 1, 2] [0, 1, 2] rfl rfl rfl (by decide) rfl rfl rfl rfl d_Sd_loudIn_21 (fun H locs hW => ?_)
    refine lv_if_eq (tgt := 29) C.1.1 C.1.2.1 d_Sd_loudIn_24 (by decide) (fun cc => ?_) (fun cc => ?_)
    · replace h := it_t cc h
      obtain ⟨x4, ex4⟩ : ∃ y : Int32, y = x1 + (-1) := ⟨_, rfl⟩
      replace h := lt_at ex4 h
      refine lv_iinc (v := x4) (lv' := [(2, .int x4), (0, .ref aS), (1, .int p1)]) C.1.1 C.1.2.1 d_Sd_loudIn_29 hl (k := 2) rfl (by rw [ex4]; rfl) (by decide) rfl (fun ls hl => ?_)
      refine lv_goto (tgt := 3) C.1.1 C.1.2.1 d_Sd_loudIn_32 (by decide) ?_
      exact ih3 _ h _ _ _ hW (lv_sub hl [1, 2, 0] rfl)
    · replace h := it_f cc h
      refine lv_iload_n C.1.1 C.1.2.1 d_Sd_loudIn_27 rfl (lv_at hl 2 rfl) ?_
      obtain rfl := Option.some.inj h
      exact x_iret C hW rfl rfl hQ d_Sd_loudIn_28
